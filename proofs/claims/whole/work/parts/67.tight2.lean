theorem TLV_bd (s : Int → Int) (f : Int) : ∀ n : Nat, n ≤ 8 → 1 ≤ TLV s f n ∧ TLV s f n ≤ 9
  | 0, _ => by simp [TLV]
  | n + 1, h => by
    have := TLV_bd s f n (by omega)
    unfold TLV
    split <;> omega
theorem sim_tightestLimit {d e : Nat} {B : Int} {μ : zMem} (hB : B ≤ 2000000000) (h : SIM B μ) : kX7_tightestLimit (d + 35) μ (fun r μ1 => kX8_tightestLimit (e + 7) μ1 (twin B r)) := by
  obtain ⟨s, hh, n, f, H⟩ := h
  refine Cl_sh (fun sh => ?_)
  have HS := SCH.of H hB (d27 sh)
  have hw := H.1.2.1
  have fin : ∀ (v : Int) (ξ : zMem), v = TL s → zIn v → scf μ ξ → BND s ξ → kX8_tightestLimit (e + 7) ξ (twin B v) := by
    intro v ξ hv hz a c
    have H1 := H.csc a.csc c
    refine pX8_tightestLimit H1.1.1 H1.1.2.1 (fun μ' m => ⟨hz, ?_, hv, s, hh, n, f, H1.msc m⟩)
    rw [← hv]
    exact hz
  refine bX7_tightestLimit (pX7_greatestBase HS.1 HS.2.1 (by omega) (by omega) ?_)
  intro ξ a c
  have fb := FITV_bd (fu s 81 9) 12
  obtain ⟨g, hg⟩ : ∃ g, FITV (fu s 81 9) 12 = g := ⟨_, rfl⟩
  rw [hg] at fb ⊢
  have eT : TL s = if g = -1 then -1 else TLV s g 8 := by
    unfold TL
    rw [hg]
  refine ⟨zi _, fun hn => fin (-1) ξ (by rw [eT, if_pos hn]) (zi _) a c, fun hn => ?_⟩
  rw [if_neg hn] at eT
  have loop : ∀ (k : Nat) (ζ : zMem), k ≤ 8 → scf μ ζ → BND s ζ → TLV s g k = TLV s g 8 → zX7_tightestLimit_16 (d + 34) (fun r μ1 => kX8_tightestLimit (e + 7) μ1 (twin B r)) g (9 - (k : Int)) ζ := by
    intro k
    induction k with
    | zero =>
      intro ζ _ a c hk
      exact bX7_tightestLimit_16 ⟨zi _, fun _ => fin 9 ζ (by rw [eT, ← hk]; rfl) (zi _) a c, fun q => absurd (by omega) q⟩
    | succ k ih =>
      intro ζ hk8 a c hk
      refine bX7_tightestLimit_16 ⟨zi _, fun q => absurd q (by omega), fun _ => ?_⟩
      rw [a.2.2.2 6 (by omega), HS.2.1]
      have fl := fit_lim (L := 9 - ((k + 1 : Nat) : Int)) hw (by omega) (by omega) hg hn
      have tk : TLV s g (k + 1) = if FITV (fu s 81 (9 - ((k + 1 : Nat) : Int))) 12 = g then 9 - ((k + 1 : Nat) : Int) else TLV s g k := rfl
      refine hasFu (i := 81) (v := 9 - ((k + 1 : Nat) : Int)) (by omega) (by omega) (HS.1.scf a c) (by omega) (fu_o (by decide)) fu_s ?_
      intro μ' g1 g2
      by_cases ee : (CLs (fu s 81 (9 - ((k + 1 : Nat) : Int))) g).isEmpty = true
      · rw [if_pos ee]
        refine ⟨zi _, fun _ => ?_, fun q => absurd rfl q⟩
        rw [show 9 - ((k + 1 : Nat) : Int) + 1 = 9 - (k : Int) by omega]
        refine ih μ' (by omega) (a.tr g1) g2 ?_
        rw [← hk, tk, if_neg (fun q => fl.mp q (List.isEmpty_iff.mp ee))]
      · rw [if_neg ee]
        refine ⟨zi _, fun q => absurd q (by decide), fun _ => fin _ μ' ?_ (zi _) (a.tr g1) g2⟩
        rw [eT, ← hk, tk, if_pos (fl.mpr (fun q => ee (List.isEmpty_iff.mpr q)))]
  exact loop 8 ξ (by omega) a c rfl
