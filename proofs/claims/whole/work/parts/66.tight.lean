/-! the fit, under a tighter limit -/
theorem fitsW_g {s s' : Int → Int} {b : Int} (hw : wf s) (h : agr s s') : ∀ k : Nat, (k : Int) ≤ s 31 → fitsW s' b k = fitsW s b k
  | 0, _ => rfl
  | k + 1, hk => by
    have hn := hw.2.2.1
    have wk := hw.2.2.2.1 k (by omega) (by omega)
    unfold fitsW
    rw [fitsW_g hw h k (by omega), sz_g h (by omega), h (32 + 3 * (k : Int) + 1) (by omega), h (74 + s (32 + 3 * (k : Int) + 1)) (by omega)]
theorem CLs_g {s s' : Int → Int} {b : Int} (hw : wf s) (h : agr s s') (hl : s 81 ≤ s' 81) (hne : CLs s b ≠ []) : CLs s' b ≠ [] := by
  have hn := hw.2.2.1
  by_cases il : isL s b = true
  · have il' : isL s' b = true := by
      unfold isL at il ⊢
      rw [h 31 (by decide), fitsW_g hw h _ (by omega)]
      exact il
    have n0 : 0 < s 31 := by
      unfold isL at il
      simp only [Bool.and_eq_true, decide_eq_true_eq] at il
      exact il.1
    have e1 : CLs s b = comp s b (s 31 - 1).toNat 0 (s 78) 0 c0 c0 := by
      unfold CLs
      rw [if_pos il]
    have e2 : CLs s' b = comp s' b (s 31 - 1).toNat 0 (s 78) 0 c0 c0 := by
      unfold CLs
      rw [if_pos il', h 31 (by decide), h 78 (by decide)]
    obtain ⟨x, hx⟩ := List.exists_mem_of_ne_nil _ hne
    rw [e1, comp_codes, List.mem_filterMap] at hx
    obtain ⟨c, hc, hv⟩ := hx
    have hv' := evc_g hw h hl _ 0 (s 78) 0 c0 c0 c0 c0 x (by omega) (fun _ _ => rfl) (fun _ _ => rfl) hv
    intro q
    have : x ∈ CLs s' b := by
      rw [e2, comp_codes, List.mem_filterMap]
      exact ⟨c, hc, hv'⟩
    rw [q] at this
    cases this
  · exact absurd (CLs_no il) hne
theorem FITV_of {s : Int → Int} : ∀ n : Nat, FITV s n ≠ -1 → 1 ≤ FITV s n ∧ FITV s n ≤ n ∧ CLs s (FITV s n) ≠ [] ∧ ∀ b : Int, FITV s n < b → b ≤ n → CLs s b = []
  | 0, h => absurd rfl h
  | n + 1, h => by
    rw [show FITV s (n + 1) = if (CLs s ((n + 1 : Nat) : Int)).isEmpty = true then FITV s n else ((n + 1 : Nat) : Int) from rfl] at h ⊢
    by_cases e : (CLs s ((n + 1 : Nat) : Int)).isEmpty = true
    · rw [if_pos e] at h ⊢
      have ih := FITV_of n h
      refine ⟨ih.1, by omega, ih.2.2.1, fun b p q => ?_⟩
      by_cases g : b = ((n + 1 : Nat) : Int)
      · rw [g]
        exact List.isEmpty_iff.mp e
      · exact ih.2.2.2 b p (by omega)
    · rw [if_neg e]
      exact ⟨by omega, by omega, fun q => e (List.isEmpty_iff.mpr q), fun b p q => by omega⟩
theorem FITV_is {s : Int → Int} {v : Int} : ∀ n : Nat, 1 ≤ v → v ≤ n → CLs s v ≠ [] → (∀ b : Int, v < b → b ≤ n → CLs s b = []) → FITV s n = v
  | 0, h, h', _, _ => by omega
  | n + 1, h, h', hv, hb => by
    rw [show FITV s (n + 1) = if (CLs s ((n + 1 : Nat) : Int)).isEmpty = true then FITV s n else ((n + 1 : Nat) : Int) from rfl]
    by_cases e : (CLs s ((n + 1 : Nat) : Int)).isEmpty = true
    · rw [if_pos e]
      have : v ≠ ((n + 1 : Nat) : Int) := fun q => hv (by rw [q]; exact List.isEmpty_iff.mp e)
      exact FITV_is n h (by omega) hv (fun b p q => hb b p (by omega))
    · rw [if_neg e]
      by_cases g : v = ((n + 1 : Nat) : Int)
      · exact g.symm
      · exact absurd (List.isEmpty_iff.mpr (hb _ (by omega) (by omega))) e
theorem fit_lim {s : Int → Int} {L f : Int} (hw : wf s) (l0 : 1 ≤ L) (l1 : L ≤ 9) (hf : FITV (fu s 81 9) 12 = f) (hne : f ≠ -1) : FITV (fu s 81 L) 12 = f ↔ CLs (fu s 81 L) f ≠ [] := by
  have o := FITV_of (s := fu s 81 9) 12 (by rw [hf]; exact hne)
  rw [hf] at o
  have ag : agr (fu s 81 L) (fu s 81 9) := fun i h => by rw [fu_o h, fu_o h]
  have hwL : wf (fu s 81 L) := wf_fu hw (by omega)
  constructor
  · intro q
    have o2 := FITV_of (s := fu s 81 L) 12 (by rw [q]; exact hne)
    rw [q] at o2
    exact o2.2.2.1
  · intro q
    refine FITV_is 12 o.1 o.2.1 q (fun b p r => ?_)
    by_cases g : CLs (fu s 81 L) b = []
    · exact g
    · exact absurd (o.2.2.2 b p r) (CLs_g hwL ag (by rw [fu_s, fu_s]; omega) g)
