/-! the model's digest -/
def nt (h : Int64) (v : Int) : Int64 := (31 : Int64) * h + (Int32.ofInt v).toInt64
def fdN (f : Int → Int) : Nat → Int64 → Int64
  | 0, h => h
  | n + 1, h => nt (fdN f n h) (f n)
def fdS (s : Int → Int) : Nat → Int64 → Int64
  | 0, h => h
  | n + 1, h => nt (nt (fdS s n h) (SL s n 1)) (SF s n 1)
def DGA (s : Int → Int) : Int64 := fdN (fun k => s (32 + k)) (3 * s 31).toNat (fdS s 36 (fdN (countV s) 12 23))
def DGV (s : Int → Int) : Int64 := if s 82 = 1 then fdN (fun k => s (186 + k)) (5 * s 256).toNat (fdN (fun k => s (88 + k)) (7 * s 84).toNat (fdN (fun k => s (83 + k)) 5 (DGA s))) else DGA s
theorem note_msc {μ : zMem} {v : Int64} : msc μ (sL μ 54 19 v) := ⟨clsame.rf.sL (by omega), rfl, rfl, rfl, rfl⟩
theorem gL_sLs {μ : zMem} {p : Nat} {i : Int} {v : Int64} : gL (sL μ p i v) p i = v := by
  rw [gL_sL, if_pos ⟨rfl, rfl⟩]
theorem pX8_note {d : Nat} {Q : zMem → Prop} {μ : zMem} {v : Int} {h : Int64} (hh : gL μ 54 19 = h) (hQ : Q (sL μ 54 19 (nt h v))) : kX8_note d ((Int32.ofInt v).toInt64) μ Q := by
  refine bX8_note ?_
  rw [hh]
  exact hQ
theorem pX8_digest {d : Nat} {Q : Int64 → zMem → Prop} {μ : zMem} {s : Int → Int} (hr : rowIs μ s) (hw : wf s) (hp : wfP s) (hQ : ∀ μ', msc μ μ' → Q (DGV s) μ') : kX8_digest (d + 5) μ Q := by
  have hn := hw.2.2.1
  have last : ∀ (f j : Nat) (h : Int64) (ξ : zMem), s 82 = 1 → (j : Int) + f = 5 * s 256 → msc μ ξ → gL ξ 54 19 = fdN (fun k => s (186 + k)) j h → fdN (fun k => s (186 + k)) (5 * s 256).toNat h = DGV s → zX8_digest_193 (d + 4) Q j ξ := by
    intro f
    induction f with
    | zero =>
      intro j h ξ h82 hj m1 m2 m3
      have hb := hp.2 h82
      have r := m1.row hr
      refine bX8_digest_193 ⟨by rw [r 82 (by omega) (by omega)]; exact zi _, fun _ => ⟨zi _, by rw [r 256 (by omega) (by omega)]; exact zi _, fun _ => ?_, fun q => absurd (by rw [r 256 (by omega) (by omega)]; omega) q⟩, fun q => absurd (by rw [r 82 (by omega) (by omega)]; exact h82) q⟩
      rw [m2, show j = (5 * s 256).toNat by omega, m3]
      exact hQ ξ m1
    | succ f ih =>
      intro j h ξ h82 hj m1 m2 m3
      have hb := hp.2 h82
      have r := m1.row hr
      refine bX8_digest_193 ⟨by rw [r 82 (by omega) (by omega)]; exact zi _, fun _ => ⟨zi _, by rw [r 256 (by omega) (by omega)]; exact zi _, fun q => absurd q (by rw [r 256 (by omega) (by omega)]; omega), fun _ => ⟨by omega, by omega, ?_⟩⟩, fun q => absurd (by rw [r 82 (by omega) (by omega)]; exact h82) q⟩
      refine pX8_note m2 ?_
      rw [r _ (by omega) (by omega)]
      exact ih (j + 1) h _ h82 (by omega) (m1.tr note_msc) gL_sLs m3
  have lines : ∀ (f j : Nat) (h : Int64) (ξ : zMem), s 82 = 1 → (j : Int) + f = 7 * s 84 → msc μ ξ → gL ξ 54 19 = fdN (fun k => s (88 + k)) j h → fdN (fun k => s (186 + k)) (5 * s 256).toNat (fdN (fun k => s (88 + k)) (7 * s 84).toNat h) = DGV s → zX8_digest_146 (d + 4) Q j ξ := by
    intro f
    induction f with
    | zero =>
      intro j h ξ h82 hj m1 m2 m3
      have hb := hp.2 h82
      have r := m1.row hr
      refine bX8_digest_146 ⟨by rw [r 82 (by omega) (by omega)]; exact zi _, fun _ => ⟨zi _, by rw [r 84 (by omega) (by omega)]; exact zi _, fun _ => ?_, fun q => absurd (by rw [r 84 (by omega) (by omega)]; omega) q⟩, fun q => absurd (by rw [r 82 (by omega) (by omega)]; exact h82) q⟩
      refine last (5 * s 256).toNat 0 (fdN (fun k => s (88 + k)) (7 * s 84).toNat h) ξ h82 (by omega) m1 ?_ m3
      rw [m2, show j = (7 * s 84).toNat by omega]
      rfl
    | succ f ih =>
      intro j h ξ h82 hj m1 m2 m3
      have hb := hp.2 h82
      have r := m1.row hr
      refine bX8_digest_146 ⟨by rw [r 82 (by omega) (by omega)]; exact zi _, fun _ => ⟨zi _, by rw [r 84 (by omega) (by omega)]; exact zi _, fun q => absurd q (by rw [r 84 (by omega) (by omega)]; omega), fun _ => ⟨by omega, by omega, ?_⟩⟩, fun q => absurd (by rw [r 82 (by omega) (by omega)]; exact h82) q⟩
      refine pX8_note m2 ?_
      rw [r _ (by omega) (by omega)]
      exact ih (j + 1) h _ h82 (by omega) (m1.tr note_msc) gL_sLs m3
  have done : s 82 ≠ 1 → ∀ ξ : zMem, msc μ ξ → gL ξ 54 19 = DGA s → zX8_digest_146 (d + 4) Q 0 ξ := by
    intro h82 ξ m1 m2
    have r := m1.row hr
    have h01 := hp.1
    refine bX8_digest_146 ⟨by rw [r 82 (by omega) (by omega)]; exact zi _, fun q => absurd q (by rw [r 82 (by omega) (by omega)]; exact h82), fun _ => ?_⟩
    refine bX8_digest_193 ⟨by rw [r 82 (by omega) (by omega)]; exact zi _, fun q => absurd q (by rw [r 82 (by omega) (by omega)]; exact h82), fun _ => ?_⟩
    rw [m2]
    have := hQ ξ m1
    unfold DGV at this
    rw [if_neg h82] at this
    exact this
  have totals : ∀ (f j : Nat) (ξ : zMem), s 82 = 1 → j + f = 5 → msc μ ξ → gL ξ 54 19 = fdN (fun k => s (83 + k)) j (DGA s) → zX8_digest_108 (d + 4) Q j ξ := by
    intro f
    induction f with
    | zero =>
      intro j ξ h82 hj m1 m2
      have hb := hp.2 h82
      refine bX8_digest_108 ⟨zi _, fun _ => ?_, fun q => absurd (by omega) q⟩
      refine lines (7 * s 84).toNat 0 (fdN (fun k => s (83 + k)) 5 (DGA s)) ξ h82 (by omega) m1 ?_ ?_
      · rw [m2, show j = 5 by omega]
        rfl
      · unfold DGV
        rw [if_pos h82]
    | succ f ih =>
      intro j ξ h82 hj m1 m2
      have r := m1.row hr
      refine bX8_digest_108 ⟨zi _, fun q => absurd q (by omega), fun _ => ⟨by rw [r 82 (by omega) (by omega)]; exact zi _, fun _ => ⟨by omega, by omega, ?_⟩, fun q => absurd (by rw [r 82 (by omega) (by omega)]; exact h82) q⟩⟩
      refine pX8_note m2 ?_
      rw [r _ (by omega) (by omega)]
      exact ih (j + 1) _ h82 (by omega) (m1.tr note_msc) gL_sLs
  have words : ∀ (f j : Nat) (ξ : zMem), (j : Int) + f = 3 * s 31 → msc μ ξ → gL ξ 54 19 = fdN (fun k => s (32 + k)) j (fdS s 36 (fdN (countV s) 12 23)) → zX8_digest_73 (d + 4) Q j ξ := by
    intro f
    induction f with
    | zero =>
      intro j ξ hj m1 m2
      have r := m1.row hr
      have h01 := hp.1
      refine bX8_digest_73 ⟨zi _, by rw [r 31 (by omega) (by omega)]; exact zi _, fun _ => ?_, fun q => absurd (by rw [r 31 (by omega) (by omega)]; omega) q⟩
      have eA : gL ξ 54 19 = DGA s := by
        rw [m2, show j = (3 * s 31).toNat by omega]
        rfl
      by_cases h82 : s 82 = 1
      · exact totals 5 0 ξ h82 (by omega) m1 eA
      · refine bX8_digest_108 ⟨zi _, fun q => absurd q (by omega), fun _ => ⟨by rw [r 82 (by omega) (by omega)]; exact zi _, fun q => absurd q (by rw [r 82 (by omega) (by omega)]; exact h82), fun _ => ?_⟩⟩
        exact done h82 ξ m1 eA
    | succ f ih =>
      intro j ξ hj m1 m2
      have r := m1.row hr
      refine bX8_digest_73 ⟨zi _, by rw [r 31 (by omega) (by omega)]; exact zi _, fun q => absurd q (by rw [r 31 (by omega) (by omega)]; omega), fun _ => ⟨by omega, by omega, ?_⟩⟩
      refine pX8_note m2 ?_
      rw [r _ (by omega) (by omega)]
      exact ih (j + 1) _ (by omega) (m1.tr note_msc) gL_sLs
  have spans : ∀ (f j : Nat) (ξ : zMem), j + f = 36 → msc μ ξ → spOK s ξ → gL ξ 54 19 = fdS s j (fdN (countV s) 12 23) → zX8_digest_37 (d + 4) Q j ξ := by
    intro f
    induction f with
    | zero =>
      intro j ξ hj m1 m3 m2
      refine bX8_digest_37 ⟨zi _, fun _ => ?_, fun q => absurd (by omega) q⟩
      refine words (3 * s 31).toNat 0 ξ (by omega) m1 ?_
      rw [m2, show j = 36 by omega]
      rfl
    | succ f ih =>
      intro j ξ hj m1 m3 m2
      refine bX8_digest_37 ⟨zi _, fun q => absurd q (by omega), fun _ => ⟨by omega, by omega, ?_⟩⟩
      have e := m3 j 1 (by omega) (by omega) (by omega)
      rw [show 36 * (1 - 1) + (j : Int) = j by omega] at e
      refine pX8_note m2 (pX8_note gL_sLs ?_)
      rw [gI_sL, e.1, e.2]
      refine ih (j + 1) _ (by omega) ((m1.tr note_msc).tr note_msc) (fun row rows a b c => m3 row rows a b c) gL_sLs
  have counts : ∀ (f j : Nat) (ξ : zMem), j + f = 12 → msc μ ξ → gL ξ 54 19 = fdN (countV s) j 23 → zX8_digest_9 (d + 4) Q j ξ := by
    intro f
    induction f with
    | zero =>
      intro j ξ hj m1 m2
      refine bX8_digest_9 ⟨zi _, fun _ => ?_, fun q => absurd (by omega) q⟩
      refine pX8_findsSpansL (m1.row hr) hw ?_
      intro ζ g1 g2 g3
      refine spans 36 0 ζ (by omega) (m1.tr g1) g2 ?_
      rw [g3, m2, show j = 12 by omega]
      rfl
    | succ f ih =>
      intro j ξ hj m1 m2
      refine bX8_digest_9 ⟨zi _, fun q => absurd q (by omega), fun _ => ?_⟩
      refine pX8_count (m1.row hr) hw (zi _) ?_
      refine pX8_note m2 ?_
      exact ih (j + 1) _ (by omega) (m1.tr note_msc) gL_sLs
  refine bX8_digest ?_
  exact counts 12 0 _ (by omega) note_msc gL_sLs
