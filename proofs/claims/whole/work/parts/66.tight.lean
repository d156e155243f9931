/-! the fit, under a tighter limit -/
theorem fitsW_g {s s' : Int → Int} {b : Int} (hw : wf s) (h : agr s s') : ∀ k : Nat, (k : Int) ≤ s 31 → fitsW s' b k = fitsW s b k
  | 0, _ => rfl
  | k + 1, hk => by
    have hn := hw.2.2.1
    have wk := hw.2.2.2.1 k (by omega) (by omega)
    unfold fitsW
    rw [fitsW_g hw h k (by omega), sz_g h (by omega), h (32 + 3 * (k : Int) + 1) (by omega), h (74 + s (32 + 3 * (k : Int) + 1)) (by omega)]
theorem CLs_g {s s' : Int → Int} {b : Int} (hw : wf s) (h : agr s s') (hl : s 81 ≤ s' 81) (hne : CLs s b ≠ []) : CLs s' b ≠ [] := by
  have hn := hw.2.2.1
  by_cases il : isL s b = true
  · have il' : isL s' b = true := by
      unfold isL at il ⊢
      rw [h 31 (by decide), fitsW_g hw h _ (by omega)]
      exact il
    have n0 : 0 < s 31 := by
      unfold isL at il
      simp only [Bool.and_eq_true, decide_eq_true_eq] at il
      exact il.1
    have e1 : CLs s b = comp s b (s 31 - 1).toNat 0 (s 78) 0 c0 c0 := by
      unfold CLs
      rw [if_pos il]
    have e2 : CLs s' b = comp s' b (s 31 - 1).toNat 0 (s 78) 0 c0 c0 := by
      unfold CLs
      rw [if_pos il', h 31 (by decide), h 78 (by decide)]
    obtain ⟨x, hx⟩ := List.exists_mem_of_ne_nil _ hne
    rw [e1, comp_codes, List.mem_filterMap] at hx
    obtain ⟨c, hc, hv⟩ := hx
    have hv' := evc_g hw h hl _ 0 (s 78) 0 c0 c0 c0 c0 x (by omega) (fun _ _ => rfl) (fun _ _ => rfl) hv
    intro q
    have : x ∈ CLs s' b := by
      rw [e2, comp_codes, List.mem_filterMap]
      exact ⟨c, hc, hv'⟩
    rw [q] at this
    cases this
  · exact absurd (CLs_no il) hne
