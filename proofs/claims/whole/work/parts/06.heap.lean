/-! fields, rows and new cells -/
theorem z_in0' : ∀ w ∈ u_ws RX0 TX0 3, w ∈ lw_g := by decide +kernel
theorem z_in1 : ∀ w ∈ u_ws RX1 TX1 4, w ∈ lw_g := by decide +kernel
theorem z_in2 : ∀ w ∈ u_ws RX2 TX2 5, w ∈ lw_g := by decide +kernel
theorem z_in3 : ∀ w ∈ u_ws RX3 TX3 7, w ∈ lw_g := by decide +kernel
theorem z_in4 : ∀ w ∈ u_ws RX4 TX4 18, w ∈ lw_g := by decide +kernel
theorem z_in5 : ∀ w ∈ u_ws RX5 TX5 5, w ∈ lw_g := by decide +kernel
theorem z_in6 : ∀ w ∈ u_ws RX6 TX6 3, w ∈ lw_g := by decide +kernel
theorem z_in7 : ∀ w ∈ u_ws RX7 TX7 7, w ∈ lw_g := by decide +kernel
theorem z_in8 : ∀ w ∈ u_ws RX8 TX8 20, w ∈ lw_g := by decide +kernel
theorem z_in : ∀ c, c < 9 → ∀ w ∈ u_ws (zRn c) (zTn c) (zN c), w ∈ lw_g := z9 z_in0' z_in1 z_in2 z_in3 z_in4 z_in5 z_in6 z_in7 z_in8
theorem z_goodIn {ws : List Cond} (h : ∀ w ∈ ws, w ∈ lw_g) : GoodIn lw_g ws := fun w hw => ⟨h w hw, good_of_word (List.mem_filter.mp (h w hw)).2⟩
def zFl (own : String) (idx c j : Nat) : Prop := c < 9 ∧ j < zN c ∧ Cond.fieldLink own idx (zTn c j).1 (zTn c j).2.1 (zTn c j).2.2.1 ∈ lw_tbl
theorem va_one {D : va_G} {cl : List vw_C} {q : Nat × va_E} {H : Heap} (h : va_at D cl q H) : va_P D cl [q] H := by
  intro j x hx
  match j, hx with
  | 0, hx => cases hx; exact h
  | j + 1, hx => simp at hx
theorem zE_obj {G : zG} {b c n : Nat} {fI : Int → Int} {fL : Int → Int64} {fR : Int → Option Nat} (h : c < 9) : zE G b c n fI fL fR = .inr (c, zFs b c fI fL fR) := by
  unfold zE
  rw [if_neg (by omega), if_neg (by omega), if_neg (by omega)]
theorem zFs_at {b c k : Nat} {fI : Int → Int} {fL : Int → Int64} {fR : Int → Option Nat} (h : k < zN c) : (zFs b c fI fL fR)[k]? = some (zFv b (zty c k) fI fL fR k) := by
  simp [zFs, h]
theorem zFs_len {b c : Nat} {fI : Int → Int} {fL : Int → Int64} {fR : Int → Option Nat} : (zFs b c fI fL fR).length = zN c := by simp [zFs]
theorem zFs_set {b c k : Nat} {fI fI' : Int → Int} {fL fL' : Int → Int64} {fR fR' : Int → Option Nat} {v : Value} (h : k < zN c) (hv : zFv b (zty c k) fI' fL' fR' k = v) (ho : ∀ j : Nat, j ≠ k → fI' j = fI j ∧ fL' j = fL j ∧ fR' j = fR j) : zFs b c fI' fL' fR' = (zFs b c fI fL fR).set k v := by
  apply List.ext_getElem?
  intro j
  by_cases hj : j < zN c
  · rw [zFs_at hj]
    by_cases e : j = k
    · subst e
      rw [List.getElem?_set_self (by rw [zFs_len]; exact h), hv]
    · rw [List.getElem?_set_ne (Ne.symm e), zFs_at hj]
      obtain ⟨h1, h2, h3⟩ := ho j e
      unfold zFv
      rw [h1, h2, h3]
  · rw [List.getElem?_eq_none (by rw [zFs_len]; omega), List.getElem?_eq_none (by rw [List.length_set, zFs_len]; omega)]
theorem zR_put {G : zG} {b : Nat} {μ μ' : zMem} {H H1 : Heap} {p0 c0 n0 : Nat} (hR : zR G b μ H) (h0 : μ.1[p0]? = some (c0, n0)) (hz : H1.size = H.size) (ho : ∀ q : Nat, q ≠ b + p0 → H1[q]? = H[q]?) (hD : μ'.1 = μ.1)
    (hq : ∀ p, p ≠ p0 → gI μ' p = gI μ p ∧ gL μ' p = gL μ p ∧ gR μ' p = gR μ p) (hat : va_at G.1 vwCl (b + p0, zE G b c0 n0 (gI μ' p0) (gL μ' p0) (gR μ' p0)) H1) : zR G b μ' H1 := by
  refine ⟨by rw [hz, hR.1, hD], fun p k n h => ?_⟩
  rw [hD] at h
  by_cases e : p = p0
  · subst e
    rw [h0] at h
    cases h
    exact hat
  · obtain ⟨h1, h2, h3⟩ := hq p e
    rw [h1, h2, h3]
    exact (hR.2 p k n h).kept (ho (b + p) (by omega))
theorem zR_new {G : zG} {b k0 n0 : Nat} {μ : zMem} {H H1 : Heap} (hR : zR G b μ H) (hz : H1.size = H.size + 1) (ho : ∀ q : Nat, q < H.size → H1[q]? = H[q]?) (hat : va_at G.1 vwCl (b + μ.1.length, zE G b k0 n0 (fun _ => 0) (fun _ => 0) (fun _ => none)) H1) : zR G b (aD μ k0 n0) H1 := by
  refine ⟨by rw [hz, hR.1]; simp [aD]; omega, fun p k n h => ?_⟩
  by_cases e : p < μ.1.length
  · have h' : μ.1[p]? = some (k, n) := by
      simp only [aD] at h
      rwa [List.getElem?_append_left e] at h
    have e' : ¬ p = μ.1.length := by omega
    have g1 : gI (aD μ k0 n0) p = gI μ p := by simp [gI, aD, zf, e']
    have g2 : gL (aD μ k0 n0) p = gL μ p := by simp [gL, aD, zf, e']
    have g3 : gR (aD μ k0 n0) p = gR μ p := by simp [gR, aD, zf, e']
    rw [g1, g2, g3]
    exact (hR.2 p k n h').kept (ho (b + p) (by rw [hR.1]; omega))
  · simp only [aD] at h
    rw [List.getElem?_append_right (by omega)] at h
    have hz : p - μ.1.length < 1 := (List.getElem?_eq_some_iff.mp h).1
    have e' : p = μ.1.length := by omega
    subst e'
    rw [Nat.sub_self] at h
    cases h
    have g1 : gI (aD μ k0 n0) μ.1.length = fun _ => 0 := by simp [gI, aD, zf]
    have g2 : gL (aD μ k0 n0) μ.1.length = fun _ => 0 := by simp [gL, aD, zf]
    have g3 : gR (aD μ k0 n0) μ.1.length = fun _ => none := by simp [gR, aD, zf]
    rw [g1, g2, g3]
    exact hat
theorem zSh_aD {S : zS} {μ : zMem} {k0 n0 : Nat} (h : zSh S μ) : zSh S (aD μ k0 n0) := by
  refine ⟨fun p k q hq => ?_, fun p x hx => ?_⟩
  · obtain ⟨h1, h2⟩ := h.1 p k q hq
    refine ⟨by simp [aD]; omega, ?_⟩
    rw [← h2]
    simp [gR, aD, zf, show ¬ p = μ.1.length by omega]
  · have h1 := h.2 p x hx
    have hl := (List.getElem?_eq_some_iff.mp h1).1
    simp only [aD]
    rw [List.getElem?_append_left hl]
    exact h1
theorem zSh_sI {S : zS} {μ : zMem} {p : Nat} {i v : Int} (h : zSh S μ) : zSh S (sI μ p i v) := h
theorem zSh_sL {S : zS} {μ : zMem} {p : Nat} {i : Int} {v : Int64} (h : zSh S μ) : zSh S (sL μ p i v) := h
theorem zSh_sR {S : zS} {μ : zMem} {p0 j0 : Nat} {v : Option Nat} (h : zSh S μ) (hs : S.1 p0 j0 = none ∨ S.1 p0 j0 = v) : zSh S (sR μ p0 j0 v) := by
  refine ⟨fun p k q hq => ?_, h.2⟩
  obtain ⟨h1, h2⟩ := h.1 p k q hq
  refine ⟨h1, ?_⟩
  show zu (gR μ) p0 j0 v p k = some q
  unfold zu
  by_cases e : p = p0 ∧ (k : Int) = (j0 : Int)
  · rw [if_pos e]
    obtain ⟨e1, e2⟩ := e
    have e2 : k = j0 := by omega
    subst e1; subst e2
    rcases hs with hs | hs
    · rw [hq] at hs; cases hs
    · rw [← hs, hq]
  · rw [if_neg e]
    exact h2
section ZHeap
variable {S : zS} {X : zX} {M : zMt} {d mc ms : Nat} {Q : Option Value → zMem → Prop} {pc pc' tgt : Nat} {lo lo' : List (Option Value)} {st : List Value} {μ : zMem} {k n : Nat}
theorem Z_getv {p0 c0 n0 j idx : Nat} {v : Value} (hd : decode M.2.1 pc = .ok (.getfield idx, 3)) (hp : pc + 3 = pc') (hf : zFl M.1.cls idx c0 j) (hh : zH S μ p0 c0 n0) (hv : zSh S μ → ∀ b bs, zFv b (zty c0 j) (gI μ p0) (gL μ p0) (gR μ p0) j = zt b bs v) (K : Z S X M d mc ms Q pc' lo (v :: st) μ k n) : Z S X M d mc ms Q pc lo (.ref p0 :: st) μ k n := by
  subst hp
  intro p l e R s m args below meth c b bs G QF H locs ls C h1 h2 h3 h4
  have hat := h2.2 p0 c0 n0 (hh.at h1)
  rw [zE_obj hf.1] at hat
  exact va_get C.1 C.2.1 C.2.2.2.2.1 (z_in c0 hf.1) C.2.2.2.1 C.2.2.2.2.2.1.1 (va_one hat) 0 rfl (z_cl c0 hf.1) j hf.2.1 (C.2.2.2.2.1 _ (lw_in hf.2.2 rfl)) (fun _ h => h) (by rw [zFs_at hf.2.1, hv h1 b bs]) hd (K _ _ _ _ _ _ _ _ _ _ _ _ _ _ _ _ _ C h1 h2 h3 h4)
theorem Z_getI {p0 c0 n0 j idx : Nat} (hd : decode M.2.1 pc = .ok (.getfield idx, 3)) (hp : pc + 3 = pc') (hf : zFl M.1.cls idx c0 j) (ht : zty c0 j = .int) (hh : zH S μ p0 c0 n0) (K : Z S X M d mc ms Q pc' lo (vi (gI μ p0 j) :: st) μ k n) : Z S X M d mc ms Q pc lo (.ref p0 :: st) μ k n :=
  Z_getv hd hp hf hh (fun _ b bs => by rw [ht]; rfl) K
theorem Z_getB {p0 c0 n0 j idx : Nat} (hd : decode M.2.1 pc = .ok (.getfield idx, 3)) (hp : pc + 3 = pc') (hf : zFl M.1.cls idx c0 j) (ht : zty c0 j = .boolean) (hh : zH S μ p0 c0 n0) (K : Z S X M d mc ms Q pc' lo (vi (gI μ p0 j) :: st) μ k n) : Z S X M d mc ms Q pc lo (.ref p0 :: st) μ k n :=
  Z_getv hd hp hf hh (fun _ b bs => by rw [ht]; rfl) K
theorem Z_getJ {p0 c0 n0 j idx : Nat} (hd : decode M.2.1 pc = .ok (.getfield idx, 3)) (hp : pc + 3 = pc') (hf : zFl M.1.cls idx c0 j) (ht : zty c0 j = .long) (hh : zH S μ p0 c0 n0) (K : Z S X M d mc ms Q pc' lo (.long (gL μ p0 j) :: st) μ k n) : Z S X M d mc ms Q pc lo (.ref p0 :: st) μ k n :=
  Z_getv hd hp hf hh (fun _ b bs => by rw [ht]; rfl) K
def zRty : FieldType → Bool
  | .object _ => true
  | .array _ => true
  | _ => false
theorem zFv_ref {b : Nat} {ty : FieldType} {fI : Int → Int} {fL : Int → Int64} {fR : Int → Option Nat} {k : Nat} (h : zRty ty = true) : zFv b ty fI fL fR k = va_rf ((fR k).map (b + ·)) := by
  cases ty <;> first | (simp [zRty] at h; done) | rfl
theorem Z_getO {p0 c0 n0 j idx : Nat} (hd : decode M.2.1 pc = .ok (.getfield idx, 3)) (hp : pc + 3 = pc') (hf : zFl M.1.cls idx c0 j) (ht : zRty (zty c0 j) = true) (hh : zH S μ p0 c0 n0) (K : Z S X M d mc ms Q pc' lo (va_rf (gR μ p0 j) :: st) μ k n) : Z S X M d mc ms Q pc lo (.ref p0 :: st) μ k n :=
  Z_getv hd hp hf hh (fun _ b bs => by rw [zFv_ref ht, zt_rf]) K
/-- a reference that stands, or is known -/
theorem Z_getR {p0 c0 n0 j idx q : Nat} (hd : decode M.2.1 pc = .ok (.getfield idx, 3)) (hp : pc + 3 = pc') (hf : zFl M.1.cls idx c0 j) (ht : zRty (zty c0 j) = true) (hh : zH S μ p0 c0 n0) (hq : S.1 p0 j = some q ∨ gR μ p0 j = some q) (K : Z S X M d mc ms Q pc' lo (.ref q :: st) μ k n) : Z S X M d mc ms Q pc lo (.ref p0 :: st) μ k n :=
  Z_getv hd hp hf hh (fun h b bs => by
    have e : gR μ p0 j = some q := hq.elim (fun z => (h.1 _ _ _ z).2) id
    rw [zFv_ref ht, e]
    rfl) K
theorem zput {p0 c0 n0 j idx : Nat} {v : Value} {μ' : zMem} (hd : decode M.2.1 pc = .ok (.putfield idx, 3)) (hp : pc + 3 = pc') (hf : zFl M.1.cls idx c0 j) (hfin : (zTn c0 j).2.2.2 = false ∨ (M.1.name = "<init>" ∧ (zTn c0 j).1 = M.1.cls)) (hh : zH S μ p0 c0 n0)
    (hn : ∀ b bs, narrow (zty c0 j) (zt b bs v) = zt b bs v) (hfit : ∀ b bs, fits (zty c0 j) (zt b bs v) = true) (hD : μ'.1 = μ.1) (hq : ∀ p, p ≠ p0 → gI μ' p = gI μ p ∧ gL μ' p = gL μ p ∧ gR μ' p = gR μ p)
    (hv : ∀ b bs, zFv b (zty c0 j) (gI μ' p0) (gL μ' p0) (gR μ' p0) j = zt b bs v) (ho : ∀ i : Nat, i ≠ j → gI μ' p0 i = gI μ p0 i ∧ gL μ' p0 i = gL μ p0 i ∧ gR μ' p0 i = gR μ p0 i) (hsh : zSh S μ → zSh S μ') (K : Z S X M d mc ms Q pc' lo st μ' k n) : Z S X M d mc ms Q pc lo (v :: .ref p0 :: st) μ k n := by
  subst hp
  intro p l e R s m args below meth c b bs G QF H locs ls C h1 h2 h3 h4
  have h0 := hh.at h1
  have hat := h2.2 p0 c0 n0 h0
  rw [zE_obj hf.1] at hat
  have hc := z_cl c0 hf.1
  have hts := C.2.2.2.2.1
  have hin := z_in c0 hf.1
  have hown := C.2.2.2.1
  have hK := C.2.2.2.2.2.1.1
  have hlink := hts _ (lw_in hf.2.2 rfl)
  have hap := va_apart (own := M.1.cls) hts hin (zty c0) (z_ty c0 hf.1) (z_nm c0 hf.1) hK hc
  obtain ⟨r, g1, cell, q1, q2, q3, q4⟩ := hat
  have hr : r = (zRn c0, zTn c0, zN c0) := Option.some.inj (g1.symm.trans hc)
  subst hr
  obtain ⟨hS, hfc, kC, hkC, hkind⟩ := hK.1 c0 _ hc
  obtain ⟨cf, kf, fi, f, hi, hsl⟩ := hS j hf.2.1
  have hst := (u_facts hfc hkC (u_lays hts hin hf.2.1) hi).1
  have hlay := hts _ (hin _ (u_in_lay hf.2.1))
  have fin : ∀ H' : Heap, H'[b + p0]? = some (cell.setSlot f.slot (zt b bs v)) → H'.size = H.size → (∀ q, q ≠ b + p0 → H'[q]? = H[q]?) → W p l e R s m args below meth c H' (locs ++ [⟨b + p0, f.slot⟩]) k n QF (F0 m (pc + 3) ls (st.map (zt b bs))) := by
    intro H' e1 e2 e3
    rw [hsl] at e1 ⊢
    refine K _ _ _ _ _ _ _ _ _ _ _ _ _ _ _ _ _ C (hsh h1) (zR_put h2 h0 e2 e3 hD hq ?_) (h3.put e2 e3 (Nat.le_add_right b p0)) h4
    rw [zE_obj hf.1, zFs_set hf.2.1 (hv b bs) ho]
    exact ⟨_, hc, t_OB.to (V := updV (vp_V _) j (zt b bs v)) ⟨_, e1, q2, q3, t_set q4 hap hf.2.1 _⟩ (fun i _ => vp_updV_set (by rw [zFs_len]; exact hf.2.1) _ i)⟩
  by_cases hfi : (zTn c0 j).2.2.2 = false
  · unfold u_lay at hlay
    rw [if_neg (by rw [hfi]; decide)] at hlay
    have h6 := u_store hfc hkC hkind hlay hi (z_ty c0 hf.1 j hf.2.1) (hn b bs) (hfit b bs)
    exact W.putK C.1 C.2.1 (f := f) ⟨hown, hlink, ⟨_, _, _, hi⟩, hst⟩ (by rw [q2]; exact h6) q1 q3 (by rw [hsl]; exact k2_hasslot (q4 j hf.2.1)) rfl rfl hd fin
  · obtain ⟨f1, f2⟩ := hfin.resolve_left hfi
    unfold u_lay at hlay
    rw [if_pos (by simpa using hfi)] at hlay
    have hcf : m.cls = cf := by
      obtain ⟨_, _, c', _, _, _, -, -, hf', -, -, -, hown2, -⟩ := Cond.laysFinal_spec hlay
      have e1 : c' = cf := by have := hi.symm.trans hf'; simp at this; exact this.1.symm
      rw [f2] at hown2
      rw [← e1]; exact Option.some.inj (hown.symm.trans hown2)
    have h6 := u_fits hfc hkC hkind (Or.inr hlay) hi (z_ty c0 hf.1 j hf.2.1) (hn b bs) (hfit b bs)
    exact W.putFinK C.1 C.2.1 hown hlink hi hst hcf (C.2.2.2.2.2.2.1 f1) (by rw [q2]; exact h6) q1 q3 (by rw [hsl]; exact k2_hasslot (q4 j hf.2.1)) rfl rfl hd fin
theorem zu_ne {α : Type} {f : Nat → Int → α} {p q : Nat} {i : Int} {v : α} (h : q ≠ p) : zu f p i v q = f q := by
  funext j
  simp [zu, h]
theorem zu_self {α : Type} {f : Nat → Int → α} {p : Nat} {i : Int} {v : α} : zu f p i v p i = v := by simp [zu]
theorem zu_off {α : Type} {f : Nat → Int → α} {p : Nat} {i j : Int} {v : α} (h : j ≠ i) : zu f p i v p j = f p j := by simp [zu, h]
theorem Z_putI {p0 c0 n0 j idx : Nat} {z : Int} (hd : decode M.2.1 pc = .ok (.putfield idx, 3)) (hp : pc + 3 = pc') (hf : zFl M.1.cls idx c0 j) (hfin : (zTn c0 j).2.2.2 = false ∨ (M.1.name = "<init>" ∧ (zTn c0 j).1 = M.1.cls)) (ht : zty c0 j = .int) (hh : zH S μ p0 c0 n0)
    (K : Z S X M d mc ms Q pc' lo st (sI μ p0 j z) k n) : Z S X M d mc ms Q pc lo (vi z :: .ref p0 :: st) μ k n :=
  zput (v := vi z) (μ' := sI μ p0 j z) hd hp hf hfin hh (fun b bs => by rw [ht]; rfl) (fun b bs => by rw [ht]; rfl) rfl (fun p h => ⟨zu_ne h, rfl, rfl⟩) (fun b bs => by rw [ht]; show vi (zu _ _ _ _ _ _) = _; rw [zu_self]; rfl) (fun i h => ⟨zu_off (by omega), rfl, rfl⟩) zSh_sI K
theorem Z_putB {p0 c0 n0 j idx : Nat} {z : Int} (hd : decode M.2.1 pc = .ok (.putfield idx, 3)) (hp : pc + 3 = pc') (hf : zFl M.1.cls idx c0 j) (hfin : (zTn c0 j).2.2.2 = false ∨ (M.1.name = "<init>" ∧ (zTn c0 j).1 = M.1.cls)) (ht : zty c0 j = .boolean) (hz : z = 0 ∨ z = 1) (hh : zH S μ p0 c0 n0)
    (K : Z S X M d mc ms Q pc' lo st (sI μ p0 j z) k n) : Z S X M d mc ms Q pc lo (vi z :: .ref p0 :: st) μ k n :=
  zput (v := vi z) (μ' := sI μ p0 j z) hd hp hf hfin hh (fun b bs => by rw [ht]; rcases hz with rfl | rfl <;> rfl) (fun b bs => by rw [ht]; rcases hz with rfl | rfl <;> rfl) rfl (fun p h => ⟨zu_ne h, rfl, rfl⟩) (fun b bs => by rw [ht]; show vi (zu _ _ _ _ _ _) = _; rw [zu_self]; rfl) (fun i h => ⟨zu_off (by omega), rfl, rfl⟩) zSh_sI K
theorem Z_putJ {p0 c0 n0 j idx : Nat} {z : Int64} (hd : decode M.2.1 pc = .ok (.putfield idx, 3)) (hp : pc + 3 = pc') (hf : zFl M.1.cls idx c0 j) (hfin : (zTn c0 j).2.2.2 = false ∨ (M.1.name = "<init>" ∧ (zTn c0 j).1 = M.1.cls)) (ht : zty c0 j = .long) (hh : zH S μ p0 c0 n0)
    (K : Z S X M d mc ms Q pc' lo st (sL μ p0 j z) k n) : Z S X M d mc ms Q pc lo (.long z :: .ref p0 :: st) μ k n :=
  zput (v := .long z) (μ' := sL μ p0 j z) hd hp hf hfin hh (fun b bs => by rw [ht]; rfl) (fun b bs => by rw [ht]; rfl) rfl (fun p h => ⟨rfl, zu_ne h, rfl⟩) (fun b bs => by rw [ht]; show Value.long (zu _ _ _ _ _ _) = _; rw [zu_self]; rfl) (fun i h => ⟨rfl, zu_off (by omega), rfl⟩) zSh_sL K
theorem zRty_n {ty : FieldType} (h : zRty ty = true) (o : Option Nat) : narrow ty (va_rf o) = va_rf o ∧ fits ty (va_rf o) = true := by
  cases ty <;> first | (simp [zRty] at h; done) | (cases o <;> exact ⟨rfl, rfl⟩)
theorem Z_putO {p0 c0 n0 j idx : Nat} {o : Option Nat} (hd : decode M.2.1 pc = .ok (.putfield idx, 3)) (hp : pc + 3 = pc') (hf : zFl M.1.cls idx c0 j) (hfin : (zTn c0 j).2.2.2 = false ∨ (M.1.name = "<init>" ∧ (zTn c0 j).1 = M.1.cls)) (ht : zRty (zty c0 j) = true) (hh : zH S μ p0 c0 n0) (hs : S.1 p0 j = none ∨ S.1 p0 j = o)
    (K : Z S X M d mc ms Q pc' lo st (sR μ p0 j o) k n) : Z S X M d mc ms Q pc lo (va_rf o :: .ref p0 :: st) μ k n :=
  zput (v := va_rf o) (μ' := sR μ p0 j o) hd hp hf hfin hh (fun b bs => by rw [zt_rf]; exact (zRty_n ht _).1) (fun b bs => by rw [zt_rf]; exact (zRty_n ht _).2) rfl (fun p h => ⟨rfl, rfl, zu_ne h⟩) (fun b bs => by rw [zFv_ref ht, zt_rf]; show va_rf (Option.map _ (zu _ _ _ _ _ _)) = _; rw [zu_self]) (fun i h => ⟨rfl, rfl, zu_off (by omega)⟩) (fun h => zSh_sR h hs) K
theorem Z_putR {p0 c0 n0 j idx q : Nat} (hd : decode M.2.1 pc = .ok (.putfield idx, 3)) (hp : pc + 3 = pc') (hf : zFl M.1.cls idx c0 j) (hfin : (zTn c0 j).2.2.2 = false ∨ (M.1.name = "<init>" ∧ (zTn c0 j).1 = M.1.cls)) (ht : zRty (zty c0 j) = true) (hh : zH S μ p0 c0 n0) (hs : S.1 p0 j = none ∨ S.1 p0 j = some q)
    (K : Z S X M d mc ms Q pc' lo st (sR μ p0 j (some q)) k n) : Z S X M d mc ms Q pc lo (.ref q :: .ref p0 :: st) μ k n :=
  Z_putO (o := some q) hd hp hf hfin ht hh hs K
/-! the same, the field's number as a whole number -/
theorem Z_getI' {ji : Int} {p0 c0 n0 j idx : Nat} (hd : decode M.2.1 pc = .ok (.getfield idx, 3)) (hp : pc + 3 = pc') (hj : ((j : Nat) : Int) = ji) (hf : zFl M.1.cls idx c0 j) (ht : zty c0 j = .int) (hh : zH S μ p0 c0 n0) (K : Z S X M d mc ms Q pc' lo (vi (gI μ p0 ji) :: st) μ k n) : Z S X M d mc ms Q pc lo (.ref p0 :: st) μ k n := by
  subst hj
  exact Z_getI hd hp hf ht hh K
theorem Z_getB' {ji : Int} {p0 c0 n0 j idx : Nat} (hd : decode M.2.1 pc = .ok (.getfield idx, 3)) (hp : pc + 3 = pc') (hj : ((j : Nat) : Int) = ji) (hf : zFl M.1.cls idx c0 j) (ht : zty c0 j = .boolean) (hh : zH S μ p0 c0 n0) (K : Z S X M d mc ms Q pc' lo (vi (gI μ p0 ji) :: st) μ k n) : Z S X M d mc ms Q pc lo (.ref p0 :: st) μ k n := by
  subst hj
  exact Z_getB hd hp hf ht hh K
theorem Z_getJ' {ji : Int} {p0 c0 n0 j idx : Nat} (hd : decode M.2.1 pc = .ok (.getfield idx, 3)) (hp : pc + 3 = pc') (hj : ((j : Nat) : Int) = ji) (hf : zFl M.1.cls idx c0 j) (ht : zty c0 j = .long) (hh : zH S μ p0 c0 n0) (K : Z S X M d mc ms Q pc' lo (.long (gL μ p0 ji) :: st) μ k n) : Z S X M d mc ms Q pc lo (.ref p0 :: st) μ k n := by
  subst hj
  exact Z_getJ hd hp hf ht hh K
theorem Z_getO' {ji : Int} {p0 c0 n0 j idx : Nat} (hd : decode M.2.1 pc = .ok (.getfield idx, 3)) (hp : pc + 3 = pc') (hj : ((j : Nat) : Int) = ji) (hf : zFl M.1.cls idx c0 j) (ht : zRty (zty c0 j) = true) (hh : zH S μ p0 c0 n0) (K : Z S X M d mc ms Q pc' lo (va_rf (gR μ p0 ji) :: st) μ k n) : Z S X M d mc ms Q pc lo (.ref p0 :: st) μ k n := by
  subst hj
  exact Z_getO hd hp hf ht hh K
theorem Z_putI' {ji : Int} {p0 c0 n0 j idx : Nat} {z : Int} (hd : decode M.2.1 pc = .ok (.putfield idx, 3)) (hp : pc + 3 = pc') (hj : ((j : Nat) : Int) = ji) (hf : zFl M.1.cls idx c0 j) (hfin : (zTn c0 j).2.2.2 = false ∨ (M.1.name = "<init>" ∧ (zTn c0 j).1 = M.1.cls)) (ht : zty c0 j = .int) (hh : zH S μ p0 c0 n0)
    (K : Z S X M d mc ms Q pc' lo st (sI μ p0 ji z) k n) : Z S X M d mc ms Q pc lo (vi z :: .ref p0 :: st) μ k n := by
  subst hj
  exact Z_putI hd hp hf hfin ht hh K
theorem Z_putB' {ji : Int} {p0 c0 n0 j idx : Nat} {z : Int} (hd : decode M.2.1 pc = .ok (.putfield idx, 3)) (hp : pc + 3 = pc') (hj : ((j : Nat) : Int) = ji) (hf : zFl M.1.cls idx c0 j) (hfin : (zTn c0 j).2.2.2 = false ∨ (M.1.name = "<init>" ∧ (zTn c0 j).1 = M.1.cls)) (ht : zty c0 j = .boolean) (hz : z = 0 ∨ z = 1) (hh : zH S μ p0 c0 n0)
    (K : Z S X M d mc ms Q pc' lo st (sI μ p0 ji z) k n) : Z S X M d mc ms Q pc lo (vi z :: .ref p0 :: st) μ k n := by
  subst hj
  exact Z_putB hd hp hf hfin ht hz hh K
theorem Z_putJ' {ji : Int} {p0 c0 n0 j idx : Nat} {z : Int64} (hd : decode M.2.1 pc = .ok (.putfield idx, 3)) (hp : pc + 3 = pc') (hj : ((j : Nat) : Int) = ji) (hf : zFl M.1.cls idx c0 j) (hfin : (zTn c0 j).2.2.2 = false ∨ (M.1.name = "<init>" ∧ (zTn c0 j).1 = M.1.cls)) (ht : zty c0 j = .long) (hh : zH S μ p0 c0 n0)
    (K : Z S X M d mc ms Q pc' lo st (sL μ p0 ji z) k n) : Z S X M d mc ms Q pc lo (.long z :: .ref p0 :: st) μ k n := by
  subst hj
  exact Z_putJ hd hp hf hfin ht hh K
theorem Z_putO' {ji : Int} {p0 c0 n0 j idx : Nat} {o : Option Nat} (hd : decode M.2.1 pc = .ok (.putfield idx, 3)) (hp : pc + 3 = pc') (hj : ((j : Nat) : Int) = ji) (hf : zFl M.1.cls idx c0 j) (hfin : (zTn c0 j).2.2.2 = false ∨ (M.1.name = "<init>" ∧ (zTn c0 j).1 = M.1.cls)) (ht : zRty (zty c0 j) = true) (hh : zH S μ p0 c0 n0) (hs : S.1 p0 j = none ∨ S.1 p0 j = o)
    (K : Z S X M d mc ms Q pc' lo st (sR μ p0 ji o) k n) : Z S X M d mc ms Q pc lo (va_rf o :: .ref p0 :: st) μ k n := by
  subst hj
  exact Z_putO hd hp hf hfin ht hh hs K
theorem Z_putR' {ji : Int} {p0 c0 n0 j idx q : Nat} (hd : decode M.2.1 pc = .ok (.putfield idx, 3)) (hp : pc + 3 = pc') (hj : ((j : Nat) : Int) = ji) (hf : zFl M.1.cls idx c0 j) (hfin : (zTn c0 j).2.2.2 = false ∨ (M.1.name = "<init>" ∧ (zTn c0 j).1 = M.1.cls)) (ht : zRty (zty c0 j) = true) (hh : zH S μ p0 c0 n0) (hs : S.1 p0 j = none ∨ S.1 p0 j = some q)
    (K : Z S X M d mc ms Q pc' lo st (sR μ p0 ji (some q)) k n) : Z S X M d mc ms Q pc lo (.ref q :: .ref p0 :: st) μ k n := by
  subst hj
  exact Z_putR hd hp hf hfin ht hh hs K
/-! rows -/
theorem zE_i {G : zG} {b n : Nat} {fI : Int → Int} {fL : Int → Int64} {fR : Int → Option Nat} : zE G b 9 n fI fL fR = .inl (G.2.1, n, .inl (fun i => Int32.ofInt (fI i))) := rfl
theorem zE_l {G : zG} {b n : Nat} {fI : Int → Int} {fL : Int → Int64} {fR : Int → Option Nat} : zE G b 10 n fI fL fR = .inl (G.2.2.1, n, .inr (.inl (fun i => fL i))) := rfl
theorem zE_q {G : zG} {b n : Nat} {fI : Int → Int} {fL : Int → Int64} {fR : Int → Option Nat} : zE G b 11 n fI fL fR = .inl (G.2.2.2, n, .inr (.inr (.inr (.inr (fun i => (fR i).map (b + ·)))))) := rfl
theorem z_inn {i : Int} {n0 : Nat} (h0 : 0 ≤ i) (h1 : i < n0) (h2 : n0 ≤ 2147483647) : zIn i := ⟨by omega, by omega⟩
theorem z_nat {i : Int} (h0 : 0 ≤ i) : ((i.toNat : Nat) : Int) = i := by omega
theorem Z_iaload {p0 n0 : Nat} {i : Int} (hd : decode M.2.1 pc = .ok (.iaload, 1)) (hp : pc + 1 = pc') (hh : zH S μ p0 9 n0) (hn : n0 ≤ 2147483647) (i0 : 0 ≤ i) (i1 : i < n0) (K : Z S X M d mc ms Q pc' lo (vi (gI μ p0 i) :: st) μ k n) : Z S X M d mc ms Q pc lo (vi i :: .ref p0 :: st) μ k n := by
  subst hp
  intro p l e R s m args below meth c b bs G QF H locs ls C h1 h2 h3 h4
  have hat := h2.2 p0 9 n0 (hh.at h1)
  have hz := z_inn i0 i1 hn
  refine va_iald C.1 C.2.1 C.2.2.2.2.2.1.1 (va_one hat) 0 0 (by rw [zE_i]; rfl) rfl (z_vp hz i0 i1) hd ?_
  rw [z_clamp hz i0, z_nat i0]
  exact K _ _ _ _ _ _ _ _ _ _ _ _ _ _ _ _ _ C h1 h2 h3 h4
theorem Z_laload {p0 n0 : Nat} {i : Int} (hd : decode M.2.1 pc = .ok (.laload, 1)) (hp : pc + 1 = pc') (hh : zH S μ p0 10 n0) (hn : n0 ≤ 2147483647) (i0 : 0 ≤ i) (i1 : i < n0) (K : Z S X M d mc ms Q pc' lo (.long (gL μ p0 i) :: st) μ k n) : Z S X M d mc ms Q pc lo (vi i :: .ref p0 :: st) μ k n := by
  subst hp
  intro p l e R s m args below meth c b bs G QF H locs ls C h1 h2 h3 h4
  have hat := h2.2 p0 10 n0 (hh.at h1)
  have hz := z_inn i0 i1 hn
  refine va_lald C.1 C.2.1 C.2.2.2.2.2.1.1 (va_one hat) 0 1 (by rw [zE_l]; rfl) rfl (z_vp hz i0 i1) hd ?_
  rw [z_clamp hz i0, z_nat i0]
  exact K _ _ _ _ _ _ _ _ _ _ _ _ _ _ _ _ _ C h1 h2 h3 h4
theorem Z_aaload {p0 n0 q : Nat} {i : Int} (hd : decode M.2.1 pc = .ok (.aaload, 1)) (hp : pc + 1 = pc') (hh : zH S μ p0 11 n0) (hn : n0 ≤ 2147483647) (i0 : 0 ≤ i) (i1 : i < n0) (hq : gR μ p0 i = some q) (K : Z S X M d mc ms Q pc' lo (.ref q :: st) μ k n) : Z S X M d mc ms Q pc lo (vi i :: .ref p0 :: st) μ k n := by
  subst hp
  intro p l e R s m args below meth c b bs G QF H locs ls C h1 h2 h3 h4
  have hat := h2.2 p0 11 n0 (hh.at h1)
  have hz := z_inn i0 i1 hn
  refine va_aldq C.1 C.2.1 C.2.2.2.2.2.1.1 (va_one hat) 0 2 (by rw [zE_q]; rfl) rfl (z_vp hz i0 i1) hd ?_
  rw [z_clamp hz i0, z_nat i0, hq]
  exact K _ _ _ _ _ _ _ _ _ _ _ _ _ _ _ _ _ C h1 h2 h3 h4
theorem Z_alen {p0 k0 n0 : Nat} (hd : decode M.2.1 pc = .ok (.arraylength, 1)) (hp : pc + 1 = pc') (hh : zH S μ p0 k0 n0) (hk : k0 = 9 ∨ k0 = 10) (K : Z S X M d mc ms Q pc' lo (vi (n0 : Int) :: st) μ k n) : Z S X M d mc ms Q pc lo (.ref p0 :: st) μ k n := by
  subst hp
  intro p l e R s m args below meth c b bs G QF H locs ls C h1 h2 h3 h4
  have hat := h2.2 p0 k0 n0 (hh.at h1)
  rcases hk with rfl | rfl
  · exact va_alen (x := (n0, .inl (fun i : Nat => Int32.ofInt (gI μ p0 i)))) C.1 C.2.1 C.2.2.2.2.2.1.1 (va_one hat) 0 0 (by rw [zE_i]; rfl) rfl Int32.ofInt_eq_ofNat.symm hd (K _ _ _ _ _ _ _ _ _ _ _ _ _ _ _ _ _ C h1 h2 h3 h4)
  · exact va_alen (x := (n0, .inr (.inl (fun i : Nat => gL μ p0 i)))) C.1 C.2.1 C.2.2.2.2.2.1.1 (va_one hat) 0 1 (by rw [zE_l]; rfl) rfl Int32.ofInt_eq_ofNat.symm hd (K _ _ _ _ _ _ _ _ _ _ _ _ _ _ _ _ _ C h1 h2 h3 h4)
theorem Z_iastore {p0 n0 : Nat} {i z : Int} (hd : decode M.2.1 pc = .ok (.iastore, 1)) (hp : pc + 1 = pc') (hh : zH S μ p0 9 n0) (hn : n0 ≤ 2147483647) (i0 : 0 ≤ i) (i1 : i < n0) (K : Z S X M d mc ms Q pc' lo st (sI μ p0 i z) k n) : Z S X M d mc ms Q pc lo (vi z :: vi i :: .ref p0 :: st) μ k n := by
  subst hp
  intro p l e R s m args below meth c b bs G QF H locs ls C h1 h2 h3 h4
  have h0 := hh.at h1
  have hat := h2.2 p0 9 n0 h0
  rw [zE_i] at hat
  have hz := z_inn i0 i1 hn
  have hK := C.2.2.2.2.2.1.1
  refine W.iast C.1 C.2.1 hat ((hK.2 0 _ rfl).1 n0 (fun j => .int (Int32.ofInt (gI μ p0 j)))) (fun q => by cases q) (by show ¬ (_ ∨ (arrV _ _ _).slots.size ≤ _); rw [arrV_size]; exact z_vp hz i0 i1) rfl rfl hd fun H1 e1 z1 oq => ?_
  refine K _ _ _ _ _ _ _ _ _ _ _ _ _ _ _ _ _ C (zSh_sI h1) (zR_put h2 h0 z1 oq rfl (fun p h => ⟨zu_ne h, rfl, rfl⟩) ?_) (h3.put z1 oq (Nat.le_add_right b p0)) h4
  rw [zE_i]
  show H1[b + p0]? = some (vp_cell _ _)
  rw [e1, vp_cell_i, vp_cell_i, arrV_store, z_clamp hz i0]
  congr 2
  funext q
  show updV _ _ _ _ = Value.int (Int32.ofInt (zu _ _ _ _ _ _))
  by_cases hq : q = i.toNat
  · subst hq
    rw [z_nat i0, zu_self]
    simp [updV]
  · rw [zu_off (by omega)]
    simp [updV, hq]
    rfl
theorem Z_lastore {p0 n0 : Nat} {i : Int} {z : Int64} (hd : decode M.2.1 pc = .ok (.lastore, 1)) (hp : pc + 1 = pc') (hh : zH S μ p0 10 n0) (hn : n0 ≤ 2147483647) (i0 : 0 ≤ i) (i1 : i < n0) (K : Z S X M d mc ms Q pc' lo st (sL μ p0 i z) k n) : Z S X M d mc ms Q pc lo (.long z :: vi i :: .ref p0 :: st) μ k n := by
  subst hp
  intro p l e R s m args below meth c b bs G QF H locs ls C h1 h2 h3 h4
  have h0 := hh.at h1
  have hat := h2.2 p0 10 n0 h0
  rw [zE_l] at hat
  have hz := z_inn i0 i1 hn
  have hK := C.2.2.2.2.2.1.1
  refine W.last C.1 C.2.1 hat ((hK.2 1 _ rfl).1 n0 (fun j => .long (gL μ p0 j))) (fun q => by cases q) (by show ¬ (_ ∨ (arrV _ _ _).slots.size ≤ _); rw [arrV_size]; exact z_vp hz i0 i1) rfl rfl hd fun H1 e1 z1 oq => ?_
  refine K _ _ _ _ _ _ _ _ _ _ _ _ _ _ _ _ _ C (zSh_sL h1) (zR_put h2 h0 z1 oq rfl (fun p h => ⟨rfl, zu_ne h, rfl⟩) ?_) (h3.put z1 oq (Nat.le_add_right b p0)) h4
  rw [zE_l]
  show H1[b + p0]? = some (vp_cell _ _)
  rw [e1, vp_cell_l, vp_cell_l, arrV_store, z_clamp hz i0]
  congr 2
  funext q
  show updV _ _ _ _ = Value.long (zu _ _ _ _ _ _)
  by_cases hq : q = i.toNat
  · subst hq
    rw [z_nat i0, zu_self]
    simp [updV]
  · rw [zu_off (by omega)]
    simp [updV, hq]
    rfl
theorem Z_aastore {p0 n0 q m0 : Nat} {i : Int} (hd : decode M.2.1 pc = .ok (.aastore, 1)) (hp : pc + 1 = pc') (hh : zH S μ p0 11 n0) (hn : n0 ≤ 2147483647) (i0 : 0 ≤ i) (i1 : i < n0) (hq : zH S μ q 5 m0) (hs : S.1 p0 i.toNat = none) (K : Z S X M d mc ms Q pc' lo st (sR μ p0 i (some q)) k n) : Z S X M d mc ms Q pc lo (.ref q :: vi i :: .ref p0 :: st) μ k n := by
  subst hp
  intro p l e R s m args below meth c b bs G QF H locs ls C h1 h2 h3 h4
  have h0 := hh.at h1
  have hat := h2.2 p0 11 n0 h0
  rw [zE_q] at hat
  have hz := z_inn i0 i1 hn
  have hK := C.2.2.2.2.2.1.1
  have hatq := h2.2 q 5 m0 (hq.at h1)
  rw [zE_obj (by omega)] at hatq
  obtain ⟨r', hr', cellV, g1, g2, g3, -⟩ := hatq
  have hcls := (hK.1 5 _ (z_cl 5 (by omega))).2
  obtain ⟨kA, comp, k1, k2, k3, -⟩ := (hK.2 2 _ rfl).2
  have hcomp : comp = G.1.1 5 := Option.some.inj (k3.symm.trans hcls.1)
  subst hcomp
  obtain ⟨kC, hkC, -⟩ := hcls.2
  have hv := z_vp hz i0 i1
  refine W.aast C.1 C.2.1 hat (fun q h => by cases h) (fun h => by cases h) k1 k2 rfl hkC ⟨fun h => hv (Or.inl h), by show _ < (arrV _ _ _).slots.size; rw [arrV_size]; exact Nat.not_le.mp (fun h => hv (Or.inr h))⟩ g1 (fun q h => by rw [g3] at h; cases h) (by rw [g2]; exact hkC) (by rw [g2]; exact va_assign hcls) rfl rfl hd fun H1 e1 z1 oq => ?_
  refine K _ _ _ _ _ _ _ _ _ _ _ _ _ _ _ _ _ C (by have := zSh_sR (v := some q) h1 (Or.inl hs); rwa [z_nat i0] at this) (zR_put h2 h0 z1 oq rfl (fun p h => ⟨rfl, rfl, zu_ne h⟩) ?_) (h3.put z1 oq (Nat.le_add_right b p0)) h4
  rw [zE_q]
  show H1[b + p0]? = some (vp_cell _ _)
  rw [e1, vp_cell_q, vp_cell_q, arrV_store, z_clamp hz i0]
  congr 2
  funext q
  show updV _ _ _ _ = va_rf (Option.map _ (zu _ _ _ _ _ _))
  by_cases hq : q = i.toNat
  · subst hq
    rw [z_nat i0, zu_self]
    simp [updV, va_rf]
  · rw [zu_off (by omega)]
    simp [updV, hq]
    rfl
/-! the law's script -/
theorem Z_sld {L : Nat} {f : Nat → Int32} {i : Int} {w : UInt32} (hX : X = some (L, f)) (hd : decode M.2.1 pc = .ok (.iaload, 1)) (hp : pc + 1 = pc') (hn : L ≤ 2147483647) (i0 : 0 ≤ i) (i1 : i < L) (K : Z S X M d mc ms Q pc' lo (vi (f i.toNat).toInt :: st) μ k n) : Z S X M d mc ms Q pc lo (vi i :: .float w :: st) μ k n := by
  subst hp
  intro p l e R s m args below meth c b bs G QF H locs ls C h1 h2 h3 h4
  obtain ⟨g1, g2, g3⟩ := C.2.2.2.2.2.2.2.2.2.1 L f hX
  have hz := z_inn i0 i1 hn
  refine va_sld C.1 C.2.1 g1 g2 (A := fun q => b ≤ q) (Nat.not_le.mpr g3) h3 (z_vp hz i0 i1) hd ?_
  rw [z_clamp hz i0, z_ofInt_toInt]
  exact K _ _ _ _ _ _ _ _ _ _ _ _ _ _ _ _ _ C h1 h2 h3 h4
theorem Z_slen {L : Nat} {f : Nat → Int32} {w : UInt32} (hX : X = some (L, f)) (hd : decode M.2.1 pc = .ok (.arraylength, 1)) (hp : pc + 1 = pc') (K : Z S X M d mc ms Q pc' lo (vi (L : Int) :: st) μ k n) : Z S X M d mc ms Q pc lo (.float w :: st) μ k n := by
  subst hp
  intro p l e R s m args below meth c b bs G QF H locs ls C h1 h2 h3 h4
  obtain ⟨g1, g2, g3⟩ := C.2.2.2.2.2.2.2.2.2.1 L f hX
  refine va_slen C.1 C.2.1 g1 g2 (A := fun q => b ≤ q) (Nat.not_le.mpr g3) h3 hd ?_
  rw [← Int32.ofInt_eq_ofNat]
  exact K _ _ _ _ _ _ _ _ _ _ _ _ _ _ _ _ _ C h1 h2 h3 h4
/-! new cells -/
theorem Z_newI {z : Int} (hd : decode M.2.1 pc = .ok (.newarray .int, 2)) (hp : pc + 2 = pc') (z0 : 0 ≤ z) (z1 : z ≤ 100000) (hk : k + 1 ≤ mc) (hn : n + z.toNat ≤ ms) (hc : Cond.arrayClass .int ∈ lw_tbl) (K : Z S X M d mc ms Q pc' lo (.ref (gD μ).length :: st) (aD μ 9 z.toNat) (k + 1) (n + z.toNat)) : Z S X M d mc ms Q pc lo (vi z :: st) μ k n := by
  subst hp
  intro p l e R s m args below meth c b bs G QF H locs ls C h1 h2 h3 h4
  have hz : zIn z := ⟨by omega, by omega⟩
  have hK := C.2.2.2.2.2.1.1
  have hrm := C.2.2.2.2.2.2.2.2.1
  refine va_newaK (atype := .int) (N := z.toNat) C.1 C.2.1 (C.2.2.2.2.1 _ (lw_in hc rfl)) rfl hd rfl (fun h => (z_vp (n := 100001) hz z0 (by omega)) (Or.inl h)) (z_clamp hz z0) (by show z.toNat * 4 ≤ _; omega) (by omega) (by omega) rfl fun H1 cA e1 s1 o1 hAr hNm => ?_
  have hcA : cA = G.2.1 := Option.some.inj (hNm.symm.trans (hK.2 0 _ rfl).2)
  subst hcA
  have hS : va_S (fun q => b ≤ q) s.heap H1 locs := ⟨Nat.le_trans h3.1 (by omega), fun q g1 g2 => (o1 q (Nat.lt_of_lt_of_le g1 h3.1)).trans (h3.2.1 q g1 g2), h3.2.2⟩
  have hR := zR_new (k0 := 9) (n0 := z.toNat) h2 s1 o1 (by
    rw [zE_i, ← h2.1]
    exact e1)
  have := K _ _ _ _ _ _ _ _ _ _ _ _ _ _ _ _ _ C (zSh_aD h1) hR hS h4
  rw [h2.1]
  exact this
theorem Z_newJ {z : Int} (hd : decode M.2.1 pc = .ok (.newarray .long, 2)) (hp : pc + 2 = pc') (z0 : 0 ≤ z) (z1 : z ≤ 100000) (hk : k + 1 ≤ mc) (hn : n + z.toNat ≤ ms) (hc : Cond.arrayClass .long ∈ lw_tbl) (K : Z S X M d mc ms Q pc' lo (.ref (gD μ).length :: st) (aD μ 10 z.toNat) (k + 1) (n + z.toNat)) : Z S X M d mc ms Q pc lo (vi z :: st) μ k n := by
  subst hp
  intro p l e R s m args below meth c b bs G QF H locs ls C h1 h2 h3 h4
  have hz : zIn z := ⟨by omega, by omega⟩
  have hK := C.2.2.2.2.2.1.1
  have hrm := C.2.2.2.2.2.2.2.2.1
  refine va_newaK (atype := .long) (N := z.toNat) C.1 C.2.1 (C.2.2.2.2.1 _ (lw_in hc rfl)) rfl hd rfl (fun h => (z_vp (n := 100001) hz z0 (by omega)) (Or.inl h)) (z_clamp hz z0) (by show z.toNat * 8 ≤ _; omega) (by omega) (by omega) rfl fun H1 cA e1 s1 o1 hAr hNm => ?_
  have hcA : cA = G.2.2.1 := Option.some.inj (hNm.symm.trans (hK.2 1 _ rfl).2)
  subst hcA
  have hS : va_S (fun q => b ≤ q) s.heap H1 locs := ⟨Nat.le_trans h3.1 (by omega), fun q g1 g2 => (o1 q (Nat.lt_of_lt_of_le g1 h3.1)).trans (h3.2.1 q g1 g2), h3.2.2⟩
  have hR := zR_new (k0 := 10) (n0 := z.toNat) h2 s1 o1 (by
    rw [zE_l, ← h2.1]
    exact e1)
  have := K _ _ _ _ _ _ _ _ _ _ _ _ _ _ _ _ _ C (zSh_aD h1) hR hS h4
  rw [h2.1]
  exact this
theorem Z_newQ {z : Int} {index : Nat} (hd : decode M.2.1 pc = .ok (.anewarray index, 3)) (hp : pc + 3 = pc') (z0 : 0 ≤ z) (z1 : z ≤ 100000) (hk : k + 1 ≤ mc) (hn : n + z.toNat ≤ ms) (hl : Cond.classLink M.1.cls index RX5 ∈ lw_tbl) (K : Z S X M d mc ms Q pc' lo (.ref (gD μ).length :: st) (aD μ 11 z.toNat) (k + 1) (n + z.toNat)) : Z S X M d mc ms Q pc lo (vi z :: st) μ k n := by
  subst hp
  intro p l e R s m args below meth c b bs G QF H locs ls C h1 h2 h3 h4
  have hz : zIn z := ⟨by omega, by omega⟩
  have hK := C.2.2.2.2.2.1.1
  have hrm := C.2.2.2.2.2.2.2.2.1
  refine W.anew (n := Int32.ofInt z) C.1 C.2.1 C.2.2.2.1 (C.2.2.2.2.1 _ (lw_in hl rfl)) (va_AO.use C.2.2.2.2.2.1.2.2) rfl hd rfl (fun h => (z_vp (n := 100001) hz z0 (by omega)) (Or.inl h)) (by rw [z_clamp hz z0]; omega) (by omega) (by rw [z_clamp hz z0]; omega) fun cA kA comp f1 f2 f3 f4 => ?_
  rw [z_clamp hz z0]
  obtain ⟨kA', comp', k1, k2, k3, k4⟩ := (hK.2 2 _ rfl).2
  have hcA : cA = G.2.2.2 := Option.some.inj (f1.symm.trans k4)
  subst hcA
  generalize hH1 : H.push ({ cls := G.2.2.2, slots := Array.replicate z.toNat .null, vm := .none } : Cell) = H1
  have s1 : H1.size = H.size + 1 := by rw [← hH1, Array.size_push]
  have e1 : H1[H.size]? = some (arrV G.2.2.2 z.toNat (fun _ => .null)) := by rw [← hH1, Array.getElem?_push_size, ← arrV_new]
  have o1 : ∀ q : Nat, q < H.size → H1[q]? = H[q]? := fun q hq => by rw [← hH1, Array.getElem?_push, if_neg (Nat.ne_of_lt hq)]
  have hS : va_S (fun q => b ≤ q) s.heap H1 locs := ⟨Nat.le_trans h3.1 (by omega), fun q g1 g2 => (o1 q (Nat.lt_of_lt_of_le g1 h3.1)).trans (h3.2.1 q g1 g2), h3.2.2⟩
  have hR := zR_new (k0 := 11) (n0 := z.toNat) h2 s1 o1 (by
    rw [zE_q, ← h2.1]
    exact e1)
  have := K _ _ _ _ _ _ _ _ _ _ _ _ _ _ _ _ _ C (zSh_aD h1) hR hS h4
  rw [h2.1]
  exact this
theorem zFs_new {b c j : Nat} (h : c < 9) (hj : j < zN c) (hty : ∀ j, j < zN c → zty c j = .int ∨ zty c j = .boolean ∨ zty c j = .long ∨ zRty (zty c j) = true) : defaultValue (zty c j) = vp_V (zFs b c (fun _ => 0) (fun _ => 0) (fun _ => none)) j := by
  have e : vp_V (zFs b c (fun _ => 0) (fun _ => 0) (fun _ => none)) j = zFv b (zty c j) (fun _ => 0) (fun _ => 0) (fun _ => none) j := by
    simp [vp_V, zFs_at hj]
  rw [e]
  rcases hty j hj with h | h | h | h
  · rw [h]; rfl
  · rw [h]; rfl
  · rw [h]; rfl
  · rw [zFv_ref h]
    revert h
    cases zty c j <;> intro h <;> first | (simp [zRty] at h; done) | rfl
theorem z_kinds : ∀ c, c < 9 → ∀ j, j < zN c → zty c j = .int ∨ zty c j = .boolean ∨ zty c j = .long ∨ zRty (zty c j) = true := z9 (by decide +kernel) (by decide +kernel) (by decide +kernel) (by decide +kernel) (by decide +kernel) (by decide +kernel) (by decide +kernel) (by decide +kernel) (by decide +kernel)
theorem Z_new {c0 index : Nat} (hd : decode M.2.1 pc = .ok (.new index, 3)) (hp : pc + 3 = pc') (h9 : c0 < 9) (hk : k + 1 ≤ mc) (hn : n + zN c0 ≤ ms) (hl : Cond.classLink M.1.cls index (zRn c0) ∈ lw_tbl) (hi : Cond.instantiable (zRn c0) (zN c0) ∈ lw_tbl) (hn' : Cond.initialized (zRn c0) ∈ lw_tbl) (K : Z S X M d mc ms Q pc' lo (.ref (gD μ).length :: st) (aD μ c0 0) (k + 1) (n + zN c0)) : Z S X M d mc ms Q pc lo st μ k n := by
  subst hp
  intro p l e R s m args below meth c b bs G QF H locs ls C h1 h2 h3 h4
  have hK := C.2.2.2.2.2.1.1
  have hrm := C.2.2.2.2.2.2.2.2.1
  have hKn := hK.1 c0 _ (z_cl c0 h9)
  refine W.newcK C.1 C.2.1 C.2.2.2.1 (C.2.2.2.2.1 _ (lw_in hl rfl)) (C.2.2.2.2.1 _ (lw_in hi rfl)) (C.2.2.2.2.1 _ (lw_in hn' rfl)) rfl hd (by omega) (by omega) hKn.2.1 rfl fun H1 kC hkC e1 s1 o1 => ?_
  have hS : va_S (fun q => b ≤ q) s.heap H1 locs := ⟨Nat.le_trans h3.1 (by omega), fun q g1 g2 => (o1 q (Nat.lt_of_lt_of_le g1 h3.1)).trans (h3.2.1 q g1 g2), h3.2.2⟩
  have hR := zR_new (k0 := c0) (n0 := 0) h2 s1 o1 (by
    rw [zE_obj h9, ← h2.1]
    exact ⟨_, z_cl c0 h9, (u_born (zty c0) C.2.2.2.2.1 (z_in c0 h9) hKn hkC e1 (z_ty c0 h9)).to (fun j hj => zFs_new h9 hj (z_kinds c0 h9))⟩)
  have := K _ _ _ _ _ _ _ _ _ _ _ _ _ _ _ _ _ C (zSh_aD h1) hR hS h4
  rw [h2.1]
  exact this
end ZHeap
