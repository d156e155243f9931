/-! finds: the codes from the greatest down -/
theorem lW_nn (s : Int → Int) (hw : wf s) {b first k : Int} (b0 : 1 ≤ b) (b1 : b ≤ 12) (f0 : 0 ≤ first) (k1 : k ≤ s 31) : 0 ≤ lW s b first k := by
  by_cases h : first ≤ k
  · have := LW_bd hw b0 b1 f0 (k - first).toNat (by omega)
    unfold lW
    omega
  · unfold lW
    rw [show (k - first).toNat = 0 by omega]
    exact Int.le_refl _
theorem lS_sq (s : Int → Int) (hw : wf s) {b first k row : Int} (b0 : 1 ≤ b) (b1 : b ≤ 12) (f0 : 0 ≤ first) (k1 : k ≤ s 31) (h : 0 ≤ lS s b first k row) : 0 ≤ lS s b first k row * lS s b first k row ∧ lS s b first k row * lS s b first k row ≤ 2304 ∧ lS s b first k row ≤ 48 := by
  have h1 := lW_nn s hw b0 b1 f0 k1
  have h2 := SL_bd s row (lH s b first k)
  have h3 : lS s b first k row ≤ 48 := by
    unfold lS
    omega
  have := imul_bd h h3 h h3
  omega
theorem evc_bd {s : Int → Int} {b : Int} {c : Nat} (hw : wf s) (b0 : 1 ≤ b) (b1 : b ≤ 12) : ∀ (r : Nat) (first row pf : Int) (C U : Int → Int) (v : Int) (es : List Int), (r : Int) + 1 ≤ s 31 → 0 ≤ first → evc s b c r first row pf C U = some (v, es) → 0 ≤ v ∧ v ≤ 2304 * (r + 1)
  | 0, first, row, pf, C, U, v, es, _, f0, h => by
    unfold evc at h
    by_cases ho : okL s b first (s 31) row pf C U = true
    · rw [if_pos ho] at h
      have h1 := lS_sq s hw b0 b1 f0 (Int.le_refl _) (okL_iff.mp ho).1.2
      injection h with h
      injection h with ha hb
      omega
    · rw [if_neg ho] at h
      cases h
  | r + 1, first, row, pf, C, U, v, es, hr, f0, h => by
    rw [evc_s] at h
    by_cases hb : c.testBit r = true
    · rw [if_pos hb] at h
      by_cases ho : okL s b first (s 31 - (r + 1)) row pf C U = true
      · rw [if_pos ho] at h
        have h1 := lS_sq s hw b0 b1 f0 (by omega) (okL_iff.mp ho).1.2
        cases he : evc s b c r (s 31 - (r + 1)) (row + (lH s b first (s 31 - (r + 1)) + s 79)) first (lC s b first (s 31 - (r + 1)) row C) (lU s b (lC s b first (s 31 - (r + 1)) row C) U pf first) with
        | none => rw [he] at h; cases h
        | some e =>
          obtain ⟨v', es'⟩ := e
          have ih := evc_bd hw b0 b1 r _ _ _ _ _ v' es' (by omega) (by omega) he
          rw [he] at h
          injection h with h
          injection h with ha hb
          dsimp only at ha
          omega
      · rw [if_neg ho] at h
        cases h
    · rw [if_neg hb] at h
      by_cases hm : s (32 + 3 * (s 31 - (r + 1)) + 2) = 0
      · rw [if_pos hm] at h
        have ih := evc_bd hw b0 b1 r _ _ _ _ _ v es (by omega) f0 h
        omega
      · rw [if_neg hm] at h
        cases h
theorem dn_skip {α : Type} {f : Nat → Option α} {a : Nat} : ∀ n : Nat, a ≤ n → (∀ x, a ≤ x → x < n → f x = none) → (dn n).filterMap f = (dn a).filterMap f
  | 0, h, _ => by
    have : a = 0 := by omega
    rw [this]
  | n + 1, h, hx => by
    by_cases e : a = n + 1
    · rw [e]
    · rw [show dn (n + 1) = n :: dn n from rfl, List.filterMap_cons, hx n (by omega) (by omega)]
      exact dn_skip n (by omega) (fun x p q => hx x p (by omega))
def bstep (o : Option (Int × List Int)) (e : Int × List Int) : Option (Int × List Int) := match o with | none => some e | some e0 => if e.1 < e0.1 then some e else some e0
def bestOf (L : List (Int × List Int)) : Option (Int × List Int) := L.foldl bstep none
theorem foldl_some (L : List (Int × List Int)) : ∀ e, ∃ e', L.foldl bstep (some e) = some e' := by
  induction L with
  | nil => intro e; exact ⟨e, rfl⟩
  | cons x L ih =>
    intro e
    rw [List.foldl_cons]
    unfold bstep
    dsimp only
    by_cases h : x.1 < e.1
    · rw [if_pos h]
      exact ih x
    · rw [if_neg h]
      exact ih e
theorem bestOf_none {L : List (Int × List Int)} : bestOf L = none ↔ L = [] := by
  cases L with
  | nil => exact ⟨fun _ => rfl, fun _ => rfl⟩
  | cons x L =>
    constructor
    · intro h
      obtain ⟨e', he⟩ := foldl_some L x
      have : bestOf (x :: L) = some e' := he
      rw [this] at h
      cases h
    · intro h
      cases h
def CLs (s : Int → Int) (b : Int) : List (Int × List Int) := if isL s b = true then comp s b (s 31 - 1).toNat 0 (s 78) 0 c0 c0 else []
def fsp (μ μ' : zMem) : Prop := msc μ μ' ∧ gI μ' 56 = gI μ 56 ∧ gI μ' 57 = gI μ 57
theorem fsp.rf {μ : zMem} : fsp μ μ := ⟨msc.rf, rfl, rfl⟩
theorem fsp.tr {μ μ' μ'' : zMem} (h : fsp μ μ') (h' : fsp μ' μ'') : fsp μ μ'' := ⟨h.1.tr h'.1, h'.2.1.trans h.2.1, h'.2.2.trans h.2.2⟩
theorem frl.fsp {μ μ' : zMem} (h : frl μ μ') : fsp μ μ' := ⟨h.msc, h.2.2.1 56 (by omega) (by omega) (by omega) (by omega), h.2.2.1 57 (by omega) (by omega) (by omega) (by omega)⟩
theorem fsp.sp {μ μ' : zMem} {s : Int → Int} (h : fsp μ μ') (hs : spOK s μ) : spOK s μ' := fun row rows a b c => by
  rw [h.2.1, h.2.2]
  exact hs row rows a b c
theorem fsp.sI {μ μ' : zMem} {i v : Int} (h : fsp μ μ') (hi : i ≠ 1) (hi' : i ≠ 15) : fsp μ (sI μ' 54 i v) := ⟨⟨h.1.1.sI (by omega), by rw [gI_sIn (by decide)]; exact h.1.2.1, by rw [gI_sIn (by decide)]; exact h.1.2.2.1, by rw [gI_sIo (fun q => hi q.symm)]; exact h.1.2.2.2.1, by rw [gI_sIo (fun q => hi' q.symm)]; exact h.1.2.2.2.2⟩, by rw [gI_sIn (by decide)]; exact h.2.1, by rw [gI_sIn (by decide)]; exact h.2.2⟩
theorem shl1 : ∀ j : Nat, j < 14 → Int32.ofInt 1 <<< (Int32.ofInt (j : Int) &&& 31) = Int32.ofInt ((2 ^ j : Nat) : Int) := by decide +kernel
theorem negp : ∀ j : Nat, j < 14 → (Int32.ofInt (-((2 ^ j : Nat) : Int))).toBitVec = BitVec.allOnes 32 <<< j := by decide +kernel
theorem and_neg {c j : Nat} (hj : j < 14) : Int32.ofInt (c : Int) &&& Int32.ofInt (-((2 ^ j : Nat) : Int)) = Int32.ofInt (((c >>> j) <<< j : Nat) : Int) := by
  apply Int32.toBitVec.inj
  rw [Int32.toBitVec_and, negp j hj]
  have e : ∀ n : Nat, (Int32.ofInt (n : Int)).toBitVec = BitVec.ofNat 32 n := fun n => by
    rw [show (Int32.ofInt (n : Int)).toBitVec = BitVec.ofInt 32 (n : Int) from rfl, BitVec.ofInt_natCast]
  rw [e, e]
  apply BitVec.eq_of_getLsbD_eq
  intro i hi
  rw [BitVec.getLsbD_and, BitVec.getLsbD_ofNat, BitVec.getLsbD_shiftLeft, BitVec.getLsbD_ofNat, Nat.testBit_shiftLeft, Nat.testBit_shiftRight, BitVec.getLsbD_allOnes]
  by_cases h : j ≤ i
  · have e1 : j + (i - j) = i := by omega
    have e2 : i - j < 32 := by omega
    simp [h, hi, e1, e2]
  · have : i < j := by omega
    simp [h, this]
theorem hi_bits {c c' j : Nat} (h1 : (c >>> j) <<< j ≤ c') (h2 : c' ≤ c) : ∀ i : Nat, j ≤ i → c'.testBit i = c.testBit i := by
  intro i hi
  rw [Nat.shiftLeft_eq, Nat.shiftRight_eq_div_pow] at h1
  have e : c' >>> j = c >>> j := by
    rw [Nat.shiftRight_eq_div_pow, Nat.shiftRight_eq_div_pow]
    apply Nat.le_antisymm
    · exact Nat.div_le_div_right h2
    · exact (Nat.le_div_iff_mul_le (Nat.two_pow_pos j)).mpr h1
  have e1 : c'.testBit i = (c' >>> j).testBit (i - j) := by rw [Nat.testBit_shiftRight, show j + (i - j) = i by omega]
  have e2 : c.testBit i = (c >>> j).testBit (i - j) := by rw [Nat.testBit_shiftRight, show j + (i - j) = i by omega]
  rw [e1, e2, e]
/-- the best so far, in the model's memory -/
def bsm (s : Int → Int) (b : Int) (r : Nat) (o : Option (Int × List Int)) (x : Int) (μ : zMem) : Prop := match o with | none => x = -1 | some e => x = e.1 ∧ ∃ bc : Nat, gI μ 54 13 = bc ∧ bc < 2 ^ 13 ∧ evc s b bc r 0 (s 78) 0 c0 c0 = some e
theorem pX8_finds {d : Nat} {Q : Int → zMem → Prop} {μ : zMem} {s : Int → Int} {b : Int} (hr : rowIs μ s) (hw : wf s) (hsp : spOK s μ) (b0 : 1 ≤ b) (b1 : b ≤ 12) (n0 : 0 < s 31)
    (hQ : ∀ (x : Int) (μ' : zMem), fsp μ μ' → gI μ' 54 12 = ((CLs s b).length : Int) → bsm s b (s 31 - 1).toNat (bestOf (CLs s b)) x μ' → zIn x → (x = -1 ↔ CLs s b = []) → Q x μ') : kX8_finds (d + 5) b μ Q := by
  have hn := hw.2.2.1
  generalize hrr : (s 31 - 1).toNat = r at hQ
  have r13 : r ≤ 13 := by omega
  have p13 : 2 ^ r ≤ 2 ^ 13 := Nat.pow_le_pow_right (by omega) r13
  have key : ∀ (L : List (Int × List Int)) (x : Int) (μ' : zMem), CLs s b = L → fsp μ μ' → gI μ' 54 12 = (L.length : Int) → bsm s b r (bestOf L) x μ' → Q x μ' := by
    intro L x μ' hL h1 h2 h3
    have hx : zIn x ∧ (x = -1 ↔ L = []) := by
      cases ho : bestOf L with
      | none =>
        rw [ho] at h3
        have h3' : x = -1 := h3
        exact ⟨by rw [h3']; exact zi _, fun _ => bestOf_none.mp ho, fun _ => h3'⟩
      | some e =>
        rw [ho] at h3
        obtain ⟨h4, bc, h5, h6, h7⟩ := h3
        have h8 := evc_bd (v := e.1) (es := e.2) hw b0 b1 r 0 (s 78) 0 c0 c0 (by omega) (by omega) h7
        refine ⟨zi _, fun h => by omega, fun h => ?_⟩
        rw [bestOf_none.mpr h] at ho
        cases ho
    exact hQ x μ' h1 (by rw [hL]; exact h2) (by rw [hL]; exact h3) hx.1 (by rw [hL]; exact hx.2)
  have loop : ∀ (n : Nat), n ≤ 2 ^ r → ∀ (o : Option (Int × List Int)) (m : Nat) (x : Int) (ξ : zMem), fsp μ ξ → gI ξ 54 12 = (m : Int) → bsm s b r o x ξ → (∀ (x' : Int) (μ' : zMem), fsp μ μ' → gI μ' 54 12 = ((m + ((dn n).filterMap (fun c => evc s b c r 0 (s 78) 0 c0 c0)).length : Nat) : Int) → bsm s b r (((dn n).filterMap (fun c => evc s b c r 0 (s 78) 0 c0 c0)).foldl bstep o) x' μ' → Q x' μ') → zX8_finds_33 (d + 4) Q b x 1 ((n : Int) - 1) ξ := by
    intro n
    induction n using Nat.strongRecOn with
    | ind n ih =>
      intro hn2 o m x ξ h1 h2 h3 hfin
      cases n with
      | zero =>
        refine bX8_finds_33 ⟨zi _, fun _ => ?_, fun h => absurd (by omega) h⟩
        exact hfin x ξ h1 (by simp [dn]; exact h2) h3
      | succ c =>
        have ec : ((c + 1 : Nat) : Int) - 1 = (c : Int) := by omega
        rw [ec]
        have cl : c < 2 ^ 13 := by omega
        have cz : c < 8192 := by simpa using cl
        refine bX8_finds_33 ⟨zi _, fun h => absurd h (by omega), fun _ => ⟨zi _, fun h => absurd h (by decide), fun _ => ?_⟩⟩
        have hrx := h1.1.row hr
        have xz : zIn x := by
          cases o with
          | none =>
            have : x = -1 := h3
            rw [this]
            exact zi _
          | some e =>
            obtain ⟨h4, bc, h5, h6, h7⟩ := h3
            have h8 := evc_bd (v := e.1) (es := e.2) hw b0 b1 r 0 (s 78) 0 c0 c0 (by omega) (by omega) h7
            exact zi _
        refine pX8_lays (r := r) hrx hw (h1.sp hsp) b0 b1 cl (by omega) (fun hnone μ' f g1 g2 g3 g4 g5 => ?_) (fun v es hsome μ' g1 g2 => ?_)
        · have g12 : gI μ' 54 12 = m := by rw [g1.2.2.2 12 (by decide) (by decide) (by decide)]; exact h2
          have g13 : gI μ' 54 13 = gI ξ 54 13 := g1.2.2.2 13 (by decide) (by decide) (by decide)
          refine ⟨zi _, zi _, fun _ => ?_, fun h => absurd rfl h⟩
          rw [if_pos rfl, Int.add_zero]
          rw [show gI (sI μ' 54 12 (gI μ' 54 12)) 54 11 = f by rw [gI_sIo (by decide)]; exact g2]
          have r31 : gI (sI μ' 54 12 (gI μ' 54 12)) 55 31 = s 31 := by
            rw [gI_sIn (by decide)]
            exact (h1.tr g1.fsp).1.row hr 31 (by omega) (by omega)
          rw [r31]
          have nxt : ∀ a : Nat, a ≤ c → (∀ y, a ≤ y → y < c + 1 → evc s b y r 0 (s 78) 0 c0 c0 = none) → zX8_finds_116 (d + 4) Q b x 1 (-1) a (sI μ' 54 12 (gI μ' 54 12)) := by
            intro a ha hnn
            refine bX8_finds_116 ⟨zi _, fun _ => ?_, fun h => absurd rfl h⟩
            refine ih a (by omega) (by omega) o m x _ ((h1.tr g1.fsp).sI (by decide) (by decide)) (by rw [gI_sIs]; exact g12) ?_ ?_
            · cases o with
              | none => exact h3
              | some e =>
                obtain ⟨h4, bc, h5, h6, h7⟩ := h3
                exact ⟨h4, bc, by rw [gI_sIo (by decide), g13]; exact h5, h6, h7⟩
            · rw [← dn_skip (f := fun c => evc s b c r 0 (s 78) 0 c0 c0) (c + 1) (by omega) hnn]
              exact hfin
          refine ⟨zi _, zi _, fun hf => nxt c (Nat.le_refl _) (fun y a e => by rw [show y = c by omega]; exact hnone), fun hf => ?_⟩
          obtain ⟨j, hj⟩ : ∃ j : Nat, s 31 - 1 - f = j := ⟨(s 31 - 1 - f).toNat, by omega⟩
          have hsh : (c >>> j) <<< j ≤ c := by
            rw [Nat.shiftLeft_eq, Nat.shiftRight_eq_div_pow]
            exact Nat.div_mul_le_self c (2 ^ j)
          refine ⟨((2 ^ j : Nat) : Int), by rw [hj]; exact shl1 j (by omega), (((c >>> j) <<< j : Nat) : Int), and_neg (by omega), ?_⟩
          refine nxt _ hsh (fun y a e => g5 y (fun i hi => hi_bits a (by omega) i (by omega)))
        · have hv := evc_bd hw b0 b1 r 0 (s 78) 0 c0 c0 v es (by omega) (by omega) hsome
          have g12 : gI μ' 54 12 = m := by rw [g1.2.2.2 12 (by decide) (by decide) (by decide)]; exact h2
          have g13 : gI μ' 54 13 = gI ξ 54 13 := g1.2.2.2 13 (by decide) (by decide) (by decide)
          refine ⟨zi _, zi _, fun h => absurd h (by omega), fun _ => ?_⟩
          rw [if_neg (by omega)]
          have lst : (dn (c + 1)).filterMap (fun c => evc s b c r 0 (s 78) 0 c0 c0) = (v, es) :: (dn c).filterMap (fun c => evc s b c r 0 (s 78) 0 c0 c0) := by
            rw [show dn (c + 1) = c :: dn c from rfl, List.filterMap_cons, hsome]
          rw [lst] at hfin
          have fr := (h1.tr g1.fsp).sI (i := 12) (v := gI μ' 54 12 + 1) (by decide) (by decide)
          have m12 : gI (sI μ' 54 12 (gI μ' 54 12 + 1)) 54 12 = ((m + 1 : Nat) : Int) := by
            rw [gI_sIs, g12]
            omega
          have fin2 : ∀ (o' : Option (Int × List Int)) (x' : Int) (ζ : zMem), bstep o (v, es) = o' → fsp μ ζ → gI ζ 54 12 = ((m + 1 : Nat) : Int) → bsm s b r o' x' ζ → zX8_finds_33 (d + 4) Q b x' 1 ((c : Int) + -1) ζ := by
            intro o' x' ζ hb q1 q2 q3
            refine ih c (by omega) (by omega) o' (m + 1) x' ζ q1 q2 q3 (fun x'' μ'' w1 w2 w3 => hfin x'' μ'' w1 ?_ ?_)
            · rw [w2, List.length_cons]
              omega
            · rw [List.foldl_cons, hb]
              exact w3
          refine bX8_finds_116 ⟨zi _, fun h => absurd h (by omega), fun _ => ⟨xz, fun hx => ?_, fun hx => ?_⟩⟩
          · refine fin2 (some (v, es)) v _ ?_ (fr.sI (by decide) (by decide)) (by rw [gI_sIo (by decide)]; exact m12) ⟨rfl, c, gI_sIs, cl, hsome⟩
            cases o with
            | none => rfl
            | some e =>
              obtain ⟨h4, bc, h5, h6, h7⟩ := h3
              have h8 := evc_bd (v := e.1) (es := e.2) hw b0 b1 r 0 (s 78) 0 c0 c0 (by omega) (by omega) h7
              omega
          · cases o with
            | none => exact absurd h3 hx
            | some e =>
              obtain ⟨h4, bc, h5, h6, h7⟩ := h3
              refine ⟨fun hle => ?_, fun hle => ?_⟩
              · refine fin2 (some e) x _ ?_ fr m12 ⟨h4, bc, by rw [gI_sIo (by decide), g13]; exact h5, h6, h7⟩
                unfold bstep
                dsimp only
                rw [if_neg (by omega)]
              · refine fin2 (some (v, es)) v _ ?_ (fr.sI (by decide) (by decide)) (by rw [gI_sIo (by decide)]; exact m12) ⟨rfl, c, gI_sIs, cl, hsome⟩
                unfold bstep
                dsimp only
                rw [if_pos (by omega)]
  refine bX8_finds ?_
  have g1 : fsp μ (sI (sI μ 54 12 0) 54 13 (-1)) := (fsp.rf.sI (by decide) (by decide)).sI (by decide) (by decide)
  have hr1 := g1.1.row hr
  refine pX8_isLeast hr1 hw b0 b1 ?_
  rw [hr1 31 (by omega) (by omega)]
  have er : s 31 - 1 = (r : Int) := by omega
  refine ⟨((2 ^ r : Nat) : Int), by rw [er]; exact shl1 r (by omega), ?_⟩
  have hpos : 0 < 2 ^ r := Nat.two_pow_pos r
  by_cases hl : isL s b = true
  · rw [b2_1.mpr hl]
    have hC : CLs s b = (dn (2 ^ r)).filterMap (fun c => evc s b c r 0 (s 78) 0 c0 c0) := by
      unfold CLs
      rw [if_pos hl, hrr]
      exact comp_codes s b r 0 (s 78) 0 c0 c0
    refine loop (2 ^ r) (Nat.le_refl _) none 0 (-1) _ g1 (by rw [gI_sIo (by decide), gI_sIs]; rfl) rfl (fun x' μ' w1 w2 w3 => key _ x' μ' hC w1 (by rw [w2, Nat.zero_add]) w3)
  · rw [b2_0.mpr hl]
    have hC : CLs s b = [] := by
      unfold CLs
      rw [if_neg hl]
    have hlt : 2 ^ r < 2147483648 := by
      have : (2 : Nat) ^ 13 = 8192 := by decide
      omega
    have h0 : ((2 ^ r : Nat) : Int) - 1 < 2147483648 ∧ 0 ≤ ((2 ^ r : Nat) : Int) - 1 := by omega
    refine bX8_finds_33 ⟨zi _ (by omega), fun h => absurd h (by omega), fun _ => ⟨zi _, fun _ => ?_, fun h => absurd rfl h⟩⟩
    exact key [] (-1) _ hC g1 (by rw [gI_sIo (by decide), gI_sIs]; rfl) rfl
