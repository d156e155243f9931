/-! THE MACHINE OF PLACES: a memory of whole numbers over places 0, 1, .. ; place q of it is the cell b + q of the heap. -/
abbrev zMem : Type := List (Nat × Nat) × (Nat → Int → Int) × (Nat → Int → Int64) × (Nat → Int → Option Nat)
def gD (μ : zMem) : List (Nat × Nat) := μ.1
def gI (μ : zMem) : Nat → Int → Int := μ.2.1
def gL (μ : zMem) : Nat → Int → Int64 := μ.2.2.1
def gR (μ : zMem) : Nat → Int → Option Nat := μ.2.2.2
def zu {α : Type} (f : Nat → Int → α) (p : Nat) (i : Int) (v : α) : Nat → Int → α := fun q j => if q = p ∧ j = i then v else f q j
def zf {α : Type} (f : Nat → Int → α) (p : Nat) (g : Int → α) : Nat → Int → α := fun q => if q = p then g else f q
def sI (μ : zMem) (p : Nat) (i : Int) (v : Int) : zMem := (μ.1, zu μ.2.1 p i v, μ.2.2.1, μ.2.2.2)
def sL (μ : zMem) (p : Nat) (i : Int) (v : Int64) : zMem := (μ.1, μ.2.1, zu μ.2.2.1 p i v, μ.2.2.2)
def sR (μ : zMem) (p : Nat) (i : Int) (v : Option Nat) : zMem := (μ.1, μ.2.1, μ.2.2.1, zu μ.2.2.2 p i v)
/-- a new cell of kind k and length n, at the place behind the last -/
def aD (μ : zMem) (k n : Nat) : zMem := (μ.1 ++ [(k, n)], zf μ.2.1 μ.1.length (fun _ => 0), zf μ.2.2.1 μ.1.length (fun _ => 0), zf μ.2.2.2 μ.1.length (fun _ => none))
/-- n numbers of the row p, from i on, to the row q, from j on -/
def cI (μ : zMem) (p : Nat) (i : Int) (q : Nat) (j n : Int) : zMem := (μ.1, zf μ.2.1 q (fun x => if j ≤ x ∧ x < j + n then μ.2.1 p (i + (x - j)) else μ.2.1 q x), μ.2.2.1, μ.2.2.2)
def cL (μ : zMem) (p : Nat) (i : Int) (q : Nat) (j n : Int) : zMem := (μ.1, μ.2.1, zf μ.2.2.1 q (fun x => if j ≤ x ∧ x < j + n then μ.2.2.1 p (i + (x - j)) else μ.2.2.1 q x), μ.2.2.2)
def vi (z : Int) : Value := .int (Int32.ofInt z)
def zIn (z : Int) : Prop := -2147483648 ≤ z ∧ z < 2147483648
/-- places to addresses; a float stands for the law's script -/
def zt (b bs : Nat) : Value → Value
  | .ref q => .ref (b + q)
  | .float _ => .ref bs
  | v => v
def zty (c k : Nat) : FieldType := match c with
  | 0 => tyX0 k
  | 1 => tyX1 k
  | 2 => tyX2 k
  | 3 => tyX3 k
  | 4 => tyX4 k
  | 5 => tyX5 k
  | 6 => tyX6 k
  | 7 => tyX7 k
  | _ => tyX8 k
def zN (c : Nat) : Nat := match c with
  | 0 => 3
  | 1 => 4
  | 2 => 5
  | 3 => 7
  | 4 => 18
  | 5 => 5
  | 6 => 3
  | 7 => 7
  | _ => 20
def zRn (c : Nat) : String := match c with
  | 0 => RX0
  | 1 => RX1
  | 2 => RX2
  | 3 => RX3
  | 4 => RX4
  | 5 => RX5
  | 6 => RX6
  | 7 => RX7
  | _ => RX8
def zTn (c : Nat) : u_T := match c with
  | 0 => TX0
  | 1 => TX1
  | 2 => TX2
  | 3 => TX3
  | 4 => TX4
  | 5 => TX5
  | 6 => TX6
  | 7 => TX7
  | _ => TX8
theorem z9 {P : Nat → Prop} (h0 : P 0) (h1 : P 1) (h2 : P 2) (h3 : P 3) (h4 : P 4) (h5 : P 5) (h6 : P 6) (h7 : P 7) (h8 : P 8) : ∀ c, c < 9 → P c := by
  intro c h
  match c, h with
  | 0, _ => exact h0
  | 1, _ => exact h1
  | 2, _ => exact h2
  | 3, _ => exact h3
  | 4, _ => exact h4
  | 5, _ => exact h5
  | 6, _ => exact h6
  | 7, _ => exact h7
  | 8, _ => exact h8
  | c + 9, h => exact absurd h (by omega)
theorem z_cl : ∀ c, c < 9 → vwCl[c]? = some (zRn c, zTn c, zN c) := z9 rfl rfl rfl rfl rfl rfl rfl rfl rfl
theorem z_ty : ∀ c, c < 9 → ∀ k, k < zN c → parseFieldDescriptor (zTn c k).2.2.1 = some (zty c k) := z9 tyX0_ok tyX1_ok tyX2_ok tyX3_ok tyX4_ok tyX5_ok tyX6_ok tyX7_ok tyX8_ok
theorem z_nm : ∀ c, c < 9 → ∀ a, a < zN c → ∀ b, b < zN c → a ≠ b → (zTn c a).2.1 ≠ (zTn c b).2.1 := z9 nmX0 nmX1 nmX2 nmX3 nmX4 nmX5 nmX6 nmX7 nmX8
def zFv (b : Nat) (ty : FieldType) (fI : Int → Int) (fL : Int → Int64) (fR : Int → Option Nat) (k : Nat) : Value := match ty with
  | .int => vi (fI k)
  | .boolean => vi (fI k)
  | .long => .long (fL k)
  | _ => va_rf ((fR k).map (b + ·))
def zFs (b c : Nat) (fI : Int → Int) (fL : Int → Int64) (fR : Int → Option Nat) : List Value := (List.range (zN c)).map (fun k => zFv b (zty c k) fI fL fR k)
abbrev zG : Type := va_G × ClassId × ClassId × ClassId
def zE (G : zG) (b k n : Nat) (fI : Int → Int) (fL : Int → Int64) (fR : Int → Option Nat) : va_E :=
  if k = 9 then .inl (G.2.1, n, .inl (fun i => Int32.ofInt (fI i)))
  else if k = 10 then .inl (G.2.2.1, n, .inr (.inl (fun i => fL i)))
  else if k = 11 then .inl (G.2.2.2, n, .inr (.inr (.inr (.inr (fun i => (fR i).map (b + ·))))))
  else .inr (k, zFs b k fI fL fR)
/-- the words that stay good over calls; the others one by one -/
def lw_g : List Cond := lw_tbl.filter goodWord
theorem lw_in {w : Cond} (h : w ∈ lw_tbl) (g : goodWord w = true) : w ∈ lw_g := List.mem_filter.mpr ⟨h, g⟩
def lw_n : List Cond := [.methodLinkNest "PosterFitter$State" 11 ⟨"PosterFitter$Canvas", "<init>", "()V"⟩ "PosterFitter", .methodLinkNest "PosterFitter" 33 ⟨"PosterFitter$TextReader", "<init>", "()V"⟩ "PosterFitter", .methodLinkNest "PosterFitter" 40 ⟨"PosterFitter$Search", "<init>", "()V"⟩ "PosterFitter", .methodLinkNest "PosterFitter$Search" 11 ⟨"PosterFitter$Bands", "<init>", "()V"⟩ "PosterFitter", .methodLinkNest "PosterFitter$Search" 20 ⟨"PosterFitter$Measures", "<init>", "()V"⟩ "PosterFitter", .methodLinkNest "PosterFitter$Canvas" 36 ⟨"PosterFitter", "isBox", "(IIII)Z"⟩ "PosterFitter", .methodLinkNest "PosterFitter$TextReader" 42 ⟨"PosterFitter", "isIn", "(III)Z"⟩ "PosterFitter"]
def zNw (U : State) : Prop := (∀ w ∈ lw_n, va_Nw w U) ∧ va_AO RX5 U
def zK (G : zG) (U : State) : Prop := va_K G.1 vwCl [(G.2.1, .int), (G.2.2.1, .long), (G.2.2.2, .object RX5)] U ∧ zNw U
def zR (G : zG) (b : Nat) (μ : zMem) (H : Heap) : Prop := H.size = b + μ.1.length ∧ ∀ (p k n : Nat), μ.1[p]? = some (k, n) → va_at G.1 vwCl (b + p, zE G b k n (gI μ p) (gL μ p) (gR μ p)) H
/-- what stands: references of final fields, and kinds and lengths of the first places -/
abbrev zS : Type := (Nat → Nat → Option Nat) × List (Nat × Nat)
def zSh (S : zS) (μ : zMem) : Prop := (∀ (p k q : Nat), S.1 p k = some q → p < μ.1.length ∧ gR μ p k = some q) ∧ ∀ (p : Nat) (x : Nat × Nat), S.2[p]? = some x → μ.1[p]? = some x
/-- a place's kind and length are known -/
def zH (S : zS) (μ : zMem) (p k n : Nat) : Prop := S.2[p]? = some (k, n) ∨ μ.1[p]? = some (k, n)
theorem zH.at {S : zS} {μ : zMem} {p k n : Nat} (h : zH S μ p k n) (hs : zSh S μ) : μ.1[p]? = some (k, n) := h.elim (hs.2 p _) id
/-- a method: its name, code, locals, answer -/
abbrev zMt : Type := MethodName × ByteArray × Nat × Option FieldType
def zroom (d mc ms : Nat) : Room := { frames := d, cells := mc, slots := ms, locals := 64 * d }
def zL (b bs : Nat) (ls : Array Slot) (nL : Nat) (lo : List (Option Value)) : Prop := ls.size = nL ∧ lv_wf ls ∧ ∀ (i : Nat) (v : Value), lo[i]? = some (some v) → ls[i]? = some (.val (zt b bs v))
/-- which instruction answers what -/
def zOp (ret : Option FieldType) (v : Option Value) (op : Instr) : Prop :=
  (ret = none ∧ v = none ∧ op = .return_) ∨ (∃ z, ret = some .int ∧ v = some (vi z) ∧ op = .ireturn) ∨ (∃ z, ret = some .boolean ∧ (z = 0 ∨ z = 1) ∧ v = some (vi z) ∧ op = .ireturn) ∨
  (∃ z, ret = some .long ∧ v = some (.long z) ∧ op = .lreturn) ∨ (∃ C q, ret = some (.object C) ∧ v = some (.ref q) ∧ op = .areturn)
abbrev zX : Type := Option (Nat × (Nat → Int32))
def zCx (S : zS) (X : zX) (M : zMt) (d mc ms : Nat) (Q : Option Value → zMem → Prop) (p : Program) (l : Launch) (e : Env) (R : Room) (s : State) (m : MethodId) (args : Array Value) (below : List Frame) (meth : Method) (c : Code) (b bs : Nat) (G : zG) (QF : State → Prop) : Prop :=
  p.tables.exec = Jvm.exec ∧ c.code = M.2.1 ∧ c.maxLocals = M.2.2.1 ∧ s.vm.findClass M.1.cls = some m.cls ∧ (∀ w ∈ lw_g, w.before args s = true) ∧ zK G s ∧ (M.1.name = "<init>" → meth.name = "<init>") ∧ b ≤ s.heap.size ∧
  (d ≤ R.frames ∧ 64 * d ≤ R.locals ∧ mc ≤ R.cells ∧ ms ≤ R.slots) ∧ (∀ L f, X = some (L, f) → va_X bs L f s s.heap ∧ bs < s.heap.size ∧ bs < b) ∧
  (∀ (v : Option Value) (μ : zMem) (H : Heap) (locs : List Loc) (ls : Array Slot) (pc : Nat) (op : Instr), decode M.2.1 pc = .ok (op, 1) → zOp M.2.2.2 v op → zSh S μ → zR G b μ H → va_S (fun q => b ≤ q) s.heap H locs → Q v μ → W p l e R s m args below meth c H locs mc ms QF (F0 m pc ls (v.toList.map (zt b bs))))
/-- the machine at pc, with these locals, stack and memory, comes to an answer and a memory with Q -/
def Z (S : zS) (X : zX) (M : zMt) (d mc ms : Nat) (Q : Option Value → zMem → Prop) (pc : Nat) (lo : List (Option Value)) (st : List Value) (μ : zMem) (k n : Nat) : Prop :=
  ∀ (p : Program) (l : Launch) (e : Env) (R : Room) (s : State) (m : MethodId) (args : Array Value) (below : List Frame) (meth : Method) (c : Code) (b bs : Nat) (G : zG) (QF : State → Prop) (H : Heap) (locs : List Loc) (ls : Array Slot),
    zCx S X M d mc ms Q p l e R s m args below meth c b bs G QF → zSh S μ → zR G b μ H → va_S (fun q => b ≤ q) s.heap H locs → zL b bs ls M.2.2.1 lo →
    W p l e R s m args below meth c H locs k n QF (F0 m pc ls (st.map (zt b bs)))
/-- the method, called with these values over this memory, comes to an answer and a memory with Q -/
def Cl (S : zS) (M : zMt) (d mc ms : Nat) (as : List Value) (μ : zMem) (Q : Option Value → zMem → Prop) : Prop :=
  ∀ (l : Launch) (b bs : Nat) (G : zG), Met l M.1 (.code M.1 M.2.1 M.2.2.1 M.2.2.2 :: lw_g) (zroom d mc ms) (va_Pc (as.map (zt b bs)) (fun U => zR G b μ U.heap ∧ zK G U ∧ zSh S μ))
    (fun _ st o t => (∃ (v : Option Value) (μ' : zMem), o = .returned (v.map (zt b bs)) ∧ Q v μ' ∧ zSh S μ' ∧ zR G b μ' t.heap) ∧ va_F (fun q => b ≤ q) st t) mc ms (fun q => b ≤ q)
def qI (Q : Int → zMem → Prop) : Option Value → zMem → Prop := fun v μ => ∃ r, v = some (vi r) ∧ Q r μ
def qL (Q : Int64 → zMem → Prop) : Option Value → zMem → Prop := fun v μ => ∃ r, v = some (.long r) ∧ Q r μ
def qR (Q : Nat → zMem → Prop) : Option Value → zMem → Prop := fun v μ => ∃ r, v = some (.ref r) ∧ Q r μ
def qV (Q : zMem → Prop) : Option Value → zMem → Prop := fun v μ => v = none ∧ Q μ
/-! numbers -/
theorem z_toInt {z : Int} (h : zIn z) : (Int32.ofInt z).toInt = z := Int32.toInt_ofInt_of_le (by have := h.1; omega) (by have := h.2; omega)
theorem z_lt {a b : Int} (ha : zIn a) (hb : zIn b) : Int32.ofInt a < Int32.ofInt b ↔ a < b := by rw [Int32.lt_iff_toInt_lt, z_toInt ha, z_toInt hb]
theorem z_le {a b : Int} (ha : zIn a) (hb : zIn b) : Int32.ofInt a ≤ Int32.ofInt b ↔ a ≤ b := by rw [Int32.le_iff_toInt_le, z_toInt ha, z_toInt hb]
theorem z_eq {a b : Int} (ha : zIn a) (hb : zIn b) : Int32.ofInt a = Int32.ofInt b ↔ a = b := by rw [← Int32.toInt_inj, z_toInt ha, z_toInt hb]
theorem z_in0 : zIn 0 := by unfold zIn; omega
theorem z_ofInt_toInt (x : Int32) : Value.int x = vi x.toInt := by unfold vi; rw [Int32.ofInt_toInt]
theorem z_in_toInt (x : Int32) : zIn x.toInt := ⟨by have := Int32.le_toInt x; omega, by have := Int32.toInt_lt x; omega⟩
theorem z_clamp {i : Int} (h : zIn i) (h0 : 0 ≤ i) : (Int32.ofInt i).toNatClampNeg = i.toNat := by
  show (Int32.ofInt i).toInt.toNat = i.toNat
  rw [z_toInt h]
theorem z_vp {i : Int} {n : Nat} (h : zIn i) (h0 : 0 ≤ i) (h1 : i < n) : vp_in (Int32.ofInt i) n := by
  rw [vp_in_iff, z_toInt h]
  exact ⟨h0, h1⟩
theorem zt_rf (b bs : Nat) (o : Option Nat) : zt b bs (va_rf o) = va_rf (o.map (b + ·)) := by cases o <;> rfl
theorem zt_cat (b bs : Nat) (v : Value) : (zt b bs v).category = v.category := by cases v <;> rfl
