/-! calls -/
theorem zNw.same {u U : State} (h : u.vm = U.vm) (hZ : zNw u) : zNw U := ⟨fun w hw => va_Nw.same (by revert w; decide +kernel) h (hZ.1 w hw), va_AO.moved (by rw [h]; exact Vm.Alike.refl U.vm) hZ.2⟩
theorem zNw.warm {s U : State} (hW : s.WarmedH U.vm) (hZ : zNw s) : zNw U := by
  refine ⟨fun w hw => ?_, va_AO.moved hW.alike hZ.2⟩
  have h1 := hZ.1 w hw
  simp only [lw_n, List.mem_cons, List.not_mem_nil, or_false] at hw
  rcases hw with rfl | rfl | rfl | rfl | rfl | rfl | rfl <;> exact va_Nw.warmM hW h1
theorem zK.warm {G : zG} {s U : State} (hW : s.WarmedH U.vm) (h : zK G s) : zK G U := ⟨va_K.moved hW.alike h.1, h.2.warm hW⟩
theorem zK.calling {G : zG} {U : State} (g : JFrame) (mk : MethodId) (a : Array Value) (h : zK G U) : zK G (U.calling g mk a) := ⟨va_K.moved (u := U) (U := U.calling g mk a) (Vm.Alike.refl U.vm) h.1, zNw.same (u := U) (U := U.calling g mk a) rfl h.2⟩
/-- what a caller needs of a method -/
def zVi (M' : zMt) (c0 na : Nat) : Prop := c0 < 9 ∧ M'.1.cls = zRn c0 ∧ M'.2.2.1 ≤ 45 ∧ Cond.instanceMethod M'.1 ∈ lw_tbl ∧ Cond.selects M'.1.cls M'.1 M'.1 ∈ lw_tbl ∧ Cond.initialized M'.1.cls ∈ lw_tbl ∧ Cond.code M'.1 M'.2.1 M'.2.2.1 M'.2.2.2 ∈ lw_tbl ∧
  (M'.1.cls ≠ "java/lang/invoke/MethodHandle" ∧ M'.1.cls ≠ "java/lang/invoke/VarHandle" ∧ (parseMethodDescriptor M'.1.desc).map (fun d => d.parameters.length) = some na)
def zSt (M' : zMt) (na : Nat) : Prop := M'.2.2.1 ≤ 45 ∧ Cond.static M'.1 ∈ lw_tbl ∧ Cond.initialized M'.1.cls ∈ lw_tbl ∧ Cond.code M'.1 M'.2.1 M'.2.2.1 M'.2.2.2 ∈ lw_tbl ∧
  (M'.1.cls ≠ "java/lang/invoke/MethodHandle" ∧ M'.1.cls ≠ "java/lang/invoke/VarHandle" ∧ (parseMethodDescriptor M'.1.desc).map (fun d => d.parameters.length) = some na)
def zIi (M' : zMt) (na : Nat) : Prop := M'.1.name = "<init>" ∧ M'.2.2.2 = none ∧ M'.2.2.1 ≤ 45 ∧ Cond.instanceMethod M'.1 ∈ lw_tbl ∧ Cond.initialized M'.1.cls ∈ lw_tbl ∧ Cond.code M'.1 M'.2.1 M'.2.2.1 M'.2.2.2 ∈ lw_tbl ∧
  (M'.1.cls ≠ "java/lang/invoke/MethodHandle" ∧ M'.1.cls ≠ "java/lang/invoke/VarHandle" ∧ (parseMethodDescriptor M'.1.desc).map (fun d => d.parameters.length) = some na)
section ZCalls
variable {S : zS} {X : zX} {M : zMt} {d mc ms : Nat} {Q : Option Value → zMem → Prop} {pc pc' tgt : Nat} {lo lo' : List (Option Value)} {st st0 : List Value} {μ : zMem} {k n : Nat}
/-- behind a call -/
theorem z_after {p : Program} {l : Launch} {e : Env} {R : Room} {s : State} {m : MethodId} {args : Array Value} {below : List Frame} {meth : Method} {c : Code} {b bs : Nat} {G : zG} {QF : State → Prop} {H : Heap} {locs : List Loc} {ls : Array Slot} {mc' ms' : Nat} {st1 : List Value}
    (hrun : va_Run p l e R s m args below meth c H locs k n mc' ms' (F0 m pc ls st1) (st.map (zt b bs)) (fun s0 o t => (∃ (v : Option Value) (μ' : zMem), o = .returned (v.map (zt b bs)) ∧ Z S X M (d + 1) mc ms Q (pc + 3) lo (v.toList ++ st) μ' (k + mc') (n + ms') ∧ zSh S μ' ∧ zR G b μ' t.heap) ∧ va_F (fun q => b ≤ q) s0 t) (fun q => b ≤ q))
    (C : zCx S X M (d + 1) mc ms Q p l e R s m args below meth c b bs G QF) (h3 : va_S (fun q => b ≤ q) s.heap H locs) (h4 : zL b bs ls M.2.2.1 lo) : W p l e R s m args below meth c H locs k n QF (F0 m pc ls st1) := by
  intro T hT XS
  obtain ⟨v, st₀, t, T', L, g0, X', hL, e1, e2, ⟨⟨v', μ', hv, hZ, hsh, hR⟩, hz, hk⟩, stp⟩ := hrun T hT XS
  have hv : v = v'.map (zt b bs) := by injection hv
  subst hv
  rw [g0] at hz hk
  have hS : va_S (fun q => b ≤ q) s.heap T'.heap (locs ++ L) := ⟨Nat.le_trans h3.1 (by rw [e1]; exact hz), fun q q1 q2 => by rw [e1, hk q (Nat.lt_of_lt_of_le q1 h3.1) q2]; exact h3.2.1 q q1 q2, fun q hq => by
      rcases List.mem_append.mp hq with h | h
      · exact h3.2.2 q h
      · exact hL q h⟩
  obtain ⟨t2, a1, b1⟩ := hZ _ _ _ _ _ _ _ _ _ _ _ _ _ _ T'.heap (locs ++ L) ls C hsh (by rw [e1]; exact hR) hS h4 T' rfl X'
  refine ⟨t2, stp t2 ?_, b1⟩
  have e3 : (v'.map (zt b bs)).toList ++ st.map (zt b bs) = (v'.toList ++ st).map (zt b bs) := by cases v' <;> simp
  rw [e3]
  exact a1
theorem z_cat (b bs : Nat) (st : List Value) : ((st.map (zt b bs)).map fun v => v.category).sum = (st.map fun v => v.category).sum := by
  rw [List.map_map]
  congr 1
  apply List.map_congr_left
  intro v _
  exact zt_cat b bs v
theorem z_blind {S : zS} {G : zG} {b : Nat} {μ : zMem} {av : List Value} : FrameBlind (va_Pc av (fun U => zR G b μ U.heap ∧ zK G U ∧ zSh S μ)) := fun a U g mk q => ⟨q.1, q.2.1, q.2.2.1.calling g mk a, q.2.2.2⟩
theorem z_mem {y : Cond} (h : y ∈ lw_tbl) (g : goodWord y = true) : ∀ w ∈ y :: lw_g, w ∈ lw_g := fun w hw => (List.mem_cons.mp hw).elim (fun e => by rw [e]; exact lw_in h g) id
theorem Z_callV {M' : zMt} {idx mc' ms' p0 c0 n0 : Nat} (as : List Value) (hd : decode M.2.1 pc = .ok (.invokevirtual idx, 3)) (hp : pc + 3 = pc') (hv : zVi M' c0 as.length) (hl : Cond.methodLink M.1.cls idx M'.1 ∈ lw_tbl) (hh : zH S μ p0 c0 n0) (hs : st0 = as.reverse ++ .ref p0 :: st) (hc : (st.map fun v => v.category).sum ≤ 8) (hk : k + mc' ≤ mc) (hn : n + ms' ≤ ms)
    (K : Cl S M' d mc' ms' (.ref p0 :: as) μ (fun v μ' => Z S X M (d + 1) mc ms Q pc' lo (v.toList ++ st) μ' (k + mc') (n + ms'))) : Z S X M (d + 1) mc ms Q pc lo st0 μ k n := by
  subst hp; subst hs
  intro p l e R s m args below meth c b bs G QF H locs ls C h1 h2 h3 h4
  obtain ⟨v1, v2, v3, v4, v5, v6, v7, v8⟩ := hv
  have hat := h2.2 p0 c0 n0 (hh.at h1)
  rw [zE_obj v1] at hat
  have hrm := C.2.2.2.2.2.2.2.2.1
  have hts := C.2.2.2.2.1
  have hgood : GoodIn lw_g (wsV M.1.cls idx M'.1.cls M'.1 (.code M'.1 M'.2.1 M'.2.2.1 M'.2.2.2 :: lw_g)) := z_goodIn (fun w hw => by
    unfold wsV at hw
    rcases List.mem_append.mp hw with h | h
    · simp only [List.mem_cons, List.not_mem_nil, or_false] at h
      rcases h with rfl | rfl | rfl | rfl
      · exact lw_in hl rfl
      · exact lw_in v4 rfl
      · exact lw_in v5 rfl
      · exact lw_in v6 rfl
    · exact z_mem v7 rfl w h)
  have cw : CallW R s args M.1.cls M'.1.cls idx M'.1 M'.2.1 M'.2.2.1 M'.2.2.2 (.code M'.1 M'.2.1 M'.2.2.1 M'.2.2.2 :: lw_g) (zroom d mc' ms') mc' ms' as.length := cwV as.length hts hgood rfl rfl rfl ⟨rfl, v8⟩ ⟨by show d + 1 ≤ _; omega, by show 8 + (_ + 11) + 64 * d ≤ _; omega⟩
  refine z_after (st1 := List.map (zt b bs) (as.reverse ++ .ref p0 :: st)) (va_runV (g := F0 m pc ls (List.map (zt b bs) (as.reverse ++ .ref p0 :: st))) (b := b + p0) (As := as.map (zt b bs)) (rest := st.map (zt b bs)) ⟨C.1, C.2.1, C.2.2.1, C.2.2.2.1, hts⟩ (K l b bs G) cw ⟨z_blind, ?_, fun U hU hW => ⟨rfl, by rw [hU]; exact h2, C.2.2.2.2.2.1.warm hW, h1⟩⟩ rfl (by simp) h4.1 (by simp [zt]) (lv_room (by rw [z_cat]; exact hc)) hd ⟨by omega, by omega⟩) C h3 h4
  rw [v2]
  exact va_recv C.2.2.2.2.2.1.1 (va_one hat) (z_cl c0 v1) (q0 := 0) rfl
theorem Z_callS {M' : zMt} {idx mc' ms' : Nat} (as : List Value) (hd : decode M.2.1 pc = .ok (.invokestatic idx, 3)) (hp : pc + 3 = pc') (hv : zSt M' as.length) (hl : Cond.methodLink M.1.cls idx M'.1 ∈ lw_tbl) (hs : st0 = as.reverse ++ st) (hc : (st.map fun v => v.category).sum ≤ 8) (hk : k + mc' ≤ mc) (hn : n + ms' ≤ ms)
    (K : Cl S M' d mc' ms' as μ (fun v μ' => Z S X M (d + 1) mc ms Q pc' lo (v.toList ++ st) μ' (k + mc') (n + ms'))) : Z S X M (d + 1) mc ms Q pc lo st0 μ k n := by
  subst hp; subst hs
  intro p l e R s m args below meth c b bs G QF H locs ls C h1 h2 h3 h4
  obtain ⟨v3, v4, v6, v7, v8⟩ := hv
  have hrm := C.2.2.2.2.2.2.2.2.1
  have hts := C.2.2.2.2.1
  have cw : CallB R s args M.1.cls idx M'.1 M'.2.1 M'.2.2.1 M'.2.2.2 (.code M'.1 M'.2.1 M'.2.2.1 M'.2.2.2 :: lw_g) (zroom d mc' ms') mc' ms' as.length := callB_of as.length hts (z_goodIn (z_mem v7 rfl)) rfl rfl rfl (hts _ (lw_in v6 rfl)) (hts _ (lw_in hl rfl)) v8 ⟨by show d + 1 ≤ _; omega, by show 8 + (_ + 11) + 64 * d ≤ _; omega⟩
  exact z_after (st1 := List.map (zt b bs) (as.reverse ++ st)) (va_runS (g := F0 m pc ls (List.map (zt b bs) (as.reverse ++ st))) (As := as.map (zt b bs)) (rest := st.map (zt b bs)) ⟨C.1, C.2.1, C.2.2.1, C.2.2.2.1, hts⟩ (K l b bs G) ⟨cw, hts _ (lw_in v4 rfl)⟩ ⟨z_blind, fun U hU hW => ⟨rfl, by rw [hU]; exact h2, C.2.2.2.2.2.1.warm hW, h1⟩⟩ rfl (by simp) h4.1 (by simp) (lv_room (by rw [z_cat]; exact hc)) hd ⟨by omega, by omega⟩) C h3 h4
theorem Z_callSN {M' : zMt} {idx mc' ms' : Nat} {host : String} (as : List Value) (hd : decode M.2.1 pc = .ok (.invokestatic idx, 3)) (hp : pc + 3 = pc') (hv : zSt M' as.length) (hl : Cond.methodLinkNest M.1.cls idx M'.1 host ∈ lw_n) (hs : st0 = as.reverse ++ st) (hc : (st.map fun v => v.category).sum ≤ 8) (hk : k + mc' ≤ mc) (hn : n + ms' ≤ ms)
    (K : Cl S M' d mc' ms' as μ (fun v μ' => Z S X M (d + 1) mc ms Q pc' lo (v.toList ++ st) μ' (k + mc') (n + ms'))) : Z S X M (d + 1) mc ms Q pc lo st0 μ k n := by
  subst hp; subst hs
  intro p l e R s m args below meth c b bs G QF H locs ls C h1 h2 h3 h4
  obtain ⟨v3, v4, v6, v7, v8⟩ := hv
  have hrm := C.2.2.2.2.2.2.2.2.1
  have hts := C.2.2.2.2.1
  have cw : va_CN R s args M.1.cls idx M'.1 host M'.2.1 M'.2.2.1 M'.2.2.2 (.code M'.1 M'.2.1 M'.2.2.1 M'.2.2.2 :: lw_g) (zroom d mc' ms') mc' ms' as.length := va_cnB as.length hts (z_goodIn (z_mem v7 rfl)) rfl rfl rfl (C.2.2.2.2.2.1.2.1 _ hl) (hts _ (lw_in v6 rfl)) v8 ⟨by show d + 1 ≤ _; omega, by show 8 + (_ + 11) + 64 * d ≤ _; omega⟩
  exact z_after (st1 := List.map (zt b bs) (as.reverse ++ st)) (va_runSN (g := F0 m pc ls (List.map (zt b bs) (as.reverse ++ st))) (As := as.map (zt b bs)) (rest := st.map (zt b bs)) ⟨C.1, C.2.1, C.2.2.1, C.2.2.2.1, hts⟩ (K l b bs G) ⟨cw, hts _ (lw_in v4 rfl), trivial⟩ ⟨z_blind, fun U hU hW => ⟨rfl, by rw [hU]; exact h2, C.2.2.2.2.2.1.warm hW, h1⟩⟩ rfl (by simp) h4.1 (by simp) (lv_room (by rw [z_cat]; exact hc)) hd ⟨by omega, by omega⟩) C h3 h4
theorem Z_callI {M' : zMt} {idx mc' ms' p0 : Nat} (as : List Value) (hd : decode M.2.1 pc = .ok (.invokespecial idx, 3)) (hp : pc + 3 = pc') (hv : zIi M' as.length) (hl : Cond.methodLink M.1.cls idx M'.1 ∈ lw_tbl) (hs : st0 = as.reverse ++ .ref p0 :: st) (hc : (st.map fun v => v.category).sum ≤ 8) (hk : k + mc' ≤ mc) (hn : n + ms' ≤ ms)
    (K : Cl S M' d mc' ms' (.ref p0 :: as) μ (fun v μ' => Z S X M (d + 1) mc ms Q pc' lo (v.toList ++ st) μ' (k + mc') (n + ms'))) : Z S X M (d + 1) mc ms Q pc lo st0 μ k n := by
  subst hp; subst hs
  intro p l e R s m args below meth c b bs G QF H locs ls C h1 h2 h3 h4
  obtain ⟨v0, v1, v3, v4, v6, v7, v8⟩ := hv
  have hrm := C.2.2.2.2.2.2.2.2.1
  have hts := C.2.2.2.2.1
  have KK := K l b bs G
  rw [v1] at KK v7
  have cw : CallB R s args M.1.cls idx M'.1 M'.2.1 M'.2.2.1 none (.code M'.1 M'.2.1 M'.2.2.1 none :: lw_g) (zroom d mc' ms') mc' ms' as.length := callB_of as.length hts (z_goodIn (z_mem v7 rfl)) rfl rfl rfl (hts _ (lw_in v6 rfl)) (hts _ (lw_in hl rfl)) v8 ⟨by show d + 1 ≤ _; omega, by show 8 + (_ + 11) + 64 * d ≤ _; omega⟩
  exact z_after (st1 := List.map (zt b bs) (as.reverse ++ .ref p0 :: st)) (va_runI (g := F0 m pc ls (List.map (zt b bs) (as.reverse ++ .ref p0 :: st))) (b := b + p0) (As := as.map (zt b bs)) (rest := st.map (zt b bs)) ⟨C.1, C.2.1, C.2.2.1, C.2.2.2.1, hts⟩ KK ⟨cw, v0, hts _ (lw_in v4 rfl)⟩ ⟨z_blind, fun U hU hW => ⟨rfl, by rw [hU]; exact h2, C.2.2.2.2.2.1.warm hW, h1⟩⟩ rfl (by simp) h4.1 (by simp [zt]) (lv_room (by rw [z_cat]; exact hc)) hd ⟨by omega, by omega⟩) C h3 h4
theorem Z_callIN {M' : zMt} {idx mc' ms' p0 : Nat} {host : String} (as : List Value) (hd : decode M.2.1 pc = .ok (.invokespecial idx, 3)) (hp : pc + 3 = pc') (hv : zIi M' as.length) (hl : Cond.methodLinkNest M.1.cls idx M'.1 host ∈ lw_n) (hs : st0 = as.reverse ++ .ref p0 :: st) (hc : (st.map fun v => v.category).sum ≤ 8) (hk : k + mc' ≤ mc) (hn : n + ms' ≤ ms)
    (K : Cl S M' d mc' ms' (.ref p0 :: as) μ (fun v μ' => Z S X M (d + 1) mc ms Q pc' lo (v.toList ++ st) μ' (k + mc') (n + ms'))) : Z S X M (d + 1) mc ms Q pc lo st0 μ k n := by
  subst hp; subst hs
  intro p l e R s m args below meth c b bs G QF H locs ls C h1 h2 h3 h4
  obtain ⟨v0, v1, v3, v4, v6, v7, v8⟩ := hv
  have hrm := C.2.2.2.2.2.2.2.2.1
  have hts := C.2.2.2.2.1
  have KK := K l b bs G
  rw [v1] at KK v7
  have cw : va_CN R s args M.1.cls idx M'.1 host M'.2.1 M'.2.2.1 none (.code M'.1 M'.2.1 M'.2.2.1 none :: lw_g) (zroom d mc' ms') mc' ms' as.length := va_cnB as.length hts (z_goodIn (z_mem v7 rfl)) rfl rfl rfl (C.2.2.2.2.2.1.2.1 _ hl) (hts _ (lw_in v6 rfl)) v8 ⟨by show d + 1 ≤ _; omega, by show 8 + (_ + 11) + 64 * d ≤ _; omega⟩
  exact z_after (st1 := List.map (zt b bs) (as.reverse ++ .ref p0 :: st)) (va_runIN (g := F0 m pc ls (List.map (zt b bs) (as.reverse ++ .ref p0 :: st))) (b := b + p0) (As := as.map (zt b bs)) (rest := st.map (zt b bs)) ⟨C.1, C.2.1, C.2.2.1, C.2.2.2.1, hts⟩ KK ⟨cw, v0, hts _ (lw_in v4 rfl)⟩ ⟨z_blind, fun U hU hW => ⟨rfl, by rw [hU]; exact h2, C.2.2.2.2.2.1.warm hW, h1⟩⟩ rfl (by simp) h4.1 (by simp [zt]) (lv_room (by rw [z_cat]; exact hc)) hd ⟨by omega, by omega⟩) C h3 h4
/-! the JDK's own -/
theorem Z_objInit {idx p0 : Nat} (hd : decode M.2.1 pc = .ok (.invokespecial idx, 3)) (hp : pc + 3 = pc') (hl : Cond.methodLink M.1.cls idx objectInit ∈ lw_tbl) (hi : Cond.instanceMethod objectInit ∈ lw_tbl) (hcd : Cond.code objectInit ⟨#[0xb1]⟩ 1 none ∈ lw_tbl) (hc : (st.map fun v => v.category).sum ≤ 8) (K : Z S X M (d + 1) mc ms Q pc' lo st μ k n) : Z S X M (d + 1) mc ms Q pc lo (.ref p0 :: st) μ k n := by
  subst hp
  intro p l e R s m args below meth c b bs G QF H locs ls C h1 h2 h3 h4
  have hrm := C.2.2.2.2.2.2.2.2.1
  have hts := C.2.2.2.2.1
  refine W.objInit C.1 C.2.1 C.2.2.2.1 (hts _ (lw_in hl rfl)) (hts _ (lw_in hi rfl)) (hts _ (lw_in hcd rfl)) rfl (by rw [C.2.2.1]; exact h4.1) rfl hd (by omega) ?_ (K _ _ _ _ _ _ _ _ _ _ _ _ _ _ _ _ _ C h1 h2 h3 h4)
  rw [z_cat]
  show 2 * 0 + _ + 12 ≤ _
  omega
def zMath (x : MethodName) (cc : ByteArray) (n : Nat) (own : String) (idx : Nat) : Prop := Cond.methodLink own idx x ∈ lw_tbl ∧ Cond.static x ∈ lw_tbl ∧ Cond.initialized "java/lang/Math" ∈ lw_tbl ∧ Cond.code x cc n (some .int) ∈ lw_tbl
theorem Z_max {idx : Nat} {a b : Int} (hd : decode M.2.1 pc = .ok (.invokestatic idx, 3)) (hp : pc + 3 = pc') (hl : zMath Lib.Math.max.name Lib.Math.max.code 2 M.1.cls idx) (ha : zIn a) (hb : zIn b) (hk : k ≤ mc) (hn : n ≤ ms) (hc : (st.map fun v => v.category).sum ≤ 8) (K : Z S X M (d + 1) mc ms Q pc' lo (vi (if a < b then b else a) :: st) μ k n) : Z S X M (d + 1) mc ms Q pc lo (vi b :: vi a :: st) μ k n := by
  subst hp
  intro p l e R s m args below meth c b' bs G QF H locs ls C h1 h2 h3 h4
  have hrm := C.2.2.2.2.2.2.2.2.1
  have hts := C.2.2.2.2.1
  refine va_mmax (x := Int32.ofInt a) (y := Int32.ofInt b) C.1 C.2.1 (by rw [C.2.2.1]; exact h4.1.symm) C.2.2.2.1 (hts _ (lw_in hl.1 rfl)) (hts _ (lw_in hl.2.1 rfl)) (hts _ (lw_in hl.2.2.1 rfl)) (hts _ (lw_in hl.2.2.2 rfl)) (by omega) (by rw [z_cat]; omega) (by omega) (by omega) hd ?_
  have e1 : (if Int32.ofInt a < Int32.ofInt b then Int32.ofInt b else Int32.ofInt a) = Int32.ofInt (if a < b then b else a) := by
    by_cases h : a < b
    · rw [if_pos h, if_pos ((z_lt ha hb).mpr h)]
    · rw [if_neg h, if_neg (fun q => h ((z_lt ha hb).mp q))]
  rw [e1]
  exact K _ _ _ _ _ _ _ _ _ _ _ _ _ _ _ _ _ C h1 h2 h3 h4
theorem Z_min {idx : Nat} {a b : Int} (hd : decode M.2.1 pc = .ok (.invokestatic idx, 3)) (hp : pc + 3 = pc') (hl : zMath Lib.Math.min.name Lib.Math.min.code 2 M.1.cls idx) (ha : zIn a) (hb : zIn b) (hk : k ≤ mc) (hn : n ≤ ms) (hc : (st.map fun v => v.category).sum ≤ 8) (K : Z S X M (d + 1) mc ms Q pc' lo (vi (if b < a then b else a) :: st) μ k n) : Z S X M (d + 1) mc ms Q pc lo (vi b :: vi a :: st) μ k n := by
  subst hp
  intro p l e R s m args below meth c b' bs G QF H locs ls C h1 h2 h3 h4
  have hrm := C.2.2.2.2.2.2.2.2.1
  have hts := C.2.2.2.2.1
  refine va_mmin (x := Int32.ofInt a) (y := Int32.ofInt b) C.1 C.2.1 (by rw [C.2.2.1]; exact h4.1.symm) C.2.2.2.1 (hts _ (lw_in hl.1 rfl)) (hts _ (lw_in hl.2.1 rfl)) (hts _ (lw_in hl.2.2.1 rfl)) (hts _ (lw_in hl.2.2.2 rfl)) (by omega) (by rw [z_cat]; omega) (by omega) (by omega) hd ?_
  have e1 : (if Int32.ofInt b < Int32.ofInt a then Int32.ofInt b else Int32.ofInt a) = Int32.ofInt (if b < a then b else a) := by
    by_cases h : b < a
    · rw [if_pos h, if_pos ((z_lt hb ha).mpr h)]
    · rw [if_neg h, if_neg (fun q => h ((z_lt hb ha).mp q))]
  rw [e1]
  exact K _ _ _ _ _ _ _ _ _ _ _ _ _ _ _ _ _ C h1 h2 h3 h4
theorem Z_abs {idx : Nat} {a : Int} (hd : decode M.2.1 pc = .ok (.invokestatic idx, 3)) (hp : pc + 3 = pc') (hl : zMath Lib.Math.abs.name Lib.Math.abs.code 1 M.1.cls idx) (ha : zIn a) (hk : k ≤ mc) (hn : n ≤ ms) (hc : (st.map fun v => v.category).sum ≤ 8) (K : Z S X M (d + 1) mc ms Q pc' lo (vi (if 0 ≤ a then a else -a) :: st) μ k n) : Z S X M (d + 1) mc ms Q pc lo (vi a :: st) μ k n := by
  subst hp
  intro p l e R s m args below meth c b' bs G QF H locs ls C h1 h2 h3 h4
  have hrm := C.2.2.2.2.2.2.2.2.1
  have hts := C.2.2.2.2.1
  refine va_mabs (x := Int32.ofInt a) C.1 C.2.1 (by rw [C.2.2.1]; exact h4.1.symm) C.2.2.2.1 (hts _ (lw_in hl.1 rfl)) (hts _ (lw_in hl.2.1 rfl)) (hts _ (lw_in hl.2.2.1 rfl)) (hts _ (lw_in hl.2.2.2 rfl)) (by omega) (by rw [z_cat]; omega) (by omega) (by omega) hd ?_
  have e1 : (if 0 ≤ Int32.ofInt a then Int32.ofInt a else 0 - Int32.ofInt a) = Int32.ofInt (if 0 ≤ a then a else -a) := by
    by_cases h : 0 ≤ a
    · rw [if_pos h]
      exact if_pos ((z_le z_in0 ha).mpr h)
    · rw [if_neg h]
      refine (if_neg (fun q => h ((z_le z_in0 ha).mp q))).trans ?_
      rw [← Int.zero_sub, Int32.ofInt_sub]
      rfl
  rw [e1]
  exact K _ _ _ _ _ _ _ _ _ _ _ _ _ _ _ _ _ C h1 h2 h3 h4
theorem z_nfw : nativeFrameWords "java/lang/System" "arraycopy" 5 ≤ 20 := by decide +kernel
def zAc (own : String) (idx : Nat) : Prop := Cond.methodLink own idx arraycopyName ∈ lw_tbl ∧ Cond.native arraycopyName ∈ lw_tbl ∧ Cond.static arraycopyName ∈ lw_tbl ∧ Cond.initialized "java/lang/System" ∈ lw_tbl
theorem z_nneg {z : Int} (h : zIn z) (h0 : 0 ≤ z) : ¬ Int32.ofInt z < 0 := fun q => by
  have := (z_lt h z_in0).mp q
  omega
theorem Z_copyL {idx p0 n0 q0 m0 : Nat} {i j z : Int} (hd : decode M.2.1 pc = .ok (.invokestatic idx, 3)) (hp : pc + 3 = pc') (hl : zAc M.1.cls idx) (hh : zH S μ p0 10 n0) (hq : zH S μ q0 10 m0) (hn1 : n0 ≤ 2147483647) (hn2 : m0 ≤ 2147483647) (i0 : 0 ≤ i) (j0 : 0 ≤ j) (z0 : 0 ≤ z) (i1 : i + z ≤ n0) (j1 : j + z ≤ m0) (hc : (st.map fun v => v.category).sum ≤ 8) (K : Z S X M (d + 1) mc ms Q pc' lo st (cL μ p0 i q0 j z) k n) : Z S X M (d + 1) mc ms Q pc lo (vi z :: vi j :: .ref q0 :: vi i :: .ref p0 :: st) μ k n := by
  subst hp
  intro p l e R s m args below meth c b bs G QF H locs ls C h1 h2 h3 h4
  have hrm := C.2.2.2.2.2.2.2.2.1
  have hts := C.2.2.2.2.1
  have hK := C.2.2.2.2.2.1.1
  have hzi : zIn i := ⟨by omega, by omega⟩
  have hzj : zIn j := ⟨by omega, by omega⟩
  have hzz : zIn z := ⟨by omega, by omega⟩
  have a0 := hh.at h1
  have a1 := hq.at h1
  have hat0 := h2.2 p0 10 n0 a0
  have hat1 := h2.2 q0 10 m0 a1
  rw [zE_l] at hat0 hat1
  have hc0 : H[b + p0]? = some (arrV G.2.2.1 n0 (fun x => Value.long (gL μ p0 x))) := hat0
  have hc1 : H[b + q0]? = some (arrV G.2.2.1 m0 (fun x => Value.long (gL μ q0 x))) := hat1
  intro T hT XS
  obtain ⟨-, k0, hk0, cm0, hkk0⟩ := (hK.2 1 _ rfl).1 n0 (fun x => Value.long (gL μ p0 x))
  obtain ⟨-, k1, hk1, cm1, hkk1⟩ := (hK.2 1 _ rfl).1 m0 (fun x => Value.long (gL μ q0 x))
  obtain ⟨vm', X', step⟩ := XS.arraycopy C.1 C.2.2.2.1 (hts _ (lw_in hl.1 rfl)) (hts _ (lw_in hl.2.1 rfl)) (hts _ (lw_in hl.2.2.1 rfl)) (hts _ (lw_in hl.2.2.2 rfl)) (src := b + p0) (dst := b + q0) (cs := arrV G.2.2.1 n0 (fun x => Value.long (gL μ p0 x))) (cd := arrV G.2.2.1 m0 (fun x => Value.long (gL μ q0 x))) (srcPos := Int32.ofInt i) (destPos := Int32.ofInt j) (n := Int32.ofInt z) (by rw [hT]; exact hc0) (by rw [hT]; exact hc1)
    (fun _ h => by cases h) (fun _ h => by cases h) (fun h => by cases h) (fun h => by cases h) hk0 hk1 hkk0 hkk1 (by simp [refKind]) (z_nneg hzi i0) (z_nneg hzj j0) (z_nneg hzz z0)
    (by rw [z_toInt hzi, z_toInt hzz, arrV_size]; omega)
    (by rw [z_toInt hzj, z_toInt hzz, arrV_size]; omega)
    (fun vm₁ _ x hx => by
      rw [z_clamp hzz z0] at hx
      have e : (arrV G.2.2.1 n0 (fun x => Value.long (gL μ p0 x))).slots.getD ((Int32.ofInt i).toNatClampNeg + x) .null = Value.long (gL μ p0 (((Int32.ofInt i).toNatClampNeg + x : Nat) : Int)) := by
        rw [Array.getD_eq_getD_getElem?, arrV_read _ _ (by rw [z_clamp hzi i0]; omega)]
        rfl
      refine ⟨?_, ?_⟩
      · rw [e]
        rfl
      · rw [e]
        exact trivial)
    (g := F0 m pc ls (List.map (zt b bs) (vi z :: vi j :: .ref q0 :: vi i :: .ref p0 :: st))) rfl (by rw [C.2.2.1]; exact h4.1) (rest := st.map (zt b bs)) rfl (by rw [C.2.1]; exact hd) (by omega) (by rw [z_cat]; show 2 * 0 + _ + (nativeFrameWords "java/lang/System" "arraycopy" 5 + 11) ≤ _; have := z_nfw; omega)
  have e1 : copied (arrV G.2.2.1 n0 (fun x => Value.long (gL μ p0 x))) (arrV G.2.2.1 m0 (fun x => Value.long (gL μ q0 x))) (Int32.ofInt i) (Int32.ofInt j) (Int32.ofInt z) = arrV G.2.2.1 m0 (fun x => Value.long (va_cpy (fun x : Nat => gL μ p0 x) (fun x : Nat => gL μ q0 x) (Int32.ofInt i).toNatClampNeg (Int32.ofInt j).toNatClampNeg (Int32.ofInt z).toNatClampNeg x)) := va_copied (fun z => Value.long z) G.2.2.1 G.2.2.1 (fun x : Nat => gL μ p0 x) (fun x : Nat => gL μ q0 x) (by rw [z_clamp hzi i0, z_clamp hzz z0]; omega)
  rw [e1] at X' step
  generalize hnew : arrV G.2.2.1 m0 (fun x => Value.long (va_cpy (fun x : Nat => gL μ p0 x) (fun x : Nat => gL μ q0 x) (Int32.ofInt i).toNatClampNeg (Int32.ofInt j).toNatClampNeg (Int32.ofInt z).toNatClampNeg x)) = nw at X' step
  have hlt : b + q0 < H.size := (Array.getElem?_eq_some_iff.mp hc1).1
  have hheap : ((T.setVm vm').setCell (b + q0) nw).heap = H.setIfInBounds (b + q0) nw := by rw [← hT]; rfl
  have oq : ∀ q : Nat, q ≠ b + q0 → (H.setIfInBounds (b + q0) nw)[q]? = H[q]? := fun q hq => by simp [Array.getElem?_setIfInBounds, Ne.symm hq]
  have sz : (H.setIfInBounds (b + q0) nw).size = H.size := by simp
  have hR : zR G b (cL μ p0 i q0 j z) (H.setIfInBounds (b + q0) nw) := by
    refine zR_put h2 a1 sz oq rfl (fun p h => ⟨rfl, by funext x; simp [gL, cL, zf, h], rfl⟩) ?_
    rw [zE_l]
    show (H.setIfInBounds (b + q0) nw)[b + q0]? = some (arrV G.2.2.1 m0 (fun x => Value.long (gL (cL μ p0 i q0 j z) q0 x)))
    have e2 : (H.setIfInBounds (b + q0) nw)[b + q0]? = some nw := by simp [Array.getElem?_setIfInBounds, hlt]
    rw [e2, ← hnew]
    congr 2
    funext x
    congr 1
    rw [z_clamp hzi i0, z_clamp hzj j0, z_clamp hzz z0]
    show va_cpy _ _ _ _ _ _ = zf _ q0 _ q0 (x : Int)
    simp only [zf, if_pos, va_cpy]
    by_cases h : j.toNat ≤ x ∧ x < j.toNat + z.toNat
    · rw [if_pos h, if_pos (by omega)]
      show gL μ p0 _ = gL μ p0 _
      congr 1
      omega
    · rw [if_neg h, if_neg (by omega)]
      rfl
  have hS : ∀ L : List Loc, (∀ q ∈ L, b ≤ q.base) → va_S (fun q => b ≤ q) s.heap (H.setIfInBounds (b + q0) nw) (locs ++ L) := fun L hL => ⟨by rw [sz]; exact h3.1, fun q g1 g2 => by
      rw [oq q (fun e => g2 (by rw [e]; exact Nat.le_add_right b q0))]
      exact h3.2.1 q g1 g2, fun q hq => by
      rcases List.mem_append.mp hq with h | h
      · exact h3.2.2 q h
      · exact hL q h⟩
  obtain ⟨t, a1, b1⟩ := K _ _ _ _ _ _ _ _ _ _ _ _ _ _ _ _ _ C h1 hR (hS _ (fun q hq => by
    obtain ⟨x, -, hx⟩ := List.mem_map.mp hq
    rw [← hx]
    exact Nat.le_add_right b q0)) h4 _ hheap X'
  exact ⟨t, step t a1, b1⟩
def iI (μ : zMem) (p : Nat) (x : Int) : Int32 := Int32.ofInt (gI μ p x)
theorem Z_copyI {idx p0 n0 q0 m0 : Nat} {i j z : Int} (hd : decode M.2.1 pc = .ok (.invokestatic idx, 3)) (hp : pc + 3 = pc') (hl : zAc M.1.cls idx) (hh : zH S μ p0 9 n0) (hq : zH S μ q0 9 m0) (hn1 : n0 ≤ 2147483647) (hn2 : m0 ≤ 2147483647) (i0 : 0 ≤ i) (j0 : 0 ≤ j) (z0 : 0 ≤ z) (i1 : i + z ≤ n0) (j1 : j + z ≤ m0) (hc : (st.map fun v => v.category).sum ≤ 8) (K : Z S X M (d + 1) mc ms Q pc' lo st (cI μ p0 i q0 j z) k n) : Z S X M (d + 1) mc ms Q pc lo (vi z :: vi j :: .ref q0 :: vi i :: .ref p0 :: st) μ k n := by
  subst hp
  intro p l e R s m args below meth c b bs G QF H locs ls C h1 h2 h3 h4
  have hrm := C.2.2.2.2.2.2.2.2.1
  have hts := C.2.2.2.2.1
  have hK := C.2.2.2.2.2.1.1
  have hzi : zIn i := ⟨by omega, by omega⟩
  have hzj : zIn j := ⟨by omega, by omega⟩
  have hzz : zIn z := ⟨by omega, by omega⟩
  have a0 := hh.at h1
  have a1 := hq.at h1
  have hat0 := h2.2 p0 9 n0 a0
  have hat1 := h2.2 q0 9 m0 a1
  rw [zE_i] at hat0 hat1
  have hc0 : H[b + p0]? = some (arrV G.2.1 n0 (fun x => Value.int (iI μ p0 x))) := hat0
  have hc1 : H[b + q0]? = some (arrV G.2.1 m0 (fun x => Value.int (iI μ q0 x))) := hat1
  intro T hT XS
  obtain ⟨-, k0, hk0, cm0, hkk0⟩ := (hK.2 0 _ rfl).1 n0 (fun x => Value.int (iI μ p0 x))
  obtain ⟨-, k1, hk1, cm1, hkk1⟩ := (hK.2 0 _ rfl).1 m0 (fun x => Value.int (iI μ q0 x))
  obtain ⟨vm', X', step⟩ := XS.arraycopy C.1 C.2.2.2.1 (hts _ (lw_in hl.1 rfl)) (hts _ (lw_in hl.2.1 rfl)) (hts _ (lw_in hl.2.2.1 rfl)) (hts _ (lw_in hl.2.2.2 rfl)) (src := b + p0) (dst := b + q0) (cs := arrV G.2.1 n0 (fun x => Value.int (iI μ p0 x))) (cd := arrV G.2.1 m0 (fun x => Value.int (iI μ q0 x))) (srcPos := Int32.ofInt i) (destPos := Int32.ofInt j) (n := Int32.ofInt z) (by rw [hT]; exact hc0) (by rw [hT]; exact hc1)
    (fun _ h => by cases h) (fun _ h => by cases h) (fun h => by cases h) (fun h => by cases h) hk0 hk1 hkk0 hkk1 (by simp [refKind]) (z_nneg hzi i0) (z_nneg hzj j0) (z_nneg hzz z0)
    (by rw [z_toInt hzi, z_toInt hzz, arrV_size]; omega)
    (by rw [z_toInt hzj, z_toInt hzz, arrV_size]; omega)
    (fun vm₁ _ x hx => by
      rw [z_clamp hzz z0] at hx
      have e : (arrV G.2.1 n0 (fun x => Value.int (iI μ p0 x))).slots.getD ((Int32.ofInt i).toNatClampNeg + x) .null = Value.int (iI μ p0 (((Int32.ofInt i).toNatClampNeg + x : Nat) : Int)) := by
        rw [Array.getD_eq_getD_getElem?, arrV_read _ _ (by rw [z_clamp hzi i0]; omega)]
        rfl
      refine ⟨?_, ?_⟩
      · rw [e]
        rfl
      · rw [e]
        exact trivial)
    (g := F0 m pc ls (List.map (zt b bs) (vi z :: vi j :: .ref q0 :: vi i :: .ref p0 :: st))) rfl (by rw [C.2.2.1]; exact h4.1) (rest := st.map (zt b bs)) rfl (by rw [C.2.1]; exact hd) (by omega) (by rw [z_cat]; show 2 * 0 + _ + (nativeFrameWords "java/lang/System" "arraycopy" 5 + 11) ≤ _; have := z_nfw; omega)
  have e1 : copied (arrV G.2.1 n0 (fun x => Value.int (iI μ p0 x))) (arrV G.2.1 m0 (fun x => Value.int (iI μ q0 x))) (Int32.ofInt i) (Int32.ofInt j) (Int32.ofInt z) = arrV G.2.1 m0 (fun x => Value.int (va_cpy (fun x : Nat => iI μ p0 x) (fun x : Nat => iI μ q0 x) (Int32.ofInt i).toNatClampNeg (Int32.ofInt j).toNatClampNeg (Int32.ofInt z).toNatClampNeg x)) := va_copied (fun z => Value.int z) G.2.1 G.2.1 (fun x : Nat => iI μ p0 x) (fun x : Nat => iI μ q0 x) (by rw [z_clamp hzi i0, z_clamp hzz z0]; omega)
  rw [e1] at X' step
  generalize hnew : arrV G.2.1 m0 (fun x => Value.int (va_cpy (fun x : Nat => iI μ p0 x) (fun x : Nat => iI μ q0 x) (Int32.ofInt i).toNatClampNeg (Int32.ofInt j).toNatClampNeg (Int32.ofInt z).toNatClampNeg x)) = nw at X' step
  have hlt : b + q0 < H.size := (Array.getElem?_eq_some_iff.mp hc1).1
  have hheap : ((T.setVm vm').setCell (b + q0) nw).heap = H.setIfInBounds (b + q0) nw := by rw [← hT]; rfl
  have oq : ∀ q : Nat, q ≠ b + q0 → (H.setIfInBounds (b + q0) nw)[q]? = H[q]? := fun q hq => by simp [Array.getElem?_setIfInBounds, Ne.symm hq]
  have sz : (H.setIfInBounds (b + q0) nw).size = H.size := by simp
  have hR : zR G b (cI μ p0 i q0 j z) (H.setIfInBounds (b + q0) nw) := by
    refine zR_put h2 a1 sz oq rfl (fun p h => ⟨by funext x; simp [gI, cI, zf, h], rfl, rfl⟩) ?_
    rw [zE_i]
    show (H.setIfInBounds (b + q0) nw)[b + q0]? = some (arrV G.2.1 m0 (fun x => Value.int (iI (cI μ p0 i q0 j z) q0 x)))
    have e2 : (H.setIfInBounds (b + q0) nw)[b + q0]? = some nw := by simp [Array.getElem?_setIfInBounds, hlt]
    rw [e2, ← hnew]
    congr 2
    funext x
    congr 1
    rw [z_clamp hzi i0, z_clamp hzj j0, z_clamp hzz z0]
    show va_cpy _ _ _ _ _ _ = Int32.ofInt (zf _ q0 _ q0 (x : Int))
    simp only [zf, if_pos, va_cpy]
    by_cases h : j.toNat ≤ x ∧ x < j.toNat + z.toNat
    · rw [if_pos h, if_pos (by omega)]
      show iI μ p0 _ = iI μ p0 _
      congr 1
      omega
    · rw [if_neg h, if_neg (by omega)]
      rfl
  have hS : ∀ L : List Loc, (∀ q ∈ L, b ≤ q.base) → va_S (fun q => b ≤ q) s.heap (H.setIfInBounds (b + q0) nw) (locs ++ L) := fun L hL => ⟨by rw [sz]; exact h3.1, fun q g1 g2 => by
      rw [oq q (fun e => g2 (by rw [e]; exact Nat.le_add_right b q0))]
      exact h3.2.1 q g1 g2, fun q hq => by
      rcases List.mem_append.mp hq with h | h
      · exact h3.2.2 q h
      · exact hL q h⟩
  obtain ⟨t, a1, b1⟩ := K _ _ _ _ _ _ _ _ _ _ _ _ _ _ _ _ _ C h1 hR (hS _ (fun q hq => by
    obtain ⟨x, -, hx⟩ := List.mem_map.mp hq
    rw [← hx]
    exact Nat.le_add_right b q0)) h4 _ hheap X'
  exact ⟨t, step t a1, b1⟩
/-! a method from its entry -/
def zen : List Value → List (Option Value)
  | [] => []
  | v :: vs => if v.category = 2 then some v :: none :: zen vs else some v :: zen vs
theorem zen_at (b bs : Nat) : ∀ (as : List Value) (j i : Nat) (v : Value), (zen as)[i]? = some (some v) → (j + i, zt b bs v) ∈ lv_args j (as.map (zt b bs))
  | [], j, i, v, h => by simp [zen] at h
  | a :: as, j, i, v, h => by
    simp only [List.map_cons, lv_args, zt_cat]
    unfold zen at h
    by_cases hc : a.category = 2
    · rw [if_pos hc] at h ⊢
      match i, h with
      | 0, h =>
        simp at h
        subst h
        exact List.mem_cons_self
      | 1, h => simp at h
      | i + 2, h =>
        have := zen_at b bs as (j + 2) i v (by simpa using h)
        rw [show j + 2 + i = j + (i + 2) by omega] at this
        exact List.mem_cons_of_mem _ this
    · rw [if_neg hc] at h ⊢
      match i, h with
      | 0, h =>
        simp at h
        subst h
        exact List.mem_cons_self
      | i + 1, h =>
        have := zen_at b bs as (j + 1) i v (by simpa using h)
        rw [show j + 1 + i = j + (i + 1) by omega] at this
        exact List.mem_cons_of_mem _ this
theorem zen_len (b bs : Nat) : ∀ (as : List Value), (lg_sl (as.map (zt b bs))).length = (zen as).length
  | [] => rfl
  | a :: as => by
    have ih := zen_len b bs as
    unfold lg_sl at ih ⊢
    rw [List.map_cons, List.flatMap_cons, List.length_append, ih, zt_cat]
    rw [show zen (a :: as) = if a.category = 2 then some a :: none :: zen as else some a :: zen as from rfl]
    by_cases hc : a.category = 2 <;> simp [hc] <;> omega
def zlo (as : List Value) (nL : Nat) : List (Option Value) := zen as ++ List.replicate (nL - (zen as).length) none
theorem zlo_at {as : List Value} {nL i : Nat} {v : Value} (h : (zlo as nL)[i]? = some (some v)) : (zen as)[i]? = some (some v) := by
  unfold zlo at h
  by_cases hl : i < (zen as).length
  · rwa [List.getElem?_append_left hl] at h
  · rw [List.getElem?_append_right (by omega)] at h
    have := List.mem_of_getElem? h
    rw [List.mem_replicate] at this
    cases this.2
theorem Cl_of {as : List Value} (hy : plainName M.1.cls = true) (hn : (zen as).length ≤ M.2.2.1) (hlo : zlo as M.2.2.1 = lo) (K : Z S none M d mc ms Q 0 lo [] μ 0 0) : Cl S M d mc ms as μ Q := by
  subst hlo
  intro l b bs G
  refine Met.ofW (cc := M.2.1) (maxL := M.2.2.1) (ret := M.2.2.2) hy rfl ?_
  intro p e s m args below meth c s₁ B hml hv
  obtain ⟨rfl, hR, hK, hSh⟩ := hv
  have hlocks := B.notSynchronized
  have hr := B.returns
  have hl := lv_entry (as.map (zt b bs)) (n := M.2.2.1) (by rw [zen_len]; exact hn)
  rw [lg_entry_eq]
  refine K p l e _ s m _ below meth c b bs G _ s.heap [] _ ⟨B.exec, B.bytes, hml, findClass_of_methodNamed B.named, fun w hw => atoms_spec (ws := .code M.1 M.2.1 M.2.2.1 M.2.2.2 :: lw_g) B.pre w (List.mem_cons_of_mem _ hw), hK, fun h => (name_of_methodNamed B.named B.method).1.trans h, by rw [hR.1]; exact Nat.le_add_right _ _, ⟨Nat.le_refl d, Nat.le_refl (64 * d), Nat.le_refl mc, Nat.le_refl ms⟩, fun L f h => (by cases h), ?_⟩ hSh hR va_S.rf ⟨hl.1, hl.2.1, fun i v h => by
    have := zen_at b bs as 0 i v (zlo_at h)
    rw [Nat.zero_add] at this
    exact hl.2.2 _ this⟩
  intro v μ' H locs ls pc op hd ho h1 h2 h3 hq
  have fin : ∀ t : State, t.heap = H → (∃ (v' : Option Value) (μ' : zMem), Outcome.returned (v.map (zt b bs)) = .returned (v'.map (zt b bs)) ∧ Q v' μ' ∧ zSh S μ' ∧ zR G b μ' t.heap) ∧ va_F (fun q => b ≤ q) s t := fun t ht => ⟨⟨v, μ', rfl, hq, h1, by rw [ht]; exact h2⟩, h3.F ht⟩
  rcases ho with ⟨g1, rfl, rfl⟩ | ⟨z, g1, rfl, rfl⟩ | ⟨z, g1, gz, rfl, rfl⟩ | ⟨z, g1, rfl, rfl⟩ | ⟨C, q, g1, rfl, rfl⟩
  · exact W.vret B.exec B.bytes (hr.trans g1) (fun t ht _ => fin t ht) h3.2.2 hd
  · exact W.iret (v := Int32.ofInt z) B.exec B.bytes (hr.trans g1) (fun t ht _ => fin t ht) h3.2.2 hd
  · exact W.zret (v := Int32.ofInt z) B.exec B.bytes (hr.trans g1) (by rcases gz with rfl | rfl <;> rfl) (fun t ht _ => fin t ht) h3.2.2 hd
  · exact W.lret (v := z) B.exec B.bytes (hr.trans g1) (fun t ht _ => fin t ht) h3.2.2 hd
  · exact W.aret (v := .ref (b + q)) B.exec B.bytes (hr.trans g1) (Or.inl ⟨C, rfl⟩) (Or.inr ⟨_, rfl⟩) (fun t ht _ => fin t ht) h3.2.2 hd
end ZCalls
