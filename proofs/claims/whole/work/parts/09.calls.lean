/-! contracts of methods over the small world; ends; calls -/
def wQc (g : GT) (res : Option AV ⊕ String) (B : Hp) : Array Value → State → Outcome → State → Prop := fun _ st o t => (∃ r : Option AV, res = .inl r ∧ o = .returned (r.map (wcv g))) ∧ wRep g B t.heap ∧ st.heap.size ≤ t.heap.size
def wXC (g : GT) (res : Option AV ⊕ String) (B : Hp) : String → State → State → Prop := fun E st t => res = .inr E ∧ wRep g B t.heap ∧ st.heap.size ≤ t.heap.size
def wPc (g : GT) (args : List AV) (A : Hp) : Array Value → State → Prop := va_Pc (args.map (wcv g)) (fun U => va_K g.1 vwCl (wtys g) U ∧ wO g U U.heap ∧ wRep g A U.heap)
/-- the method y, called with args on the heap A, ends so, with the heap B -/
def MetV (l : Launch) (g : GT) (y : MethodName) (w0 : Cond) (args : List AV) (A : Hp) (res : Option AV ⊕ String) (B : Hp) (fr lo mc ms : Nat) : Prop :=
  vx_Met l y (w0 :: uw) ({ frames := fr, cells := mc, slots := ms, locals := lo } : Room) (wPc g args A) (wQc g res B) (wXC g res B) mc ms (wA g)
/-- what a body owes at its end -/
def Ed (κ : KT) (ret : Option FieldType) (nm : String) (res : Option AV ⊕ String) (B : Hp) (mc ms : Nat) : Prop :=
  κ.2.2.1 = vx_MQ κ.2.1.2.2.1 (wQc κ.2.2.2 res B) (wXC κ.2.2.2 res B) κ.2.1.2.1 κ.1.2.2.2.2 mc ms (wA κ.2.2.2) ∧ κ.2.1.2.2.2.1.sig.returnType = ret ∧ κ.2.1.2.2.2.1.name = nm ∧ ∀ x ∈ κ.2.1.2.2.2.2.exceptionTable.toList, False
section
variable {κ : KT} {cc : ByteArray} {nL : Nat} {own nm : String} {fr lo mc ms : Nat} {A : Hp} {c n pc : Nat} {L : List (Nat × AV)} {st : List AV} {ret : Option FieldType}
theorem Vw.iret (K : Cx κ cc nL own fr lo mc ms) {x : Int32} (E : Ed κ (some .int) nm (.inl (some (.inl x))) A mc ms) (hc : c ≤ mc) (hn : n ≤ ms) (d : decode cc pc = .ok (.ireturn, 1)) : Vw κ A c n pc L [.inl x] := by
  intro H locs ls h1 h2 h3 h4
  rw [E.1]
  exact vx_ret (W.widen hc hn (W.iret K.1 K.2.1 E.2.1 (fun t ht hW => ⟨⟨_, rfl, rfl⟩, by rw [ht]; exact h1, by rw [ht]; exact h2⟩) h3 d K.2.2.2.2.2.1))
theorem Vw.zret (K : Cx κ cc nL own fr lo mc ms) {x : Int32} (hz : wZ x) (E : Ed κ (some .boolean) nm (.inl (some (.inl x))) A mc ms) (hc : c ≤ mc) (hn : n ≤ ms) (d : decode cc pc = .ok (.ireturn, 1)) : Vw κ A c n pc L [.inl x] := by
  intro H locs ls h1 h2 h3 h4
  rw [E.1]
  exact vx_ret (W.widen hc hn (W.zret K.1 K.2.1 E.2.1 (wZ_n hz) (fun t ht hW => ⟨⟨_, rfl, rfl⟩, by rw [ht]; exact h1, by rw [ht]; exact h2⟩) h3 d K.2.2.2.2.2.1))
theorem Vw.lret (K : Cx κ cc nL own fr lo mc ms) {x : Int64} (E : Ed κ (some .long) nm (.inl (some (.inr (.inl x)))) A mc ms) (hc : c ≤ mc) (hn : n ≤ ms) (d : decode cc pc = .ok (.lreturn, 1)) : Vw κ A c n pc L [.inr (.inl x)] := by
  intro H locs ls h1 h2 h3 h4
  rw [E.1]
  exact vx_ret (W.widen hc hn (W.lret K.1 K.2.1 E.2.1 (fun t ht hW => ⟨⟨_, rfl, rfl⟩, by rw [ht]; exact h1, by rw [ht]; exact h2⟩) h3 d K.2.2.2.2.2.1))
theorem Vw.aret (K : Cx κ cc nL own fr lo mc ms) {x : Nat} {C : String} (E : Ed κ (some (.object C)) nm (.inl (some (.inr (.inr x)))) A mc ms) (hc : c ≤ mc) (hn : n ≤ ms) (d : decode cc pc = .ok (.areturn, 1)) : Vw κ A c n pc L [.inr (.inr x)] := by
  intro H locs ls h1 h2 h3 h4
  rw [E.1]
  refine vx_ret (W.widen hc hn (W.aret (v := wrv κ.2.2.2 x) K.1 K.2.1 E.2.1 (Or.inl ⟨_, rfl⟩) ?_ (fun t ht hW => ⟨⟨_, rfl, rfl⟩, by rw [ht]; exact h1, by rw [ht]; exact h2⟩) h3 d K.2.2.2.2.2.1))
  by_cases hx : x = 0
  · exact Or.inl (by rw [hx]; rfl)
  · exact Or.inr ⟨_, wrv_ne _ hx⟩
theorem Vw.vret (K : Cx κ cc nL own fr lo mc ms) (E : Ed κ none nm (.inl none) A mc ms) (hc : c ≤ mc) (hn : n ≤ ms) (d : decode cc pc = .ok (.return_, 1)) : Vw κ A c n pc L [] := by
  intro H locs ls h1 h2 h3 h4
  rw [E.1]
  exact vx_ret (W.widen hc hn (W.vret K.1 K.2.1 E.2.1 (fun t ht hW => ⟨⟨_, rfl, rfl⟩, by rw [ht]; exact h1, by rw [ht]; exact h2⟩) h3 d K.2.2.2.2.2.1))
theorem Vw.objInit (K : Cx κ cc nL own fr lo mc ms) {i a : Nat} (hw : Cond.methodLink own i Lib.objectInit ∈ uw) (hw2 : Cond.instanceMethod Lib.objectInit ∈ uw) (hw3 : Cond.code Lib.objectInit ⟨#[0xb1]⟩ 1 none ∈ uw) (ha : ¬ a = 0) (hfr : 1 ≤ fr) (hlo : (st.map acat).sum + 12 ≤ lo) (d : decode cc pc = .ok (.invokespecial i, 3)) (kk : Vw κ A c n (pc + 3) L st) : Vw κ A c n pc L (.inr (.inr a) :: st) := by
  intro H locs ls h1 h2 h3 h4
  show W _ _ _ _ _ _ _ _ _ _ H locs c n _ (F0 _ pc ls (wrv κ.2.2.2 a :: st.map (wcv κ.2.2.2)))
  rw [wrv_ne _ ha]
  obtain ⟨k1, k2, k3, k4, k5, k6, k7, k8, k9, k10, k11, k12⟩ := K
  have hsum : ((st.map (wcv κ.2.2.2)).map fun v => v.category).sum = (st.map acat).sum := by
    rw [List.map_map]
    congr 1
    exact List.map_congr_left (fun v _ => wcv_cat _ v)
  exact W.objInit k1 k2 k4 (k5 _ hw) (k5 _ hw2) (k5 _ hw3) rfl h4.1 rfl d (by rw [k11]; exact hfr) (by rw [k11, hsum]; show 2 * 0 + _ + 12 ≤ lo; omega) (kk H locs ls h1 h2 h3 h4)
theorem w_sum (g : GT) (st : List AV) : ((st.map (wcv g)).map fun v => v.category).sum = (st.map acat).sum := by
  rw [List.map_map]
  congr 1
  exact List.map_congr_left (fun v _ => wcv_cat _ v)
/-- behind a call that returns -/
theorem Vw.ofRun {stk rest : List AV} {r : Option AV} {B : Hp} {mc' ms' : Nat} {a : Array Value}
    (hrun : ∀ (H : Heap) (locs : List Loc) (ls : Array Slot), wRep κ.2.2.2 A H → κ.1.2.2.2.2.heap.size ≤ H.size → (∀ q ∈ locs, κ.2.2.2.2.2.1 ≤ q.base) → lv_has ls κ.2.1.2.2.2.2.maxLocals (L.map (fun q => (q.1, wcv κ.2.2.2 q.2))) → vx_Run κ.1.1 κ.1.2.1 κ.1.2.2.1 κ.1.2.2.2.1 κ.1.2.2.2.2 κ.2.1.1 κ.2.1.2.1 κ.2.1.2.2.1 κ.2.1.2.2.2.1 κ.2.1.2.2.2.2 H locs c n mc' ms' (F0 κ.2.1.1 pc ls (stk.map (wcv κ.2.2.2))) (rest.map (wcv κ.2.2.2)) (wQc κ.2.2.2 (.inl r) B a) (wXC κ.2.2.2 (.inl r) B) (wA κ.2.2.2))
    (kk : Vw κ B (c + mc') (n + ms') (pc + 3) L (r.toList ++ rest)) : Vw κ A c n pc L stk := by
  intro H locs ls h1 h2 h3 h4 T hT X
  rcases hrun H locs ls h1 h2 h3 h4 T hT X with ⟨v, st₀, t, T', L', e0, X', hL', e1, e2, ⟨⟨r', hr', ho⟩, hB, hsz⟩, hg⟩ | ⟨q, st₀, t, T', L', E, ce, e0, X', hL', e1, e2, ⟨hx, -⟩, -⟩
  · cases hr'
    cases ho
    rw [e0] at hsz
    obtain ⟨t2, a1, b1⟩ := kk T'.heap (locs ++ L') ls (by rw [e1]; exact hB) (by rw [e1]; omega) (fun q hq => (List.mem_append.mp hq).elim (h3 q) (hL' q)) h4 T' rfl X'
    have hst : (r.toList ++ rest).map (wcv κ.2.2.2) = (r.map (wcv κ.2.2.2)).toList ++ rest.map (wcv κ.2.2.2) := by cases r <;> rfl
    rw [hst] at a1
    exact ⟨t2, hg t2 a1, b1⟩
  · cases hx
/-- behind a call that throws, and nobody here catches -/
theorem Vw.ofRunX (K : Cx κ cc nL own fr lo mc ms) {stk rest : List AV} {E : String} {B : Hp} {mc' ms' : Nat} {a : Array Value} (hE : Ed κ ret nm (.inr E) B mc ms) (hc : c + mc' ≤ mc) (hn : n + ms' ≤ ms)
    (hrun : ∀ (H : Heap) (locs : List Loc) (ls : Array Slot), wRep κ.2.2.2 A H → κ.1.2.2.2.2.heap.size ≤ H.size → (∀ q ∈ locs, κ.2.2.2.2.2.1 ≤ q.base) → lv_has ls κ.2.1.2.2.2.2.maxLocals (L.map (fun q => (q.1, wcv κ.2.2.2 q.2))) → vx_Run κ.1.1 κ.1.2.1 κ.1.2.2.1 κ.1.2.2.2.1 κ.1.2.2.2.2 κ.2.1.1 κ.2.1.2.1 κ.2.1.2.2.1 κ.2.1.2.2.2.1 κ.2.1.2.2.2.2 H locs c n mc' ms' (F0 κ.2.1.1 pc ls (stk.map (wcv κ.2.2.2))) (rest.map (wcv κ.2.2.2)) (wQc κ.2.2.2 (.inr E) B a) (wXC κ.2.2.2 (.inr E) B) (wA κ.2.2.2)) : Vw κ A c n pc L stk := by
  intro H locs ls h1 h2 h3 h4 T hT X
  rcases hrun H locs ls h1 h2 h3 h4 T hT X with ⟨v, st₀, t, T', L', e0, X', hL', e1, e2, ⟨⟨r', hr', ho⟩, hB, hsz⟩, hg⟩ | ⟨q, st₀, t, T', L', E', ce, e0, X', hL', e1, e2, ⟨hx, hB, hsz⟩, hce, hcv, hcl, hg⟩
  · cases hr'
  · cases hx
    rw [e0] at hsz
    obtain ⟨t2, a1, b1⟩ := vx_out (Qc := wQc κ.2.2.2 (.inr E) B) (XC := wXC κ.2.2.2 (.inr E) B) (free := wA κ.2.2.2) (mc := mc) (ms := ms) (pc := pc) (ls := ls) (rest := rest.map (wcv κ.2.2.2)) (H := T'.heap) (locs := locs ++ L') (fun x hx => (hE.2.2.2 x hx).elim) K.2.2.2.2.2.1 (by rw [e1]; exact hce) hcv hcl (fun t' ht' _ => ⟨rfl, by rw [ht', e1]; exact hB, by rw [ht', e1]; omega⟩) (fun q hq => (List.mem_append.mp hq).elim (h3 q) (hL' q)) hc hn T' rfl X'
    exact ⟨t2, hg.trans a1, by rw [hE.1]; exact b1⟩
theorem wPc_blind {g : GT} {args : List AV} {A : Hp} : FrameBlind (wPc g args A) := by
  intro a U f mk h
  obtain ⟨h0, h1, h2, h3⟩ := h
  exact ⟨h0, va_K.moved (u := U) (U := U.calling f mk a) (Vm.Alike.refl U.vm) h1, h2.to (State.WarmedH.refl U) (fun _ _ _ => rfl), h3⟩
theorem Cx.pre (K : Cx κ cc nL own fr lo mc ms) {H : Heap} {locs : List Loc} (h1 : wRep κ.2.2.2 A H) (h2 : κ.1.2.2.2.2.heap.size ≤ H.size) (h3 : ∀ q ∈ locs, κ.2.2.2.2.2.1 ≤ q.base) {args : List AV} {U : State} (hU : U.heap = H) (hW : κ.1.2.2.2.2.WarmedH U.vm) : wPc κ.2.2.2 args A (args.map (wcv κ.2.2.2)).toArray U := by
  have hS := K.S h1 h2 h3
  exact ⟨rfl, va_K.moved hW.alike K.2.2.2.2.2.2.1, K.2.2.2.2.2.2.2.1.to hW (by rw [hU]; exact hS.2.1), by rw [hU]; exact h1⟩
def wCalV (C : String) (y : MethodName) (w0 : Cond) (nA : Nat) : Prop := (y.cls = C ∧ y.cls ≠ "java/lang/invoke/MethodHandle" ∧ y.cls ≠ "java/lang/invoke/VarHandle" ∧ (parseMethodDescriptor y.desc).map (fun d => d.parameters.length) = some nA) ∧ Cond.instanceMethod y ∈ uw ∧ Cond.selects C y y ∈ uw ∧ Cond.initialized C ∈ uw ∧ w0 ∈ uw
def wCalS (y : MethodName) (w0 : Cond) (nA : Nat) : Prop := (y.cls ≠ "java/lang/invoke/MethodHandle" ∧ y.cls ≠ "java/lang/invoke/VarHandle" ∧ (parseMethodDescriptor y.desc).map (fun d => d.parameters.length) = some nA) ∧ Cond.static y ∈ uw ∧ Cond.initialized y.cls ∈ uw ∧ w0 ∈ uw
def wCalI (y : MethodName) (w0 : Cond) (nA : Nat) : Prop := (y.cls ≠ "java/lang/invoke/MethodHandle" ∧ y.cls ≠ "java/lang/invoke/VarHandle" ∧ (parseMethodDescriptor y.desc).map (fun d => d.parameters.length) = some nA) ∧ Cond.instanceMethod y ∈ uw ∧ Cond.initialized y.cls ∈ uw ∧ w0 ∈ uw ∧ y.name = "<init>"
theorem uwG {ws : List Cond} (h : ∀ w ∈ ws, w ∈ uw) : GoodIn uw ws := fun w hw => ⟨h w hw, good_of_word (uw_good (h w hw))⟩
theorem Cx.runV (K : Cx κ cc nL own fr lo mc ms) {y : MethodName} {bytes : ByteArray} {maxL : Nat} {C : String} {i nA ci N a : Nat} {T : u_T} {ty : Nat → FieldType} {As : List AV} {res : Option AV ⊕ String} {B : Hp} {fr' lo' mc' ms' : Nat}
    (hM : MetV κ.1.2.1 κ.2.2.2 y (.code y bytes maxL ret) (.inr (.inr a) :: As) A res B fr' lo' mc' ms') (hcal : wCalV C y (.code y bytes maxL ret) nA) (hC : wCls ci C T ty N) (hw : Cond.methodLink own i y ∈ uw) (ha : (hsh A a).1 = ci + 1) (hnA : As.length = nA) (hR : fr' + 1 ≤ fr ∧ 8 + (maxL + 11) + lo' ≤ lo) (hf : c + mc' ≤ mc ∧ n + ms' ≤ ms) {stk rest : List AV} (hs : stk = As.reverse ++ .inr (.inr a) :: rest) (hst : (rest.map acat).sum ≤ 8) (d : decode cc pc = .ok (.invokevirtual i, 3)) :
    ∀ (H : Heap) (locs : List Loc) (ls : Array Slot), wRep κ.2.2.2 A H → κ.1.2.2.2.2.heap.size ≤ H.size → (∀ q ∈ locs, κ.2.2.2.2.2.1 ≤ q.base) → lv_has ls κ.2.1.2.2.2.2.maxLocals (L.map (fun q => (q.1, wcv κ.2.2.2 q.2))) → vx_Run κ.1.1 κ.1.2.1 κ.1.2.2.1 κ.1.2.2.2.1 κ.1.2.2.2.2 κ.2.1.1 κ.2.1.2.1 κ.2.1.2.2.1 κ.2.1.2.2.2.1 κ.2.1.2.2.2.2 H locs c n mc' ms' (F0 κ.2.1.1 pc ls (stk.map (wcv κ.2.2.2))) (rest.map (wcv κ.2.2.2)) (wQc κ.2.2.2 res B #[]) (wXC κ.2.2.2 res B) (wA κ.2.2.2) := by
  intro H locs ls h1 h2 h3 h4
  have had := h1.ad (a := a) (by omega)
  have hKx := K
  obtain ⟨k1, k2, k3, k4, k5, k6, k7, k8, k9, k10, k11, k12⟩ := K
  have hargs : (Value.ref (κ.2.2.2.2.2.1 + (a - 100)) :: As.map (wcv κ.2.2.2)) = (.inr (.inr a) :: As : List AV).map (wcv κ.2.2.2) := by
    show _ = wrv κ.2.2.2 a :: _
    rw [had]
  have hstk : stk.map (wcv κ.2.2.2) = (As.map (wcv κ.2.2.2)).reverse ++ .ref (κ.2.2.2.2.2.1 + (a - 100)) :: rest.map (wcv κ.2.2.2) := by
    rw [hs, List.map_append, List.map_reverse]
    show _ ++ wrv κ.2.2.2 a :: _ = _
    rw [had]
  obtain ⟨hd, w1, w2, w3, w4⟩ := hcal
  have hT : GoodIn uw (wsV own i C y (.code y bytes maxL ret :: uw)) := uwG (fun w hw' => by
    rcases List.mem_append.mp hw' with h | h
    · simp only [List.mem_cons, List.not_mem_nil, or_false] at h
      rcases h with rfl | rfl | rfl | rfl
      · exact hw
      · exact w1
      · exact w2
      · exact w3
    · rcases List.mem_cons.mp h with rfl | h
      · exact w4
      · exact h)
  have hcw := cwV (R := κ.1.2.2.2.1) (mc := mc') (ms := ms') (rm := { frames := fr', cells := mc', slots := ms', locals := lo' }) nA k5 hT rfl rfl rfl hd (by rw [k11]; exact hR)
  exact vx_runV (As := As.map (wcv κ.2.2.2)) (b := κ.2.2.2.2.2.1 + (a - 100)) ⟨k1, k2, k3, k4, k5⟩ hM hcw ⟨wPc_blind, va_recv k7 (va_P1 (h1.2.2.2.2 a _ (wcl_obj ha hC.2.2.2.2.2.1))) (q0 := 0) hC.1 rfl, fun U hU hW => by rw [hargs]; exact hKx.pre h1 h2 h3 hU hW⟩ rfl (by rw [List.length_map]; exact hnA) (by rw [← k3]; exact h4.1) hstk (lv_room (by rw [w_sum]; exact hst)) d (by rw [k11]; exact hf)
theorem Cx.runS (K : Cx κ cc nL own fr lo mc ms) {y : MethodName} {bytes : ByteArray} {maxL : Nat} {i nA : Nat} {As : List AV} {res : Option AV ⊕ String} {B : Hp} {fr' lo' mc' ms' : Nat}
    (hM : MetV κ.1.2.1 κ.2.2.2 y (.code y bytes maxL ret) As A res B fr' lo' mc' ms') (hcal : wCalS y (.code y bytes maxL ret) nA) (hw : Cond.methodLink own i y ∈ uw) (hnA : As.length = nA) (hR : fr' + 1 ≤ fr ∧ 8 + (maxL + 11) + lo' ≤ lo) (hf : c + mc' ≤ mc ∧ n + ms' ≤ ms) {stk rest : List AV} (hs : stk = As.reverse ++ rest) (hst : (rest.map acat).sum ≤ 8) (d : decode cc pc = .ok (.invokestatic i, 3)) :
    ∀ (H : Heap) (locs : List Loc) (ls : Array Slot), wRep κ.2.2.2 A H → κ.1.2.2.2.2.heap.size ≤ H.size → (∀ q ∈ locs, κ.2.2.2.2.2.1 ≤ q.base) → lv_has ls κ.2.1.2.2.2.2.maxLocals (L.map (fun q => (q.1, wcv κ.2.2.2 q.2))) → vx_Run κ.1.1 κ.1.2.1 κ.1.2.2.1 κ.1.2.2.2.1 κ.1.2.2.2.2 κ.2.1.1 κ.2.1.2.1 κ.2.1.2.2.1 κ.2.1.2.2.2.1 κ.2.1.2.2.2.2 H locs c n mc' ms' (F0 κ.2.1.1 pc ls (stk.map (wcv κ.2.2.2))) (rest.map (wcv κ.2.2.2)) (wQc κ.2.2.2 res B #[]) (wXC κ.2.2.2 res B) (wA κ.2.2.2) := by
  intro H locs ls h1 h2 h3 h4
  have hKx := K
  obtain ⟨k1, k2, k3, k4, k5, k6, k7, k8, k9, k10, k11, k12⟩ := K
  have hstk : stk.map (wcv κ.2.2.2) = (As.map (wcv κ.2.2.2)).reverse ++ rest.map (wcv κ.2.2.2) := by
    rw [hs, List.map_append, List.map_reverse]
  obtain ⟨hd, w1, w3, w4⟩ := hcal
  have hT : GoodIn uw (va_wsS own i y (.code y bytes maxL ret :: uw)) := uwG (fun w hw' => by
    rcases List.mem_append.mp hw' with h | h
    · simp only [List.mem_cons, List.not_mem_nil, or_false] at h
      rcases h with rfl | rfl | rfl
      · exact hw
      · exact w1
      · exact w3
    · rcases List.mem_cons.mp h with rfl | h
      · exact w4
      · exact h)
  have hcw := va_cwS (R := κ.1.2.2.2.1) (mc := mc') (ms := ms') (rm := { frames := fr', cells := mc', slots := ms', locals := lo' }) nA k5 hT rfl rfl rfl hd (by rw [k11]; exact hR)
  exact vx_runS (As := As.map (wcv κ.2.2.2)) ⟨k1, k2, k3, k4, k5⟩ hM hcw ⟨wPc_blind, fun U hU hW => hKx.pre h1 h2 h3 hU hW⟩ rfl (by rw [List.length_map]; exact hnA) (by rw [← k3]; exact h4.1) hstk (lv_room (by rw [w_sum]; exact hst)) d (by rw [k11]; exact hf)
theorem Cx.runI (K : Cx κ cc nL own fr lo mc ms) {y : MethodName} {bytes : ByteArray} {maxL : Nat} {i nA a : Nat} {As : List AV} {res : Option AV ⊕ String} {B : Hp} {fr' lo' mc' ms' : Nat}
    (hM : MetV κ.1.2.1 κ.2.2.2 y (.code y bytes maxL none) (.inr (.inr a) :: As) A res B fr' lo' mc' ms') (hcal : wCalI y (.code y bytes maxL none) nA) (hw : Cond.methodLink own i y ∈ uw) (ha : ¬ a = 0) (hnA : As.length = nA) (hR : fr' + 1 ≤ fr ∧ 8 + (maxL + 11) + lo' ≤ lo) (hf : c + mc' ≤ mc ∧ n + ms' ≤ ms) {stk rest : List AV} (hs : stk = As.reverse ++ .inr (.inr a) :: rest) (hst : (rest.map acat).sum ≤ 8) (d : decode cc pc = .ok (.invokespecial i, 3)) :
    ∀ (H : Heap) (locs : List Loc) (ls : Array Slot), wRep κ.2.2.2 A H → κ.1.2.2.2.2.heap.size ≤ H.size → (∀ q ∈ locs, κ.2.2.2.2.2.1 ≤ q.base) → lv_has ls κ.2.1.2.2.2.2.maxLocals (L.map (fun q => (q.1, wcv κ.2.2.2 q.2))) → vx_Run κ.1.1 κ.1.2.1 κ.1.2.2.1 κ.1.2.2.2.1 κ.1.2.2.2.2 κ.2.1.1 κ.2.1.2.1 κ.2.1.2.2.1 κ.2.1.2.2.2.1 κ.2.1.2.2.2.2 H locs c n mc' ms' (F0 κ.2.1.1 pc ls (stk.map (wcv κ.2.2.2))) (rest.map (wcv κ.2.2.2)) (wQc κ.2.2.2 res B #[]) (wXC κ.2.2.2 res B) (wA κ.2.2.2) := by
  intro H locs ls h1 h2 h3 h4
  have had := wrv_ne κ.2.2.2 ha
  have hKx := K
  obtain ⟨k1, k2, k3, k4, k5, k6, k7, k8, k9, k10, k11, k12⟩ := K
  have hargs : (Value.ref (wad κ.2.2.2 a) :: As.map (wcv κ.2.2.2)) = (.inr (.inr a) :: As : List AV).map (wcv κ.2.2.2) := by
    show _ = wrv κ.2.2.2 a :: _
    rw [had]
  have hstk : stk.map (wcv κ.2.2.2) = (As.map (wcv κ.2.2.2)).reverse ++ .ref (wad κ.2.2.2 a) :: rest.map (wcv κ.2.2.2) := by
    rw [hs, List.map_append, List.map_reverse]
    show _ ++ wrv κ.2.2.2 a :: _ = _
    rw [had]
  obtain ⟨hd, w1, w3, w4, w5⟩ := hcal
  have hG : GoodIn uw (.code y bytes maxL none :: uw) := uwG (fun w hw' => by
    rcases List.mem_cons.mp hw' with rfl | h
    · exact w4
    · exact h)
  have hcw := cwI (R := κ.1.2.2.2.1) (own := own) (index := i) (mc := mc') (ms := ms') (rm := { frames := fr', cells := mc', slots := ms', locals := lo' }) nA k5 hG rfl rfl rfl (k5 _ w3) (k5 _ hw) (k5 _ w1) w5 hd (by rw [k11]; exact hR)
  exact vx_runI (As := As.map (wcv κ.2.2.2)) (b := wad κ.2.2.2 a) ⟨k1, k2, k3, k4, k5⟩ hM hcw ⟨wPc_blind, fun U hU hW => by rw [hargs]; exact hKx.pre h1 h2 h3 hU hW⟩ rfl (by rw [List.length_map]; exact hnA) (by rw [← k3]; exact h4.1) hstk (lv_room (by rw [w_sum]; exact hst)) d (by rw [k11]; exact hf)
end
def largs : Nat → List AV → List (Nat × AV)
  | _, [] => []
  | i, v :: vs => (i, v) :: largs (if acat v = 2 then i + 2 else i + 1) vs
theorem largs_map (g : GT) : ∀ (vs : List AV) (i : Nat), (largs i vs).map (fun q => (q.1, wcv g q.2)) = lv_args i (vs.map (wcv g)) := by
  intro vs
  induction vs with
  | nil => intro i; rfl
  | cons v vs ih =>
    intro i
    show (i, wcv g v) :: _ = (i, wcv g v) :: lv_args (if (wcv g v).category = 2 then i + 2 else i + 1) _
    rw [ih, wcv_cat]
def aslots (vs : List AV) : Nat := (vs.map acat).sum
theorem aslots_sl (g : GT) : ∀ (vs : List AV), (lg_sl (vs.map (wcv g))).length = aslots vs := by
  intro vs
  induction vs with
  | nil => rfl
  | cons v vs ih =>
    unfold lg_sl aslots at *
    rw [List.map_cons, List.flatMap_cons, List.length_append, ih, List.map_cons, List.sum_cons]
    congr 1
    rw [wcv_cat]
    rcases v with x | x | x <;> rfl
/-- a method's contract out of its walk -/
theorem MetV.ofV {l : Launch} {g : GT} {y : MethodName} {cc : ByteArray} {nL : Nat} {ret : Option FieldType} {args : List AV} {A : Hp} {res : Option AV ⊕ String} {B : Hp} {fr lo mc ms : Nat} (hl : l.stackTraces = false) (hy : plainName y.cls = true) (hn : aslots args ≤ nL)
    (body : ∀ κ : KT, Cx κ cc nL y.cls fr lo mc ms → Ed κ ret y.name res B mc ms → Vw κ A 0 0 0 (largs 0 args) []) : MetV l g y (.code y cc nL ret) args A res B fr lo mc ms := by
  refine vx_ofW (cc := cc) (maxL := nL) (ret := ret) hy rfl ?_
  intro p e s m args' below meth c s₁ B' hml htab hv
  obtain ⟨rfl, hK, hO, hR⟩ := hv
  have hts := atoms_spec (ws := .code y cc nL ret :: uw) B'.pre
  have hown : s.vm.findClass y.cls = some m.cls := findClass_of_methodNamed B'.named
  have hVw := body ((p, l, e, (headSpec (.code y cc nL ret :: uw) { frames := fr, cells := mc, slots := ms, locals := lo }).room, s), (m, (args.map (wcv g)).toArray, below, meth, c), vx_MQ below (wQc g res B) (wXC g res B) (args.map (wcv g)).toArray s mc ms (wA g), g)
    ⟨B'.exec, B'.bytes, hml, hown, fun w hw => hts w (List.mem_cons_of_mem _ hw), B'.notSynchronized, hK, hO, hR.2.2.1, by have := hR.1; have := hR.2.1; show g.2.2.1 ≤ s.heap.size; omega, rfl, hl⟩
    ⟨rfl, B'.returns, (name_of_methodNamed B'.named B'.method).1, htab⟩
  have hl9 := lv_entry (args.map (wcv g)) (n := nL) (by rw [aslots_sl]; exact hn)
  rw [lg_entry_eq]
  refine hVw s.heap [] _ hR (Nat.le_refl _) (fun q hq => by cases hq) ?_
  rw [largs_map]
  show lv_has _ c.maxLocals _
  rw [hml]
  exact hl9
