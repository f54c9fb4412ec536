/-! methods with handlers: the law's own -/
def EdH (κ : KT) (ret : Option FieldType) (nm : String) (res : Option AV ⊕ String) (B : Hp) (mc ms : Nat) (hh : List (Nat × Nat × Nat × Nat)) : Prop :=
  κ.2.2.1 = vx_MQ κ.2.1.2.2.1 (wQc κ.2.2.2 res B) (wXC κ.2.2.2 res B) κ.2.1.2.1 κ.1.2.2.2.2 mc ms (wA κ.2.2.2) ∧ κ.2.1.2.2.2.1.sig.returnType = ret ∧ κ.2.1.2.2.2.1.name = nm ∧ κ.2.1.2.2.2.2.exceptionTable.toList = tableOf hh
def wcat {T R : Type} (x : Option ((T ⊕ Nat) × Hp)) (k : T → Hp → Option R) (kx : Nat → Hp → Option R) : Option R := match x with
  | none => none
  | some (.inl v, A) => k v A
  | some (.inr e, A) => kx e A
theorem wcatE {T R : Type} {x : Option ((T ⊕ Nat) × Hp)} {k : T → Hp → Option R} {kx : Nat → Hp → Option R} {r : R} (h : wcat x k kx = some r) : (∃ v A, x = some (.inl v, A) ∧ k v A = some r) ∨ ∃ e A, x = some (.inr e, A) ∧ kx e A = some r := by
  match x with
  | none => cases h
  | some (.inl v, A) => exact Or.inl ⟨v, A, rfl, h⟩
  | some (.inr e, A) => exact Or.inr ⟨e, A, rfl, h⟩
section
variable {κ : KT} {cc : ByteArray} {nL : Nat} {own nm : String} {fr lo mc ms : Nat} {A B : Hp} {c n pc : Nat} {L : List (Nat × AV)} {st : List AV} {ret : Option FieldType} {hh : List (Nat × Nat × Nat × Nat)}
theorem Vw.iretL (K : Cx κ cc nL own fr lo mc ms) {x r : Int32} (h : (some (x, A) : Option (Int32 × Hp)) = some (r, B)) (E : EdH κ (some .int) nm (.inl (some (.inl r))) B mc ms hh) (hc : c ≤ mc) (hn : n ≤ ms) (d : decode cc pc = .ok (.ireturn, 1)) : Vw κ A c n pc L [.inl x] := by
  cases h
  intro H locs ls h1 h2 h3 h4
  rw [E.1]
  exact vx_ret (W.widen hc hn (W.iret K.1 K.2.1 E.2.1 (fun t ht hW => ⟨⟨_, rfl, rfl⟩, by rw [ht]; exact h1, by rw [ht]; exact h2⟩) h3 d K.2.2.2.2.2.1))
/-- a call that throws, caught here; the handler keeps the exception in a local that nobody reads -/
theorem Vw.cVC (K : Cx κ cc nL own fr lo mc ms) {y : MethodName} {bytes : ByteArray} {maxL i nA ci N a : Nat} {T : u_T} {ty : Nat → FieldType} {C X : String} {As : List AV} {fr' lo' mc' ms' c' n' hp : Nat} {stk rest : List AV} {j : Fin 4} {x : ExceptionTableEntry} {pre suf : List ExceptionTableEntry}
    (hM : MetV κ.1.2.1 κ.2.2.2 y (.code y bytes maxL ret) (.inr (.inr a) :: As) A (.inr X) B fr' lo' mc' ms') (hcal : wCalV C y (.code y bytes maxL ret) nA) (hC : wCls ci C T ty N) (hw : Cond.methodLink own i y ∈ uw) (ha : (hsh A a).1 = ci + 1) (hnA : As.length = nA) (hR : fr' + 1 ≤ fr ∧ 8 + (maxL + 11) + lo' ≤ lo) (hf : c + mc' ≤ mc ∧ n + ms' ≤ ms) (hs : stk = As.reverse ++ .inr (.inr a) :: rest) (hst : (rest.map acat).sum ≤ 8) (d : decode cc pc = .ok (.invokevirtual i, 3))
    (hT : κ.2.1.2.2.2.2.exceptionTable.toList = pre ++ x :: suf) (hpass : ∀ z ∈ pre, covers z pc = false ∨ (z.catchType ≠ 0 ∧ ∃ nm : String, Cond.classLink own z.catchType nm ∈ uw ∧ (X, nm) ∈ wnN)) (hx : covers x pc = true) (h0 : x.catchType ≠ 0) (hl : Cond.classLink own x.catchType X ∈ uw) (hX : X ∈ wnC) (hhp : x.handlerPc = hp) (d2 : decode cc hp = .ok (.astore_n j, 1)) (hj : (j : Nat) < nL) (hc' : c + mc' = c') (hn' : n + ms' = n')
    (kk : Vw κ B c' n' (hp + 1) (L.filter (fun q => !(q.1 == (j : Nat)) && !(q.1 + 1 == (j : Nat) && acat q.2 == 2))) []) : Vw κ A c n pc L stk := by
  subst hc'; subst hn'; subst hhp
  intro H locs ls h1 h2 h3 h4 T9 hT9 X9
  rcases K.runV (L := L) hM hcal hC hw ha hnA hR hf hs hst d H locs ls h1 h2 h3 h4 T9 hT9 X9 with ⟨v, st₀, t, T', L', e0, X', hL', e1, e2, ⟨⟨r', hr', ho⟩, hB, hsz⟩, hg⟩ | ⟨q, st₀, t, T', L', E', ce, e0, X', hL', e1, e2, ⟨hx9, hB, hsz⟩, hce, hcv, hcl, hg⟩
  · cases hr'
  · cases hx9
    rw [e0] at hsz
    obtain ⟨k1, k2, k3, k4, k5, k6, k7, k8, k9, k10, k11, k12⟩ := K
    obtain ⟨t2, a1, b1⟩ := vx_catch (pc := pc) (ls := ls) (rest := rest.map (wcv κ.2.2.2)) (H := T'.heap) (locs := locs ++ L') (cells := c + mc') (slots := n + ms') (Q := κ.2.2.1) k4 pre x suf hT (fun z hz => by
        rcases hpass z hz with h | ⟨h, nm9, w1, w2⟩
        · exact Or.inl h
        · exact Or.inr ⟨h, nm9, k5 _ w1, k8.2.2.2.2.2.2.2.2.2.2.2.2.2 _ w2⟩) hx h0 (k5 _ hl) ((k8.2.2.2.2.2.2.2.2.2.2.2.1 _ hX).use rfl) (by rw [e1]; exact hce) hcv hcl
        (lv_astore_n k1 k2 d2 rfl h4 (by rw [k3]; exact hj) rfl (fun ls' h5 => kk T'.heap (locs ++ L') ls' (by rw [e1]; exact hB) (by rw [e1]; omega) (fun q hq => (List.mem_append.mp hq).elim (h3 q) (hL' q)) (lv_less h5 (fun z hz => by
          obtain ⟨p, hp, rfl⟩ := List.mem_map.mp hz
          obtain ⟨g1, g2⟩ := List.mem_filter.mp hp
          refine List.mem_cons_of_mem _ (List.mem_filter.mpr ⟨List.mem_map.mpr ⟨p, g1, rfl⟩, ?_⟩)
          simp only [wcv_cat]
          exact g2)))) T' rfl X'
    exact ⟨t2, hg.trans a1, b1⟩
/-- .. the same, a local beyond the third -/
theorem Vw.cVD (K : Cx κ cc nL own fr lo mc ms) {y : MethodName} {bytes : ByteArray} {maxL i nA ci N a : Nat} {T : u_T} {ty : Nat → FieldType} {C X : String} {As : List AV} {fr' lo' mc' ms' c' n' hp : Nat} {stk rest : List AV} {j : Nat} {x : ExceptionTableEntry} {pre suf : List ExceptionTableEntry}
    (hM : MetV κ.1.2.1 κ.2.2.2 y (.code y bytes maxL ret) (.inr (.inr a) :: As) A (.inr X) B fr' lo' mc' ms') (hcal : wCalV C y (.code y bytes maxL ret) nA) (hC : wCls ci C T ty N) (hw : Cond.methodLink own i y ∈ uw) (ha : (hsh A a).1 = ci + 1) (hnA : As.length = nA) (hR : fr' + 1 ≤ fr ∧ 8 + (maxL + 11) + lo' ≤ lo) (hf : c + mc' ≤ mc ∧ n + ms' ≤ ms) (hs : stk = As.reverse ++ .inr (.inr a) :: rest) (hst : (rest.map acat).sum ≤ 8) (d : decode cc pc = .ok (.invokevirtual i, 3))
    (hT : κ.2.1.2.2.2.2.exceptionTable.toList = pre ++ x :: suf) (hpass : ∀ z ∈ pre, covers z pc = false ∨ (z.catchType ≠ 0 ∧ ∃ nm : String, Cond.classLink own z.catchType nm ∈ uw ∧ (X, nm) ∈ wnN)) (hx : covers x pc = true) (h0 : x.catchType ≠ 0) (hl : Cond.classLink own x.catchType X ∈ uw) (hX : X ∈ wnC) (hhp : x.handlerPc = hp) (d2 : decode cc hp = .ok (.astore j, 2)) (hj : j < nL) (hc' : c + mc' = c') (hn' : n + ms' = n')
    (kk : Vw κ B c' n' (hp + 2) (L.filter (fun q => !(q.1 == j) && !(q.1 + 1 == j && acat q.2 == 2))) []) : Vw κ A c n pc L stk := by
  subst hc'; subst hn'; subst hhp
  intro H locs ls h1 h2 h3 h4 T9 hT9 X9
  rcases K.runV (L := L) hM hcal hC hw ha hnA hR hf hs hst d H locs ls h1 h2 h3 h4 T9 hT9 X9 with ⟨v, st₀, t, T', L', e0, X', hL', e1, e2, ⟨⟨r', hr', ho⟩, hB, hsz⟩, hg⟩ | ⟨q, st₀, t, T', L', E', ce, e0, X', hL', e1, e2, ⟨hx9, hB, hsz⟩, hce, hcv, hcl, hg⟩
  · cases hr'
  · cases hx9
    rw [e0] at hsz
    obtain ⟨k1, k2, k3, k4, k5, k6, k7, k8, k9, k10, k11, k12⟩ := K
    obtain ⟨t2, a1, b1⟩ := vx_catch (pc := pc) (ls := ls) (rest := rest.map (wcv κ.2.2.2)) (H := T'.heap) (locs := locs ++ L') (cells := c + mc') (slots := n + ms') (Q := κ.2.2.1) k4 pre x suf hT (fun z hz => by
        rcases hpass z hz with h | ⟨h, nm9, w1, w2⟩
        · exact Or.inl h
        · exact Or.inr ⟨h, nm9, k5 _ w1, k8.2.2.2.2.2.2.2.2.2.2.2.2.2 _ w2⟩) hx h0 (k5 _ hl) ((k8.2.2.2.2.2.2.2.2.2.2.2.1 _ hX).use rfl) (by rw [e1]; exact hce) hcv hcl
        (lv_astore k1 k2 d2 h4 (by rw [k3]; exact hj) rfl (fun ls' h5 => kk T'.heap (locs ++ L') ls' (by rw [e1]; exact hB) (by rw [e1]; omega) (fun q hq => (List.mem_append.mp hq).elim (h3 q) (hL' q)) (lv_less h5 (fun z hz => by
          obtain ⟨p, hp, rfl⟩ := List.mem_map.mp hz
          obtain ⟨g1, g2⟩ := List.mem_filter.mp hp
          refine List.mem_cons_of_mem _ (List.mem_filter.mpr ⟨List.mem_map.mpr ⟨p, g1, rfl⟩, ?_⟩)
          simp only [wcv_cat]
          exact g2)))) T' rfl X'
    exact ⟨t2, hg.trans a1, b1⟩
end
theorem MetV.ofVH {l : Launch} {g : GT} {y : MethodName} {cc : ByteArray} {nL : Nat} {ret : Option FieldType} {args : List AV} {A : Hp} {res : Option AV ⊕ String} {B : Hp} {fr lo mc ms : Nat} {hh : List (Nat × Nat × Nat × Nat)} (hl : l.stackTraces = false) (hy : plainName y.cls = true) (hn : aslots args ≤ nL)
    (body : ∀ κ : KT, Cx κ cc nL y.cls fr lo mc ms → EdH κ ret y.name res B mc ms hh → Vw κ A 0 0 0 (largs 0 args) []) : MetV l g y (.codeWith y cc nL ret hh) args A res B fr lo mc ms := by
  refine vx_ofWH (cc := cc) (maxL := nL) (ret := ret) (hh := hh) hy rfl ?_
  intro p e s m args' below meth c s₁ B' hml hv
  obtain ⟨rfl, hK, hO, hR⟩ := hv
  have hts := atoms_spec (ws := .codeWith y cc nL ret hh :: uw) B'.pre
  have hown : s.vm.findClass y.cls = some m.cls := findClass_of_methodNamed B'.named
  have htab := vx_table (x := y) B' (hts _ List.mem_cons_self)
  have hVw := body ((p, l, e, (headSpec (.codeWith y cc nL ret hh :: uw) { frames := fr, cells := mc, slots := ms, locals := lo }).room, s), (m, (args.map (wcv g)).toArray, below, meth, c), vx_MQ below (wQc g res B) (wXC g res B) (args.map (wcv g)).toArray s mc ms (wA g), g)
    ⟨B'.exec, B'.bytes, hml, hown, fun w hw => hts w (List.mem_cons_of_mem _ hw), B'.notSynchronized, hK, hO, hR.2.2.1, by have := hR.1; have := hR.2.1; show g.2.2.1 ≤ s.heap.size; omega, rfl, hl⟩
    ⟨rfl, B'.returns, (name_of_methodNamed B'.named B'.method).1, htab⟩
  have hl9 := lv_entry (args.map (wcv g)) (n := nL) (by rw [aslots_sl]; exact hn)
  rw [lg_entry_eq]
  refine hVw s.heap [] _ hR (Nat.le_refl _) (fun q hq => by cases hq) ?_
  rw [largs_map]
  show lv_has _ c.maxLocals _
  rw [hml]
  exact hl9
def wCalH (y : MethodName) (w0 : Cond) (nA : Nat) : Prop := (y.cls ≠ "java/lang/invoke/MethodHandle" ∧ y.cls ≠ "java/lang/invoke/VarHandle" ∧ (parseMethodDescriptor y.desc).map (fun d => d.parameters.length) = some nA) ∧ Cond.static y ∈ uw ∧ Cond.initialized y.cls ∈ uw ∧ w0 ∈ uw
section
variable {κ : KT} {cc : ByteArray} {nL : Nat} {own nm : String} {fr lo mc ms : Nat} {A B : Hp} {c n pc : Nat} {L : List (Nat × AV)} {st : List AV} {ret : Option FieldType} {hh : List (Nat × Nat × Nat × Nat)}
theorem Vw.cH1 (K : Cx κ cc nL own fr lo mc ms) {y : MethodName} {bytes : ByteArray} {maxL i nA : Nat} {As : List AV} {v : AV} {fr' lo' mc' ms' c' n' : Nat} {stk rest : List AV}
    (hM : MetV κ.1.2.1 κ.2.2.2 y (.codeWith y bytes maxL ret hh) As A (.inl (some v)) B fr' lo' mc' ms') (hcal : wCalH y (.codeWith y bytes maxL ret hh) nA) (hw : Cond.methodLink own i y ∈ uw) (hnA : As.length = nA) (hR : fr' + 1 ≤ fr ∧ 8 + (maxL + 11) + lo' ≤ lo) (hf : c + mc' ≤ mc ∧ n + ms' ≤ ms) (hs : stk = As.reverse ++ rest) (hst : (rest.map acat).sum ≤ 8) (d : decode cc pc = .ok (.invokestatic i, 3)) (hc' : c + mc' = c') (hn' : n + ms' = n') (kk : Vw κ B c' n' (pc + 3) L (v :: rest)) : Vw κ A c n pc L stk := by
  subst hc'; subst hn'
  refine Vw.ofRun (r := some v) (B := B) (rest := rest) (mc' := mc') (ms' := ms') (a := #[]) ?_ kk
  intro H locs ls h1 h2 h3 h4
  have hKx := K
  obtain ⟨k1, k2, k3, k4, k5, k6, k7, k8, k9, k10, k11, k12⟩ := K
  have hstk : stk.map (wcv κ.2.2.2) = (As.map (wcv κ.2.2.2)).reverse ++ rest.map (wcv κ.2.2.2) := by
    rw [hs, List.map_append, List.map_reverse]
  obtain ⟨hd, w1, w3, w4⟩ := hcal
  have hT : GoodIn uw (va_wsS own i y (.codeWith y bytes maxL ret hh :: uw)) := uwG (fun w hw' => by
    rcases List.mem_append.mp hw' with h | h
    · simp only [List.mem_cons, List.not_mem_nil, or_false] at h
      rcases h with rfl | rfl | rfl
      · exact hw
      · exact w1
      · exact w3
    · rcases List.mem_cons.mp h with rfl | h
      · exact w4
      · exact h)
  have hcw := vx_cwSW (R := κ.1.2.2.2.1) (mc := mc') (ms := ms') (rm := { frames := fr', cells := mc', slots := ms', locals := lo' }) nA k5 hT rfl rfl rfl hd (by rw [k11]; exact hR)
  exact vx_runSX (As := As.map (wcv κ.2.2.2)) ⟨k1, k2, k3, k4, k5⟩ hM hcw ⟨wPc_blind, fun U hU hW => hKx.pre h1 h2 h3 hU hW⟩ rfl (by rw [List.length_map]; exact hnA) (by rw [← k3]; exact h4.1) hstk (lv_room (by rw [w_sum]; exact hst)) d (by rw [k11]; exact hf)
end
