/-! rows as the generated walks use them -/
def FU : Nat := 16384
theorem lgc_eq (x y : Int64) : lg_cmp x y = 0 ↔ x = y := by
  unfold lg_cmp
  by_cases h1 : y < x
  · rw [if_pos h1]
    exact ⟨fun q => absurd q (by decide), fun q => absurd h1 (by rw [q]; exact Int64.lt_irrefl)⟩
  · rw [if_neg h1]
    by_cases h2 : x = y
    · rw [if_pos h2]; exact ⟨fun _ => h2, fun _ => rfl⟩
    · rw [if_neg h2]; exact ⟨fun q => absurd q (by decide), fun q => absurd q h2⟩
theorem lgc_gt (x y : Int64) : 0 < lg_cmp x y ↔ y < x := by
  unfold lg_cmp
  by_cases h1 : y < x
  · rw [if_pos h1]; exact ⟨fun _ => h1, fun _ => by decide⟩
  · rw [if_neg h1]
    by_cases h2 : x = y
    · rw [if_pos h2]; exact ⟨fun q => absurd q (by decide), fun q => absurd q h1⟩
    · rw [if_neg h2]; exact ⟨fun q => absurd q (by decide), fun q => absurd q h1⟩
theorem lgc_le (x y : Int64) : lg_cmp x y ≤ 0 ↔ x ≤ y := by
  rw [← Int32.not_lt, ← Int64.not_lt, lgc_gt]
theorem lgc_lt (x y : Int64) : lg_cmp x y < 0 ↔ x < y := by
  unfold lg_cmp
  by_cases h1 : y < x
  · rw [if_pos h1]
    exact ⟨fun q => absurd q (by decide), fun q => absurd (Int64.lt_trans q h1) (Int64.lt_irrefl)⟩
  · rw [if_neg h1]
    by_cases h2 : x = y
    · rw [if_pos h2]; exact ⟨fun q => absurd q (by decide), fun q => absurd q (by rw [h2]; exact Int64.lt_irrefl)⟩
    · rw [if_neg h2]; exact ⟨fun _ => Int64.lt_of_le_of_ne (Int64.not_lt.mp h1) h2, fun _ => by decide⟩
theorem lgc_ge (x y : Int64) : 0 ≤ lg_cmp x y ↔ y ≤ x := by
  rw [← Int32.not_lt, ← Int64.not_lt, lgc_lt]
section
variable {κ : KT} {cc : ByteArray} {nL : Nat} {own nm : String} {fr lo mc ms : Nat} {A B : Hp} {c n pc : Nat} {L : List (Nat × AV)} {st : List AV} {ret : Option FieldType}
theorem Cx.tr (K : Cx κ cc nL own fr lo mc ms) : κ.1.2.1.stackTraces = false := K.2.2.2.2.2.2.2.2.2.2.2
theorem Vw.wid {c' n' : Nat} (h1 : c ≤ c') (h2 : n ≤ n') (k : Vw κ A c' n' pc L st) : Vw κ A c n pc L st := fun H locs ls a1 a2 a3 a4 => W.widen h1 h2 (k H locs ls a1 a2 a3 a4)
theorem Vw.iretE (K : Cx κ cc nL own fr lo mc ms) {x r : Int32} (hx : x = r) (hA : A = B) (E : Ed κ (some .int) nm (.inl (some (.inl r))) B mc ms) (hc : c ≤ mc) (hn : n ≤ ms) (d : decode cc pc = .ok (.ireturn, 1)) : Vw κ A c n pc L [.inl x] := by
  subst hx; subst hA; exact Vw.iret K E hc hn d
theorem Vw.zretE (K : Cx κ cc nL own fr lo mc ms) {x r : Int32} (hz : wZ x) (hx : x = r) (hA : A = B) (E : Ed κ (some .boolean) nm (.inl (some (.inl r))) B mc ms) (hc : c ≤ mc) (hn : n ≤ ms) (d : decode cc pc = .ok (.ireturn, 1)) : Vw κ A c n pc L [.inl x] := by
  subst hx; subst hA; exact Vw.zret K hz E hc hn d
theorem Vw.lretE (K : Cx κ cc nL own fr lo mc ms) {x r : Int64} (hx : x = r) (hA : A = B) (E : Ed κ (some .long) nm (.inl (some (.inr (.inl r)))) B mc ms) (hc : c ≤ mc) (hn : n ≤ ms) (d : decode cc pc = .ok (.lreturn, 1)) : Vw κ A c n pc L [.inr (.inl x)] := by
  subst hx; subst hA; exact Vw.lret K E hc hn d
theorem Vw.aretE (K : Cx κ cc nL own fr lo mc ms) {x r : Nat} {C : String} (hx : x = r) (hA : A = B) (E : Ed κ (some (.object C)) nm (.inl (some (.inr (.inr r)))) B mc ms) (hc : c ≤ mc) (hn : n ≤ ms) (d : decode cc pc = .ok (.areturn, 1)) : Vw κ A c n pc L [.inr (.inr x)] := by
  subst hx; subst hA; exact Vw.aret K E hc hn d
theorem Vw.vretE (K : Cx κ cc nL own fr lo mc ms) (hA : A = B) (E : Ed κ none nm (.inl none) B mc ms) (hc : c ≤ mc) (hn : n ≤ ms) (d : decode cc pc = .ok (.return_, 1)) : Vw κ A c n pc L [] := by
  subst hA; exact Vw.vret K E hc hn d
theorem Vw.cV1 (K : Cx κ cc nL own fr lo mc ms) {y : MethodName} {bytes : ByteArray} {maxL i nA : Nat} {C : String} {ci N a : Nat} {T : u_T} {ty : Nat → FieldType} {As : List AV} {v : AV} {fr' lo' mc' ms' c' n' : Nat} {stk rest : List AV} (hM : MetV κ.1.2.1 κ.2.2.2 y (.code y bytes maxL ret) (.inr (.inr a) :: As) A (.inl (some v)) B fr' lo' mc' ms') (hcal : wCalV C y (.code y bytes maxL ret) nA) (hC : wCls ci C T ty N) (hw : Cond.methodLink own i y ∈ uw) (ha : (hsh A a).1 = ci + 1) (hnA : As.length = nA) (hR : fr' + 1 ≤ fr ∧ 8 + (maxL + 11) + lo' ≤ lo) (hf : c + mc' ≤ mc ∧ n + ms' ≤ ms) (hs : stk = As.reverse ++ .inr (.inr a) :: rest) (hst : (rest.map acat).sum ≤ 8) (d : decode cc pc = .ok (.invokevirtual i, 3)) (hc' : c + mc' = c') (hn' : n + ms' = n') (kk : Vw κ B c' n' (pc + 3) L (v :: rest)) : Vw κ A c n pc L stk := by
  subst hc'; subst hn'; exact Vw.ofRun (K.runV hM hcal hC hw ha hnA hR hf hs hst d) kk
theorem Vw.cV0 (K : Cx κ cc nL own fr lo mc ms) {y : MethodName} {bytes : ByteArray} {maxL i nA : Nat} {C : String} {ci N a : Nat} {T : u_T} {ty : Nat → FieldType} {As : List AV} {fr' lo' mc' ms' c' n' : Nat} {stk rest : List AV} (hM : MetV κ.1.2.1 κ.2.2.2 y (.code y bytes maxL ret) (.inr (.inr a) :: As) A (.inl none) B fr' lo' mc' ms') (hcal : wCalV C y (.code y bytes maxL ret) nA) (hC : wCls ci C T ty N) (hw : Cond.methodLink own i y ∈ uw) (ha : (hsh A a).1 = ci + 1) (hnA : As.length = nA) (hR : fr' + 1 ≤ fr ∧ 8 + (maxL + 11) + lo' ≤ lo) (hf : c + mc' ≤ mc ∧ n + ms' ≤ ms) (hs : stk = As.reverse ++ .inr (.inr a) :: rest) (hst : (rest.map acat).sum ≤ 8) (d : decode cc pc = .ok (.invokevirtual i, 3)) (hc' : c + mc' = c') (hn' : n + ms' = n') (kk : Vw κ B c' n' (pc + 3) L (rest)) : Vw κ A c n pc L stk := by
  subst hc'; subst hn'; exact Vw.ofRun (K.runV hM hcal hC hw ha hnA hR hf hs hst d) kk
theorem Vw.cVX (K : Cx κ cc nL own fr lo mc ms) {y : MethodName} {bytes : ByteArray} {maxL i nA : Nat} {ret2 : Option FieldType} {X : String} {C : String} {ci N a : Nat} {T : u_T} {ty : Nat → FieldType} {As : List AV} {fr' lo' mc' ms' : Nat} {stk rest : List AV} (hM : MetV κ.1.2.1 κ.2.2.2 y (.code y bytes maxL ret) (.inr (.inr a) :: As) A (.inr X) B fr' lo' mc' ms') (hcal : wCalV C y (.code y bytes maxL ret) nA) (hC : wCls ci C T ty N) (hw : Cond.methodLink own i y ∈ uw) (ha : (hsh A a).1 = ci + 1) (hnA : As.length = nA) (hR : fr' + 1 ≤ fr ∧ 8 + (maxL + 11) + lo' ≤ lo) (hf : c + mc' ≤ mc ∧ n + ms' ≤ ms) (hs : stk = As.reverse ++ .inr (.inr a) :: rest) (hst : (rest.map acat).sum ≤ 8) (d : decode cc pc = .ok (.invokevirtual i, 3)) (E : Ed κ ret2 nm (.inr X) B mc ms) : Vw κ A c n pc L stk :=
  Vw.ofRunX K E hf.1 hf.2 (K.runV hM hcal hC hw ha hnA hR hf hs hst d)
theorem Vw.cS1 (K : Cx κ cc nL own fr lo mc ms) {y : MethodName} {bytes : ByteArray} {maxL i nA : Nat} {As : List AV} {v : AV} {fr' lo' mc' ms' c' n' : Nat} {stk rest : List AV} (hM : MetV κ.1.2.1 κ.2.2.2 y (.code y bytes maxL ret) (As) A (.inl (some v)) B fr' lo' mc' ms') (hcal : wCalS y (.code y bytes maxL ret) nA) (hw : Cond.methodLink own i y ∈ uw) (hnA : As.length = nA) (hR : fr' + 1 ≤ fr ∧ 8 + (maxL + 11) + lo' ≤ lo) (hf : c + mc' ≤ mc ∧ n + ms' ≤ ms) (hs : stk = As.reverse ++ rest) (hst : (rest.map acat).sum ≤ 8) (d : decode cc pc = .ok (.invokestatic i, 3)) (hc' : c + mc' = c') (hn' : n + ms' = n') (kk : Vw κ B c' n' (pc + 3) L (v :: rest)) : Vw κ A c n pc L stk := by
  subst hc'; subst hn'; exact Vw.ofRun (K.runS hM hcal hw hnA hR hf hs hst d) kk
theorem Vw.cS0 (K : Cx κ cc nL own fr lo mc ms) {y : MethodName} {bytes : ByteArray} {maxL i nA : Nat} {As : List AV} {fr' lo' mc' ms' c' n' : Nat} {stk rest : List AV} (hM : MetV κ.1.2.1 κ.2.2.2 y (.code y bytes maxL ret) (As) A (.inl none) B fr' lo' mc' ms') (hcal : wCalS y (.code y bytes maxL ret) nA) (hw : Cond.methodLink own i y ∈ uw) (hnA : As.length = nA) (hR : fr' + 1 ≤ fr ∧ 8 + (maxL + 11) + lo' ≤ lo) (hf : c + mc' ≤ mc ∧ n + ms' ≤ ms) (hs : stk = As.reverse ++ rest) (hst : (rest.map acat).sum ≤ 8) (d : decode cc pc = .ok (.invokestatic i, 3)) (hc' : c + mc' = c') (hn' : n + ms' = n') (kk : Vw κ B c' n' (pc + 3) L (rest)) : Vw κ A c n pc L stk := by
  subst hc'; subst hn'; exact Vw.ofRun (K.runS hM hcal hw hnA hR hf hs hst d) kk
theorem Vw.cSX (K : Cx κ cc nL own fr lo mc ms) {y : MethodName} {bytes : ByteArray} {maxL i nA : Nat} {ret2 : Option FieldType} {X : String} {As : List AV} {fr' lo' mc' ms' : Nat} {stk rest : List AV} (hM : MetV κ.1.2.1 κ.2.2.2 y (.code y bytes maxL ret) (As) A (.inr X) B fr' lo' mc' ms') (hcal : wCalS y (.code y bytes maxL ret) nA) (hw : Cond.methodLink own i y ∈ uw) (hnA : As.length = nA) (hR : fr' + 1 ≤ fr ∧ 8 + (maxL + 11) + lo' ≤ lo) (hf : c + mc' ≤ mc ∧ n + ms' ≤ ms) (hs : stk = As.reverse ++ rest) (hst : (rest.map acat).sum ≤ 8) (d : decode cc pc = .ok (.invokestatic i, 3)) (E : Ed κ ret2 nm (.inr X) B mc ms) : Vw κ A c n pc L stk :=
  Vw.ofRunX K E hf.1 hf.2 (K.runS hM hcal hw hnA hR hf hs hst d)
theorem Vw.cI0 (K : Cx κ cc nL own fr lo mc ms) {y : MethodName} {bytes : ByteArray} {maxL i nA : Nat} {a : Nat} {As : List AV} {fr' lo' mc' ms' c' n' : Nat} {stk rest : List AV} (hM : MetV κ.1.2.1 κ.2.2.2 y (.code y bytes maxL none) (.inr (.inr a) :: As) A (.inl none) B fr' lo' mc' ms') (hcal : wCalI y (.code y bytes maxL none) nA) (hw : Cond.methodLink own i y ∈ uw) (ha : ¬ a = 0) (hnA : As.length = nA) (hR : fr' + 1 ≤ fr ∧ 8 + (maxL + 11) + lo' ≤ lo) (hf : c + mc' ≤ mc ∧ n + ms' ≤ ms) (hs : stk = As.reverse ++ .inr (.inr a) :: rest) (hst : (rest.map acat).sum ≤ 8) (d : decode cc pc = .ok (.invokespecial i, 3)) (hc' : c + mc' = c') (hn' : n + ms' = n') (kk : Vw κ B c' n' (pc + 3) L (rest)) : Vw κ A c n pc L stk := by
  subst hc'; subst hn'; exact Vw.ofRun (K.runI hM hcal hw ha hnA hR hf hs hst d) kk
theorem Vw.objInitK (K : Cx κ cc nL own fr lo mc ms) {i a z : Nat} (hw : Cond.methodLink own i Lib.objectInit ∈ uw) (hw2 : Cond.instanceMethod Lib.objectInit ∈ uw) (hw3 : Cond.code Lib.objectInit ⟨#[0xb1]⟩ 1 none ∈ uw) (ha : (hsh A a).1 = z + 1) (hfr : 1 ≤ fr) (hlo : (st.map acat).sum + 12 ≤ lo) (d : decode cc pc = .ok (.invokespecial i, 3)) (kk : Vw κ A c n (pc + 3) L st) : Vw κ A c n pc L (.inr (.inr a) :: st) :=
  fun H locs ls h1 h2 h3 h4 => Vw.objInit K hw hw2 hw3 (by have := h1.2.2.2.1 a (by omega); omega) hfr hlo d kk H locs ls h1 h2 h3 h4
theorem Vw.cI0K (K : Cx κ cc nL own fr lo mc ms) {y : MethodName} {bytes : ByteArray} {maxL i nA z a : Nat} {As : List AV} {fr' lo' mc' ms' c' n' : Nat} {stk rest : List AV} (hM : MetV κ.1.2.1 κ.2.2.2 y (.code y bytes maxL none) (.inr (.inr a) :: As) A (.inl none) B fr' lo' mc' ms') (hcal : wCalI y (.code y bytes maxL none) nA) (hw : Cond.methodLink own i y ∈ uw) (ha : (hsh A a).1 = z + 1) (hnA : As.length = nA) (hR : fr' + 1 ≤ fr ∧ 8 + (maxL + 11) + lo' ≤ lo) (hf : c + mc' ≤ mc ∧ n + ms' ≤ ms) (hs : stk = As.reverse ++ .inr (.inr a) :: rest) (hst : (rest.map acat).sum ≤ 8) (d : decode cc pc = .ok (.invokespecial i, 3)) (hc' : c + mc' = c') (hn' : n + ms' = n') (kk : Vw κ B c' n' (pc + 3) L rest) : Vw κ A c n pc L stk :=
  fun H locs ls h1 h2 h3 h4 => Vw.cI0 K hM hcal hw (by have := h1.2.2.2.1 a (by omega); omega) hnA hR hf hs hst d hc' hn' kk H locs ls h1 h2 h3 h4
theorem Vw.newc (K : Cx κ cc nL own fr lo mc ms) {ci N j c' n' : Nat} {C : String} {T : u_T} {ty : Nat → FieldType} (hc : wCls ci C T ty N) (hty : ∀ k, k < N → ∀ t, (wft ci)[k]? = some t → defaultValue (ty k) = (match t with | 0 => Value.int 0 | 1 => Value.long 0 | _ => Value.null)) (hw : Cond.classLink own j C ∈ uw) (hcc : c + 1 ≤ mc) (hss : n + N ≤ ms) (d : decode cc pc = .ok (.new j, 3)) (hc' : c + 1 = c') (hn' : n + N = n') (kk : Vw κ (hmk A (ci + 1) 0) c' n' (pc + 3) L (.inr (.inr (hsz A)) :: st)) : Vw κ A c n pc L st := by
  subst hc'; subst hn'; exact Vw.new K hc hty hw hcc hss d kk
theorem Vw.newC_ (K : Cx κ cc nL own fr lo mc ms) {i : Int32} {N c' n' : Nat} (hw : Cond.arrayClass .char ∈ uw) (hi : 0 ≤ i) (hN : i.toNatClampNeg = N) (hb : N ≤ 20000) (hcc : c + 1 ≤ mc) (hss : n + N ≤ ms) (d : decode cc pc = .ok (.newarray .char, 2)) (hc' : c + 1 = c') (hn' : n + N = n') (kk : Vw κ (hmk A 9 N) c' n' (pc + 2) L (.inr (.inr (hsz A)) :: st)) : Vw κ A c n pc L (.inl i :: st) := by
  subst hc'; subst hn'; exact Vw.newC K hw hi hN hb hcc hss d kk
theorem Vw.newI_ (K : Cx κ cc nL own fr lo mc ms) {i : Int32} {N c' n' : Nat} (hw : Cond.arrayClass .int ∈ uw) (hi : 0 ≤ i) (hN : i.toNatClampNeg = N) (hb : N ≤ 20000) (hcc : c + 1 ≤ mc) (hss : n + N ≤ ms) (d : decode cc pc = .ok (.newarray .int, 2)) (hc' : c + 1 = c') (hn' : n + N = n') (kk : Vw κ (hmk A 10 N) c' n' (pc + 2) L (.inr (.inr (hsz A)) :: st)) : Vw κ A c n pc L (.inl i :: st) := by
  subst hc'; subst hn'; exact Vw.newI K hw hi hN hb hcc hss d kk
theorem Vw.newL_ (K : Cx κ cc nL own fr lo mc ms) {i : Int32} {N c' n' : Nat} (hw : Cond.arrayClass .long ∈ uw) (hi : 0 ≤ i) (hN : i.toNatClampNeg = N) (hb : N ≤ 20000) (hcc : c + 1 ≤ mc) (hss : n + N ≤ ms) (d : decode cc pc = .ok (.newarray .long, 2)) (hc' : c + 1 = c') (hn' : n + N = n') (kk : Vw κ (hmk A 11 N) c' n' (pc + 2) L (.inr (.inr (hsz A)) :: st)) : Vw κ A c n pc L (.inl i :: st) := by
  subst hc'; subst hn'; exact Vw.newL K hw hi hN hb hcc hss d kk
theorem Vw.newZ_ (K : Cx κ cc nL own fr lo mc ms) {i : Int32} {N c' n' : Nat} (hw : Cond.arrayClass .boolean ∈ uw) (hi : 0 ≤ i) (hN : i.toNatClampNeg = N) (hb : N ≤ 20000) (hcc : c + 1 ≤ mc) (hss : n + N ≤ ms) (d : decode cc pc = .ok (.newarray .boolean, 2)) (hc' : c + 1 = c') (hn' : n + N = n') (kk : Vw κ (hmk A 12 N) c' n' (pc + 2) L (.inr (.inr (hsz A)) :: st)) : Vw κ A c n pc L (.inl i :: st) := by
  subst hc'; subst hn'; exact Vw.newZ K hw hi hN hb hcc hss d kk
theorem Vw.newqC_ (K : Cx κ cc nL own fr lo mc ms) {i : Int32} {N j c' n' : Nat} (hw : Cond.classLink own j RX1 ∈ uw) (hi : 0 ≤ i) (hN : i.toNatClampNeg = N) (hb : N ≤ 20000) (hcc : c + 1 ≤ mc) (hss : n + N ≤ ms) (d : decode cc pc = .ok (.anewarray j, 3)) (hc' : c + 1 = c') (hn' : n + N = n') (kk : Vw κ (hmk A 13 N) c' n' (pc + 3) L (.inr (.inr (hsz A)) :: st)) : Vw κ A c n pc L (.inl i :: st) := by
  subst hc'; subst hn'; exact Vw.newqC K hw hi hN hb hcc hss d kk
theorem Vw.newqJ_ (K : Cx κ cc nL own fr lo mc ms) {i : Int32} {N j c' n' : Nat} (hw : Cond.classLink own j RX4 ∈ uw) (hi : 0 ≤ i) (hN : i.toNatClampNeg = N) (hb : N ≤ 20000) (hcc : c + 1 ≤ mc) (hss : n + N ≤ ms) (d : decode cc pc = .ok (.anewarray j, 3)) (hc' : c + 1 = c') (hn' : n + N = n') (kk : Vw κ (hmk A 14 N) c' n' (pc + 3) L (.inr (.inr (hsz A)) :: st)) : Vw κ A c n pc L (.inl i :: st) := by
  subst hc'; subst hn'; exact Vw.newqJ K hw hi hN hb hcc hss d kk
theorem Vw.newqR_ (K : Cx κ cc nL own fr lo mc ms) {i : Int32} {N j c' n' : Nat} (hw : Cond.classLink own j RX6 ∈ uw) (hi : 0 ≤ i) (hN : i.toNatClampNeg = N) (hb : N ≤ 20000) (hcc : c + 1 ≤ mc) (hss : n + N ≤ ms) (d : decode cc pc = .ok (.anewarray j, 3)) (hc' : c + 1 = c') (hn' : n + N = n') (kk : Vw κ (hmk A 15 N) c' n' (pc + 3) L (.inr (.inr (hsz A)) :: st)) : Vw κ A c n pc L (.inl i :: st) := by
  subst hc'; subst hn'; exact Vw.newqR K hw hi hN hb hcc hss d kk
theorem Vw.lcmp_eq (K : Cx κ cc nL own fr lo mc ms) {x y : Int64} {off : Int} {tgt : Nat} (d : decode cc pc = .ok (.lcmp, 1)) (d2 : decode cc (pc + 1) = .ok (.ifCond .eq off, 3)) (ht : ((pc + 1 : Nat) : Int) + off = (tgt : Int)) (kt : x = y → Vw κ A c n tgt L st) (kf : ¬ x = y → Vw κ A c n (pc + 1 + 3) L st) : Vw κ A c n pc L (.inr (.inl y) :: .inr (.inl x) :: st) :=
  Vw.lcmp K d (Vw.if_eq K d2 ht (fun q => kt ((lgc_eq x y).mp q)) (fun q => kf (fun z => q ((lgc_eq x y).mpr z))))
theorem Vw.lcmp_ne (K : Cx κ cc nL own fr lo mc ms) {x y : Int64} {off : Int} {tgt : Nat} (d : decode cc pc = .ok (.lcmp, 1)) (d2 : decode cc (pc + 1) = .ok (.ifCond .ne off, 3)) (ht : ((pc + 1 : Nat) : Int) + off = (tgt : Int)) (kt : ¬ x = y → Vw κ A c n tgt L st) (kf : x = y → Vw κ A c n (pc + 1 + 3) L st) : Vw κ A c n pc L (.inr (.inl y) :: .inr (.inl x) :: st) :=
  Vw.lcmp K d (Vw.if_ne K d2 ht (fun q => kt (fun z => q ((lgc_eq x y).mpr z))) (fun q => kf ((lgc_eq x y).mp q)))
theorem Vw.lcmp_lt (K : Cx κ cc nL own fr lo mc ms) {x y : Int64} {off : Int} {tgt : Nat} (d : decode cc pc = .ok (.lcmp, 1)) (d2 : decode cc (pc + 1) = .ok (.ifCond .lt off, 3)) (ht : ((pc + 1 : Nat) : Int) + off = (tgt : Int)) (kt : x < y → Vw κ A c n tgt L st) (kf : ¬ x < y → Vw κ A c n (pc + 1 + 3) L st) : Vw κ A c n pc L (.inr (.inl y) :: .inr (.inl x) :: st) :=
  Vw.lcmp K d (Vw.if_lt K d2 ht (fun q => kt ((lgc_lt x y).mp q)) (fun q => kf (fun z => q ((lgc_lt x y).mpr z))))
theorem Vw.lcmp_ge (K : Cx κ cc nL own fr lo mc ms) {x y : Int64} {off : Int} {tgt : Nat} (d : decode cc pc = .ok (.lcmp, 1)) (d2 : decode cc (pc + 1) = .ok (.ifCond .ge off, 3)) (ht : ((pc + 1 : Nat) : Int) + off = (tgt : Int)) (kt : y ≤ x → Vw κ A c n tgt L st) (kf : ¬ y ≤ x → Vw κ A c n (pc + 1 + 3) L st) : Vw κ A c n pc L (.inr (.inl y) :: .inr (.inl x) :: st) :=
  Vw.lcmp K d (Vw.if_ge K d2 ht (fun q => kt ((lgc_ge x y).mp q)) (fun q => kf (fun z => q ((lgc_ge x y).mpr z))))
theorem Vw.lcmp_gt (K : Cx κ cc nL own fr lo mc ms) {x y : Int64} {off : Int} {tgt : Nat} (d : decode cc pc = .ok (.lcmp, 1)) (d2 : decode cc (pc + 1) = .ok (.ifCond .gt off, 3)) (ht : ((pc + 1 : Nat) : Int) + off = (tgt : Int)) (kt : y < x → Vw κ A c n tgt L st) (kf : ¬ y < x → Vw κ A c n (pc + 1 + 3) L st) : Vw κ A c n pc L (.inr (.inl y) :: .inr (.inl x) :: st) :=
  Vw.lcmp K d (Vw.if_gt K d2 ht (fun q => kt ((lgc_gt x y).mp q)) (fun q => kf (fun z => q ((lgc_gt x y).mpr z))))
theorem Vw.lcmp_le (K : Cx κ cc nL own fr lo mc ms) {x y : Int64} {off : Int} {tgt : Nat} (d : decode cc pc = .ok (.lcmp, 1)) (d2 : decode cc (pc + 1) = .ok (.ifCond .le off, 3)) (ht : ((pc + 1 : Nat) : Int) + off = (tgt : Int)) (kt : x ≤ y → Vw κ A c n tgt L st) (kf : ¬ x ≤ y → Vw κ A c n (pc + 1 + 3) L st) : Vw κ A c n pc L (.inr (.inl y) :: .inr (.inl x) :: st) :=
  Vw.lcmp K d (Vw.if_le K d2 ht (fun q => kt ((lgc_le x y).mp q)) (fun q => kf (fun z => q ((lgc_le x y).mpr z))))
end
theorem wci_0 : ∀ w ∈ u_ws RX0 TX0 4, w ∈ uw := by
  intro w hw
  obtain ⟨k, hk, rfl⟩ := List.mem_map.mp hw
  have hk := List.mem_range.mp hk
  match k, hk with
  | 0, _ => exact u_1_234
  | 1, _ => exact u_1_236
  | 2, _ => exact u_1_238
  | 3, _ => exact u_2_0
  | k + 4, h => exact absurd h (by omega)
theorem cls0 : wCls 0 RX0 TX0 tyX0 4 := ⟨rfl, wci_0, tyX0_ok, nmX0, rfl, by decide, u_1_217, u_1_8⟩
theorem clsd0 : ∀ k, k < 4 → ∀ t, (wft 0)[k]? = some t → defaultValue (tyX0 k) = (match t with | 0 => Value.int 0 | 1 => Value.long 0 | _ => Value.null) := by
  intro k hk t ht
  match k, hk with
  | 0, _ => cases ht; rfl
  | 1, _ => cases ht; rfl
  | 2, _ => cases ht; rfl
  | 3, _ => cases ht; rfl
  | k + 4, h => exact absurd h (by omega)
theorem wci_1 : ∀ w ∈ u_ws RX1 TX1 13, w ∈ uw := by
  intro w hw
  obtain ⟨k, hk, rfl⟩ := List.mem_map.mp hw
  have hk := List.mem_range.mp hk
  match k, hk with
  | 0, _ => exact u_1_171
  | 1, _ => exact u_1_173
  | 2, _ => exact u_1_175
  | 3, _ => exact u_1_177
  | 4, _ => exact u_1_179
  | 5, _ => exact u_1_181
  | 6, _ => exact u_1_183
  | 7, _ => exact u_1_185
  | 8, _ => exact u_1_187
  | 9, _ => exact u_1_189
  | 10, _ => exact u_1_191
  | 11, _ => exact u_1_193
  | 12, _ => exact u_1_195
  | k + 13, h => exact absurd h (by omega)
theorem cls1 : wCls 1 RX1 TX1 tyX1 13 := ⟨rfl, wci_1, tyX1_ok, nmX1, rfl, by decide, u_1_125, u_1_6⟩
theorem clsd1 : ∀ k, k < 13 → ∀ t, (wft 1)[k]? = some t → defaultValue (tyX1 k) = (match t with | 0 => Value.int 0 | 1 => Value.long 0 | _ => Value.null) := by
  intro k hk t ht
  match k, hk with
  | 0, _ => cases ht; rfl
  | 1, _ => cases ht; rfl
  | 2, _ => cases ht; rfl
  | 3, _ => cases ht; rfl
  | 4, _ => cases ht; rfl
  | 5, _ => cases ht; rfl
  | 6, _ => cases ht; rfl
  | 7, _ => cases ht; rfl
  | 8, _ => cases ht; rfl
  | 9, _ => cases ht; rfl
  | 10, _ => cases ht; rfl
  | 11, _ => cases ht; rfl
  | 12, _ => cases ht; rfl
  | k + 13, h => exact absurd h (by omega)
theorem wci_2 : ∀ w ∈ u_ws RX4 TX4 13, w ∈ uw := by
  intro w hw
  obtain ⟨k, hk, rfl⟩ := List.mem_map.mp hw
  have hk := List.mem_range.mp hk
  match k, hk with
  | 0, _ => exact u_2_29
  | 1, _ => exact u_2_31
  | 2, _ => exact u_2_33
  | 3, _ => exact u_2_35
  | 4, _ => exact u_2_37
  | 5, _ => exact u_2_39
  | 6, _ => exact u_2_41
  | 7, _ => exact u_2_43
  | 8, _ => exact u_2_45
  | 9, _ => exact u_2_47
  | 10, _ => exact u_2_49
  | 11, _ => exact u_2_51
  | 12, _ => exact u_2_53
  | k + 13, h => exact absurd h (by omega)
theorem cls2 : wCls 2 RX4 TX4 tyX4 13 := ⟨rfl, wci_2, tyX4_ok, nmX4, rfl, by decide, u_1_118, u_1_5⟩
theorem clsd2 : ∀ k, k < 13 → ∀ t, (wft 2)[k]? = some t → defaultValue (tyX4 k) = (match t with | 0 => Value.int 0 | 1 => Value.long 0 | _ => Value.null) := by
  intro k hk t ht
  match k, hk with
  | 0, _ => cases ht; rfl
  | 1, _ => cases ht; rfl
  | 2, _ => cases ht; rfl
  | 3, _ => cases ht; rfl
  | 4, _ => cases ht; rfl
  | 5, _ => cases ht; rfl
  | 6, _ => cases ht; rfl
  | 7, _ => cases ht; rfl
  | 8, _ => cases ht; rfl
  | 9, _ => cases ht; rfl
  | 10, _ => cases ht; rfl
  | 11, _ => cases ht; rfl
  | 12, _ => cases ht; rfl
  | k + 13, h => exact absurd h (by omega)
theorem wci_3 : ∀ w ∈ u_ws RX5 TX5 14, w ∈ uw := by
  intro w hw
  obtain ⟨k, hk, rfl⟩ := List.mem_map.mp hw
  have hk := List.mem_range.mp hk
  match k, hk with
  | 0, _ => exact u_1_88
  | 1, _ => exact u_1_90
  | 2, _ => exact u_1_92
  | 3, _ => exact u_1_94
  | 4, _ => exact u_1_96
  | 5, _ => exact u_1_98
  | 6, _ => exact u_1_100
  | 7, _ => exact u_1_102
  | 8, _ => exact u_1_104
  | 9, _ => exact u_1_106
  | 10, _ => exact u_1_108
  | 11, _ => exact u_1_110
  | 12, _ => exact u_1_112
  | 13, _ => exact u_1_114
  | k + 14, h => exact absurd h (by omega)
theorem cls3 : wCls 3 RX5 TX5 tyX5 14 := ⟨rfl, wci_3, tyX5_ok, nmX5, rfl, by decide, u_1_58, u_1_4⟩
theorem clsd3 : ∀ k, k < 14 → ∀ t, (wft 3)[k]? = some t → defaultValue (tyX5 k) = (match t with | 0 => Value.int 0 | 1 => Value.long 0 | _ => Value.null) := by
  intro k hk t ht
  match k, hk with
  | 0, _ => cases ht; rfl
  | 1, _ => cases ht; rfl
  | 2, _ => cases ht; rfl
  | 3, _ => cases ht; rfl
  | 4, _ => cases ht; rfl
  | 5, _ => cases ht; rfl
  | 6, _ => cases ht; rfl
  | 7, _ => cases ht; rfl
  | 8, _ => cases ht; rfl
  | 9, _ => cases ht; rfl
  | 10, _ => cases ht; rfl
  | 11, _ => cases ht; rfl
  | 12, _ => cases ht; rfl
  | 13, _ => cases ht; rfl
  | k + 14, h => exact absurd h (by omega)
theorem wci_4 : ∀ w ∈ u_ws RX6 TX6 2, w ∈ uw := by
  intro w hw
  obtain ⟨k, hk, rfl⟩ := List.mem_map.mp hw
  have hk := List.mem_range.mp hk
  match k, hk with
  | 0, _ => exact u_1_51
  | 1, _ => exact u_1_53
  | k + 2, h => exact absurd h (by omega)
theorem cls4 : wCls 4 RX6 TX6 tyX6 2 := ⟨rfl, wci_4, tyX6_ok, nmX6, rfl, by decide, u_1_33, u_1_2⟩
theorem clsd4 : ∀ k, k < 2 → ∀ t, (wft 4)[k]? = some t → defaultValue (tyX6 k) = (match t with | 0 => Value.int 0 | 1 => Value.long 0 | _ => Value.null) := by
  intro k hk t ht
  match k, hk with
  | 0, _ => cases ht; rfl
  | 1, _ => cases ht; rfl
  | k + 2, h => exact absurd h (by omega)
theorem wci_5 : ∀ w ∈ u_ws RX7 TX7 2, w ∈ uw := by
  intro w hw
  obtain ⟨k, hk, rfl⟩ := List.mem_map.mp hw
  have hk := List.mem_range.mp hk
  match k, hk with
  | 0, _ => exact u_1_210
  | 1, _ => exact u_1_212
  | k + 2, h => exact absurd h (by omega)
theorem cls5 : wCls 5 RX7 TX7 tyX7 2 := ⟨rfl, wci_5, tyX7_ok, nmX7, rfl, by decide, u_1_199, u_1_7⟩
theorem clsd5 : ∀ k, k < 2 → ∀ t, (wft 5)[k]? = some t → defaultValue (tyX7 k) = (match t with | 0 => Value.int 0 | 1 => Value.long 0 | _ => Value.null) := by
  intro k hk t ht
  match k, hk with
  | 0, _ => cases ht; rfl
  | 1, _ => cases ht; rfl
  | k + 2, h => exact absurd h (by omega)
theorem wci_6 : ∀ w ∈ u_ws RX8 TX8 4, w ∈ uw := by
  intro w hw
  obtain ⟨k, hk, rfl⟩ := List.mem_map.mp hw
  have hk := List.mem_range.mp hk
  match k, hk with
  | 0, _ => exact u_2_61
  | 1, _ => exact u_2_63
  | 2, _ => exact u_2_65
  | 3, _ => exact u_2_67
  | k + 4, h => exact absurd h (by omega)
theorem cls6 : wCls 6 RX8 TX8 tyX8 4 := ⟨rfl, wci_6, tyX8_ok, nmX8, rfl, by decide, u_1_25, u_1_1⟩
theorem clsd6 : ∀ k, k < 4 → ∀ t, (wft 6)[k]? = some t → defaultValue (tyX8 k) = (match t with | 0 => Value.int 0 | 1 => Value.long 0 | _ => Value.null) := by
  intro k hk t ht
  match k, hk with
  | 0, _ => cases ht; rfl
  | 1, _ => cases ht; rfl
  | 2, _ => cases ht; rfl
  | 3, _ => cases ht; rfl
  | k + 4, h => exact absurd h (by omega)
theorem wci_7 : ∀ w ∈ u_ws RX9 TX9 38, w ∈ uw := by
  intro w hw
  obtain ⟨k, hk, rfl⟩ := List.mem_map.mp hw
  have hk := List.mem_range.mp hk
  match k, hk with
  | 0, _ => exact u_6_55
  | 1, _ => exact u_6_57
  | 2, _ => exact u_6_59
  | 3, _ => exact u_6_61
  | 4, _ => exact u_6_63
  | 5, _ => exact u_6_65
  | 6, _ => exact u_6_67
  | 7, _ => exact u_6_69
  | 8, _ => exact u_6_71
  | 9, _ => exact u_6_73
  | 10, _ => exact u_6_75
  | 11, _ => exact u_6_77
  | 12, _ => exact u_6_79
  | 13, _ => exact u_6_81
  | 14, _ => exact u_6_83
  | 15, _ => exact u_6_85
  | 16, _ => exact u_6_87
  | 17, _ => exact u_6_89
  | 18, _ => exact u_6_91
  | 19, _ => exact u_6_93
  | 20, _ => exact u_6_95
  | 21, _ => exact u_6_97
  | 22, _ => exact u_6_99
  | 23, _ => exact u_6_101
  | 24, _ => exact u_6_103
  | 25, _ => exact u_6_105
  | 26, _ => exact u_6_107
  | 27, _ => exact u_6_109
  | 28, _ => exact u_6_111
  | 29, _ => exact u_6_113
  | 30, _ => exact u_6_115
  | 31, _ => exact u_6_117
  | 32, _ => exact u_6_119
  | 33, _ => exact u_6_121
  | 34, _ => exact u_6_123
  | 35, _ => exact u_6_125
  | 36, _ => exact u_6_127
  | 37, _ => exact u_6_129
  | k + 38, h => exact absurd h (by omega)
theorem cls7 : wCls 7 RX9 TX9 tyX9 38 := ⟨rfl, wci_7, tyX9_ok, nmX9, rfl, by decide, u_6_10, u_1_9⟩
theorem clsd7 : ∀ k, k < 38 → ∀ t, (wft 7)[k]? = some t → defaultValue (tyX9 k) = (match t with | 0 => Value.int 0 | 1 => Value.long 0 | _ => Value.null) := by
  intro k hk t ht
  match k, hk with
  | 0, _ => cases ht; rfl
  | 1, _ => cases ht; rfl
  | 2, _ => cases ht; rfl
  | 3, _ => cases ht; rfl
  | 4, _ => cases ht; rfl
  | 5, _ => cases ht; rfl
  | 6, _ => cases ht; rfl
  | 7, _ => cases ht; rfl
  | 8, _ => cases ht; rfl
  | 9, _ => cases ht; rfl
  | 10, _ => cases ht; rfl
  | 11, _ => cases ht; rfl
  | 12, _ => cases ht; rfl
  | 13, _ => cases ht; rfl
  | 14, _ => cases ht; rfl
  | 15, _ => cases ht; rfl
  | 16, _ => cases ht; rfl
  | 17, _ => cases ht; rfl
  | 18, _ => cases ht; rfl
  | 19, _ => cases ht; rfl
  | 20, _ => cases ht; rfl
  | 21, _ => cases ht; rfl
  | 22, _ => cases ht; rfl
  | 23, _ => cases ht; rfl
  | 24, _ => cases ht; rfl
  | 25, _ => cases ht; rfl
  | 26, _ => cases ht; rfl
  | 27, _ => cases ht; rfl
  | 28, _ => cases ht; rfl
  | 29, _ => cases ht; rfl
  | 30, _ => cases ht; rfl
  | 31, _ => cases ht; rfl
  | 32, _ => cases ht; rfl
  | 33, _ => cases ht; rfl
  | 34, _ => cases ht; rfl
  | 35, _ => cases ht; rfl
  | 36, _ => cases ht; rfl
  | 37, _ => cases ht; rfl
  | k + 38, h => exact absurd h (by omega)
