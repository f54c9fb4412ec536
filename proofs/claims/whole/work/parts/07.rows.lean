/-! strings and statics that are there from the start -/
def wst : List (String × Nat × String) := [("CookieJar$Address", 34, "https://"), ("CookieJar$Address", 36, "http://"), ("CookieJar$Dates", 46, "JanFebMarAprMayJunJulAugSepOctNovDec"), ("CookieJar$Jar", 239, "__Secure-"), ("CookieJar$Jar", 245, "/"), ("CookieJar$Jar", 250, "__Host-"), ("CookieJar$Reader", 95, "expires"), ("CookieJar$Reader", 104, "max-age"), ("CookieJar$Reader", 109, "domain"), ("CookieJar$Reader", 113, "path"), ("CookieJar$Reader", 117, "secure"), ("CookieJar$Reader", 118, "httponly"), ("CookieJar$Reader", 120, "samesite"), ("CookieJar$Reader", 122, "none"), ("CookieJar$Reader", 124, "lax"), ("CookieJar$Reader", 126, "strict"), ("CookieJar$Reader", 132, "priority"), ("CookieJar$Reader", 134, "low"), ("CookieJar$Reader", 136, "medium"), ("CookieJar$Reader", 138, "high"), ("CookieJar", 38, "a code is 32 to 126"), ("CookieJar", 49, "the text is full"), ("CookieJar", 107, "the text is not a domain"), ("CookieJar", 112, "the text is a suffix already"), ("CookieJar", 117, "there are 6 suffixes already"), ("CookieJar", 134, "a depth is 0 or 1"), ("CookieJar", 215, "time does not go back"), ("CookieJar", 227, "a limit is 0 or 1"), ("CookieJar", 229, "a limit is set to 1 to 40"), ("CookieJar", 235, "a policy is 0 to 3"), ("CookieJar", 243, "an event is 0 to 6"), ("CookieJar", 255, "nothing was kept in this snapshot"), ("CookieJar", 262, "there is no request"), ("CookieJar", 264, "an index is 0 or more"), ("CookieJar", 266, "there is no such cookie"), ("CookieJar", 268, "a slot is 0 or 1")]
def wscT : List (List Int32) := [[104, 116, 116, 112, 115, 58, 47, 47], [104, 116, 116, 112, 58, 47, 47], [74, 97, 110, 70, 101, 98, 77, 97, 114, 65, 112, 114, 77, 97, 121, 74, 117, 110, 74, 117, 108, 65, 117, 103, 83, 101, 112, 79, 99, 116, 78, 111, 118, 68, 101, 99], [95, 95, 83, 101, 99, 117, 114, 101, 45], [47], [95, 95, 72, 111, 115, 116, 45], [101, 120, 112, 105, 114, 101, 115], [109, 97, 120, 45, 97, 103, 101], [100, 111, 109, 97, 105, 110], [112, 97, 116, 104], [115, 101, 99, 117, 114, 101], [104, 116, 116, 112, 111, 110, 108, 121], [115, 97, 109, 101, 115, 105, 116, 101], [110, 111, 110, 101], [108, 97, 120], [115, 116, 114, 105, 99, 116], [112, 114, 105, 111, 114, 105, 116, 121], [108, 111, 119], [109, 101, 100, 105, 117, 109], [104, 105, 103, 104], [97, 32, 99, 111, 100, 101, 32, 105, 115, 32, 51, 50, 32, 116, 111, 32, 49, 50, 54], [116, 104, 101, 32, 116, 101, 120, 116, 32, 105, 115, 32, 102, 117, 108, 108], [116, 104, 101, 32, 116, 101, 120, 116, 32, 105, 115, 32, 110, 111, 116, 32, 97, 32, 100, 111, 109, 97, 105, 110], [116, 104, 101, 32, 116, 101, 120, 116, 32, 105, 115, 32, 97, 32, 115, 117, 102, 102, 105, 120, 32, 97, 108, 114, 101, 97, 100, 121], [116, 104, 101, 114, 101, 32, 97, 114, 101, 32, 54, 32, 115, 117, 102, 102, 105, 120, 101, 115, 32, 97, 108, 114, 101, 97, 100, 121], [97, 32, 100, 101, 112, 116, 104, 32, 105, 115, 32, 48, 32, 111, 114, 32, 49], [116, 105, 109, 101, 32, 100, 111, 101, 115, 32, 110, 111, 116, 32, 103, 111, 32, 98, 97, 99, 107], [97, 32, 108, 105, 109, 105, 116, 32, 105, 115, 32, 48, 32, 111, 114, 32, 49], [97, 32, 108, 105, 109, 105, 116, 32, 105, 115, 32, 115, 101, 116, 32, 116, 111, 32, 49, 32, 116, 111, 32, 52, 48], [97, 32, 112, 111, 108, 105, 99, 121, 32, 105, 115, 32, 48, 32, 116, 111, 32, 51], [97, 110, 32, 101, 118, 101, 110, 116, 32, 105, 115, 32, 48, 32, 116, 111, 32, 54], [110, 111, 116, 104, 105, 110, 103, 32, 119, 97, 115, 32, 107, 101, 112, 116, 32, 105, 110, 32, 116, 104, 105, 115, 32, 115, 110, 97, 112, 115, 104, 111, 116], [116, 104, 101, 114, 101, 32, 105, 115, 32, 110, 111, 32, 114, 101, 113, 117, 101, 115, 116], [97, 110, 32, 105, 110, 100, 101, 120, 32, 105, 115, 32, 48, 32, 111, 114, 32, 109, 111, 114, 101], [116, 104, 101, 114, 101, 32, 105, 115, 32, 110, 111, 32, 115, 117, 99, 104, 32, 99, 111, 111, 107, 105, 101], [97, 32, 115, 108, 111, 116, 32, 105, 115, 32, 48, 32, 111, 114, 32, 49]]
def wsc (n : Nat) : List Int32 := wscT.getD (n - 1) []
def wdy (j : Nat) : Int32 := [0, 31, 59, 90, 120, 151, 181, 212, 243, 273, 304, 334, 365].getD j 0
def wnC : List String := ["java/lang/IllegalArgumentException", "java/lang/IllegalStateException", "java/lang/IndexOutOfBoundsException"]
def wnD : List String := ["java/lang/RuntimeException", "java/lang/Exception", "java/lang/Throwable"]
def wnN : List (String × String) := [("java/lang/IllegalArgumentException", "java/lang/IllegalStateException"), ("java/lang/IllegalArgumentException", "java/lang/IndexOutOfBoundsException"), ("java/lang/IllegalStateException", "java/lang/IllegalArgumentException"), ("java/lang/IllegalStateException", "java/lang/IndexOutOfBoundsException"), ("java/lang/IndexOutOfBoundsException", "java/lang/IllegalArgumentException"), ("java/lang/IndexOutOfBoundsException", "java/lang/IllegalStateException")]
def wA (g : GT) : Nat → Prop := fun q => g.2.2.1 ≤ q
def wO (g : GT) (U : State) (H : Heap) : Prop :=
  (∀ (i : Nat) (q : String × Nat × String), wst[i]? = some q → vk_R q.1 q.2.1 q.2.2 (g.2.2.2.2 (i + 1)) U) ∧
  (∀ i : Nat, i < 36 → va_O "java/lang/String" (g.2.2.2.2 (i + 1)) (wA g) U H ∧ va_OF "java/lang/String" "coder" "B" (.int 0) (g.2.2.2.2 (i + 1)) (wA g) U H ∧ va_OF "java/lang/String" "value" "[B" (.ref (g.2.2.2.2 (i + 41))) (g.2.2.2.2 (i + 1)) (wA g) U H ∧ va_T .byte (g.2.2.2.2 (i + 41)) (wsc (i + 1)).length (fun j => .int ((wsc (i + 1)).getD j 0)) (wA g) U H) ∧
  va_Z "CookieJar$Dates" "DAYS_BEFORE" "[I" (.ref (g.2.2.2.2 90)) (wA g) U H ∧ va_T .int (g.2.2.2.2 90) 13 (fun j => .int (wdy j)) (wA g) U H ∧
  va_Z "java/lang/String" "COMPACT_STRINGS" "Z" (.int 1) (wA g) U H ∧ (va_Z "jdk/internal/util/Preconditions" "SIOOBE_FORMATTER" "Ljava/util/function/BiFunction;" .null (wA g) U H ∨ va_Z "jdk/internal/util/Preconditions" "SIOOBE_FORMATTER" "Ljava/util/function/BiFunction;" (.ref (g.2.2.2.2 91)) (wA g) U H) ∧
  vx_Zq Bundle.tN "UNASSIGNED_STACK" Bundle.steD (wA g) U H ∧ vx_Zq Bundle.tN "SUPPRESSED_SENTINEL" Bundle.listD (wA g) U H ∧
  va_AO RX1 U ∧ va_AO RX4 U ∧ va_AO RX6 U ∧
  (∀ q ∈ wnC, va_Nw (.castable q q) U) ∧ (∀ q ∈ wnD, va_Nw (.declares ⟨q, "<init>", "(Ljava/lang/String;)V"⟩) U) ∧ ∀ q ∈ wnN, va_Nc q.1 q.2 U
theorem wO.to {g : GT} {s U : State} {H H1 : Heap} (hW : s.WarmedH U.vm) (h : wO g s H) (hq : ∀ a : Nat, a < H.size → ¬ wA g a → H1[a]? = H[a]?) : wO g U H1 := by
  obtain ⟨h1, h2, h3, h4, h5, h6, h7, h8, h9, h10, h11, h12, h13, h14⟩ := h
  refine ⟨fun i q hi => (h1 i q hi).warm hW, fun i hi => ?_, (h3.moved hW.alike).kept hq, (h4.moved hW.alike).kept hq, (h5.moved hW.alike).kept hq, h6.elim (fun q => Or.inl ((q.moved hW.alike).kept hq)) (fun q => Or.inr ((q.moved hW.alike).kept hq)), (h7.moved hW.alike).kept hq, (h8.moved hW.alike).kept hq, h9.moved hW.alike, h10.moved hW.alike, h11.moved hW.alike, fun q hq' => (h12 q hq').warmC hW, fun q hq' => (h13 q hq').warmD hW, fun q hq' => (h14 q hq').moved hW.alike⟩
  obtain ⟨a1, a2, a3, a4⟩ := h2 i hi
  exact ⟨(a1.moved hW.alike).kept hq, (a2.moved hW.alike).kept hq, (a3.moved hW.alike).kept hq, (a4.moved hW.alike).kept hq⟩
/-- all the good words: every method of the claim has them -/
def uw : List Cond := lw_tbl.filter goodWord
theorem uw_mem {w : Cond} (h : w ∈ lw_tbl) (hg : goodWord w = true) : w ∈ uw := List.mem_filter.mpr ⟨h, hg⟩
theorem uw_good {w : Cond} (h : w ∈ uw) : goodWord w = true := (List.mem_filter.mp h).2
abbrev KT : Type := (Program × Launch × Env × Room × State) × (MethodId × Array Value × List Frame × Method × Code) × (State → Prop) × GT
/-- from this place of the method, with this heap, these locals and this stack, the machine comes to the end that is wanted -/
def Vw (κ : KT) (A : Hp) (c n pc : Nat) (L : List (Nat × AV)) (st : List AV) : Prop :=
  ∀ (H : Heap) (locs : List Loc) (ls : Array Slot), wRep κ.2.2.2 A H → κ.1.2.2.2.2.heap.size ≤ H.size → (∀ q ∈ locs, κ.2.2.2.2.2.1 ≤ q.base) → lv_has ls κ.2.1.2.2.2.2.maxLocals (L.map (fun q => (q.1, wcv κ.2.2.2 q.2))) →
    W κ.1.1 κ.1.2.1 κ.1.2.2.1 κ.1.2.2.2.1 κ.1.2.2.2.2 κ.2.1.1 κ.2.1.2.1 κ.2.1.2.2.1 κ.2.1.2.2.2.1 κ.2.1.2.2.2.2 H locs c n κ.2.2.1 (F0 κ.2.1.1 pc ls (st.map (wcv κ.2.2.2)))
/-- what stands fast in a method's body -/
def Cx (κ : KT) (cc : ByteArray) (nL : Nat) (own : String) (fr lo mc ms : Nat) : Prop :=
  κ.1.1.tables.exec = Jvm.exec ∧ κ.2.1.2.2.2.2.code = cc ∧ κ.2.1.2.2.2.2.maxLocals = nL ∧ κ.1.2.2.2.2.vm.findClass own = some κ.2.1.1.cls ∧ (∀ w ∈ uw, w.before κ.2.1.2.1 κ.1.2.2.2.2 = true) ∧
  κ.2.1.2.2.2.1.locks = false ∧ va_K κ.2.2.2.1 vwCl (wtys κ.2.2.2) κ.1.2.2.2.2 ∧ wO κ.2.2.2 κ.1.2.2.2.2 κ.1.2.2.2.2.heap ∧ (∀ q, q < κ.2.2.2.2.2.1 → κ.1.2.2.2.2.heap[q]? = κ.2.2.2.2.2.2.1 q) ∧ κ.2.2.2.2.2.1 ≤ κ.1.2.2.2.2.heap.size ∧
  κ.1.2.2.2.1 = ({ frames := fr, cells := mc, slots := ms, locals := lo } : Room) ∧ κ.1.2.1.stackTraces = false
section
variable {κ : KT} {cc : ByteArray} {nL : Nat} {own : String} {fr lo mc ms : Nat} {A : Hp} {c n pc : Nat} {L : List (Nat × AV)} {st : List AV}
theorem Cx.S (K : Cx κ cc nL own fr lo mc ms) {H : Heap} {locs : List Loc} (h1 : wRep κ.2.2.2 A H) (h2 : κ.1.2.2.2.2.heap.size ≤ H.size) (h3 : ∀ q ∈ locs, κ.2.2.2.2.2.1 ≤ q.base) : va_S (wA κ.2.2.2) κ.1.2.2.2.2.heap H locs := by
  obtain ⟨-, -, -, -, -, -, -, -, k9, k10, -⟩ := K
  refine ⟨h2, fun q hq hn => ?_, h3⟩
  have hlt : q < κ.2.2.2.2.2.1 := Nat.not_le.mp hn
  rw [h1.2.2.1 q hlt, k9 q hlt]
/-- a row that leaves heap and locals -/
theorem Vw.go {pc' : Nat} {st' : List AV} (h : ∀ (H : Heap) (locs : List Loc) (ls : Array Slot), W κ.1.1 κ.1.2.1 κ.1.2.2.1 κ.1.2.2.2.1 κ.1.2.2.2.2 κ.2.1.1 κ.2.1.2.1 κ.2.1.2.2.1 κ.2.1.2.2.2.1 κ.2.1.2.2.2.2 H locs c n κ.2.2.1 (F0 κ.2.1.1 pc' ls (st'.map (wcv κ.2.2.2))) → W κ.1.1 κ.1.2.1 κ.1.2.2.1 κ.1.2.2.2.1 κ.1.2.2.2.2 κ.2.1.1 κ.2.1.2.1 κ.2.1.2.2.1 κ.2.1.2.2.2.1 κ.2.1.2.2.2.2 H locs c n κ.2.2.1 (F0 κ.2.1.1 pc ls (st.map (wcv κ.2.2.2)))) (k : Vw κ A c n pc' L st') : Vw κ A c n pc L st :=
  fun H locs ls h1 h2 h3 h4 => h H locs ls (k H locs ls h1 h2 h3 h4)
theorem Vw.iconst (K : Cx κ cc nL own fr lo mc ms) {i : Int} {v : Int32} (hv : Int32.ofInt i = v) (d : decode cc pc = .ok (.iconst i, 1)) (k : Vw κ A c n (pc + 1) L (.inl v :: st)) : Vw κ A c n pc L (st) := Vw.go (fun _ _ _ k => lv_iconst K.1 K.2.1 d hv k) k
theorem Vw.bipush (K : Cx κ cc nL own fr lo mc ms) {i : Int} {v : Int32} (hv : (Int8.ofInt i).toInt32 = v) (d : decode cc pc = .ok (.bipush i, 2)) (k : Vw κ A c n (pc + 2) L (.inl v :: st)) : Vw κ A c n pc L (st) := Vw.go (fun _ _ _ k => lv_bipush K.1 K.2.1 d hv k) k
theorem Vw.sipush (K : Cx κ cc nL own fr lo mc ms) {i : Int} {v : Int32} (hv : (Int16.ofInt i).toInt32 = v) (d : decode cc pc = .ok (.sipush i, 3)) (k : Vw κ A c n (pc + 3) L (.inl v :: st)) : Vw κ A c n pc L (st) := Vw.go (fun _ _ _ k => lv_sipush K.1 K.2.1 d hv k) k
theorem Vw.lconst (K : Cx κ cc nL own fr lo mc ms) {i : Fin 2} {v : Int64} (hv : Int64.ofNat (i : Nat) = v) (d : decode cc pc = .ok (.lconst i, 1)) (k : Vw κ A c n (pc + 1) L (.inr (.inl v) :: st)) : Vw κ A c n pc L (st) := Vw.go (fun _ _ _ k => lv_lconst K.1 K.2.1 d hv k) k
theorem Vw.ldc (K : Cx κ cc nL own fr lo mc ms) {i : Nat} {v : Int32} (hw : Cond.constant own i v ∈ uw) (d : decode cc pc = .ok (.ldc i, 2)) (k : Vw κ A c n (pc + 2) L (.inl v :: st)) : Vw κ A c n pc L (st) := Vw.go (fun _ _ _ k => lv_ldc K.1 K.2.1 K.2.2.2.1 (K.2.2.2.2.1 _ hw) d k) k
theorem Vw.ldc2 (K : Cx κ cc nL own fr lo mc ms) {i : Nat} {v : Int64} (hw : Cond.constantLong own i v ∈ uw) (d : decode cc pc = .ok (.ldc2_w i, 3)) (k : Vw κ A c n (pc + 3) L (.inr (.inl v) :: st)) : Vw κ A c n pc L (st) := Vw.go (fun _ _ _ k => lv_ldc2 K.1 K.2.1 K.2.2.2.1 (K.2.2.2.2.1 _ hw) d k) k
theorem Vw.iadd (K : Cx κ cc nL own fr lo mc ms) {x y : Int32} (d : decode cc pc = .ok (.iadd, 1)) (k : Vw κ A c n (pc + 1) L (.inl (x + y) :: st)) : Vw κ A c n pc L (.inl y :: .inl x :: st) := Vw.go (fun _ _ _ k => lv_iadd K.1 K.2.1 d k) k
theorem Vw.isub (K : Cx κ cc nL own fr lo mc ms) {x y : Int32} (d : decode cc pc = .ok (.isub, 1)) (k : Vw κ A c n (pc + 1) L (.inl (x - y) :: st)) : Vw κ A c n pc L (.inl y :: .inl x :: st) := Vw.go (fun _ _ _ k => lv_isub K.1 K.2.1 d k) k
theorem Vw.imul (K : Cx κ cc nL own fr lo mc ms) {x y : Int32} (d : decode cc pc = .ok (.imul, 1)) (k : Vw κ A c n (pc + 1) L (.inl (x * y) :: st)) : Vw κ A c n pc L (.inl y :: .inl x :: st) := Vw.go (fun _ _ _ k => lv_imul K.1 K.2.1 d k) k
theorem Vw.iand (K : Cx κ cc nL own fr lo mc ms) {x y : Int32} (d : decode cc pc = .ok (.iand, 1)) (k : Vw κ A c n (pc + 1) L (.inl (x &&& y) :: st)) : Vw κ A c n pc L (.inl y :: .inl x :: st) := Vw.go (fun _ _ _ k => lv_iand K.1 K.2.1 d k) k
theorem Vw.idiv (K : Cx κ cc nL own fr lo mc ms) {x y : Int32} (hy : ¬ y = 0) (d : decode cc pc = .ok (.idiv, 1)) (k : Vw κ A c n (pc + 1) L (.inl (x / y) :: st)) : Vw κ A c n pc L (.inl y :: .inl x :: st) := Vw.go (fun _ _ _ k => lv_idiv K.1 K.2.1 d hy k) k
theorem Vw.irem (K : Cx κ cc nL own fr lo mc ms) {x y : Int32} (hy : ¬ y = 0) (d : decode cc pc = .ok (.irem, 1)) (k : Vw κ A c n (pc + 1) L (.inl (x - x / y * y) :: st)) : Vw κ A c n pc L (.inl y :: .inl x :: st) := Vw.go (fun _ _ _ k => lv_irem K.1 K.2.1 d hy k) k
theorem Vw.ineg (K : Cx κ cc nL own fr lo mc ms) {x : Int32} (d : decode cc pc = .ok (.ineg, 1)) (k : Vw κ A c n (pc + 1) L (.inl (-x) :: st)) : Vw κ A c n pc L (.inl x :: st) := Vw.go (fun _ _ _ k => lv_ineg K.1 K.2.1 d k) k
theorem Vw.ladd (K : Cx κ cc nL own fr lo mc ms) {x y : Int64} (d : decode cc pc = .ok (.ladd, 1)) (k : Vw κ A c n (pc + 1) L (.inr (.inl (x + y)) :: st)) : Vw κ A c n pc L (.inr (.inl y) :: .inr (.inl x) :: st) := Vw.go (fun _ _ _ k => lv_ladd K.1 K.2.1 d k) k
theorem Vw.lsub (K : Cx κ cc nL own fr lo mc ms) {x y : Int64} (d : decode cc pc = .ok (.lsub, 1)) (k : Vw κ A c n (pc + 1) L (.inr (.inl (x - y)) :: st)) : Vw κ A c n pc L (.inr (.inl y) :: .inr (.inl x) :: st) := Vw.go (fun _ _ _ k => lv_lsub K.1 K.2.1 d k) k
theorem Vw.lmul (K : Cx κ cc nL own fr lo mc ms) {x y : Int64} (d : decode cc pc = .ok (.lmul, 1)) (k : Vw κ A c n (pc + 1) L (.inr (.inl (x * y)) :: st)) : Vw κ A c n pc L (.inr (.inl y) :: .inr (.inl x) :: st) := Vw.go (fun _ _ _ k => lv_lmul K.1 K.2.1 d k) k
theorem Vw.ldiv (K : Cx κ cc nL own fr lo mc ms) {x y : Int64} (hy : ¬ y = 0) (d : decode cc pc = .ok (.ldiv, 1)) (k : Vw κ A c n (pc + 1) L (.inr (.inl (x / y)) :: st)) : Vw κ A c n pc L (.inr (.inl y) :: .inr (.inl x) :: st) := Vw.go (fun _ _ _ k => lv_ldiv K.1 K.2.1 d hy k) k
theorem Vw.lrem (K : Cx κ cc nL own fr lo mc ms) {x y : Int64} (hy : ¬ y = 0) (d : decode cc pc = .ok (.lrem, 1)) (k : Vw κ A c n (pc + 1) L (.inr (.inl (x - x / y * y)) :: st)) : Vw κ A c n pc L (.inr (.inl y) :: .inr (.inl x) :: st) := Vw.go (fun _ _ _ k => lv_lrem K.1 K.2.1 d hy k) k
theorem Vw.lcmp (K : Cx κ cc nL own fr lo mc ms) {x y : Int64} (d : decode cc pc = .ok (.lcmp, 1)) (k : Vw κ A c n (pc + 1) L (.inl (lg_cmp x y) :: st)) : Vw κ A c n pc L (.inr (.inl y) :: .inr (.inl x) :: st) := Vw.go (fun _ _ _ k => W.lcmp K.1 K.2.1 d k) k
theorem Vw.i2l (K : Cx κ cc nL own fr lo mc ms) {x : Int32} (d : decode cc pc = .ok (.i2l, 1)) (k : Vw κ A c n (pc + 1) L (.inr (.inl x.toInt64) :: st)) : Vw κ A c n pc L (.inl x :: st) := Vw.go (fun _ _ _ k => lv_i2l K.1 K.2.1 d rfl k) k
theorem Vw.l2i (K : Cx κ cc nL own fr lo mc ms) {x : Int64} (d : decode cc pc = .ok (.l2i, 1)) (k : Vw κ A c n (pc + 1) L (.inl x.toInt32 :: st)) : Vw κ A c n pc L (.inr (.inl x) :: st) := Vw.go (fun _ _ _ k => lv_l2i K.1 K.2.1 d rfl k) k
theorem Vw.i2c (K : Cx κ cc nL own fr lo mc ms) {x : Int32} (d : decode cc pc = .ok (.i2c, 1)) (k : Vw κ A c n (pc + 1) L (.inl (x.toUInt32 % 65536).toInt32 :: st)) : Vw κ A c n pc L (.inl x :: st) := Vw.go (fun _ _ _ k => lv_i2c K.1 K.2.1 d rfl k) k
theorem Vw.dup (K : Cx κ cc nL own fr lo mc ms) {v : AV} (hv : acat v = 1) (d : decode cc pc = .ok (.dup, 1)) (k : Vw κ A c n (pc + 1) L (v :: v :: st)) : Vw κ A c n pc L (v :: st) := Vw.go (fun _ _ _ k => lv_dup K.1 K.2.1 d ((wcv_cat _ _).trans hv) k) k
theorem Vw.pop (K : Cx κ cc nL own fr lo mc ms) {v : AV} (hv : acat v = 1) (d : decode cc pc = .ok (.pop, 1)) (k : Vw κ A c n (pc + 1) L (st)) : Vw κ A c n pc L (v :: st) := Vw.go (fun _ _ _ k => lv_pop K.1 K.2.1 d ((wcv_cat _ _).trans hv) k) k
theorem Vw.dup2 (K : Cx κ cc nL own fr lo mc ms) {v w : AV} (hv : acat v = 1) (hw : acat w = 1) (d : decode cc pc = .ok (.dup2, 1)) (k : Vw κ A c n (pc + 1) L (v :: w :: v :: w :: st)) : Vw κ A c n pc L (v :: w :: st) := Vw.go (fun _ _ _ k => lv_dup2_11 K.1 K.2.1 d ((wcv_cat _ _).trans hv) ((wcv_cat _ _).trans hw) k) k
theorem Vw.dup_x1 (K : Cx κ cc nL own fr lo mc ms) {v w : AV} (hv : acat v = 1) (hw : acat w = 1) (d : decode cc pc = .ok (.dup_x1, 1)) (k : Vw κ A c n (pc + 1) L (v :: w :: v :: st)) : Vw κ A c n pc L (v :: w :: st) := Vw.go (fun _ _ _ k => lv_dup_x1 K.1 K.2.1 d ((wcv_cat _ _).trans hv) ((wcv_cat _ _).trans hw) k) k
theorem Vw.if_eq (K : Cx κ cc nL own fr lo mc ms) {x : Int32} {off : Int} {tgt : Nat} (d : decode cc pc = .ok (.ifCond .eq off, 3)) (ht : (pc : Int) + off = (tgt : Int)) (kt : x = 0 → Vw κ A c n tgt L st) (kf : ¬ x = 0 → Vw κ A c n (pc + 3) L st) : Vw κ A c n pc L (.inl x :: st) := fun H locs ls h1 h2 h3 h4 => lv_if_eq K.1 K.2.1 d ht (fun q => kt q H locs ls h1 h2 h3 h4) (fun q => kf q H locs ls h1 h2 h3 h4)
theorem Vw.icmp_eq (K : Cx κ cc nL own fr lo mc ms) {x y : Int32} {off : Int} {tgt : Nat} (d : decode cc pc = .ok (.if_icmp .eq off, 3)) (ht : (pc : Int) + off = (tgt : Int)) (kt : x = y → Vw κ A c n tgt L st) (kf : ¬ x = y → Vw κ A c n (pc + 3) L st) : Vw κ A c n pc L (.inl y :: .inl x :: st) := fun H locs ls h1 h2 h3 h4 => lv_icmp_eq K.1 K.2.1 d ht (fun q => kt q H locs ls h1 h2 h3 h4) (fun q => kf q H locs ls h1 h2 h3 h4)
theorem Vw.if_ne (K : Cx κ cc nL own fr lo mc ms) {x : Int32} {off : Int} {tgt : Nat} (d : decode cc pc = .ok (.ifCond .ne off, 3)) (ht : (pc : Int) + off = (tgt : Int)) (kt : ¬ x = 0 → Vw κ A c n tgt L st) (kf : x = 0 → Vw κ A c n (pc + 3) L st) : Vw κ A c n pc L (.inl x :: st) := fun H locs ls h1 h2 h3 h4 => lv_if_ne K.1 K.2.1 d ht (fun q => kt q H locs ls h1 h2 h3 h4) (fun q => kf q H locs ls h1 h2 h3 h4)
theorem Vw.icmp_ne (K : Cx κ cc nL own fr lo mc ms) {x y : Int32} {off : Int} {tgt : Nat} (d : decode cc pc = .ok (.if_icmp .ne off, 3)) (ht : (pc : Int) + off = (tgt : Int)) (kt : ¬ x = y → Vw κ A c n tgt L st) (kf : x = y → Vw κ A c n (pc + 3) L st) : Vw κ A c n pc L (.inl y :: .inl x :: st) := fun H locs ls h1 h2 h3 h4 => lv_icmp_ne K.1 K.2.1 d ht (fun q => kt q H locs ls h1 h2 h3 h4) (fun q => kf q H locs ls h1 h2 h3 h4)
theorem Vw.if_lt (K : Cx κ cc nL own fr lo mc ms) {x : Int32} {off : Int} {tgt : Nat} (d : decode cc pc = .ok (.ifCond .lt off, 3)) (ht : (pc : Int) + off = (tgt : Int)) (kt : x < 0 → Vw κ A c n tgt L st) (kf : ¬ x < 0 → Vw κ A c n (pc + 3) L st) : Vw κ A c n pc L (.inl x :: st) := fun H locs ls h1 h2 h3 h4 => lv_if_lt K.1 K.2.1 d ht (fun q => kt q H locs ls h1 h2 h3 h4) (fun q => kf q H locs ls h1 h2 h3 h4)
theorem Vw.icmp_lt (K : Cx κ cc nL own fr lo mc ms) {x y : Int32} {off : Int} {tgt : Nat} (d : decode cc pc = .ok (.if_icmp .lt off, 3)) (ht : (pc : Int) + off = (tgt : Int)) (kt : x < y → Vw κ A c n tgt L st) (kf : ¬ x < y → Vw κ A c n (pc + 3) L st) : Vw κ A c n pc L (.inl y :: .inl x :: st) := fun H locs ls h1 h2 h3 h4 => lv_icmp_lt K.1 K.2.1 d ht (fun q => kt q H locs ls h1 h2 h3 h4) (fun q => kf q H locs ls h1 h2 h3 h4)
theorem Vw.if_ge (K : Cx κ cc nL own fr lo mc ms) {x : Int32} {off : Int} {tgt : Nat} (d : decode cc pc = .ok (.ifCond .ge off, 3)) (ht : (pc : Int) + off = (tgt : Int)) (kt : 0 ≤ x → Vw κ A c n tgt L st) (kf : ¬ 0 ≤ x → Vw κ A c n (pc + 3) L st) : Vw κ A c n pc L (.inl x :: st) := fun H locs ls h1 h2 h3 h4 => lv_if_ge K.1 K.2.1 d ht (fun q => kt q H locs ls h1 h2 h3 h4) (fun q => kf q H locs ls h1 h2 h3 h4)
theorem Vw.icmp_ge (K : Cx κ cc nL own fr lo mc ms) {x y : Int32} {off : Int} {tgt : Nat} (d : decode cc pc = .ok (.if_icmp .ge off, 3)) (ht : (pc : Int) + off = (tgt : Int)) (kt : y ≤ x → Vw κ A c n tgt L st) (kf : ¬ y ≤ x → Vw κ A c n (pc + 3) L st) : Vw κ A c n pc L (.inl y :: .inl x :: st) := fun H locs ls h1 h2 h3 h4 => lv_icmp_ge K.1 K.2.1 d ht (fun q => kt q H locs ls h1 h2 h3 h4) (fun q => kf q H locs ls h1 h2 h3 h4)
theorem Vw.if_gt (K : Cx κ cc nL own fr lo mc ms) {x : Int32} {off : Int} {tgt : Nat} (d : decode cc pc = .ok (.ifCond .gt off, 3)) (ht : (pc : Int) + off = (tgt : Int)) (kt : 0 < x → Vw κ A c n tgt L st) (kf : ¬ 0 < x → Vw κ A c n (pc + 3) L st) : Vw κ A c n pc L (.inl x :: st) := fun H locs ls h1 h2 h3 h4 => lv_if_gt K.1 K.2.1 d ht (fun q => kt q H locs ls h1 h2 h3 h4) (fun q => kf q H locs ls h1 h2 h3 h4)
theorem Vw.icmp_gt (K : Cx κ cc nL own fr lo mc ms) {x y : Int32} {off : Int} {tgt : Nat} (d : decode cc pc = .ok (.if_icmp .gt off, 3)) (ht : (pc : Int) + off = (tgt : Int)) (kt : y < x → Vw κ A c n tgt L st) (kf : ¬ y < x → Vw κ A c n (pc + 3) L st) : Vw κ A c n pc L (.inl y :: .inl x :: st) := fun H locs ls h1 h2 h3 h4 => lv_icmp_gt K.1 K.2.1 d ht (fun q => kt q H locs ls h1 h2 h3 h4) (fun q => kf q H locs ls h1 h2 h3 h4)
theorem Vw.if_le (K : Cx κ cc nL own fr lo mc ms) {x : Int32} {off : Int} {tgt : Nat} (d : decode cc pc = .ok (.ifCond .le off, 3)) (ht : (pc : Int) + off = (tgt : Int)) (kt : x ≤ 0 → Vw κ A c n tgt L st) (kf : ¬ x ≤ 0 → Vw κ A c n (pc + 3) L st) : Vw κ A c n pc L (.inl x :: st) := fun H locs ls h1 h2 h3 h4 => lv_if_le K.1 K.2.1 d ht (fun q => kt q H locs ls h1 h2 h3 h4) (fun q => kf q H locs ls h1 h2 h3 h4)
theorem Vw.icmp_le (K : Cx κ cc nL own fr lo mc ms) {x y : Int32} {off : Int} {tgt : Nat} (d : decode cc pc = .ok (.if_icmp .le off, 3)) (ht : (pc : Int) + off = (tgt : Int)) (kt : x ≤ y → Vw κ A c n tgt L st) (kf : ¬ x ≤ y → Vw κ A c n (pc + 3) L st) : Vw κ A c n pc L (.inl y :: .inl x :: st) := fun H locs ls h1 h2 h3 h4 => lv_icmp_le K.1 K.2.1 d ht (fun q => kt q H locs ls h1 h2 h3 h4) (fun q => kf q H locs ls h1 h2 h3 h4)
theorem Vw.goto (K : Cx κ cc nL own fr lo mc ms) {off : Int} {tgt : Nat} (d : decode cc pc = .ok (.goto off, 3)) (ht : (pc : Int) + off = (tgt : Int)) (k : Vw κ A c n tgt L st) : Vw κ A c n pc L (st) := Vw.go (fun _ _ _ k => lv_goto K.1 K.2.1 d ht k) k
theorem Vw.ifnonnull (K : Cx κ cc nL own fr lo mc ms) {x : Nat} {off : Int} {tgt : Nat} (d : decode cc pc = .ok (.ifnonnull off, 3)) (ht : (pc : Int) + off = (tgt : Int)) (kt : ¬ x = 0 → Vw κ A c n tgt L st) (kf : x = 0 → Vw κ A c n (pc + 3) L st) : Vw κ A c n pc L (.inr (.inr x) :: st) := by
  intro H locs ls h1 h2 h3 h4
  show W _ _ _ _ _ _ _ _ _ _ H locs c n _ (F0 _ pc ls (wrv κ.2.2.2 x :: st.map (wcv κ.2.2.2)))
  by_cases hx : x = 0
  · rw [hx, wrv_0]
    exact lv_ifnonnullN K.1 K.2.1 d (kf hx H locs ls h1 h2 h3 h4)
  · rw [wrv_ne _ hx]
    exact lv_ifnonnull K.1 K.2.1 d ht (kt hx H locs ls h1 h2 h3 h4)
def lget (L : List (Nat × AV)) (i : Nat) : Option AV := match L with
  | [] => none
  | q :: L => if q.1 = i then some q.2 else lget L i
theorem lget_mem {g : GT} : ∀ {L : List (Nat × AV)} {i : Nat} {v : AV} {ls : Array Slot} {nL : Nat}, lv_has ls nL (L.map (fun q => (q.1, wcv g q.2))) → lget L i = some v → ls[i]? = some (.val (wcv g v)) := by
  intro L i v ls nL h hg
  have key : (i, v) ∈ L := by
    clear h
    induction L with
    | nil => cases hg
    | cons q L ih =>
      unfold lget at hg
      by_cases hq : q.1 = i
      · rw [if_pos hq] at hg
        cases hg
        exact List.mem_cons.mpr (Or.inl (by rw [← hq]))
      · rw [if_neg hq] at hg
        exact List.mem_cons_of_mem _ (ih hg)
  exact h.2.2 (i, wcv g v) (List.mem_map.mpr ⟨(i, v), key, rfl⟩)
def lput (i : Nat) (v : AV) (L : List (Nat × AV)) : List (Nat × AV) := (i, v) :: L.filter (fun q => !(q.1 == i) && !(q.1 + 1 == i && acat q.2 == 2) && !(acat v == 2 && q.1 == i + 1))
theorem lv_less {ls : Array Slot} {nL : Nat} {l l' : List (Nat × Value)} (h : lv_has ls nL l) (hs : ∀ q ∈ l', q ∈ l) : lv_has ls nL l' := ⟨h.1, h.2.1, fun q hq => h.2.2 q (hs q hq)⟩
theorem lput_sub1 (g : GT) {i : Nat} {v : AV} {L : List (Nat × AV)} : ∀ q ∈ (lput i v L).map (fun q => (q.1, wcv g q.2)), q ∈ (i, wcv g v) :: (L.map (fun q => (q.1, wcv g q.2))).filter (fun q => !(q.1 == i) && !(q.1 + 1 == i && q.2.category == 2)) := by
  intro q hq
  obtain ⟨p, hp, rfl⟩ := List.mem_map.mp hq
  rcases List.mem_cons.mp hp with rfl | hp
  · exact List.mem_cons_self
  · obtain ⟨h1, h2⟩ := List.mem_filter.mp hp
    simp only [Bool.and_eq_true] at h2
    refine List.mem_cons_of_mem _ (List.mem_filter.mpr ⟨List.mem_map.mpr ⟨p, h1, rfl⟩, ?_⟩)
    simp only [wcv_cat, Bool.and_eq_true]
    exact h2.1
theorem lput_sub2 (g : GT) {i : Nat} {v : AV} {L : List (Nat × AV)} (hv : acat v = 2) : ∀ q ∈ (lput i v L).map (fun q => (q.1, wcv g q.2)), q ∈ (i, wcv g v) :: (L.map (fun q => (q.1, wcv g q.2))).filter (fun q => !(q.1 == i) && (!(q.1 == i + 1) && !(q.1 + 1 == i && q.2.category == 2))) := by
  intro q hq
  obtain ⟨p, hp, rfl⟩ := List.mem_map.mp hq
  rcases List.mem_cons.mp hp with rfl | hp
  · exact List.mem_cons_self
  · obtain ⟨h1, h2⟩ := List.mem_filter.mp hp
    simp only [hv, Bool.and_eq_true] at h2
    refine List.mem_cons_of_mem _ (List.mem_filter.mpr ⟨List.mem_map.mpr ⟨p, h1, rfl⟩, ?_⟩)
    simp only [wcv_cat, Bool.and_eq_true]
    refine ⟨h2.1.1, ?_, h2.1.2⟩
    have h3 := h2.2
    simpa using h3
/-- fewer locals, by their slots -/
theorem Vw.loc {L' : List (Nat × AV)} (h : L'.map (fun q => lget L q.1) = L'.map (fun q => some q.2)) (k : Vw κ A c n pc L' st) : Vw κ A c n pc L st := by
  intro H locs ls h1 h2 h3 h4
  refine k H locs ls h1 h2 h3 ⟨h4.1, h4.2.1, fun q hq => ?_⟩
  obtain ⟨p, hp, rfl⟩ := List.mem_map.mp hq
  refine lget_mem h4 ?_
  obtain ⟨i, hi⟩ := List.getElem?_of_mem hp
  have e1 := congrArg (fun l => l[i]?) h
  simp only [List.getElem?_map, hi, Option.map_some] at e1
  exact Option.some.inj e1
theorem Vw.iload_n (K : Cx κ cc nL own fr lo mc ms) {x : Int32} {i : Fin 4} (d : decode cc pc = .ok (.iload_n i, 1)) (hl : lget L (i : Nat) = some (.inl x)) (k : Vw κ A c n (pc + 1) L (.inl x :: st)) : Vw κ A c n pc L st :=
  fun H locs ls h1 h2 h3 h4 => lv_iload_n K.1 K.2.1 d rfl (lget_mem h4 hl) (k H locs ls h1 h2 h3 h4)
theorem Vw.iload (K : Cx κ cc nL own fr lo mc ms) {x : Int32} {i : Nat} (d : decode cc pc = .ok (.iload i, 2)) (hl : lget L i = some (.inl x)) (k : Vw κ A c n (pc + 2) L (.inl x :: st)) : Vw κ A c n pc L st :=
  fun H locs ls h1 h2 h3 h4 => lv_iload K.1 K.2.1 d (lget_mem h4 hl) (k H locs ls h1 h2 h3 h4)
theorem Vw.lload_n (K : Cx κ cc nL own fr lo mc ms) {x : Int64} {i : Fin 4} (d : decode cc pc = .ok (.lload_n i, 1)) (hl : lget L (i : Nat) = some (.inr (.inl x))) (k : Vw κ A c n (pc + 1) L (.inr (.inl x) :: st)) : Vw κ A c n pc L st :=
  fun H locs ls h1 h2 h3 h4 => lv_lload_n K.1 K.2.1 d rfl (lget_mem h4 hl) (k H locs ls h1 h2 h3 h4)
theorem Vw.lload (K : Cx κ cc nL own fr lo mc ms) {x : Int64} {i : Nat} (d : decode cc pc = .ok (.lload i, 2)) (hl : lget L i = some (.inr (.inl x))) (k : Vw κ A c n (pc + 2) L (.inr (.inl x) :: st)) : Vw κ A c n pc L st :=
  fun H locs ls h1 h2 h3 h4 => lv_lload K.1 K.2.1 d (lget_mem h4 hl) (k H locs ls h1 h2 h3 h4)
theorem Vw.aload_n (K : Cx κ cc nL own fr lo mc ms) {x : Nat} {i : Fin 4} (d : decode cc pc = .ok (.aload_n i, 1)) (hl : lget L (i : Nat) = some (.inr (.inr x))) (k : Vw κ A c n (pc + 1) L (.inr (.inr x) :: st)) : Vw κ A c n pc L st := by
  intro H locs ls h1 h2 h3 h4
  have hk := k H locs ls h1 h2 h3 h4
  have hm : ls[(i : Nat)]? = some (.val (wrv κ.2.2.2 x)) := lget_mem h4 hl
  change W _ _ _ _ _ _ _ _ _ _ H locs c n _ (F0 _ (pc + 1) ls (wrv κ.2.2.2 x :: st.map (wcv κ.2.2.2))) at hk
  by_cases hx : x = 0
  · rw [hx, wrv_0] at hk hm
    exact lv_aload_nN K.1 K.2.1 d rfl hm hk
  · rw [wrv_ne _ hx] at hk hm
    exact lv_aload_n K.1 K.2.1 d rfl hm hk
theorem Vw.aload (K : Cx κ cc nL own fr lo mc ms) {x : Nat} {i : Nat} (d : decode cc pc = .ok (.aload i, 2)) (hl : lget L i = some (.inr (.inr x))) (k : Vw κ A c n (pc + 2) L (.inr (.inr x) :: st)) : Vw κ A c n pc L st := by
  intro H locs ls h1 h2 h3 h4
  have hk := k H locs ls h1 h2 h3 h4
  have hm : ls[i]? = some (.val (wrv κ.2.2.2 x)) := lget_mem h4 hl
  change W _ _ _ _ _ _ _ _ _ _ H locs c n _ (F0 _ (pc + 2) ls (wrv κ.2.2.2 x :: st.map (wcv κ.2.2.2))) at hk
  by_cases hx : x = 0
  · rw [hx, wrv_0] at hk hm
    exact lv_aloadN K.1 K.2.1 d hm hk
  · rw [wrv_ne _ hx] at hk hm
    exact lv_aload K.1 K.2.1 d hm hk
theorem Vw.istore_n (K : Cx κ cc nL own fr lo mc ms) {x : Int32} {i : Fin 4} (d : decode cc pc = .ok (.istore_n i, 1)) (hn : (i : Nat) < nL) (k : Vw κ A c n (pc + 1) (lput (i : Nat) (.inl x) L) st) : Vw κ A c n pc L (.inl x :: st) :=
  fun H locs ls h1 h2 h3 h4 => lv_istore_n K.1 K.2.1 d rfl h4 (by rw [K.2.2.1]; exact hn) rfl (fun ls' h5 => k H locs ls' h1 h2 h3 (lv_less h5 (lput_sub1 _)))
theorem Vw.istore (K : Cx κ cc nL own fr lo mc ms) {x : Int32} {i : Nat} (d : decode cc pc = .ok (.istore i, 2)) (hn : i < nL) (k : Vw κ A c n (pc + 2) (lput i (.inl x) L) st) : Vw κ A c n pc L (.inl x :: st) :=
  fun H locs ls h1 h2 h3 h4 => lv_istore K.1 K.2.1 d h4 (by rw [K.2.2.1]; exact hn) rfl (fun ls' h5 => k H locs ls' h1 h2 h3 (lv_less h5 (lput_sub1 _)))
theorem Vw.lstore_n (K : Cx κ cc nL own fr lo mc ms) {x : Int64} {i : Fin 4} (d : decode cc pc = .ok (.lstore_n i, 1)) (hn : (i : Nat) + 1 < nL) (k : Vw κ A c n (pc + 1) (lput (i : Nat) (.inr (.inl x)) L) st) : Vw κ A c n pc L (.inr (.inl x) :: st) :=
  fun H locs ls h1 h2 h3 h4 => lv_lstore_n K.1 K.2.1 d rfl h4 (by rw [K.2.2.1]; exact hn) rfl (fun ls' h5 => k H locs ls' h1 h2 h3 (lv_less h5 (lput_sub2 _ rfl)))
theorem Vw.lstore (K : Cx κ cc nL own fr lo mc ms) {x : Int64} {i : Nat} (d : decode cc pc = .ok (.lstore i, 2)) (hn : i + 1 < nL) (k : Vw κ A c n (pc + 2) (lput i (.inr (.inl x)) L) st) : Vw κ A c n pc L (.inr (.inl x) :: st) :=
  fun H locs ls h1 h2 h3 h4 => lv_lstore K.1 K.2.1 d h4 (by rw [K.2.2.1]; exact hn) rfl (fun ls' h5 => k H locs ls' h1 h2 h3 (lv_less h5 (lput_sub2 _ rfl)))
theorem Vw.astore_n (K : Cx κ cc nL own fr lo mc ms) {x : Nat} {i : Fin 4} (d : decode cc pc = .ok (.astore_n i, 1)) (hn : (i : Nat) < nL) (k : Vw κ A c n (pc + 1) (lput (i : Nat) (.inr (.inr x)) L) st) : Vw κ A c n pc L (.inr (.inr x) :: st) := by
  intro H locs ls h1 h2 h3 h4
  have hn' : (i : Nat) < κ.2.1.2.2.2.2.maxLocals := by rw [K.2.2.1]; exact hn
  have hsub := lput_sub1 κ.2.2.2 (i := (i : Nat)) (v := .inr (.inr x)) (L := L)
  change ∀ q ∈ _, q ∈ (_, wrv κ.2.2.2 x) :: _ at hsub
  show W _ _ _ _ _ _ _ _ _ _ H locs c n _ (F0 _ pc ls (wrv κ.2.2.2 x :: st.map (wcv κ.2.2.2)))
  by_cases hx : x = 0
  · rw [show wrv κ.2.2.2 x = .null by rw [hx]; rfl] at hsub ⊢
    exact lv_astore_nN K.1 K.2.1 d rfl h4 hn' rfl (fun ls' h5 => k H locs ls' h1 h2 h3 (lv_less h5 hsub))
  · rw [wrv_ne _ hx] at hsub ⊢
    exact lv_astore_n K.1 K.2.1 d rfl h4 hn' rfl (fun ls' h5 => k H locs ls' h1 h2 h3 (lv_less h5 hsub))
theorem Vw.astore (K : Cx κ cc nL own fr lo mc ms) {x : Nat} {i : Nat} (d : decode cc pc = .ok (.astore i, 2)) (hn : i < nL) (k : Vw κ A c n (pc + 2) (lput i (.inr (.inr x)) L) st) : Vw κ A c n pc L (.inr (.inr x) :: st) := by
  intro H locs ls h1 h2 h3 h4
  have hn' : i < κ.2.1.2.2.2.2.maxLocals := by rw [K.2.2.1]; exact hn
  have hsub := lput_sub1 κ.2.2.2 (i := i) (v := .inr (.inr x)) (L := L)
  change ∀ q ∈ _, q ∈ (_, wrv κ.2.2.2 x) :: _ at hsub
  show W _ _ _ _ _ _ _ _ _ _ H locs c n _ (F0 _ pc ls (wrv κ.2.2.2 x :: st.map (wcv κ.2.2.2)))
  by_cases hx : x = 0
  · rw [show wrv κ.2.2.2 x = .null by rw [hx]; rfl] at hsub ⊢
    exact lv_astoreN K.1 K.2.1 d h4 hn' rfl (fun ls' h5 => k H locs ls' h1 h2 h3 (lv_less h5 hsub))
  · rw [wrv_ne _ hx] at hsub ⊢
    exact lv_astore K.1 K.2.1 d h4 hn' rfl (fun ls' h5 => k H locs ls' h1 h2 h3 (lv_less h5 hsub))
theorem Vw.iinc (K : Cx κ cc nL own fr lo mc ms) {x : Int32} {i : Nat} {z : Int} {v : Int32} (d : decode cc pc = .ok (.iinc i z, 3)) (hl : lget L i = some (.inl x)) (hv : Int32.ofInt z = v) (hn : i < nL) (k : Vw κ A c n (pc + 3) (lput i (.inl (x + v)) L) st) : Vw κ A c n pc L st := by
  intro H locs ls h1 h2 h3 h4
  have hm : ls[i]? = some (.val (.int x)) := lget_mem h4 hl
  subst hv
  have h4' : lv_has ls κ.2.1.2.2.2.2.maxLocals ((i, .int x) :: L.map (fun q => (q.1, wcv κ.2.2.2 q.2))) := ⟨h4.1, h4.2.1, fun q hq => by
    rcases List.mem_cons.mp hq with rfl | hq
    · exact hm
    · exact h4.2.2 q hq⟩
  refine lv_iinc (k := 0) K.1 K.2.1 d h4' rfl rfl (by rw [K.2.2.1]; exact hn) rfl (fun ls' h5 => k H locs ls' h1 h2 h3 (lv_less h5 (fun q hq => ?_)))
  rcases List.mem_cons.mp (lput_sub1 κ.2.2.2 q hq) with rfl | hq2
  · exact List.mem_cons_self
  · obtain ⟨b1, b2⟩ := List.mem_filter.mp hq2
    exact List.mem_cons_of_mem _ (List.mem_filter.mpr ⟨List.mem_cons_of_mem _ b1, b2⟩)
end
