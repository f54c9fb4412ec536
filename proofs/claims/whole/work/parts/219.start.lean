/-! the small world as the law finds it -/
def hA0 : Hp := (fun _ _ _ => 0, fun _ _ _ => 0, fun _ _ _ => 0, fun _ => (0, 0), 100)
def stT (q : String × Nat × String) : Term := .string q.1 q.2.1
def stV (q : String × Nat × String) : Term := .field (stT q) "java/lang/String" "value" "[B"
def stF (q : String × Nat × String) (bs : List Int32) : List Cond := [Cond.exactly (stT q) "java/lang/String", Cond.eq (.field (stT q) "java/lang/String" "coder" "B") (.int 0), Cond.arrayOf (stV q) .byte, Cond.eq (.length (stV q)) (.int (Int32.ofNat bs.length))] ++ (List.range bs.length).map (fun j => Cond.eq (.elem (stV q) (.int (Int32.ofNat j))) (.int (bs.getD j 0)))
theorem stOne {args : Array Value} {s : State} {q : String × Nat × String} {bs : List Int32} {A : Nat → Prop} (hN : bs.length < 2 ^ 31) (h : ∀ w ∈ stF q bs, w.before args s = true) (hA : ∀ a : Nat, a < s.heap.size → ¬ A a) : ∃ r : Nat × Nat, (stT q).eval args s none [] s = some (.ref r.1) ∧ va_O "java/lang/String" r.1 A s s.heap ∧ va_OF "java/lang/String" "coder" "B" (.int 0) r.1 A s s.heap ∧ va_OF "java/lang/String" "value" "[B" (.ref r.2) r.1 A s s.heap ∧ va_T .byte r.2 bs.length (fun j => .int (bs.getD j 0)) A s s.heap := by
  have hex : (Cond.exactly (stT q) "java/lang/String").before args s = true := h _ (by simp [stF])
  have hco : (Cond.eq (.field (stT q) "java/lang/String" "coder" "B") (.int 0)).before args s = true := h _ (by simp [stF])
  have har : (Cond.arrayOf (stV q) .byte).before args s = true := h _ (by simp [stF])
  have hle : (Cond.eq (.length (stV q)) (.int (Int32.ofNat bs.length))).before args s = true := h _ (by simp [stF])
  have hel : ∀ j : Nat, j < bs.length → (Cond.eq (.elem (stV q) (.int (Int32.ofNat j))) (.int (bs.getD j 0))).before args s = true := fun j hj => h _ (List.mem_append_right _ (List.mem_map.mpr ⟨j, List.mem_range.mpr hj, rfl⟩))
  obtain ⟨a, c, cA, kA, q1, q2, q3, q4, q5, q6, -⟩ := Cond.exactly_spec (args := args) (first := s) (o := none) (s := s) (idx := []) (t := stT q) (cls := "java/lang/String") hex
  obtain ⟨t, ht, hT⟩ := va_Tof (f := fun j => .int (bs.getD j 0)) (A := A) hN har (va_eqt hle) (fun j hj => va_eqt (hel j hj)) hA
  exact ⟨(a, t), q1, ⟨cA, q3, q5, by rw [q6]; exact q2, hA a (Array.getElem?_eq_some_iff.mp q3).1⟩, vk_OFof q1 (va_eqt hco) hA, vk_OFof q1 ht hA, hT⟩
def nrw : List Cond := flatC narrow_1
theorem stm_0 : stF ("CookieJar$Address", 34, "https://") (wsc 1) = (nrw.drop 55).take 12 := by decide +kernel
theorem stm_1 : stF ("CookieJar$Address", 36, "http://") (wsc 2) = (nrw.drop 67).take 11 := by decide +kernel
theorem stm_2 : stF ("CookieJar$Dates", 46, "JanFebMarAprMayJunJulAugSepOctNovDec") (wsc 3) = (nrw.drop 272).take 40 := by decide +kernel
theorem stm_3 : stF ("CookieJar$Jar", 239, "__Secure-") (wsc 4) = (nrw.drop 437).take 13 := by decide +kernel
theorem stm_4 : stF ("CookieJar$Jar", 245, "/") (wsc 5) = (nrw.drop 450).take 5 := by decide +kernel
theorem stm_5 : stF ("CookieJar$Jar", 250, "__Host-") (wsc 6) = (nrw.drop 455).take 11 := by decide +kernel
theorem stm_6 : stF ("CookieJar$Reader", 95, "expires") (wsc 7) = (nrw.drop 261).take 11 := by decide +kernel
theorem stm_7 : stF ("CookieJar$Reader", 104, "max-age") (wsc 8) = (nrw.drop 312).take 11 := by decide +kernel
theorem stm_8 : stF ("CookieJar$Reader", 109, "domain") (wsc 9) = (nrw.drop 323).take 10 := by decide +kernel
theorem stm_9 : stF ("CookieJar$Reader", 113, "path") (wsc 10) = (nrw.drop 333).take 8 := by decide +kernel
theorem stm_10 : stF ("CookieJar$Reader", 117, "secure") (wsc 11) = (nrw.drop 341).take 10 := by decide +kernel
theorem stm_11 : stF ("CookieJar$Reader", 118, "httponly") (wsc 12) = (nrw.drop 351).take 12 := by decide +kernel
theorem stm_12 : stF ("CookieJar$Reader", 120, "samesite") (wsc 13) = (nrw.drop 363).take 12 := by decide +kernel
theorem stm_13 : stF ("CookieJar$Reader", 122, "none") (wsc 14) = (nrw.drop 375).take 8 := by decide +kernel
theorem stm_14 : stF ("CookieJar$Reader", 124, "lax") (wsc 15) = (nrw.drop 383).take 7 := by decide +kernel
theorem stm_15 : stF ("CookieJar$Reader", 126, "strict") (wsc 16) = (nrw.drop 390).take 10 := by decide +kernel
theorem stm_16 : stF ("CookieJar$Reader", 132, "priority") (wsc 17) = (nrw.drop 400).take 12 := by decide +kernel
theorem stm_17 : stF ("CookieJar$Reader", 134, "low") (wsc 18) = (nrw.drop 412).take 7 := by decide +kernel
theorem stm_18 : stF ("CookieJar$Reader", 136, "medium") (wsc 19) = (nrw.drop 419).take 10 := by decide +kernel
theorem stm_19 : stF ("CookieJar$Reader", 138, "high") (wsc 20) = (nrw.drop 429).take 8 := by decide +kernel
theorem stm_20 : stF ("CookieJar", 38, "a code is 32 to 126") (wsc 21) = (nrw.drop 78).take 23 := by decide +kernel
theorem stm_21 : stF ("CookieJar", 49, "the text is full") (wsc 22) = (nrw.drop 101).take 20 := by decide +kernel
theorem stm_22 : stF ("CookieJar", 107, "the text is not a domain") (wsc 23) = (nrw.drop 169).take 28 := by decide +kernel
theorem stm_23 : stF ("CookieJar", 112, "the text is a suffix already") (wsc 24) = (nrw.drop 197).take 32 := by decide +kernel
theorem stm_24 : stF ("CookieJar", 117, "there are 6 suffixes already") (wsc 25) = (nrw.drop 229).take 32 := by decide +kernel
theorem stm_25 : stF ("CookieJar", 134, "a depth is 0 or 1") (wsc 26) = (nrw.drop 466).take 21 := by decide +kernel
theorem stm_26 : stF ("CookieJar", 215, "time does not go back") (wsc 27) = (nrw.drop 514).take 25 := by decide +kernel
theorem stm_27 : stF ("CookieJar", 227, "a limit is 0 or 1") (wsc 28) = (nrw.drop 539).take 21 := by decide +kernel
theorem stm_28 : stF ("CookieJar", 229, "a limit is set to 1 to 40") (wsc 29) = (nrw.drop 560).take 29 := by decide +kernel
theorem stm_29 : stF ("CookieJar", 235, "a policy is 0 to 3") (wsc 30) = (nrw.drop 589).take 22 := by decide +kernel
theorem stm_30 : stF ("CookieJar", 243, "an event is 0 to 6") (wsc 31) = (nrw.drop 611).take 22 := by decide +kernel
theorem stm_31 : stF ("CookieJar", 255, "nothing was kept in this snapshot") (wsc 32) = (nrw.drop 653).take 37 := by decide +kernel
theorem stm_32 : stF ("CookieJar", 262, "there is no request") (wsc 33) = (nrw.drop 121).take 23 := by decide +kernel
theorem stm_33 : stF ("CookieJar", 264, "an index is 0 or more") (wsc 34) = (nrw.drop 144).take 25 := by decide +kernel
theorem stm_34 : stF ("CookieJar", 266, "there is no such cookie") (wsc 35) = (nrw.drop 487).take 27 := by decide +kernel
theorem stm_35 : stF ("CookieJar", 268, "a slot is 0 or 1") (wsc 36) = (nrw.drop 633).take 20 := by decide +kernel
theorem stm_in {L : List Cond} {a n : Nat} (h : L = (nrw.drop a).take n) : ∀ w ∈ L, w ∈ nrw := fun w hw => List.mem_of_mem_drop (List.mem_of_mem_take (h ▸ hw))
theorem stm_all : ∀ (i : Nat) (q : String × Nat × String), wst[i]? = some q → ∀ w ∈ stF q (wsc (i + 1)), w ∈ nrw := by
  intro i q hq
  match i, hq with
  | 0, hq => cases hq; exact stm_in stm_0
  | 1, hq => cases hq; exact stm_in stm_1
  | 2, hq => cases hq; exact stm_in stm_2
  | 3, hq => cases hq; exact stm_in stm_3
  | 4, hq => cases hq; exact stm_in stm_4
  | 5, hq => cases hq; exact stm_in stm_5
  | 6, hq => cases hq; exact stm_in stm_6
  | 7, hq => cases hq; exact stm_in stm_7
  | 8, hq => cases hq; exact stm_in stm_8
  | 9, hq => cases hq; exact stm_in stm_9
  | 10, hq => cases hq; exact stm_in stm_10
  | 11, hq => cases hq; exact stm_in stm_11
  | 12, hq => cases hq; exact stm_in stm_12
  | 13, hq => cases hq; exact stm_in stm_13
  | 14, hq => cases hq; exact stm_in stm_14
  | 15, hq => cases hq; exact stm_in stm_15
  | 16, hq => cases hq; exact stm_in stm_16
  | 17, hq => cases hq; exact stm_in stm_17
  | 18, hq => cases hq; exact stm_in stm_18
  | 19, hq => cases hq; exact stm_in stm_19
  | 20, hq => cases hq; exact stm_in stm_20
  | 21, hq => cases hq; exact stm_in stm_21
  | 22, hq => cases hq; exact stm_in stm_22
  | 23, hq => cases hq; exact stm_in stm_23
  | 24, hq => cases hq; exact stm_in stm_24
  | 25, hq => cases hq; exact stm_in stm_25
  | 26, hq => cases hq; exact stm_in stm_26
  | 27, hq => cases hq; exact stm_in stm_27
  | 28, hq => cases hq; exact stm_in stm_28
  | 29, hq => cases hq; exact stm_in stm_29
  | 30, hq => cases hq; exact stm_in stm_30
  | 31, hq => cases hq; exact stm_in stm_31
  | 32, hq => cases hq; exact stm_in stm_32
  | 33, hq => cases hq; exact stm_in stm_33
  | 34, hq => cases hq; exact stm_in stm_34
  | 35, hq => cases hq; exact stm_in stm_35
  | i + 36, hq => exact absurd hq (by rw [List.getElem?_eq_none (by show 36 ≤ i + 36; omega)]; exact fun h => by cases h)
theorem str_all : ∀ (i : Nat) (q : String × Nat × String), wst[i]? = some q → Cond.stringRef q.1 q.2.1 q.2.2 ∈ lw_tbl := by
  intro i q hq
  match i, hq with
  | 0, hq => cases hq; exact List.mem_append_right _ (List.mem_append_right _ (List.mem_append_left _ (List.mem_of_getElem? (i := 94) rfl)))
  | 1, hq => cases hq; exact List.mem_append_right _ (List.mem_append_right _ (List.mem_append_left _ (List.mem_of_getElem? (i := 95) rfl)))
  | 2, hq => cases hq; exact List.mem_append_right _ (List.mem_append_right _ (List.mem_append_right _ (List.mem_append_right _ (List.mem_append_left _ (List.mem_of_getElem? (i := 48) rfl)))))
  | 3, hq => cases hq; exact List.mem_append_right _ (List.mem_append_right _ (List.mem_append_right _ (List.mem_append_right _ (List.mem_append_left _ (List.mem_of_getElem? (i := 182) rfl)))))
  | 4, hq => cases hq; exact List.mem_append_right _ (List.mem_append_right _ (List.mem_append_right _ (List.mem_append_right _ (List.mem_append_left _ (List.mem_of_getElem? (i := 187) rfl)))))
  | 5, hq => cases hq; exact List.mem_append_right _ (List.mem_append_right _ (List.mem_append_right _ (List.mem_append_right _ (List.mem_append_left _ (List.mem_of_getElem? (i := 189) rfl)))))
  | 6, hq => cases hq; exact List.mem_append_right _ (List.mem_append_right _ (List.mem_append_right _ (List.mem_append_right _ (List.mem_append_left _ (List.mem_of_getElem? (i := 23) rfl)))))
  | 7, hq => cases hq; exact List.mem_append_right _ (List.mem_append_right _ (List.mem_append_right _ (List.mem_append_right _ (List.mem_append_left _ (List.mem_of_getElem? (i := 66) rfl)))))
  | 8, hq => cases hq; exact List.mem_append_right _ (List.mem_append_right _ (List.mem_append_right _ (List.mem_append_right _ (List.mem_append_left _ (List.mem_of_getElem? (i := 72) rfl)))))
  | 9, hq => cases hq; exact List.mem_append_right _ (List.mem_append_right _ (List.mem_append_right _ (List.mem_append_right _ (List.mem_append_left _ (List.mem_of_getElem? (i := 78) rfl)))))
  | 10, hq => cases hq; exact List.mem_append_right _ (List.mem_append_right _ (List.mem_append_right _ (List.mem_append_right _ (List.mem_append_left _ (List.mem_of_getElem? (i := 84) rfl)))))
  | 11, hq => cases hq; exact List.mem_append_right _ (List.mem_append_right _ (List.mem_append_right _ (List.mem_append_right _ (List.mem_append_left _ (List.mem_of_getElem? (i := 85) rfl)))))
  | 12, hq => cases hq; exact List.mem_append_right _ (List.mem_append_right _ (List.mem_append_right _ (List.mem_append_right _ (List.mem_append_left _ (List.mem_of_getElem? (i := 86) rfl)))))
  | 13, hq => cases hq; exact List.mem_append_right _ (List.mem_append_right _ (List.mem_append_right _ (List.mem_append_right _ (List.mem_append_left _ (List.mem_of_getElem? (i := 87) rfl)))))
  | 14, hq => cases hq; exact List.mem_append_right _ (List.mem_append_right _ (List.mem_append_right _ (List.mem_append_right _ (List.mem_append_left _ (List.mem_of_getElem? (i := 88) rfl)))))
  | 15, hq => cases hq; exact List.mem_append_right _ (List.mem_append_right _ (List.mem_append_right _ (List.mem_append_right _ (List.mem_append_left _ (List.mem_of_getElem? (i := 89) rfl)))))
  | 16, hq => cases hq; exact List.mem_append_right _ (List.mem_append_right _ (List.mem_append_right _ (List.mem_append_right _ (List.mem_append_left _ (List.mem_of_getElem? (i := 94) rfl)))))
  | 17, hq => cases hq; exact List.mem_append_right _ (List.mem_append_right _ (List.mem_append_right _ (List.mem_append_right _ (List.mem_append_left _ (List.mem_of_getElem? (i := 95) rfl)))))
  | 18, hq => cases hq; exact List.mem_append_right _ (List.mem_append_right _ (List.mem_append_right _ (List.mem_append_right _ (List.mem_append_left _ (List.mem_of_getElem? (i := 96) rfl)))))
  | 19, hq => cases hq; exact List.mem_append_right _ (List.mem_append_right _ (List.mem_append_right _ (List.mem_append_right _ (List.mem_append_left _ (List.mem_of_getElem? (i := 97) rfl)))))
  | 20, hq => cases hq; exact List.mem_append_right _ (List.mem_append_right _ (List.mem_append_right _ (List.mem_append_left _ (List.mem_of_getElem? (i := 76) rfl))))
  | 21, hq => cases hq; exact List.mem_append_right _ (List.mem_append_right _ (List.mem_append_right _ (List.mem_append_left _ (List.mem_of_getElem? (i := 111) rfl))))
  | 22, hq => cases hq; exact List.mem_append_right _ (List.mem_append_right _ (List.mem_append_right _ (List.mem_append_left _ (List.mem_of_getElem? (i := 208) rfl))))
  | 23, hq => cases hq; exact List.mem_append_right _ (List.mem_append_right _ (List.mem_append_right _ (List.mem_append_left _ (List.mem_of_getElem? (i := 217) rfl))))
  | 24, hq => cases hq; exact List.mem_append_right _ (List.mem_append_right _ (List.mem_append_right _ (List.mem_append_left _ (List.mem_of_getElem? (i := 218) rfl))))
  | 25, hq => cases hq; exact List.mem_append_right _ (List.mem_append_right _ (List.mem_append_right _ (List.mem_append_right _ (List.mem_append_left _ (List.mem_of_getElem? (i := 239) rfl)))))
  | 26, hq => cases hq; exact List.mem_append_right _ (List.mem_append_right _ (List.mem_append_right _ (List.mem_append_right _ (List.mem_append_right _ (List.mem_append_left _ (List.mem_of_getElem? (i := 186) rfl))))))
  | 27, hq => cases hq; exact List.mem_append_right _ (List.mem_append_right _ (List.mem_append_right _ (List.mem_append_right _ (List.mem_append_right _ (List.mem_append_left _ (List.mem_of_getElem? (i := 198) rfl))))))
  | 28, hq => cases hq; exact List.mem_append_right _ (List.mem_append_right _ (List.mem_append_right _ (List.mem_append_right _ (List.mem_append_right _ (List.mem_append_left _ (List.mem_of_getElem? (i := 199) rfl))))))
  | 29, hq => cases hq; exact List.mem_append_right _ (List.mem_append_right _ (List.mem_append_right _ (List.mem_append_right _ (List.mem_append_right _ (List.mem_append_left _ (List.mem_of_getElem? (i := 207) rfl))))))
  | 30, hq => cases hq; exact List.mem_append_right _ (List.mem_append_right _ (List.mem_append_right _ (List.mem_append_right _ (List.mem_append_right _ (List.mem_append_left _ (List.mem_of_getElem? (i := 215) rfl))))))
  | 31, hq => cases hq; exact List.mem_append_right _ (List.mem_append_right _ (List.mem_append_right _ (List.mem_append_right _ (List.mem_append_right _ (List.mem_append_right _ (List.mem_append_left _ (List.mem_of_getElem? (i := 8) rfl)))))))
  | 32, hq => cases hq; exact List.mem_append_right _ (List.mem_append_right _ (List.mem_append_right _ (List.mem_append_left _ (List.mem_of_getElem? (i := 130) rfl))))
  | 33, hq => cases hq; exact List.mem_append_right _ (List.mem_append_right _ (List.mem_append_right _ (List.mem_append_left _ (List.mem_of_getElem? (i := 187) rfl))))
  | 34, hq => cases hq; exact List.mem_append_right _ (List.mem_append_right _ (List.mem_append_right _ (List.mem_append_right _ (List.mem_append_right _ (List.mem_append_left _ (List.mem_of_getElem? (i := 55) rfl))))))
  | 35, hq => cases hq; exact List.mem_append_right _ (List.mem_append_right _ (List.mem_append_right _ (List.mem_append_right _ (List.mem_append_right _ (List.mem_append_left _ (List.mem_of_getElem? (i := 227) rfl))))))
  | i + 36, hq => exact absurd hq (by rw [List.getElem?_eq_none (by show 36 ≤ i + 36; omega)]; exact fun h => by cases h)
theorem wsc_len : ∀ i : Nat, i < 36 → (wsc (i + 1)).length < 2 ^ 31 := by decide +kernel
theorem wl_Days : Cond.laysStatic "CookieJar$Dates" "DAYS_BEFORE" "[I" ∈ lw_tbl := List.mem_append_right _ (List.mem_append_right _ (List.mem_append_right _ (List.mem_append_right _ (List.mem_append_left _ (List.mem_of_getElem? (i := 54) rfl)))))
theorem wi_Days : Cond.initialized "CookieJar$Dates" ∈ lw_tbl := List.mem_append_right _ (List.mem_append_left _ (List.mem_of_getElem? (i := 22) rfl))
theorem wl_Comp : Cond.laysStatic "java/lang/String" "COMPACT_STRINGS" "Z" ∈ lw_tbl := List.mem_append_right _ (List.mem_append_right _ (List.mem_append_left _ (List.mem_of_getElem? (i := 109) rfl)))
theorem wi_Comp : Cond.initialized "java/lang/String" ∈ lw_tbl := List.mem_append_right _ (List.mem_append_left _ (List.mem_of_getElem? (i := 15) rfl))
theorem wl_Form : Cond.laysStatic "jdk/internal/util/Preconditions" "SIOOBE_FORMATTER" "Ljava/util/function/BiFunction;" ∈ lw_tbl := List.mem_append_right _ (List.mem_append_right _ (List.mem_append_left _ (List.mem_of_getElem? (i := 126) rfl)))
theorem wi_Form : Cond.initialized "jdk/internal/util/Preconditions" ∈ lw_tbl := List.mem_append_right _ (List.mem_append_left _ (List.mem_of_getElem? (i := 17) rfl))
theorem wl_Unas : Cond.laysStatic "java/lang/Throwable" "UNASSIGNED_STACK" "[Ljava/lang/StackTraceElement;" ∈ lw_tbl := List.mem_append_right _ (List.mem_append_right _ (List.mem_append_right _ (List.mem_append_left _ (List.mem_of_getElem? (i := 62) rfl))))
theorem wi_Unas : Cond.initialized "java/lang/Throwable" ∈ lw_tbl := List.mem_append_right _ (List.mem_append_left _ (List.mem_of_getElem? (i := 10) rfl))
theorem wl_Supp : Cond.laysStatic "java/lang/Throwable" "SUPPRESSED_SENTINEL" "Ljava/util/List;" ∈ lw_tbl := List.mem_append_right _ (List.mem_append_right _ (List.mem_append_right _ (List.mem_append_left _ (List.mem_of_getElem? (i := 64) rfl))))
theorem wi_Supp : Cond.initialized "java/lang/Throwable" ∈ lw_tbl := List.mem_append_right _ (List.mem_append_left _ (List.mem_of_getElem? (i := 10) rfl))
theorem wa_char : Cond.arrayClass .char ∈ lw_tbl := List.mem_append_right _ (List.mem_append_left _ (List.mem_of_getElem? (i := 56) rfl))
theorem wa_int : Cond.arrayClass .int ∈ lw_tbl := List.mem_append_right _ (List.mem_append_left _ (List.mem_of_getElem? (i := 215) rfl))
theorem wa_long : Cond.arrayClass .long ∈ lw_tbl := List.mem_append_right _ (List.mem_append_right _ (List.mem_append_right _ (List.mem_append_right _ (List.mem_append_right _ (List.mem_append_right _ (List.mem_append_left _ (List.mem_of_getElem? (i := 132) rfl)))))))
theorem wa_boolean : Cond.arrayClass .boolean ∈ lw_tbl := List.mem_append_right _ (List.mem_append_right _ (List.mem_append_right _ (List.mem_append_right _ (List.mem_append_right _ (List.mem_append_right _ (List.mem_append_left _ (List.mem_of_getElem? (i := 133) rfl)))))))
theorem wv_RX1 : Cond.arrayOver (.object RX1) ∈ lw_tbl := List.mem_append_right _ (List.mem_append_left _ (List.mem_of_getElem? (i := 124) rfl))
theorem wv_RX4 : Cond.arrayOver (.object RX4) ∈ lw_tbl := List.mem_append_right _ (List.mem_append_right _ (List.mem_append_left _ (List.mem_of_getElem? (i := 56) rfl)))
theorem wv_RX6 : Cond.arrayOver (.object RX6) ∈ lw_tbl := List.mem_append_right _ (List.mem_append_left _ (List.mem_of_getElem? (i := 205) rfl))
theorem wc_0 : Cond.castable "java/lang/IllegalArgumentException" "java/lang/IllegalArgumentException" ∈ lw_tbl := List.mem_append_right _ (List.mem_append_right _ (List.mem_append_right _ (List.mem_append_left _ (List.mem_of_getElem? (i := 37) rfl))))
theorem wc_1 : Cond.castable "java/lang/IllegalStateException" "java/lang/IllegalStateException" ∈ lw_tbl := List.mem_append_right _ (List.mem_append_right _ (List.mem_append_right _ (List.mem_append_left _ (List.mem_of_getElem? (i := 104) rfl))))
theorem wc_2 : Cond.castable "java/lang/IndexOutOfBoundsException" "java/lang/IndexOutOfBoundsException" ∈ lw_tbl := List.mem_append_right _ (List.mem_append_right _ (List.mem_append_right _ (List.mem_append_left _ (List.mem_of_getElem? (i := 180) rfl))))
theorem wd_0 : Cond.declares ⟨"java/lang/RuntimeException", "<init>", "(Ljava/lang/String;)V"⟩ ∈ lw_tbl := List.mem_append_right _ (List.mem_append_right _ (List.mem_append_right _ (List.mem_append_left _ (List.mem_of_getElem? (i := 39) rfl))))
theorem wd_1 : Cond.declares ⟨"java/lang/Exception", "<init>", "(Ljava/lang/String;)V"⟩ ∈ lw_tbl := List.mem_append_right _ (List.mem_append_right _ (List.mem_append_right _ (List.mem_append_left _ (List.mem_of_getElem? (i := 41) rfl))))
theorem wd_2 : Cond.declares ⟨"java/lang/Throwable", "<init>", "(Ljava/lang/String;)V"⟩ ∈ lw_tbl := List.mem_append_right _ (List.mem_append_right _ (List.mem_append_right _ (List.mem_append_left _ (List.mem_of_getElem? (i := 43) rfl))))
