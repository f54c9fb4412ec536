/-! from the law's entry into the small world -/
theorem wRef {args : Array Value} {s : State} {t : Term} (h : (Cond.isRef t).before args s = true) : t.eval args s none [] s = some .null ∨ ∃ a : Nat, t.eval args s none [] s = some (.ref a) := by
  cases hv : t.eval args s none [] s with
  | none => simp [Cond.before, Cond.holds, Cond.value, hv] at h
  | some w =>
    cases w with
    | null => exact Or.inl rfl
    | ref a => exact Or.inr ⟨a, rfl⟩
    | _ => simp [Cond.before, Cond.holds, Cond.value, hv] at h
theorem wArr {args : Array Value} {s : State} {ty : FieldType} (h : (Cond.arrayClass ty).before args s = true) (ho : ∀ C, ty ≠ .object C) : ∃ cA : ClassId, ArrOfT s cA ty ∧ va_RA s cA ty := by
  obtain ⟨c, k, comp, h1, h2, h3⟩ := Cond.arrayClass_spec h
  refine ⟨c, fun n z => ⟨(fun k h => by cases h), k, h2, comp, h3⟩, ?_⟩
  cases ty with
  | object C => exact absurd rfl (ho C)
  | _ => exact h1
theorem wArrO {args : Array Value} {s : State} {C : String} (h : (Cond.arrayOver (.object C)).before args s = true) : ∃ cA : ClassId, ArrOfT s cA (.object C) ∧ va_RA s cA (.object C) := by
  obtain ⟨comp, c, k, h1, h2, h3, h4, h5⟩ := Cond.arrayOver_spec h
  exact ⟨c, fun n z => ⟨(fun k h => by cases h), k, h3, comp, h4⟩, k, comp, h3, h4, h1, h5⟩
theorem wDays : ∀ j : Nat, j < 13 → Cond.eq (.elem (.static "CookieJar$Dates" "DAYS_BEFORE" "[I") (.int (Int32.ofNat j))) (.int (wdy j)) ∈ nrw := by decide +kernel
theorem wNN : ∀ q ∈ wnN, Cond.not (.castable q.1 q.2) ∈ nrw := by decide +kernel
theorem wN_1 : Cond.arrayOf (.static "CookieJar$Dates" "DAYS_BEFORE" "[I") .int ∈ nrw := by decide +kernel
theorem wN_2 : Cond.eq (.length (.static "CookieJar$Dates" "DAYS_BEFORE" "[I")) (.int (Int32.ofNat 13)) ∈ nrw := by decide +kernel
theorem wN_3 : Cond.eq (.static "java/lang/String" "COMPACT_STRINGS" "Z") (.int 1) ∈ nrw := by decide +kernel
theorem wN_4 : Cond.isRef (.static "jdk/internal/util/Preconditions" "SIOOBE_FORMATTER" "Ljava/util/function/BiFunction;") ∈ nrw := by decide +kernel
theorem wN_5 : Cond.isRef (.static "java/lang/Throwable" "UNASSIGNED_STACK" "[Ljava/lang/StackTraceElement;") ∈ nrw := by decide +kernel
theorem wN_6 : Cond.isRef (.static "java/lang/Throwable" "SUPPRESSED_SENTINEL" "Ljava/util/List;") ∈ nrw := by decide +kernel
theorem wKn {s : State} {args : Array Value} (hts : ∀ w ∈ uw, w.before args s = true) : ∃ D : va_G, ∀ (c : Nat) (q : vw_C), vwCl[c]? = some q → u_Kn s q.1 q.2.1 q.2.2 (D.1 c) (D.2 c) := by
  obtain ⟨c0, i0, h0⟩ := u_known (C := RX0) (T := TX0) (N := 4) (n := 4) hts cls0.2.1 (hts _ cls0.2.2.2.2.2.2.1)
  obtain ⟨c1, i1, h1⟩ := u_known (C := RX1) (T := TX1) (N := 13) (n := 13) hts cls1.2.1 (hts _ cls1.2.2.2.2.2.2.1)
  obtain ⟨c2, i2, h2⟩ := u_known (C := RX4) (T := TX4) (N := 13) (n := 13) hts cls2.2.1 (hts _ cls2.2.2.2.2.2.2.1)
  obtain ⟨c3, i3, h3⟩ := u_known (C := RX5) (T := TX5) (N := 14) (n := 14) hts cls3.2.1 (hts _ cls3.2.2.2.2.2.2.1)
  obtain ⟨c4, i4, h4⟩ := u_known (C := RX6) (T := TX6) (N := 2) (n := 2) hts cls4.2.1 (hts _ cls4.2.2.2.2.2.2.1)
  obtain ⟨c5, i5, h5⟩ := u_known (C := RX7) (T := TX7) (N := 2) (n := 2) hts cls5.2.1 (hts _ cls5.2.2.2.2.2.2.1)
  obtain ⟨c6, i6, h6⟩ := u_known (C := RX8) (T := TX8) (N := 4) (n := 4) hts cls6.2.1 (hts _ cls6.2.2.2.2.2.2.1)
  obtain ⟨c7, i7, h7⟩ := u_known (C := RX9) (T := TX9) (N := 38) (n := 38) hts cls7.2.1 (hts _ cls7.2.2.2.2.2.2.1)
  refine ⟨(fun k => [c0, c1, c2, c3, c4, c5, c6, c7].getD k c0, fun k => match k with | 0 => i0 | 1 => i1 | 2 => i2 | 3 => i3 | 4 => i4 | 5 => i5 | 6 => i6 | _ => i7), fun c q hq => ?_⟩
  match c, hq with
  | 0, hq => cases hq; exact h0
  | 1, hq => cases hq; exact h1
  | 2, hq => cases hq; exact h2
  | 3, hq => cases hq; exact h3
  | 4, hq => cases hq; exact h4
  | 5, hq => cases hq; exact h5
  | 6, hq => cases hq; exact h6
  | 7, hq => cases hq; exact h7
  | c + 8, hq => exact absurd hq (by rw [List.getElem?_eq_none (by show 8 ≤ c + 8; omega)]; exact fun h => by cases h)
set_option maxHeartbeats 4000000 in
theorem whole_reach {p : Program} {e : Env} {s : State} {m : MethodId} {below : List Frame} {meth : Method} {c : Code} (l : Launch) (hflags : l.flags = flags0) {b Ln : Nat} {xs : Nat → Int32} (C0 : lw_At p s m meth c b Ln xs) (hf : f_L_law xs Ln hA0 = some 1) : W p l e room_1 s m #[Value.ref b] below meth c s.heap [] 0 0 (lw_Z below #[Value.ref b] s) (entryFrame m ([Value.ref b] : List Value).toArray 8) := by
  obtain ⟨hx, hb, hr, hml, hown, hts, hX, hbl, hlocks, hgv⟩ := id C0
  have hn : ∀ w ∈ nrw, w.before #[Value.ref b] s = true := fun w hw => flat_of_before _ hgv w (List.mem_append_right _ hw)
  have hu : ∀ w ∈ uw, w.before #[Value.ref b] s = true := fun w hw => hts w (List.mem_filter.mp hw).1
  have hA : ∀ a : Nat, a < s.heap.size → ¬ (fun q : Nat => s.heap.size ≤ q) a := fun a ha => Nat.not_le.mpr ha
  obtain ⟨D, hD⟩ := wKn hu
  obtain ⟨k9, a9⟩ := wArr (hts _ wa_char) (fun C h => by cases h)
  obtain ⟨k10, a10⟩ := wArr (hts _ wa_int) (fun C h => by cases h)
  obtain ⟨k11, a11⟩ := wArr (hts _ wa_long) (fun C h => by cases h)
  obtain ⟨k12, a12⟩ := wArr (hts _ wa_boolean) (fun C h => by cases h)
  obtain ⟨k13, a13⟩ := wArrO (hts _ wv_RX1)
  obtain ⟨k14, a14⟩ := wArrO (hts _ wv_RX4)
  obtain ⟨k15, a15⟩ := wArrO (hts _ wv_RX6)
  have hstr : ∀ i : Nat, ∃ r : Nat × Nat, ∀ q, wst[i]? = some q → (stT q).eval #[Value.ref b] s none [] s = some (.ref r.1) ∧ va_O "java/lang/String" r.1 (fun q : Nat => s.heap.size ≤ q) s s.heap ∧ va_OF "java/lang/String" "coder" "B" (.int 0) r.1 (fun q : Nat => s.heap.size ≤ q) s s.heap ∧ va_OF "java/lang/String" "value" "[B" (.ref r.2) r.1 (fun q : Nat => s.heap.size ≤ q) s s.heap ∧ va_T .byte r.2 (wsc (i + 1)).length (fun j => .int ((wsc (i + 1)).getD j 0)) (fun q : Nat => s.heap.size ≤ q) s s.heap := by
    intro i
    cases hq : wst[i]? with
    | none => exact ⟨(0, 0), fun q h => by cases h⟩
    | some q =>
      have hi : i < 36 := (List.getElem?_eq_some_iff.mp hq).1
      obtain ⟨r, hr⟩ := stOne (q := q) (A := fun q : Nat => s.heap.size ≤ q) (wsc_len i hi) (fun w hw => hn w (stm_all i q hq w hw)) hA
      exact ⟨r, fun q' h => by cases h; exact hr⟩
  obtain ⟨sa, hsa⟩ := Classical.axiomOfChoice hstr
  obtain ⟨td, htd, hTd⟩ := va_Tof (f := fun j => .int (wdy j)) (A := fun q : Nat => s.heap.size ≤ q) (N := 13) (by decide) (hn _ wN_1) (va_eqt (hn _ wN_2)) (fun j hj => va_eqt (hn _ (wDays j hj))) hA
  obtain ⟨fa, hfa⟩ : ∃ fa : Nat, va_Z "jdk/internal/util/Preconditions" "SIOOBE_FORMATTER" "Ljava/util/function/BiFunction;" .null (fun q : Nat => s.heap.size ≤ q) s s.heap ∨ va_Z "jdk/internal/util/Preconditions" "SIOOBE_FORMATTER" "Ljava/util/function/BiFunction;" (.ref fa) (fun q : Nat => s.heap.size ≤ q) s s.heap := by
    rcases wRef (hn _ wN_4) with h | ⟨a, h⟩
    · exact ⟨0, Or.inl (va_Zof (hts _ wl_Form) (hts _ wi_Form) h hA)⟩
    · exact ⟨a, Or.inr (va_Zof (hts _ wl_Form) (hts _ wi_Form) h hA)⟩
  let g : GT := (D, (fun k => match k with | 9 => k9 | 10 => k10 | 11 => k11 | 12 => k12 | 13 => k13 | 14 => k14 | _ => k15), s.heap.size, (fun q => s.heap[q]?), (fun n => if n = 90 then td else if n = 91 then fa else if n = 92 then b else if n ≤ 36 then (sa (n - 1)).1 else (sa (n - 41)).2))
  have g1 : ∀ i, i < 36 → g.2.2.2.2 (i + 1) = (sa i).1 := fun i hi => by
    show (if i + 1 = 90 then td else if i + 1 = 91 then fa else if i + 1 = 92 then b else if i + 1 ≤ 36 then (sa (i + 1 - 1)).1 else (sa (i + 1 - 41)).2) = _
    rw [if_neg (by omega), if_neg (by omega), if_neg (by omega), if_pos (by omega), Nat.add_sub_cancel]
  have g2 : ∀ i, i < 36 → g.2.2.2.2 (i + 41) = (sa i).2 := fun i hi => by
    show (if i + 41 = 90 then td else if i + 41 = 91 then fa else if i + 41 = 92 then b else if i + 41 ≤ 36 then (sa (i + 41 - 1)).1 else (sa (i + 41 - 41)).2) = _
    rw [if_neg (by omega), if_neg (by omega), if_neg (by omega), if_neg (by omega), Nat.add_sub_cancel]
  have hK : va_K g.1 vwCl (wtys g) s := by
    refine ⟨hD, fun k q hq => ?_⟩
    match k, hq with
    | 0, hq => cases hq; exact a9
    | 1, hq => cases hq; exact a10
    | 2, hq => cases hq; exact a11
    | 3, hq => cases hq; exact a12
    | 4, hq => cases hq; exact a13
    | 5, hq => cases hq; exact a14
    | 6, hq => cases hq; exact a15
    | k + 7, hq => exact absurd hq (by rw [List.getElem?_eq_none (by show 7 ≤ k + 7; omega)]; exact fun h => by cases h)
  have hO : wO g s s.heap := by
    refine ⟨fun i q hq => ?_, fun i hi => ?_, va_Zof (hts _ wl_Days) (hts _ wi_Days) htd hA, hTd, va_Zof (hts _ wl_Comp) (hts _ wi_Comp) (va_eqi (hn _ wN_3)) hA, hfa, vx_Zqof (hts _ wl_Unas) (hts _ wi_Unas) (hn _ wN_5) hA, vx_Zqof (hts _ wl_Supp) (hts _ wi_Supp) (hn _ wN_6) hA, va_AO.of (hts _ wv_RX1), va_AO.of (hts _ wv_RX4), va_AO.of (hts _ wv_RX6), ?_, ?_, fun q hq => va_Nc.of (hn _ (wNN q hq))⟩
    · have hi : i < 36 := (List.getElem?_eq_some_iff.mp hq).1
      rw [g1 i hi]
      exact vk_R.of (hts _ (str_all i q hq)) (hsa i q hq).1
    · obtain ⟨q, hq⟩ : ∃ q, wst[i]? = some q := ⟨_, List.getElem?_eq_getElem (show i < wst.length from hi)⟩
      rw [g1 i hi, g2 i hi]
      exact (hsa i q hq).2
    · intro q hq
      simp only [wnC, List.mem_cons, List.not_mem_nil, or_false] at hq
      rcases hq with rfl | rfl | rfl
      · exact va_Nw.of rfl (hts _ wc_0)
      · exact va_Nw.of rfl (hts _ wc_1)
      · exact va_Nw.of rfl (hts _ wc_2)
    · intro q hq
      simp only [wnD, List.mem_cons, List.not_mem_nil, or_false] at hq
      rcases hq with rfl | rfl | rfl
      · exact va_Nw.of rfl (hts _ wd_0)
      · exact va_Nw.of rfl (hts _ wd_1)
      · exact va_Nw.of rfl (hts _ wd_2)
  have hR : wRep g hA0 s.heap := ⟨Nat.le_refl _, rfl, fun q hq => rfl, fun n h => absurd rfl h, fun n e' h => by
    unfold wcl at h
    rw [if_pos (show (hsh hA0 n).1 = 0 from rfl)] at h
    cases h⟩
  have htr : l.stackTraces = false := by
    unfold Launch.stackTraces
    rw [hflags]
    decide
  have hV := s_L_law (κ := ((p, l, e, room_1, s), (m, #[Value.ref b], below, meth, c), lw_Z below #[Value.ref b] s, g)) (xs := xs) (Ln := Ln) (A := hA0)
    ⟨hx, hb, hml, hown, hu, hlocks, hK, hO, fun q hq => rfl, Nat.le_refl _, rfl, htr⟩ ⟨b, rfl, rfl, hr, rfl⟩ ⟨hX, hbl⟩ hf
  have hl := lv_entry ([.ref b]) (n := 8) (Nat.le_of_ble_eq_true rfl)
  rw [lg_entry_eq]
  refine hV s.heap [] _ hR (Nat.le_refl _) (fun q hq => by cases hq) ?_
  show lv_has _ c.maxLocals [(0, Value.ref b)]
  rw [hml]
  exact hl
