/-! the class: its face -/
def CSt (A : Hp) (t : List Int32) (v : JV) : Prop := ((hsh A 100).1 = 7 ∧ hgR A 384 100 0 = 101 ∧ hgR A 385 100 0 = 103 ∧ hgR A 386 100 0 = 116 ∧ hgR A 387 100 0 = 525 ∧ hsh A 525 = (14, 2)) ∧ Rw A 101 160 t ∧ (∃ r, Rd A 103 r) ∧ ∃ f, Jr A 116 v f
def ceP (A : Hp) : Nat → Prop := fun q => (101 ≤ q ∧ q < 525) ∨ q = 549 ∨ hsz A ≤ q
/-- what the class may change; the out cell is of the law -/
def CE (A B : Hp) : Prop := Ew (ceP A) A B ∧ hsz A ≤ hsz B ∧ hsh B 549 = hsh A 549
theorem CE.rf {A : Hp} : CE A A := ⟨Ew.rf, Nat.le_refl _, rfl⟩
theorem CE.tr {A B C : Hp} (h : CE A B) (k : CE B C) : CE A C := ⟨h.1.tr (k.1.mo (fun q z => by
  rcases z with z | z | z
  · exact Or.inl z
  · exact Or.inr (Or.inl z)
  · exact Or.inr (Or.inr (Nat.le_trans h.2.1 z)))), Nat.le_trans h.2.1 k.2.1, k.2.2.trans h.2.2⟩
theorem CE.of {A B : Hp} {P : Nat → Prop} (e : Eqx P A B) (hP : ∀ q, P q → 101 ≤ q ∧ q < 525) : CE A B := ⟨e.ew.mo (fun q z => Or.inl (hP q z)), by rw [e.2.2]; exact Nat.le_refl _, e.2.1 549⟩
theorem CE.jr {A B : Hp} (e : Eqx (jrP 116) A B) : CE A B := CE.of e (fun q z => by have := z.1; have := z.2; omega)
theorem CE.tx {A B : Hp} (e : Eqx (rP 101) A B) : CE A B := CE.of e (fun q z => by rcases z with z | z <;> omega)
theorem CE.rd {A B : Hp} (e : Eqx (rdP 103) A B) : CE A B := CE.of e (fun q z => by have := z.1; have := z.2; omega)
theorem CE.mk {A : Hp} (hz : 550 ≤ hsz A) (k n : Nat) : CE A (hmk A k n) := ⟨(Ew.mk A k n).mo (fun q z => Or.inr (Or.inr (Nat.le_of_eq z.symm))), by rw [hsz_mk]; omega, by rw [hsh_mk, if_neg (by omega)]⟩
theorem CE.out {A : Hp} (x : Int64) : CE A (hsL A 1035 549 0 x) := ⟨ea_L.ew.mo (fun q z => Or.inr (Or.inl z)), Nat.le_refl _, rfl⟩
section
variable {A B : Hp} {t t' : List Int32} {v v' : JV}
theorem CSt.jr {f : CkV} (h : CSt A t v) (e : Eqx (jrP 116) A B) (hj : Jr B 116 v' f) : CSt B t v' := by
  obtain ⟨⟨c1, c2, c3, c4, c5, c6⟩, ht, ⟨r, hr⟩, -⟩ := h
  have n : ∀ q, q < 116 ∨ 525 ≤ q → ¬ jrP 116 q := fun q z w => by have := w.1; have := w.2; omega
  exact ⟨⟨by rw [e.2.1]; exact c1, by rw [e.R (n _ (by omega))]; exact c2, by rw [e.R (n _ (by omega))]; exact c3, by rw [e.R (n _ (by omega))]; exact c4, by rw [e.R (n _ (by omega))]; exact c5, by rw [e.2.1]; exact c6⟩, ht.eq e (n _ (by omega)) (n _ (by omega)), ⟨r, hr.eq e (fun q z => n q (by have := z.2; omega))⟩, f, hj⟩
theorem CSt.tx (h : CSt A t v) (e : Eqx (rP 101) A B) (hj : Rw B 101 160 t') : CSt B t' v := by
  obtain ⟨⟨c1, c2, c3, c4, c5, c6⟩, ht, ⟨r, hr⟩, f, hf⟩ := h
  have n : ∀ q, q < 101 ∨ 103 ≤ q → ¬ rP 101 q := fun q z w => by rcases w with w | w <;> omega
  exact ⟨⟨by rw [e.2.1]; exact c1, by rw [e.R (n _ (by omega))]; exact c2, by rw [e.R (n _ (by omega))]; exact c3, by rw [e.R (n _ (by omega))]; exact c4, by rw [e.R (n _ (by omega))]; exact c5, by rw [e.2.1]; exact c6⟩, hj, ⟨r, hr.eq e (fun q z => n q (by have := z.1; omega))⟩, f, hf.eq e (fun q z => n q (by have := z.1; omega))⟩
theorem CSt.rd {r : RdV} (h : CSt A t v) (e : Eqx (rdP 103) A B) (hj : Rd B 103 r) : CSt B t v := by
  obtain ⟨⟨c1, c2, c3, c4, c5, c6⟩, ht, -, f, hf⟩ := h
  have n : ∀ q, q < 103 ∨ 116 ≤ q → ¬ rdP 103 q := fun q z w => by have := w.1; have := w.2; omega
  exact ⟨⟨by rw [e.2.1]; exact c1, by rw [e.R (n _ (by omega))]; exact c2, by rw [e.R (n _ (by omega))]; exact c3, by rw [e.R (n _ (by omega))]; exact c4, by rw [e.R (n _ (by omega))]; exact c5, by rw [e.2.1]; exact c6⟩, ht.eq e (n _ (by omega)) (n _ (by omega)), ⟨r, hj⟩, f, hf.eq e (fun q z => n q (by have := z.1; omega))⟩
theorem CSt.ew {P : Nat → Prop} (h : CSt A t v) (e : Ew P A B) (n : ∀ q, 100 ≤ q → q < 526 → ¬ P q) : CSt B t v := by
  obtain ⟨⟨c1, c2, c3, c4, c5, c6⟩, ht, ⟨r, hr⟩, f, hf⟩ := h
  have n0 := n 100 (by omega) (by omega)
  exact ⟨⟨by rw [e.S n0]; exact c1, by rw [e.R n0]; exact c2, by rw [e.R n0]; exact c3, by rw [e.R n0]; exact c4, by rw [e.R n0]; exact c5, by rw [e.S (n 525 (by omega) (by omega))]; exact c6⟩, ht.ew e (n _ (by omega) (by omega)) (n _ (by omega) (by omega)), ⟨r, hr.ew e (fun q z => n q (by have := z.1; omega) (by have := z.2; omega))⟩, f, hf.ew e (fun q z => n q (by have := z.1; omega) (by have := z.2; omega))⟩
theorem CSt.mk (h : CSt A t v) (hz : 550 ≤ hsz A) (k n : Nat) : CSt (hmk A k n) t v := h.ew (Ew.mk A k n) (fun q _ z w => by have w : q = hsz A := w; omega)
theorem CSt.out (h : CSt A t v) (x : Int64) : CSt (hsL A 1035 549 0 x) t v := h.ew (P := fun q => q = 549) ea_L.ew (fun q _ z w => by omega)
theorem X_typeBad (A : Hp) {c : Int32} (hc : ¬ okc c) : f_X8_type A 100 c = some (.inr 1, hmk A 0 0) := by
  unfold f_X8_type
  by_cases z : c < 32
  · rw [if_pos z]
  · rw [if_neg z, if_neg (fun y => hc ⟨Int32.not_lt.mp z, y⟩)]
theorem X_typeFull (h : CSt A t v) {c : Int32} (hc : okc c) (hl : t.length = 160) : f_X8_type A 100 c = some (.inr 2, hmk A 0 0) := by
  unfold f_X8_type
  rw [if_neg (Int32.not_lt.mpr hc.1), if_pos hc.2, if_pos h.1.1, h.1.2.1, if_pos h.2.1.1.1, h.2.1.2.1, hl, if_neg (show ¬ nI 160 < 160 from Int32.lt_irrefl)]
theorem X_type (h : CSt A t v) {c : Int32} (hc : okc c) (hl : t.length < 160) : ∃ B, f_X8_type A 100 c = some (.inl (nI (t.length + 1)), B) ∧ CE A B ∧ CSt B (t ++ [c]) v := by
  obtain ⟨B, b1, b2, b3⟩ := h.2.1.add hc hl
  have hB := h.tx b3 b2
  refine ⟨B, ?_, CE.tx b3, hB⟩
  unfold f_X8_type
  rw [if_neg (Int32.not_lt.mpr hc.1), if_pos hc.2, if_pos h.1.1, h.1.2.1, if_pos h.2.1.1.1, h.2.1.2.1, if_pos (show nI t.length < 160 from nI_lt (b := 160) hl (by omega)), b1, Option.bind_some, if_pos hB.1.1, hB.1.2.1, if_pos b2.1.1, b2.2.1, List.length_append]
  rfl
theorem X_clear (h : CSt A t v) : ∃ B, f_X8_clearText A 100 = some (nI t.length, B) ∧ CE A B ∧ CSt B [] v := by
  obtain ⟨B, b1, b2, b3⟩ := h.2.1.empty
  refine ⟨B, ?_, CE.tx b3, h.tx b3 b2⟩
  unfold f_X8_clearText
  rw [if_pos h.1.1, h.1.2.1, if_pos h.2.1.1.1, b1, Option.bind_some, h.2.1.2.1]
theorem Jr.adr {f : CkV} {w : AdV} (h : Jr A 116 v f) (e : Eqx (adP 511) A B) (hw : Ad B 511 w) : Jr B 116 (jsG v w) f ∧ Eqx (jrP 116) A B := by
  obtain ⟨h1, h2, ⟨a1, a2, a3, a4, a5, a6⟩, ⟨ad, h4⟩, h5⟩ := h
  have n : ∀ q, q < 511 ∨ 516 ≤ q → ¬ adP 511 q := fun q z y => by have := y.1; have := y.2; omega
  exact ⟨⟨h1.eq e (n _ (by omega)), h2.eq e (n _ (by omega)), ⟨a1.eq e (fun q z => n q (by have := z.2; omega)), hw, a3.eq e (fun q z => n q (by have := z.1; omega)), a4.eq e (n _ (by omega)) (n _ (by omega)), fun i hi => by rw [e.I (n _ (by omega))]; exact a5 i hi, fun i hi => by rw [e.I (n _ (by omega))]; exact a6 i hi⟩, ⟨ad, h4.eq e (fun q z1 z2 => n q (by omega))⟩, h5.eq e (fun q z => n q (by have := z.2; omega))⟩, e.mo (fun q z => by have := z.1; have := z.2; exact ⟨by omega, by omega⟩)⟩
theorem Jr.adq {f : CkV} {w : AdV} (h : Jr A 116 v f) (e : Eqx (adP 516) A B) (hw : Ad B 516 w) : Jr B 116 (jsR v w) f ∧ Eqx (jrP 116) A B := by
  obtain ⟨h1, h2, ⟨a1, a2, a3, a4, a5, a6⟩, ⟨ad, h4⟩, h5⟩ := h
  have n : ∀ q, q < 516 ∨ 521 ≤ q → ¬ adP 516 q := fun q z y => by have := y.1; have := y.2; omega
  exact ⟨⟨h1.eq e (n _ (by omega)), h2.eq e (n _ (by omega)), ⟨a1.eq e (fun q z => n q (by have := z.2; omega)), a2.eq e (fun q z => n q (by have := z.2; omega)), hw, a4.eq e (n _ (by omega)) (n _ (by omega)), fun i hi => by rw [e.I (n _ (by omega))]; exact a5 i hi, fun i hi => by rw [e.I (n _ (by omega))]; exact a6 i hi⟩, ⟨ad, h4.eq e (fun q z1 z2 => n q (by omega))⟩, h5.eq e (fun q z => n q (by have := z.2; omega))⟩, e.mo (fun q z => by have := z.1; have := z.2; exact ⟨by omega, by omega⟩)⟩
theorem m1e : ∀ e, e < 1000 → (-1 - nI e : Int32) < 0 := by decide +kernel
/-- the page (511) or the request (516) is read -/
theorem X_openL (h : CSt A t v) {a : Nat} {w0 : AdV} (hA : Ad A a w0) (hr : ¬ adP a 101) {e : Nat} (he : e < 1000) (hq : rdAd t = .inl e) : ∃ B, f_X8_open A 100 a = some (-1 - nI e, B) ∧ Eqx (adP a) A B ∧ Ad B a w0 := by
  have hl := h.2.1.2.2.1
  obtain ⟨B, b1, b2, b3, b4⟩ := hA.read h.2.1 hr (by omega)
  rw [hq] at b1 b2
  refine ⟨B, ?_, b4, b2⟩
  unfold f_X8_open
  rw [if_pos h.1.1, if_pos hA.1.1, h.1.2.1, b1, Option.bind_some]
  show (if (-1 - nI e : Int32) < 0 then some (-1 - nI e, B) else _) = _
  rw [if_pos (m1e e he)]
theorem X_openR (h : CSt A t v) {a : Nat} {w0 w : AdV} (hA : Ad A a w0) (ha : a = 511 ∨ a = 516) (hq : rdAd t = .inr w) : ∃ B C, f_X8_open A 100 a = some (bI w.2.1, C) ∧ Eqx (adP a) A B ∧ Ad B a w ∧ Rw B 101 160 t ∧ Rw C 101 160 [] ∧ Eqx (rP 101) B C := by
  have hl := h.2.1.2.2.1
  have hr : ¬ adP a 101 := fun z => by have := z.1; omega
  obtain ⟨B, b1, b2, b3, b4⟩ := hA.read h.2.1 hr (by omega)
  rw [hq] at b1 b2
  obtain ⟨C, c1, c2, c3⟩ := b3.empty
  refine ⟨B, C, ?_, b4, b2, b3, c2, c3⟩
  have n : ¬ adP a 100 := fun z => by have := z.1; omega
  unfold f_X8_open
  rw [if_pos h.1.1, if_pos hA.1.1, h.1.2.1, b1, Option.bind_some]
  show (if bI w.2.1 < 0 then some (bI w.2.1, B) else if (hsh B 100).1 = 7 then if (hsh B (hgR B 384 100 0)).1 = 5 then ((f_X6_empty B (hgR B 384 100 0)).bind fun A9 => some (bI w.2.1, A9)) else none else none) = _
  rw [if_neg (by cases w.2.1 <;> decide), if_pos (by rw [b4.2.1]; exact h.1.1), b4.R n, h.1.2.1, if_pos b3.1.1, c1, Option.bind_some]
end
theorem endD_bef {s : List Int32} {f : Nat} : ∀ d i k, i ≤ k → k < endD s f d i → goS s f k = true := by
  intro d
  induction d with
  | zero => intro i k h1 h2; have h2 : k < i := h2; omega
  | succ d ih =>
    intro i k h1 h2
    have h2 : k < (if goS s f i then endD s f d (i + 1) else i) := h2
    cases q : goS s f i with
    | true =>
      rw [q, if_pos rfl] at h2
      by_cases z : k = i
      · rw [z]; exact q
      · exact ih (i + 1) k (by omega) h2
    | false => rw [q, if_neg (by decide)] at h2; omega
theorem goS_before {s : List Int32} {f k : Nat} (h1 : f ≤ k) (h2 : k < endS s f) : goS s f k = true := endD_bef _ _ _ h1 h2
theorem wsc12 (b : Bool) : (if b then wsc 1 else wsc 2).length ≤ 8 ∧ ∀ c ∈ (if b then wsc 1 else wsc 2), c ≠ -1 := by
  cases b
  · exact ⟨by decide, wsc_ne 2 (by omega)⟩
  · exact ⟨by decide, wsc_ne 1 (by omega)⟩
theorem rdAd_lt {t : List Int32} (hl : t.length ≤ 160) {e : Nat} (h : rdAd t = .inl e) : e < 1000 := by
  rw [rdAd_eq] at h
  obtain ⟨w1, w2⟩ := wsc12 (decide (g t 4 = 115))
  generalize (if decide (g t 4 = 115) then wsc 1 else wsc 2) = w at *
  have ha := agr_le t w
  have hal := agr_len (s := t) w2
  unfold adS at h
  split at h
  · have hE := endS_le (s := t) (f := w.length) (by omega)
    have hP := pEnd_le hE.2
    unfold adH at h
    split at h
    · unfold adE at h
      split at h
      · cases h
      · have := Sum.inl.inj h; omega
    · have := Sum.inl.inj h; omega
  · have := Sum.inl.inj h; omega
/-- what an address that is read is like -/
theorem rdAd_ok {t : List Int32} {w : AdV} (h : rdAd t = .inr w) : okq w := by
  rw [rdAd_eq] at h
  obtain ⟨w1, w2⟩ := wsc12 (decide (g t 4 = 115))
  generalize (if decide (g t 4 = 115) then wsc 1 else wsc 2) = ww at *
  have ha := agr_le t ww
  have hal := agr_len (s := t) w2
  unfold adS at h
  split at h
  · have hE := endS_le (s := t) (f := ww.length) (by omega)
    have h30 := endS_30 t ww.length
    have hP := pEnd_le hE.2
    generalize ww.length = f at *
    generalize he : endS t f = e at *
    unfold adH at h
    split at h
    · rename_i hw
      rw [Bool.and_eq_true] at hw
      have hw := hw.2
      unfold whl at hw
      rw [Bool.and_eq_true, decide_eq_true_eq, decide_eq_true_eq] at hw
      unfold adE at h
      split at h
      · have h := Sum.inr.inj h
        rw [← h]
        intro _
        have hsl : (sub t f e).length = e - f := by rw [sub_len]; omega
        refine ⟨isDom_iff.mpr ⟨by rw [hsl]; omega, by rw [hsl]; omega, fun k hk => ?_⟩, ?_, ?_⟩
        · rw [hsl] at hk
          have go : goS t f (f + k) = true := goS_before (by omega) (by rw [he]; omega)
          rw [sub_g (by omega), hsl]
          rcases goS_iff.mp go with ⟨z1, z2, z3, z4⟩ | ⟨z1, z2, z3⟩
          · refine Or.inr ⟨z1, by omega, ?_, ?_⟩
            · by_cases y : k + 1 = e - f
              · exact absurd (by rw [show e - 1 = f + k by omega]; exact z1) hw.2
              · omega
            · rw [sub_g (by omega), show f + (k - 1) = f + k - 1 by omega]; exact z3
          · exact Or.inl z2
        · show 1 ≤ (if e < pEnd t e then sub t e (pEnd t e) else [47]).length
          split
          · rw [sub_len]; omega
          · exact Nat.le_refl 1
        · show g (if e < pEnd t e then sub t e (pEnd t e) else [47]) 0 = 47
          split
          · rename_i z
            rw [sub_g (by omega), Nat.add_zero]
            unfold pEnd at z
            by_cases y : g t e = 47
            · exact y
            · rw [if_neg y] at z; omega
          · rfl
      · cases h
    · cases h
  · cases h
section
variable {A B : Hp} {t t' : List Int32} {v v' : JV}
theorem X_openPageL (h : CSt A t v) {e : Nat} (he : e < 1000) (hq : rdAd t = .inl e) : ∃ B, f_X8_openPage A 100 = some (-1 - nI e, B) ∧ CE A B ∧ CSt B t v := by
  obtain ⟨f, hj⟩ := h.2.2.2
  have hA : Ad A 511 (jG v) := hj.2.2.1.2.1
  obtain ⟨B, b1, b2, b3⟩ := X_openL h hA (fun z => by have := z.1; omega) he hq
  obtain ⟨q1, q2⟩ := hj.adr b2 b3
  refine ⟨B, ?_, CE.jr q2, h.jr q2 (show Jr B 116 v f from q1)⟩
  unfold f_X8_openPage
  rw [if_pos h.1.1, h.1.2.2.2.1, if_pos hj.1.1.1, show hgR A 133 116 0 = 511 from hj.1.1.2.2.2.2.2.1, b1, Option.bind_some]
theorem X_openPageR (h : CSt A t v) {w : AdV} (hq : rdAd t = .inr w) : ∃ C, f_X8_openPage A 100 = some (bI w.2.1, C) ∧ CE A C ∧ CSt C [] (jsG v w) := by
  obtain ⟨f, hj⟩ := h.2.2.2
  have hA : Ad A 511 (jG v) := hj.2.2.1.2.1
  obtain ⟨B, C, b1, b2, b3, b4, b5, b6⟩ := X_openR h hA (Or.inl rfl) hq
  obtain ⟨q1, q2⟩ := hj.adr b2 b3
  refine ⟨C, ?_, (CE.jr q2).tr (CE.tx b6), (h.jr q2 q1).tx b6 b5⟩
  unfold f_X8_openPage
  rw [if_pos h.1.1, h.1.2.2.2.1, if_pos hj.1.1.1, show hgR A 133 116 0 = 511 from hj.1.1.2.2.2.2.2.1, b1, Option.bind_some]
theorem X_openReqL (h : CSt A t v) {e : Nat} (he : e < 1000) (hq : rdAd t = .inl e) : ∃ B, f_X8_openRequest A 100 = some (-1 - nI e, B) ∧ CE A B ∧ CSt B t v := by
  obtain ⟨f, hj⟩ := h.2.2.2
  have hA : Ad A 516 (jR v) := hj.2.2.1.2.2.1
  obtain ⟨B, b1, b2, b3⟩ := X_openL h hA (fun z => by have := z.1; omega) he hq
  obtain ⟨q1, q2⟩ := hj.adq b2 b3
  refine ⟨B, ?_, CE.jr q2, h.jr q2 (show Jr B 116 v f from q1)⟩
  unfold f_X8_openRequest
  rw [if_pos h.1.1, h.1.2.2.2.1, if_pos hj.1.1.1, show hgR A 134 116 0 = 516 from hj.1.1.2.2.2.2.2.2.1, b1, Option.bind_some]
theorem X_openReqR (h : CSt A t v) {w : AdV} (hq : rdAd t = .inr w) : ∃ C, f_X8_openRequest A 100 = some (bI w.2.1, C) ∧ CE A C ∧ CSt C [] (jsR v w) := by
  obtain ⟨f, hj⟩ := h.2.2.2
  have hA : Ad A 516 (jR v) := hj.2.2.1.2.2.1
  obtain ⟨B, C, b1, b2, b3, b4, b5, b6⟩ := X_openR h hA (Or.inr rfl) hq
  obtain ⟨q1, q2⟩ := hj.adq b2 b3
  refine ⟨C, ?_, (CE.jr q2).tr (CE.tx b6), (h.jr q2 q1).tx b6 b5⟩
  unfold f_X8_openRequest
  rw [if_pos h.1.1, h.1.2.2.2.1, if_pos hj.1.1.1, show hgR A 134 116 0 = 516 from hj.1.1.2.2.2.2.2.2.1, b1, Option.bind_some]
theorem X_need (h : CSt A t v) : f_X8_needRequest A 100 = if (jR v).1 then some (.inl (), A) else some (.inr 2, hmk A 0 0) := by
  obtain ⟨f, hj⟩ := h.2.2.2
  have hA : Ad A 516 (jR v) := hj.2.2.1.2.2.1
  unfold f_X8_needRequest
  rw [if_pos h.1.1, h.1.2.2.2.1, if_pos hj.1.1.1, show hgR A 134 116 0 = 516 from hj.1.1.2.2.2.2.2.2.1, if_pos hA.1.1, hA.2.1]
  cases (jR v).1
  · rw [if_pos (by rfl)]; rfl
  · rw [if_neg (by decide)]; rfl
theorem wtry_l {T S : Type} {v : T} {A : Hp} (k : T → Hp → Option ((S ⊕ Nat) × Hp)) : wtry (some (.inl v, A)) k = k v A := rfl
theorem wtry_r {T S : Type} {e : Nat} {A : Hp} (k : T → Hp → Option ((S ⊕ Nat) × Hp)) : wtry (some ((.inr e : T ⊕ Nat), A)) k = some (.inr e, A) := rfl
theorem X_sameSite (h : CSt A t v) : f_X8_isSameSite A 100 = if (jR v).1 then some (.inl (bI (!(crs v))), A) else some (.inr 2, hmk A 0 0) := by
  obtain ⟨f, hj⟩ := h.2.2.2
  unfold f_X8_isSameSite
  rw [if_pos h.1.1, X_need h]
  cases (jR v).1
  · rfl
  · rw [if_pos rfl, if_pos rfl, wtry_l, if_pos h.1.1, h.1.2.2.2.1, if_pos hj.1.1.1, hj.isCrossSite, Option.bind_some]
    cases crs v <;> rfl
theorem X_idx (A : Hp) (k : Int32) : f_X8_needIndex A 100 k = if 0 ≤ k then some (.inl (), A) else some (.inr 3, hmk A 0 0) := rfl
theorem X_siteClosed (h : CSt A t v) (hq : (jR v).1 = false) (k : Int32) : f_X8_siteChar A 100 k = some (.inr 2, hmk A 0 0) := by
  unfold f_X8_siteChar
  rw [if_pos h.1.1, X_need h, hq]; rfl
theorem X_siteNeg (h : CSt A t v) (hq : (jR v).1 = true) {k : Int32} (hk : ¬ 0 ≤ k) : f_X8_siteChar A 100 k = some (.inr 3, hmk A 0 0) := by
  unfold f_X8_siteChar
  rw [if_pos h.1.1, X_need h, hq, if_pos rfl, wtry_l, if_pos h.1.1, X_idx, if_neg hk]; rfl
theorem X_site (h : CSt A t v) (hq : (jR v).1 = true) {k : Nat} (hk : k < 2 ^ 31) : f_X8_siteChar A 100 (nI k) = some (.inl (g (jR v).2.2.1 (siteS (jU v) (jR v).2.2.1 + k)), A) := by
  obtain ⟨f, hj⟩ := h.2.2.2
  have hA : Ad A 516 (jR v) := hj.2.2.1.2.2.1
  have hS : Sx A 497 (jU v) := hj.2.2.1.1
  have hr : Rw A 517 30 (jR v).2.2.1 := hA.2.2.2.1
  have hl := hr.2.2.1
  have hs := siteS_le (jU v) (jR v).2.2.1
  unfold f_X8_siteChar
  rw [if_pos h.1.1, X_need h, hq, if_pos rfl, wtry_l, if_pos h.1.1, X_idx, if_pos (nI_pos' hk), wtry_l, if_pos h.1.1, h.1.2.2.2.1, if_pos hj.1.1.1, show hgR A 134 116 0 = 516 from hj.1.1.2.2.2.2.2.2.1, if_pos hA.1.1, show hgR A 132 116 0 = 497 from hj.1.1.2.2.2.2.1, if_pos hS.1.1, show hgR A 0 516 0 = 517 from hA.1.2.1, hS.siteStart hr (by omega), Option.bind_some, if_pos hr.1.1, hr.2.1]
  by_cases z : k < (jR v).2.2.1.length
  · rw [if_neg (nI_ge z (by omega)), nI_add, hr.at (by omega), Option.bind_some]
  · rw [if_pos (nI_le (by omega) hk), g_ge (by omega)]
theorem X_sufBad (h : CSt A t v) (hb : (isDom t && decide (t ∉ jU v)) = false) : f_X8_addSuffix A 100 = some (.inr 1, hmk A 0 0) := by
  obtain ⟨f, hj⟩ := h.2.2.2
  have hS : Sx A 497 (jU v) := hj.2.2.1.1
  have hl := h.2.1.2.2.1
  unfold f_X8_addSuffix
  rw [if_pos h.1.1, h.1.2.1, h.2.1.isDomain (by omega), Option.bind_some]
  cases hd : isDom t with
  | false => rw [if_pos (by rfl)]
  | true =>
    rw [hd, Bool.true_and, decide_eq_false_iff_not, Classical.not_not] at hb
    rw [if_neg (by decide), h.1.2.2.2.1, if_pos hj.1.1.1, show hgR A 132 116 0 = 497 from hj.1.1.2.2.2.2.1, if_pos hS.1.1, hS.has h.2.1 (by omega), Option.bind_some, decide_eq_true hb, if_neg (by decide)]
theorem X_sufFull (h : CSt A t v) (hb : (isDom t && decide (t ∉ jU v)) = true) (hl6 : (jU v).length = 6) : f_X8_addSuffix A 100 = some (.inr 2, hmk A 0 0) := by
  obtain ⟨f, hj⟩ := h.2.2.2
  have hS : Sx A 497 (jU v) := hj.2.2.1.1
  have hl := h.2.1.2.2.1
  rw [Bool.and_eq_true, decide_eq_true_eq] at hb
  unfold f_X8_addSuffix
  rw [if_pos h.1.1, h.1.2.1, h.2.1.isDomain (by omega), Option.bind_some, hb.1, if_neg (by decide), h.1.2.2.2.1, if_pos hj.1.1.1, show hgR A 132 116 0 = 497 from hj.1.1.2.2.2.2.1, if_pos hS.1.1, hS.has h.2.1 (by omega), Option.bind_some, decide_eq_false hb.2, if_pos (by rfl), hS.2.2.1, hl6, if_neg (show ¬ nI 6 < 6 from Int32.lt_irrefl)]
theorem X_suf (h : CSt A t v) (hb : (isDom t && decide (t ∉ jU v)) = true) (hl6 : (jU v).length < 6) : ∃ B, f_X8_addSuffix A 100 = some (.inl (nI ((jU v).length + 1)), B) ∧ CE A B ∧ CSt B [] (jsU v (jU v ++ [t])) := by
  obtain ⟨f, hj⟩ := h.2.2.2
  have hS : Sx A 497 (jU v) := hj.2.2.1.1
  have hl := h.2.1.2.2.1
  rw [Bool.and_eq_true, decide_eq_true_eq] at hb
  obtain ⟨B, b1, b2, b3, b4⟩ := hS.append h.2.1 (fun z => by have := z.1; omega) (isDom_iff.mp hb.1).2.1 hl6
  have m : Eqx (jrP 116) A B := b4.mo (fun q z => by have := z.1; have := z.2; exact ⟨by omega, by omega⟩)
  have n : ∀ q, q < 497 ∨ 511 ≤ q → ¬ sxP 497 q := fun q z w => by have := w.1; have := w.2; omega
  have jB : Jr B 116 (jsU v (jU v ++ [t])) f := by
    obtain ⟨h1, h2, ⟨a1, a2, a3, a4, a5, a6⟩, ⟨ad, h4⟩, h5⟩ := hj
    exact ⟨h1.eq b4 (n _ (by omega)), h2.eq b4 (n _ (by omega)), ⟨b2, a2.eq b4 (fun q z => n q (by have := z.1; omega)), a3.eq b4 (fun q z => n q (by have := z.1; omega)), a4.eq b4 (n _ (by omega)) (n _ (by omega)), fun i hi => by rw [b4.I (n _ (by omega))]; exact a5 i hi, fun i hi => by rw [b4.I (n _ (by omega))]; exact a6 i hi⟩, ⟨ad, h4.eq b4 (fun q z1 z2 => n q (by omega))⟩, h5.eq b4 (fun q z => n q (by have := z.2; omega))⟩
  have cB := h.jr m jB
  obtain ⟨C, c1, c2, c3⟩ := cB.2.1.empty
  have cC := cB.tx c3 c2
  obtain ⟨f', hj'⟩ := cC.2.2.2
  have hS' : Sx C 497 (jU v ++ [t]) := hj'.2.2.1.1
  refine ⟨C, ?_, (CE.jr m).tr (CE.tx c3), cC⟩
  unfold f_X8_addSuffix
  rw [if_pos h.1.1, h.1.2.1, h.2.1.isDomain (by omega), Option.bind_some, hb.1, if_neg (by decide), h.1.2.2.2.1, if_pos hj.1.1.1, show hgR A 132 116 0 = 497 from hj.1.1.2.2.2.2.1, if_pos hS.1.1, hS.has h.2.1 (by omega), Option.bind_some, decide_eq_false hb.2, if_pos (by rfl), hS.2.2.1, if_pos (show nI (jU v).length < 6 from nI_lt (b := 6) hl6 (by omega)), b1, Option.bind_some, if_pos cB.1.1, cB.1.2.1, if_pos cB.2.1.1.1, c1, Option.bind_some, if_pos cC.1.1, cC.1.2.2.2.1, if_pos hj'.1.1.1, show hgR C 132 116 0 = 497 from hj'.1.1.2.2.2.2.1, if_pos hS'.1.1, hS'.2.2.1, List.length_append]
  rfl
end
