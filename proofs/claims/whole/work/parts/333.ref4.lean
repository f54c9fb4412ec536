/-! the reference: addresses -/
def lB (b : Bool) : Int64 := if b then 1 else 0
theorem lB_0 {b : Bool} : lB b = 0 ↔ b = false := by cases b <;> decide
theorem lB_1 {b : Bool} : lB b = 1 ↔ b = true := by cases b <;> decide
theorem lB_i (b : Bool) : (lB b).toInt32 = bI b := by cases b <;> decide
theorem lB_eq {a b : Bool} : lB a = lB b ↔ a = b := by cases a <;> cases b <;> decide
def AdM (μ : Nat → Int64) (a : Nat) (v : AdV) : Prop := (μ a = lB v.1 ∧ μ (a + 1) = lB v.2.1 ∧ μ (a + 2) = lN v.2.2.1.length ∧ μ (a + 3) = lN v.2.2.2.length) ∧ Sg μ (a + 4) v.2.2.1 ∧ Sg μ (a + 34) v.2.2.2 ∧ v.2.2.1.length ≤ 30 ∧ v.2.2.2.length ≤ 40
theorem AdM.congr {μ ν : Nat → Int64} {a : Nat} {v : AdV} (h : AdM μ a v) (e : ∀ k, a ≤ k → k < a + 74 → ν k = μ k) : AdM ν a v := by
  obtain ⟨⟨h1, h2, h3, h4⟩, h5, h6, h7, h8⟩ := h
  exact ⟨⟨by rw [e _ (by omega) (by omega)]; exact h1, by rw [e _ (by omega) (by omega)]; exact h2, by rw [e _ (by omega) (by omega)]; exact h3, by rw [e _ (by omega) (by omega)]; exact h4⟩, h5.congr (fun k q1 q2 => e k (by omega) (by omega)), h6.congr (fun k q1 q2 => e k (by omega) (by omega)), h7, h8⟩
theorem mu_set (A : Hp) (M i k : Nat) (x : Int64) : mu (hsL A 1035 (M + 1) i x) M k = if k = i then x else mu A M k := by
  show hgL (hsL A 1035 (M + 1) i x) 1035 (M + 1) k = _
  rw [hgL_sL]
  by_cases h : k = i
  · rw [if_pos ⟨rfl, rfl, h⟩, if_pos h]
  · rw [if_neg (fun z => h z.2.2), if_neg h]
theorem Ms.set {A : Hp} {M i : Nat} {x : Int64} (h : Ms A M) : Ms (hsL A 1035 (M + 1) i x) M := h.eq (P := oP M) (Eqx.sL rfl) (show ¬ M = M + 1 by omega)
theorem Tx.eq {A B : Hp} {M : Nat} {t : List Int32} (x : Tx A M t) (e : Eqx (oP M) A B) (hk : ∀ k, 8400 ≤ k → k < 8600 → mu B M k = mu A M k) : Tx B M t :=
  ⟨by rw [e.I (show ¬ M = M + 1 by omega)]; exact x.1, x.2.1, x.2.2.1.congr (fun k h1 h2 => hk k h1 (by have := x.2.1; omega)), x.2.2.2⟩
section
variable {A : Hp} {M to : Nat} {t : List Int32}
/-- the address's cells are filled -/
theorem Ms.fillAd (h : Ms A M) (x : Tx A M t) (hto : to + 74 ≤ 8400) {sec : Bool} {f e p : Nat} (hfe : f ≤ e) (he : e ≤ t.length) (h30 : e - f ≤ 30) (hep : e ≤ p) (hp : p ≤ t.length) (h40 : p - e ≤ 40) : ∃ B, k_X9_readsAddress_273 A M (nI to) (nI p) (bI sec) (nI f) (nI (e - f)) (nI e) = some (-1, B) ∧ Eqx (oP M) A B ∧ AdM (mu B M) to (true, sec, sub t f e, if e < p then sub t e p else [47]) ∧ ∀ k, k < to ∨ to + 74 ≤ k → mu B M k = mu A M k := by
  have hx2 := x.2.1
  have e1 : Eqx (oP M) A (hsL A 1035 (M + 1) to 1) := Eqx.sL rfl
  have h1 := h.set (i := to) (x := 1)
  have e2 : Eqx (oP M) (hsL A 1035 (M + 1) to 1) (hsL (hsL A 1035 (M + 1) to 1) 1035 (M + 1) (to + 1) (lB sec)) := Eqx.sL rfl
  have h2 := h1.set (i := to + 1) (x := lB sec)
  have e3 : Eqx (oP M) (hsL (hsL A 1035 (M + 1) to 1) 1035 (M + 1) (to + 1) (lB sec)) (hsL (hsL (hsL A 1035 (M + 1) to 1) 1035 (M + 1) (to + 1) (lB sec)) 1035 (M + 1) (to + 2) (lN (e - f))) := Eqx.sL rfl
  have h3 := h2.set (i := to + 2) (x := lN (e - f))
  obtain ⟨C, c1, c2, c3⟩ := h3.copies (f := 8400 + f) (n := e - f) (t := to + 4) (by omega) (by omega) (by omega)
  have hC := h3.eq c2 (show ¬ M = M + 1 by omega)
  have e4 : Eqx (oP M) C (hsL C 1035 (M + 1) (to + 3) (lN (if e < p then p - e else 1))) := Eqx.sL rfl
  have h4 := hC.set (i := to + 3) (x := lN (if e < p then p - e else 1))
  have e5 : Eqx (oP M) (hsL C 1035 (M + 1) (to + 3) (lN (if e < p then p - e else 1))) (hsL (hsL C 1035 (M + 1) (to + 3) (lN (if e < p then p - e else 1))) 1035 (M + 1) (to + 34) 47) := Eqx.sL rfl
  have h5 := h4.set (i := to + 34) (x := 47)
  obtain ⟨D, d1, d2, d3⟩ := h5.copies (f := 8400 + e) (n := p - e) (t := to + 34) (by omega) (by omega) (by omega)
  have mC : ∀ k, mu C M k = if to + 4 ≤ k ∧ k < to + 4 + (e - f) then mu A M (8400 + f + (k - (to + 4))) else if k = to + 2 then lN (e - f) else if k = to + 1 then lB sec else if k = to then 1 else mu A M k := by
    intro k
    rw [c3, mu_set, mu_set, mu_set, mu_set, mu_set, mu_set]
    split
    · rw [if_neg (by omega), if_neg (by omega), if_neg (by omega)]
    · rfl
  have mD : ∀ k, mu D M k = if to + 34 ≤ k ∧ k < to + 34 + (p - e) then mu A M (8400 + e + (k - (to + 34))) else if k = to + 34 then 47 else if k = to + 3 then lN (if e < p then p - e else 1) else mu C M k := by
    intro k
    rw [d3, mu_set, mu_set, mu_set, mu_set]
    split
    · rw [if_neg (by omega), if_neg (by omega), mC, if_neg (by omega), if_neg (by omega), if_neg (by omega), if_neg (by omega)]
    · rfl
  refine ⟨D, ?_, (((((e1.tr e2).tr e3).tr c2).tr e4).tr e5).tr d2, ⟨⟨?_, ?_, ?_, ?_⟩, ?_, ?_, ?_, ?_⟩, fun k hk => ?_⟩
  · have r296 : ∀ y : Int64, y = lB sec → k_X9_readsAddress_296 (hsL A 1035 (M + 1) to 1) M (nI to) (nI p) (nI f) (nI (e - f)) (nI e) (M + 1) (nI (to + 1)) y = some (-1, D) := by
      intro y hy
      subst hy
      unfold k_X9_readsAddress_296
      rw [h1.2.2, if_pos rfl, if_pos ((nI_wix (by omega)).mpr (show to + 1 < 9000 by omega)), nI_clamp (by omega), show nI to + (2 : Int32) = nI (to + 2) from nI_add to 2, h2.gd (by omega), h2.2.1, nI_clamp (by omega), show (8400 : Int32) + nI f = nI (8400 + f) from nI_add 8400 f, nI_l (by omega), show nI to + (4 : Int32) = nI (to + 4) from nI_add to 4, c1, Option.bind_some, if_pos hC.1, hC.2.1, show nI to + (3 : Int32) = nI (to + 3) from nI_add to 3]
      have r345 : ∀ z : Int64, z = lN (if e < p then p - e else 1) → k_X9_readsAddress_345 C M (nI to) (nI p) (nI e) (M + 1) (nI (to + 3)) z = some (-1, D) := by
        intro z hz
        subst hz
        unfold k_X9_readsAddress_345
        rw [hC.2.2, if_pos rfl, if_pos ((nI_wix (by omega)).mpr (show to + 3 < 9000 by omega)), nI_clamp (by omega), show nI to + (34 : Int32) = nI (to + 34) from nI_add to 34, h4.gd (by omega), h4.2.1, nI_clamp (by omega), show (8400 : Int32) + nI e = nI (8400 + e) from nI_add 8400 e, pk_sub hep, d1, Option.bind_some]
      by_cases hq : e < p
      · rw [if_neg (nI_ge hq (by omega)), pk_sub hep, nI_l (by omega)]
        exact r345 _ (by rw [if_pos hq])
      · rw [if_pos (nI_le (by omega) (by omega))]
        exact r345 _ (by rw [if_neg hq]; rfl)
    unfold k_X9_readsAddress_273
    rw [h.gd (by omega), h.2.1, nI_clamp (by omega), show hgR (hsL A 1035 (M + 1) to 1) 448 M 0 = M + 1 from h1.2.1, nI_1]
    cases sec
    · rw [if_pos (by rfl)]; exact r296 _ rfl
    · rw [if_neg (by decide)]; exact r296 _ rfl
  · rw [mD, if_neg (by omega), if_neg (by omega), if_neg (by omega), mC, if_neg (by omega), if_neg (by omega), if_neg (by omega), if_pos rfl]; rfl
  · rw [mD, if_neg (by omega), if_neg (by omega), if_neg (by omega), mC, if_neg (by omega), if_neg (by omega), if_pos rfl]
  · rw [mD, if_neg (by omega), if_neg (by omega), if_neg (by omega), mC, if_neg (by omega), if_pos rfl]
    show _ = lN (sub t f e).length
    rw [sub_len, Nat.min_eq_left he]
  · rw [mD, if_neg (by omega), if_neg (by omega), if_pos rfl]
    show _ = lN (if e < p then sub t e p else [47]).length
    by_cases hq : e < p
    · rw [if_pos hq, if_pos hq, sub_len, Nat.min_eq_left hp]
    · rw [if_neg hq, if_neg hq]; rfl
  · intro i hi
    have hi : i < (sub t f e).length := hi
    rw [sub_len] at hi
    rw [mD, if_neg (by omega), if_neg (by omega), if_neg (by omega), mC, if_pos (by omega), show 8400 + f + (to + 4 + i - (to + 4)) = 8400 + (f + i) by omega, show mu A M (8400 + (f + i)) = _ from x.2.2.1 _ (by omega)]
    show _ = (g (sub t f e) i).toInt64
    rw [sub_g hi]
  · intro i hi
    have hi : i < (if e < p then sub t e p else [47]).length := hi
    show _ = (g (if e < p then sub t e p else [47]) i).toInt64
    by_cases hq : e < p
    · rw [if_pos hq] at hi ⊢
      rw [sub_len] at hi
      rw [mD, if_pos (by omega), show 8400 + e + (to + 34 + i - (to + 34)) = 8400 + (e + i) by omega, show mu A M (8400 + (e + i)) = _ from x.2.2.1 _ (by omega), sub_g hi]
    · rw [if_neg hq] at hi ⊢
      have : i = 0 := by simp at hi; exact hi
      subst this
      rw [mD, if_neg (by omega), if_pos rfl]; rfl
  · show (sub t f e).length ≤ 30
    rw [sub_len]; omega
  · show (if e < p then sub t e p else [47]).length ≤ 40
    split
    · rw [sub_len]; omega
    · show 1 ≤ 40; omega
  · rw [mD, if_neg (by omega), if_neg (by omega), if_neg (by omega), mC, if_neg (by omega), if_neg (by omega), if_neg (by omega), if_neg (by omega)]
/-- the end of the address -/
def adE (t : List Int32) (sec : Bool) (f e p : Nat) : Nat ⊕ AdV := if hasE t p 63 then .inr (true, sec, sub t f e, if e < p then sub t e p else [47]) else .inl p
def adR (A : Hp) (M to : Nat) (r : Nat ⊕ AdV) (o : Option (Int32 × Hp)) : Prop := match r with
  | .inl e => o = some (nI e, A)
  | .inr w => ∃ B, o = some (-1, B) ∧ Eqx (oP M) A B ∧ AdM (mu B M) to w ∧ ∀ k, k < to ∨ to + 74 ≤ k → mu B M k = mu A M k
theorem Ms.ad251 (h : Ms A M) (x : Tx A M t) (hto : to + 74 ≤ 8400) {sec : Bool} {f e p : Nat} (hfe : f ≤ e) (he : e ≤ t.length) (h30 : e - f ≤ 30) (hep : e ≤ p) (hp : p ≤ t.length) (h40 : p - e ≤ 40) : adR A M to (adE t sec f e p) (k_X9_readsAddress_251 A M (nI to) (nI p) (bI sec) (nI f) (nI (e - f)) (nI e)) := by
  have hx2 := x.2.1
  unfold k_X9_readsAddress_251 adE hasE
  rw [if_pos h.1, x.1, h.sign x (by omega), Option.bind_some]
  by_cases q1 : t.length ≤ p
  · rw [if_pos (nI_le q1 (by omega)), decide_eq_true q1, Bool.true_or, if_pos rfl]
    exact h.fillAd x hto hfe he h30 hep hp h40
  · rw [if_neg (nI_ge (by omega) (by omega)), decide_eq_false q1, Bool.false_or]
    by_cases q2 : g t p = 63
    · rw [if_pos (show (g t p).toInt64 = (63 : Int64) from (cq 63 (by decide)).mpr q2), decide_eq_true q2, if_pos rfl]
      exact h.fillAd x hto hfe he h30 hep hp h40
    · rw [if_neg (show ¬ (g t p).toInt64 = (63 : Int64) from fun z => q2 ((cq 63 (by decide)).mp z)), decide_eq_false q2, if_neg (by decide)]
      rfl
theorem Ms.ad216 (h : Ms A M) (x : Tx A M t) (hto : to + 74 ≤ 8400) {sec : Bool} {f e : Nat} (hfe : f ≤ e) (he : e ≤ t.length) (h30 : e - f ≤ 30) : ∀ d p fu, p + d = min t.length (e + 40) → d < fu → e ≤ p → adR A M to (adE t sec f e (fndD t 63 d p)) (k_X9_readsAddress_216 M (nI to) (bI sec) (nI f) (nI (e - f)) (nI e) fu A (nI p)) := by
  have hx2 := x.2.1
  intro d
  induction d with
  | zero =>
    intro p fu h1 h2 h3
    obtain ⟨fu, rfl⟩ : ∃ f, fu = f + 1 := ⟨fu - 1, by omega⟩
    show adR A M to (adE t sec f e p) (k_X9_readsAddress_216s M _ _ _ _ _ _ _ _)
    unfold k_X9_readsAddress_216s
    have := h.ad251 x hto (sec := sec) hfe he h30 (p := p) h3 (by omega) (by omega)
    rw [if_pos h.1, x.1, h.sign x (by omega), Option.bind_some]
    split
    · exact this
    · rename_i z1
      split
      · exact this
      · rw [pk_sub h3, if_pos (show (40 : Int32) ≤ nI (p - e) from nI_le (a := 40) (by have : ¬ t.length ≤ p := fun z => z1 (nI_le z (by omega)); omega) (by omega))]
        exact this
  | succ d ih =>
    intro p fu h1 h2 h3
    obtain ⟨fu, rfl⟩ : ∃ f, fu = f + 1 := ⟨fu - 1, by omega⟩
    show adR A M to (adE t sec f e (if g t p = 63 then p else fndD t 63 d (p + 1))) (k_X9_readsAddress_216s M _ _ _ _ _ _ _ _)
    unfold k_X9_readsAddress_216s
    rw [if_pos h.1, x.1, h.sign x (by omega), Option.bind_some, if_neg (nI_ge (by omega) (by omega))]
    by_cases q2 : g t p = 63
    · rw [if_pos (show (g t p).toInt64 = (63 : Int64) from (cq 63 (by decide)).mpr q2), if_pos q2]
      exact h.ad251 x hto hfe he h30 h3 (by omega) (by omega)
    · rw [if_neg (show ¬ (g t p).toInt64 = (63 : Int64) from fun z => q2 ((cq 63 (by decide)).mp z)), if_neg q2, pk_sub h3, if_neg (show ¬ (40 : Int32) ≤ nI (p - e) from nI_ge (b := 40) (by omega) (by omega)), nI_1]
      exact ih (p + 1) fu (by omega) (by omega) (by omega)
/-- behind the host -/
def adH (t : List Int32) (sec : Bool) (f e : Nat) : Nat ⊕ AdV := if (hasE t e 47 || hasE t e 63) && whl t f e then adE t sec f e (pEnd t e) else .inl e
theorem Ms.ad173 (h : Ms A M) (x : Tx A M t) (hto : to + 74 ≤ 8400) {sec : Bool} {f e : Nat} (hfe : f ≤ e) (he : e ≤ t.length) (h30 : e - f ≤ 30) : adR A M to (adH t sec f e) (k_X9_readsAddress_173 A M (nI to) (nI e) (bI sec) (nI f)) := by
  have hx2 := x.2.1
  unfold k_X9_readsAddress_173 adH whl
  by_cases q1 : e = f
  · rw [if_pos (show nI e = nI f by rw [q1]), decide_eq_false (show ¬ f < e by omega), Bool.false_and, Bool.and_false, if_neg (by decide)]
    rfl
  · rw [if_neg (fun z => q1 ((nI_eq (by omega) (by omega)).mp z)), if_pos h.1, show nI e - (1 : Int32) = nI (e - 1) from pk_sub (b := 1) (by omega), h.sign x (by omega), Option.bind_some, decide_eq_true (show f < e by omega), Bool.true_and]
    by_cases q2 : g t (e - 1) = 46
    · rw [if_pos (show (g t (e - 1)).toInt64 = (46 : Int64) from (cq 46 (by decide)).mpr q2), decide_eq_false (fun z => z q2), Bool.and_false, if_neg (by decide)]
      rfl
    · rw [if_neg (show ¬ (g t (e - 1)).toInt64 = (46 : Int64) from fun z => q2 ((cq 46 (by decide)).mp z)), decide_eq_true q2, Bool.and_true, h.sign x (by omega), Option.bind_some, pk_sub hfe]
      unfold pEnd
      by_cases q3 : g t e = 47
      · rw [if_pos (show (g t e).toInt64 = (47 : Int64) from (cq 47 (by decide)).mpr q3), if_pos q3]
        have hb : hasE t e 47 = true := by unfold hasE; rw [decide_eq_true q3, Bool.or_true]
        rw [hb, Bool.true_or, if_pos rfl]
        have hlt : e < t.length := g_in q3 (by decide)
        exact h.ad216 x hto hfe he h30 (min t.length (e + 40) - e) e FU (by omega) (by unfold FU; omega) (Nat.le_refl _)
      · rw [if_neg (show ¬ (g t e).toInt64 = (47 : Int64) from fun z => q3 ((cq 47 (by decide)).mp z)), if_neg q3]
        have hb : (hasE t e 47 || hasE t e 63) = hasE t e 63 := by unfold hasE; rw [decide_eq_false q3, Bool.or_false]; cases decide (t.length ≤ e) <;> rfl
        have := h.ad251 x hto (sec := sec) hfe he h30 (p := e) (Nat.le_refl _) he (by omega)
        unfold adE at this
        rw [hb]
        unfold adE
        cases hh : hasE t e 63
        · rw [hh, if_neg (by decide)] at this
          rw [if_neg (by decide)]
          exact this
        · rw [hh, if_pos rfl] at this
          rw [if_pos rfl, if_pos rfl]
          exact this
theorem Ms.ad106 (h : Ms A M) (x : Tx A M t) (hto : to + 74 ≤ 8400) {sec : Bool} {f : Nat} (hf : f ≤ t.length) : ∀ d i fu, i + d = t.length → d + 1 < fu → f ≤ i → i ≤ f + 30 → adR A M to (adH t sec f (endD t f d i)) (k_X9_readsAddress_106 M (nI to) (bI sec) (nI f) fu A (nI i)) := by
  have hx2 := x.2.1
  have K : ∀ i fu, i ≤ t.length → f ≤ i → i ≤ f + 30 → (goS t f i = false → k_X9_readsAddress_106s M (nI to) (bI sec) (nI f) (k_X9_readsAddress_106 M (nI to) (bI sec) (nI f) fu) A (nI i) = k_X9_readsAddress_173 A M (nI to) (nI i) (bI sec) (nI f)) ∧ (goS t f i = true → k_X9_readsAddress_106s M (nI to) (bI sec) (nI f) (k_X9_readsAddress_106 M (nI to) (bI sec) (nI f) fu) A (nI i) = k_X9_readsAddress_106 M (nI to) (bI sec) (nI f) fu A (nI (i + 1))) := by
    intro i fu hi h1 h2
    unfold k_X9_readsAddress_106s k_X9_readsAddress_167 goS
    rw [pk_sub h1]
    by_cases q30 : 30 ≤ i - f
    · rw [if_pos (show (30 : Int32) ≤ nI (i - f) from nI_le (a := 30) q30 (by omega))]
      refine ⟨fun _ => rfl, fun z => ?_⟩
      split at z
      · rw [Bool.and_eq_true, decide_eq_true_iff] at z; omega
      · rw [Bool.and_eq_true, decide_eq_true_iff] at z; omega
    · rw [if_neg (show ¬ (30 : Int32) ≤ nI (i - f) from nI_ge (b := 30) (by omega) (by omega)), if_pos h.1, h.sign x (by omega), Option.bind_some, Ms.labelSign, Option.bind_some, Option.bind_some, nI_1]
      by_cases hd : g t i = 46
      · rw [if_pos hd, hd, isLab_46, if_pos (by rfl), if_pos (show (46 : Int32).toInt64 = (46 : Int64) from (cq 46 (by decide)).mpr rfl)]
        by_cases hl : f < i
        · rw [if_neg (nI_ge hl (by omega)), show nI i - (1 : Int32) = nI (i - 1) from pk_sub (b := 1) (by omega), h.sign x (by omega), Option.bind_some, decide_eq_true hl, Bool.true_and]
          by_cases hp : g t (i - 1) = 46
          · rw [if_pos (show (g t (i - 1)).toInt64 = (46 : Int64) from (cq 46 (by decide)).mpr hp), decide_eq_false (fun z => z hp), Bool.false_and]
            exact ⟨fun _ => rfl, fun z => by cases z⟩
          · rw [if_neg (show ¬ (g t (i - 1)).toInt64 = (46 : Int64) from fun z => hp ((cq 46 (by decide)).mp z)), decide_eq_true hp, Bool.true_and]
            by_cases h29 : i - f < 29
            · rw [if_neg (show ¬ (29 : Int32) ≤ nI (i - f) from nI_ge (b := 29) h29 (by omega)), decide_eq_true h29]
              exact ⟨(fun z => by cases z), fun _ => rfl⟩
            · rw [if_pos (show (29 : Int32) ≤ nI (i - f) from nI_le (a := 29) (by omega) (by omega)), decide_eq_false h29]
              exact ⟨fun _ => rfl, fun z => by cases z⟩
        · rw [if_pos (nI_le (by omega) (by omega)), decide_eq_false hl, Bool.false_and, Bool.false_and]
          exact ⟨fun _ => rfl, fun z => by cases z⟩
      · rw [if_neg hd, decide_eq_true (show i - f < 30 by omega), Bool.and_true]
        cases isLab (g t i)
        · rw [if_pos (by rfl), if_neg (show ¬ (g t i).toInt64 = (46 : Int64) from fun z => hd ((cq 46 (by decide)).mp z))]
          exact ⟨fun _ => rfl, fun z => by cases z⟩
        · rw [if_neg (by decide)]
          exact ⟨(fun z => by cases z), fun _ => rfl⟩
  intro d
  induction d with
  | zero =>
    intro i fu h1 h2 h3 h4
    obtain ⟨fu, rfl⟩ : ∃ f, fu = f + 1 := ⟨fu - 1, by omega⟩
    show adR A M to (adH t sec f i) (k_X9_readsAddress_106s M _ _ _ _ _ _)
    rw [(K i fu (by omega) h3 h4).1 (goS_end (by omega))]
    exact h.ad173 x hto h3 (by omega) (by omega)
  | succ d ih =>
    intro i fu h1 h2 h3 h4
    obtain ⟨fu, rfl⟩ : ∃ f, fu = f + 1 := ⟨fu - 1, by omega⟩
    show adR A M to (adH t sec f (if goS t f i = true then endD t f d (i + 1) else i)) (k_X9_readsAddress_106s M _ _ _ _ _ _)
    cases hg : goS t f i
    · rw [(K i fu (by omega) h3 h4).1 hg, if_neg (by decide)]
      exact h.ad173 x hto h3 (by omega) (by omega)
    · rw [(K i fu (by omega) h3 h4).2 hg, if_pos rfl]
      exact ih (i + 1) fu (by omega) (by omega) (by omega) (by rcases goS_iff.mp hg with q | q <;> omega)
/-- behind the scheme's signs up to a place -/
def adS (t w : List Int32) (sec : Bool) (n : Nat) : Nat ⊕ AdV := if w.length ≤ n then adH t sec w.length (endS t w.length) else .inl n
theorem Ms.ad69 (h : Ms A M) (hM : Mw A M) (x : Tx A M t) (hto : to + 74 ≤ 8400) {sec : Bool} {w : List Int32} {o : Nat} (hw : w.length = o + 3) (ho : o ≤ 5) (hwl : w.length ≤ 8) (hwb : ∀ j, j < 3 → g w (o + j) = g (wdl 1) j) (hwn : ∀ c ∈ w, c ≠ -1) : ∀ d j fu, j + d = 3 → d < fu → o + j ≤ t.length → adR A M to (adS t w sec (agrD t w d (o + j))) (k_X9_readsAddress_69 M (nI to) (bI sec) fu A (nI (o + j)) (nI j)) := by
  have hx2 := x.2.1
  obtain ⟨m1, m2, m3⟩ := hM 1 (by omega)
  intro d
  induction d with
  | zero =>
    intro j fu h1 h2 h3
    obtain ⟨fu, rfl⟩ : ∃ f, fu = f + 1 := ⟨fu - 1, by omega⟩
    have : j = 3 := by omega
    subst this
    show adR A M to (adS t w sec (o + 3)) (k_X9_readsAddress_69s M _ _ _ _ _ _)
    unfold k_X9_readsAddress_69s adS
    rw [if_pos (show (3 : Int32) ≤ nI 3 from Int32.le_rfl), hw, if_pos (Nat.le_refl _)]
    unfold endS
    exact h.ad106 x hto h3 (t.length - (o + 3)) (o + 3) FU (by omega) (by unfold FU; omega) (Nat.le_refl _) (by omega)
  | succ d ih =>
    intro j fu h1 h2 h3
    obtain ⟨fu, rfl⟩ : ∃ f, fu = f + 1 := ⟨fu - 1, by omega⟩
    show adR A M to (adS t w sec (if g t (o + j) = g w (o + j) then agrD t w d (o + j + 1) else o + j)) (k_X9_readsAddress_69s M _ _ _ _ _ _)
    unfold k_X9_readsAddress_69s
    rw [if_neg (show ¬ (3 : Int32) ≤ nI j from nI_ge (b := 3) (by omega) (by omega)), if_pos h.1, h.sign x (by omega), Option.bind_some, show hgR A 454 M 0 = M + 4 + 1 from m1, show hsh A (M + 4 + 1) = (9, 3) from m2, if_pos rfl, if_pos ((nI_wix (by omega)).mpr (show j < 3 by omega)), nI_clamp (by omega), m3 j (show j < 3 by omega), ← hwb j (by omega), nI_1, nI_1]
    by_cases hq : g t (o + j) = g w (o + j)
    · rw [if_pos hq, if_pos (by rw [hq])]
      have hlt : o + j < t.length := g_in (hq.trans (g_lt (by omega))) (hwn _ (List.getElem_mem _))
      exact ih (j + 1) fu (by omega) (by omega) (by omega)
    · rw [if_neg (fun z => hq (i64_inj.mp z)), if_neg hq]
      unfold adS
      rw [if_neg (by omega)]
      rfl
theorem rdAd_eq (t : List Int32) : rdAd t = adS t (if decide (g t 4 = 115) then wsc 1 else wsc 2) (decide (g t 4 = 115)) (agr t (if decide (g t 4 = 115) then wsc 1 else wsc 2)) := by
  unfold rdAd adS adH adE
  have hle := agr_le t (if decide (g t 4 = 115) then wsc 1 else wsc 2)
  by_cases hq : (if decide (g t 4 = 115) = true then wsc 1 else wsc 2).length ≤ agr t (if decide (g t 4 = 115) = true then wsc 1 else wsc 2)
  · have : agr t (if decide (g t 4 = 115) = true then wsc 1 else wsc 2) = (if decide (g t 4 = 115) = true then wsc 1 else wsc 2).length := by omega
    simp only [if_pos hq, this]
  · simp only [if_neg hq]
theorem Ms.readsAddress (h : Ms A M) (hM : Mw A M) (x : Tx A M t) (hto : to + 74 ≤ 8400) : adR A M to (rdAd t) (f_X9_readsAddress A M (nI to)) := by
  have hx2 := x.2.1
  obtain ⟨m1, m2, m3⟩ := hM 0 (by omega)
  rw [rdAd_eq]
  have w1 : (wsc 1).length = 5 + 3 := by decide
  have w2 : (wsc 2).length = 4 + 3 := by decide
  have b1 : ∀ j, j < 3 → g (wsc 1) (5 + j) = g (wdl 1) j := by decide
  have b2 : ∀ j, j < 3 → g (wsc 2) (4 + j) = g (wdl 1) j := by decide
  have c1 : ∀ j, j < 4 → g (wsc 1) j = g (wdl 0) j := by decide
  have c2 : ∀ j, j < 4 → g (wsc 2) j = g (wdl 0) j := by decide
  have hw0 : ∀ j, j < 4 → g (if decide (g t 4 = 115) then wsc 1 else wsc 2) j = g (wdl 0) j := by
    intro j hj; split
    · exact c1 j hj
    · exact c2 j hj
  have hwn : ∀ c ∈ (if decide (g t 4 = 115) then wsc 1 else wsc 2), c ≠ -1 := by
    split
    · exact wsc_ne 1 (by omega)
    · exact wsc_ne 2 (by omega)
  have hwl : 7 ≤ (if decide (g t 4 = 115) then wsc 1 else wsc 2).length ∧ (if decide (g t 4 = 115) then wsc 1 else wsc 2).length ≤ 8 := by
    split
    · rw [w1]; omega
    · rw [w2]; omega
  generalize hw : (if decide (g t 4 = 115) then wsc 1 else wsc 2) = w at *
  have L : ∀ d i fu, i + d = 4 → d < fu → i ≤ t.length → adR A M to (adS t w (decide (g t 4 = 115)) (agrD t w (w.length - i) i)) (k_X9_readsAddress_4 M (nI to) fu A (nI i) (nI i)) := by
    intro d
    induction d with
    | zero =>
      intro i fu h1 h2 h3
      obtain ⟨fu, rfl⟩ : ∃ f, fu = f + 1 := ⟨fu - 1, by omega⟩
      have : i = 4 := by omega
      subst this
      show adR A M to _ (k_X9_readsAddress_4s M _ _ _ _ _)
      unfold k_X9_readsAddress_4s k_X9_readsAddress_53 k_X9_readsAddress_64
      rw [if_pos (show (4 : Int32) ≤ nI 4 from Int32.le_rfl), if_pos h.1, h.sign x (by omega), Option.bind_some]
      by_cases hs : g t 4 = 115
      · rw [if_pos (show (g t 4).toInt64 = (115 : Int64) from (cq 115 (by decide)).mpr hs), if_neg (by decide), decide_eq_true hs, show w = wsc 1 by rw [← hw, decide_eq_true hs]; rfl]
        have hlt : 4 < t.length := g_in hs (by decide)
        have e1 : agrD t (wsc 1) ((wsc 1).length - 4) 4 = agrD t (wsc 1) 3 5 := by
          show (if g t 4 = g (wsc 1) 4 then agrD t (wsc 1) 3 5 else 4) = _
          rw [if_pos (by rw [hs]; decide)]
        rw [e1]
        exact h.ad69 hM x hto (sec := true) (o := 5) w1 (by omega) (by omega) b1 (wsc_ne 1 (by omega)) 3 0 FU (by omega) (by unfold FU; omega) (by omega)
      · rw [if_neg (show ¬ (g t 4).toInt64 = (115 : Int64) from fun z => hs ((cq 115 (by decide)).mp z)), if_pos rfl, decide_eq_false hs, show w = wsc 2 by rw [← hw, decide_eq_false hs]; rfl]
        exact h.ad69 hM x hto (sec := false) (o := 4) w2 (by omega) (by omega) b2 (wsc_ne 2 (by omega)) 3 0 FU (by omega) (by unfold FU; omega) (by omega)
    | succ d ih =>
      intro i fu h1 h2 h3
      obtain ⟨fu, rfl⟩ : ∃ f, fu = f + 1 := ⟨fu - 1, by omega⟩
      obtain ⟨n, hn⟩ : ∃ n, w.length - i = n + 1 := ⟨w.length - i - 1, by omega⟩
      rw [hn]
      show adR A M to (adS _ _ _ (if g t i = g w i then agrD t w n (i + 1) else i)) (k_X9_readsAddress_4s M _ _ _ _ _)
      unfold k_X9_readsAddress_4s
      rw [if_neg (show ¬ (4 : Int32) ≤ nI i from nI_ge (b := 4) (by omega) (by omega)), if_pos h.1, h.sign x (by omega), Option.bind_some, show hgR A 453 M 0 = M + 4 from m1, show hsh A (M + 4) = (9, 4) from m2, if_pos rfl, if_pos ((nI_wix (by omega)).mpr (show i < 4 by omega)), nI_clamp (by omega), show hgI A 1033 (M + 4) i = _ from m3 i (show i < 4 by omega), ← hw0 i (by omega), nI_1]
      by_cases hq : g t i = g w i
      · rw [if_pos hq, if_pos (by rw [hq])]
        have hlt : i < t.length := g_in (hq.trans (g_lt (by omega))) (hwn _ (List.getElem_mem _))
        have := ih (i + 1) fu (by omega) (by omega) (by omega)
        rw [show w.length - (i + 1) = n by omega] at this
        exact this
      · rw [if_neg (fun z => hq (i64_inj.mp z)), if_neg hq]
        unfold adS
        rw [if_neg (by omega)]
        rfl
  unfold f_X9_readsAddress agr
  exact L 4 0 FU (by omega) (by unfold FU; omega) (Nat.zero_le _)
end
