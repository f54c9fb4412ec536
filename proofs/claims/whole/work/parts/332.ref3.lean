/-! the reference: its text -/
def Tx (A : Hp) (M : Nat) (t : List Int32) : Prop := hgI A 451 M 0 = nI t.length ∧ t.length ≤ 160 ∧ Sg (mu A M) 8400 t ∧ oks t
/-- words: the class's number of each word of the reference, from http on; 37 and 38 for its first two -/
def wdl (k : Nat) : List Int32 := if k = 0 then [104, 116, 116, 112] else if k = 1 then [58, 47, 47] else wsc ([0, 0, 7, 8, 9, 10, 11, 12, 13, 17, 14, 15, 16, 18, 19, 20, 4, 6, 3].getD k 0)
def Mw (A : Hp) (M : Nat) : Prop := ∀ k, k < 19 → hgR A (453 + k) M 0 = M + 4 + k ∧ hsh A (M + 4 + k) = (9, (wdl k).length) ∧ ∀ i, i < (wdl k).length → hgI A 1033 (M + 4 + k) i = g (wdl k) i
theorem wdl_len : ∀ k, k < 19 → (wdl k).length ≤ 36 := by decide +kernel
theorem Mw.eq {A B : Hp} {P : Nat → Prop} {M : Nat} (h : Mw A M) (e : Eqx P A B) (hP : ¬ P M) (hq : ∀ k, k < 19 → ¬ P (M + 4 + k)) : Mw B M := fun k hk => by
  obtain ⟨h1, h2, h3⟩ := h k hk
  exact ⟨by rw [e.R hP]; exact h1, by rw [e.2.1]; exact h2, fun i hi => by rw [e.I (hq k hk)]; exact h3 i hi⟩
section
variable {A : Hp} {M : Nat} {t : List Int32}
theorem Ms.sign (h : Ms A M) (x : Tx A M t) {k : Nat} (hk : k < 400) : f_X9_sign A M (nI k) = some (g t k).toInt64 := by
  obtain ⟨x1, x2, x3, -⟩ := x
  unfold f_X9_sign
  rw [if_pos h.1, x1]
  by_cases q : t.length ≤ k
  · rw [if_pos (nI_le q (by omega)), g_ge q]; rfl
  · rw [if_neg (nI_ge (by omega) (by omega)), show (8400 : Int32) + nI k = nI (8400 + k) from nI_add 8400 k, if_pos h.a11, if_pos (h.wx (by omega)), h.vl (by omega), show mu A M (8400 + k) = _ from x3 k (by omega)]
theorem Ms.trimFrom (h : Ms A M) (x : Tx A M t) {a b : Nat} (hab : a ≤ b) (hb : b ≤ t.length) : f_X9_trimFrom A M (nI a) (nI b) = some (nI (trF t a b)) := by
  obtain ⟨x1, x2, x3, -⟩ := x
  have L : ∀ d i fu, i + d = b → d < fu → k_X9_trimFrom_2 A M (nI b) fu (nI i) = some (nI (trFD t d i)) := by
    intro d
    induction d with
    | zero =>
      intro i fu h1 h2
      obtain ⟨fu, rfl⟩ : ∃ f, fu = f + 1 := ⟨fu - 1, by omega⟩
      show k_X9_trimFrom_2s A M _ _ _ = _
      unfold k_X9_trimFrom_2s
      rw [if_pos (nI_le (by omega) (by omega))]
      rfl
    | succ d ih =>
      intro i fu h1 h2
      obtain ⟨fu, rfl⟩ : ∃ f, fu = f + 1 := ⟨fu - 1, by omega⟩
      show k_X9_trimFrom_2s A M _ _ _ = _
      unfold k_X9_trimFrom_2s
      rw [if_neg (nI_ge (by omega) (by omega)), show (8400 : Int32) + nI i = nI (8400 + i) from nI_add 8400 i, h.gd (by omega), h.vl (by omega), show mu A M (8400 + i) = _ from x3 i (by omega), nI_1, ih (i + 1) fu (by omega) (by omega)]
      show _ = some (nI (if g t i = 32 then trFD t d (i + 1) else i))
      by_cases hq : g t i = 32
      · rw [if_pos (show (g t i).toInt64 = (32 : Int64) from (cq 32 (by decide)).mpr hq), if_pos hq]
      · rw [if_neg (show ¬ (g t i).toInt64 = (32 : Int64) from fun z => hq ((cq 32 (by decide)).mp z)), if_neg hq]
  unfold f_X9_trimFrom trF
  exact L (b - a) a FU (by omega) (by unfold FU; omega)
theorem Ms.trimTo (h : Ms A M) (x : Tx A M t) {a b : Nat} (hab : a ≤ b) (hb : b ≤ t.length) : f_X9_trimTo A M (nI a) (nI b) = some (nI (trT t a b)) := by
  obtain ⟨x1, x2, x3, -⟩ := x
  have L : ∀ d i fu, a + d = i → i ≤ t.length → d < fu → k_X9_trimTo_2 A M (nI a) fu (nI i) = some (nI (trTD t d i)) := by
    intro d
    induction d with
    | zero =>
      intro i fu h1 h2 h3
      obtain ⟨fu, rfl⟩ : ∃ f, fu = f + 1 := ⟨fu - 1, by omega⟩
      show k_X9_trimTo_2s A M _ _ _ = _
      unfold k_X9_trimTo_2s
      rw [if_pos (nI_le (by omega) (by omega))]
      rfl
    | succ d ih =>
      intro i fu h1 h2 h3
      obtain ⟨fu, rfl⟩ : ∃ f, fu = f + 1 := ⟨fu - 1, by omega⟩
      obtain ⟨i, rfl⟩ : ∃ j, i = j + 1 := ⟨i - 1, by omega⟩
      show k_X9_trimTo_2s A M _ _ _ = _
      unfold k_X9_trimTo_2s
      rw [if_neg (nI_ge (by omega) (by omega)), show (8400 : Int32) + nI (i + 1) = nI (8400 + i + 1) from nI_add 8400 (i + 1), show nI (8400 + i + 1) - (1 : Int32) = nI (8400 + i) from nI_pred _, h.gd (by omega), h.vl (by omega), show mu A M (8400 + i) = _ from x3 i (by omega), pk_m1, ih i fu (by omega) (by omega) (by omega)]
      show _ = some (nI (if g t (i + 1 - 1) = 32 then trTD t d (i + 1 - 1) else i + 1))
      rw [Nat.add_sub_cancel]
      by_cases hq : g t i = 32
      · rw [if_pos (show (g t i).toInt64 = (32 : Int64) from (cq 32 (by decide)).mpr hq), if_pos hq]
      · rw [if_neg (show ¬ (g t i).toInt64 = (32 : Int64) from fun z => hq ((cq 32 (by decide)).mp z)), if_neg hq]
  unfold f_X9_trimTo trT
  exact L (b - a) b FU (by omega) hb (by unfold FU; omega)
theorem Ms.find (h : Ms A M) (x : Tx A M t) (c : Int32) {a b : Nat} (hab : a ≤ b) (hb : b ≤ t.length) : f_X9_find A M c (nI a) (nI b) = some (nI (fnd t c a b)) := by
  obtain ⟨x1, x2, x3, -⟩ := x
  have L : ∀ d i fu, i + d = b → d < fu → k_X9_find_3 A M c (nI b) fu (nI i) = some (nI (fndD t c d i)) := by
    intro d
    induction d with
    | zero =>
      intro i fu h1 h2
      obtain ⟨fu, rfl⟩ : ∃ f, fu = f + 1 := ⟨fu - 1, by omega⟩
      show k_X9_find_3s A M _ _ _ _ = _
      unfold k_X9_find_3s
      rw [if_pos (nI_le (by omega) (by omega))]
      rfl
    | succ d ih =>
      intro i fu h1 h2
      obtain ⟨fu, rfl⟩ : ∃ f, fu = f + 1 := ⟨fu - 1, by omega⟩
      show k_X9_find_3s A M _ _ _ _ = _
      unfold k_X9_find_3s
      rw [if_neg (nI_ge (by omega) (by omega)), show (8400 : Int32) + nI i = nI (8400 + i) from nI_add 8400 i, h.gd (by omega), h.vl (by omega), show mu A M (8400 + i) = _ from x3 i (by omega), nI_1, ih (i + 1) fu (by omega) (by omega)]
      show _ = some (nI (if g t i = c then i else fndD t c d (i + 1)))
      by_cases hq : g t i = c
      · rw [if_pos (by rw [hq]), if_pos hq]
      · rw [if_neg (fun z => hq (i64_inj.mp z)), if_neg hq]
  unfold f_X9_find fnd
  exact L (b - a) a FU (by omega) (by unfold FU; omega)
theorem low_len (s : List Int32) : (low s).length = s.length := List.length_map _
theorem low_g {s : List Int32} {i : Nat} (h : i < s.length) : g (low s) i = lowc (g s i) := by
  rw [g_lt (by rw [low_len]; exact h), g_lt h]
  simp [low]
/-- the lower letter of a sign, as a long -/
theorem lowL {c : Int32} (hc : okc c) {α : Type} (F : Int64 → Option α) : ((f_X9_in A c.toInt64 (65 : Int64) (90 : Int64)).bind fun v => (if v = (0 : Int32) then F c.toInt64 else F (c.toInt64 + (32 : Int64)))) = F (lowc c).toInt64 := by
  rw [show f_X9_in A c.toInt64 (65 : Int64) (90 : Int64) = some (bI (decide (65 ≤ c) && decide (c ≤ 90))) from inc_ c 65 90 (by decide) (by decide), Option.bind_some]
  unfold lowc
  by_cases h1 : 65 ≤ c ∧ c ≤ 90
  · rw [if_pos h1, decide_eq_true h1.1, decide_eq_true h1.2, if_neg (by decide)]
    obtain ⟨n, n1, n2, rfl⟩ := okc_n hc
    rw [show nI n + (32 : Int32) = nI (n + 32) from nI_add n 32, nI_l (by omega), nI_l (by omega), show lN n + (32 : Int64) = lN (n + 32) from lN_add n 32]
  · rw [if_neg h1]
    have : (decide (65 ≤ c) && decide (c ≤ 90)) = false := by
      rw [← Bool.decide_and]; exact decide_eq_false h1
    rw [this, if_pos (by rfl)]
theorem Ms.isLikely (h : Ms A M) (x : Tx A M t) {i j W : Nat} {w : List Int32} (hW : hsh A W = (9, w.length)) (hw : ∀ i, i < w.length → hgI A 1033 W i = g w i) (hl : w.length ≤ 36) (hij : i ≤ j) (hj : j ≤ t.length) : f_X9_isLikely A M (nI i) (nI j) W = some (bI (decide (low (sub t i j) = w))) := by
  obtain ⟨x1, x2, x3, x4⟩ := x
  have hlen : (low (sub t i j)).length = j - i := by rw [low_len, sub_len]; omega
  have L : ∀ e k fu (b : Bool), k + e = w.length → e < fu → (b = true → j - i = w.length) → k_X9_isLikely_18 A M (nI i) W fu (bI b) (nI k) = some (bI (b && decide ((low (sub t i j)).drop k = w.drop k))) := by
    intro e
    induction e with
    | zero =>
      intro k fu b h1 h2 h3
      obtain ⟨fu, rfl⟩ : ∃ f, fu = f + 1 := ⟨fu - 1, by omega⟩
      show k_X9_isLikely_18s A M _ _ _ _ _ = _
      unfold k_X9_isLikely_18s
      rw [hW, if_pos rfl, if_pos (nI_le (show w.length ≤ k by omega) (by omega)), if_pos (bI_Z b)]
      cases b
      · rfl
      · have := h3 rfl
        rw [List.drop_of_length_le (l := w) (by omega), List.drop_of_length_le (l := low (sub t i j)) (by omega)]; rfl
    | succ e ih =>
      intro k fu b h1 h2 h3
      obtain ⟨fu, rfl⟩ : ∃ f, fu = f + 1 := ⟨fu - 1, by omega⟩
      show k_X9_isLikely_18s A M _ _ _ _ _ = _
      unfold k_X9_isLikely_18s
      rw [hW, if_pos rfl, if_neg (nI_ge (show k < w.length by omega) (by omega))]
      cases b
      · rw [if_pos (by rfl), if_pos (bI_Z false)]; rfl
      · have hl2 := h3 rfl
        rw [if_neg (by decide), show (8400 : Int32) + nI i = nI (8400 + i) from nI_add 8400 i, nI_add, h.gd (by omega), h.vl (by omega), show mu A M (8400 + i + k) = (g t (i + k)).toInt64 from (by rw [Nat.add_assoc]; exact x3 (i + k) (by omega)), lowL (g_ok x4 (by omega)) (k_X9_isLikely_70 (k_X9_isLikely_18 A M (nI i) W fu) A M (nI i) W (nI k))]
        unfold k_X9_isLikely_70 k_X9_isLikely_84
        rw [hW, if_pos rfl, if_pos ((nI_wix (by omega)).mpr (show k < w.length by omega)), nI_clamp (by omega), hw k (by omega), nI_1, drop_g (s := w) (i := k) (by omega), drop_g (s := low (sub t i j)) (i := k) (by omega), low_g (by rw [sub_len]; omega), sub_g (by omega)]
        by_cases hq : lowc (g t (i + k)) = g w k
        · rw [if_pos (by rw [hq]), show (1 : Int32) = bI true from rfl, ih (k + 1) fu true (by omega) (by omega) (fun _ => hl2), hq]
          congr 2
          rw [Bool.true_and, Bool.true_and, decide_eq_decide]
          exact ⟨fun z => by rw [z], fun z => (List.cons.inj z).2⟩
        · rw [if_neg (fun z => hq (i64_inj.mp z)), show (0 : Int32) = bI false from rfl, ih (k + 1) fu false (by omega) (by omega) (fun z => by cases z), Bool.false_and, Bool.true_and, decide_eq_false (fun z => hq (List.cons.inj z).1)]
  unfold f_X9_isLikely k_X9_isLikely_13
  rw [hW, if_pos rfl, pk_sub hij]
  by_cases hq : j - i = w.length
  · rw [if_pos (by rw [hq])]
    refine Eq.trans (L w.length 0 FU true (by omega) (by unfold FU; omega) (fun _ => hq)) ?_
    rw [Bool.true_and]; rfl
  · rw [if_neg (fun z => hq ((nI_eq (by omega) (show w.length < _ by omega)).mp z))]
    refine Eq.trans (L w.length 0 FU false (by omega) (by unfold FU; omega) (fun z => by cases z)) ?_
    rw [Bool.false_and, decide_eq_false (fun z => by have := congrArg List.length z; omega)]
theorem Ms.isLikelyW (h : Ms A M) (hM : Mw A M) (x : Tx A M t) (k : Nat) (hk : k < 19) {i j : Nat} (hij : i ≤ j) (hj : j ≤ t.length) : f_X9_isLikely A M (nI i) (nI j) (hgR A (453 + k) M 0) = some (bI (decide (low (sub t i j) = wdl k))) := by
  obtain ⟨m1, m2, m3⟩ := hM k hk
  rw [m1]
  exact h.isLikely x m2 m3 (wdl_len k hk) hij hj
theorem Ms.isFigure (h : Ms A M) (x : Tx A M t) {k : Nat} (hk : k < t.length) : f_X9_isFigure A M (nI k) = some (bI (isD (g t k))) := by
  obtain ⟨x1, x2, x3, x4⟩ := x
  unfold f_X9_isFigure isD
  rw [show (8400 : Int32) + nI k = nI (8400 + k) from nI_add 8400 k, h.gd (by omega), h.vl (by omega), show mu A M (8400 + k) = _ from x3 k hk, show f_X9_in A (g t k).toInt64 (48 : Int64) (57 : Int64) = some (bI (decide (48 ≤ g t k) && decide (g t k ≤ 57))) from inc_ _ 48 57 (by decide) (by decide), Option.bind_some, if_pos (bI_Z _)]
theorem Ms.number (h : Ms A M) (x : Tx A M t) {a b : Nat} (hab : a ≤ b) (hb : b ≤ t.length) (h9 : b - a ≤ 9) : f_X9_number A M (nI a) (nI b) = some (oL (num t a b)) := by
  have hx2 := x.2.1
  have L : ∀ d i n fu, i + d = b → d < fu → n < 10 ^ (9 - d) → d ≤ 9 → k_X9_number_5 A M (nI b) fu (lN n) (nI i) = some (oL (numD t d i n)) := by
    intro d
    induction d with
    | zero =>
      intro i n fu h1 h2 h3 h4
      obtain ⟨fu, rfl⟩ : ∃ f, fu = f + 1 := ⟨fu - 1, by omega⟩
      show k_X9_number_5s A M _ _ _ _ = _
      unfold k_X9_number_5s
      rw [if_pos (nI_le (by omega) (by omega))]
      rfl
    | succ d ih =>
      intro i n fu h1 h2 h3 h4
      obtain ⟨fu, rfl⟩ : ∃ f, fu = f + 1 := ⟨fu - 1, by omega⟩
      show k_X9_number_5s A M _ _ _ _ = _
      have hp : (10 : Nat) ^ (9 - d) = 10 * 10 ^ (9 - (d + 1)) := by
        rw [show 9 - d = (9 - (d + 1)) + 1 by omega, Nat.pow_succ, Nat.mul_comm]
      have hp2 : (10 : Nat) ^ (9 - (d + 1)) ≤ 10 ^ 9 := Nat.pow_le_pow_right (by omega) (by omega)
      unfold k_X9_number_5s k_X9_number_53
      rw [if_neg (nI_ge (by omega) (by omega)), if_neg (lN_neg (by omega)), if_pos h.1, h.isFigure x (by omega), Option.bind_some]
      show _ = some (oL (if isD (g t i) then numD t d (i + 1) (10 * n + dgv (g t i)) else none))
      cases hd : isD (g t i)
      · rw [if_pos (by rfl), if_neg (by decide), nI_1]
        cases d with
        | zero =>
          obtain ⟨fu, rfl⟩ : ∃ f, fu = f + 1 := ⟨fu - 1, by omega⟩
          show k_X9_number_5s A M _ _ _ _ = _
          unfold k_X9_number_5s
          rw [if_pos (nI_le (by omega) (by omega))]
          rfl
        | succ d =>
          obtain ⟨fu, rfl⟩ : ∃ f, fu = f + 1 := ⟨fu - 1, by omega⟩
          show k_X9_number_5s A M _ _ _ _ = _
          unfold k_X9_number_5s
          rw [if_neg (nI_ge (by omega) (by omega)), if_pos (by decide)]
          rfl
      · obtain ⟨v, v1, v2, v3⟩ := isD_n hd
        rw [if_neg (by decide), if_pos rfl, show (8400 : Int32) + nI i = nI (8400 + i) from nI_add 8400 i, if_pos h.a11, if_pos (h.wx (by have := x.2.1; omega)), h.vl (by have := x.2.1; omega), show mu A M (8400 + i) = _ from x.2.2.1 i (by omega), nI_1, v3]
        rw [show (10 : Int64) * lN n + (g t i).toInt64 - (48 : Int64) = lN (10 * n + v) from by
          rw [v2, nI_l (by omega), show (10 : Int64) * lN n = lN (10 * n) from lN_mul 10 n, lN_add]
          exact (lN_sub (b := 48) (by omega)).trans (by rw [show 10 * n + (48 + v) - 48 = 10 * n + v by omega])]
        exact ih (i + 1) (10 * n + v) fu (by omega) (by omega) (by omega) (by omega)
  unfold f_X9_number num
  exact L (b - a) a 0 FU (by omega) (by unfold FU; omega) (Nat.pow_pos (by omega)) (by omega)
theorem numD_sub {c d : Nat} (hd : d ≤ t.length) : ∀ e i n, c + i + e ≤ d → numD (sub t c d) e i n = numD t e (c + i) n := by
  intro e
  induction e with
  | zero => intro i n _; rfl
  | succ e ih =>
    intro i n h
    show (if isD (g (sub t c d) i) then numD (sub t c d) e (i + 1) (10 * n + dgv (g (sub t c d) i)) else none) = (if isD (g t (c + i)) then numD t e (c + i + 1) (10 * n + dgv (g t (c + i))) else none)
    rw [sub_g (by omega), ih (i + 1) _ (by omega)]
    rfl
theorem num_sub {c d a b : Nat} (hd : d ≤ t.length) (hab : a ≤ b) (hb : c + b ≤ d) : num (sub t c d) a b = num t (c + a) (c + b) := by
  unfold num
  rw [numD_sub hd _ _ _ (by omega), show c + b - (c + a) = b - a by omega]
end
