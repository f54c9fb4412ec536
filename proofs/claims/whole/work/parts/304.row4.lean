/-! rows: paths, numbers, letters -/
/-- the path p goes with q -/
def pm (p q : List Int32) : Bool := decide (q.length ≤ p.length) && decide (p.take q.length = q) && (decide (q.length = p.length) || decide (g q (q.length - 1) = 47) || decide (g p q.length = 47))
theorem Rw.pathMatches {A : Hp} {r t cap cap' : Nat} {p q : List Int32} (h : Rw A r cap p) (k : Rw A t cap' q) (hp : p.length < 16000) (hq : q.length < 16000) (hq0 : q ≠ []) : f_X6_pathMatches A r t = some (bI (pm p q)) := by
  have hq1 : 1 ≤ q.length := by
    cases q with
    | nil => exact absurd rfl hq0
    | cons a q => simp
  unfold f_X6_pathMatches pm
  rw [if_pos k.1.1, if_pos h.1.1, h.2.1, k.2.1]
  by_cases hl : q.length ≤ p.length
  · rw [if_neg (nI_nlt hl (by omega)), decide_eq_true hl, Bool.true_and]
    rw [show f_X6_compareParts A r 0 (nI q.length) t 0 (nI q.length) = some (scmp (sub p 0 q.length) (sub q 0 q.length)) from h.compareParts k (Nat.zero_le _) hl (Nat.zero_le _) (Nat.le_refl _) hq hq, Option.bind_some, sub_all]
    have hs : sub p 0 q.length = p.take q.length := by simp [sub]
    rw [hs]
    by_cases he : p.take q.length = q
    · rw [if_pos (scmp_0.mpr he), decide_eq_true he, Bool.true_and]
      unfold k_X6_pathMatches_70
      by_cases h0 : q.length = p.length
      · rw [if_pos (by rw [h0]), decide_eq_true h0, Bool.true_or, Bool.true_or]
        rfl
      · rw [if_neg (fun z => h0 ((nI_eq (by omega) (by omega)).mp z)), decide_eq_false h0, Bool.false_or]
        rw [show nI q.length - (1 : Int32) = nI (q.length - 1) from pk_sub (b := 1) hq1, k.at (by omega), Option.bind_some, h.at (by omega), Option.bind_some]
        by_cases h1 : g q (q.length - 1) = 47
        · rw [if_pos h1, decide_eq_true h1, Bool.true_or]
          rfl
        · rw [if_neg h1, decide_eq_false h1, Bool.false_or, ifI]
    · rw [if_neg (fun z => he (scmp_0.mp z)), decide_eq_false he, Bool.false_and]
      rfl
  · rw [if_pos (nI_lt (by omega) (by omega)), decide_eq_false hl, Bool.false_and, Bool.false_and]
    rfl
def isD (c : Int32) : Bool := decide (48 ≤ c) && decide (c ≤ 57)
/-- the value of a digit -/
def dgv (c : Int32) : Nat := c.toNatClampNeg - 48
def numD (s : List Int32) : Nat → Nat → Nat → Option Nat
  | 0, _, n => some n
  | d + 1, i, n => if isD (g s i) then numD s d (i + 1) (10 * n + dgv (g s i)) else none
def num (s : List Int32) (a b : Nat) : Option Nat := numD s (b - a) a 0
def oI (o : Option Nat) : Int32 := match o with
  | none => -1
  | some n => nI n
theorem isD_n {c : Int32} (h : isD c = true) : ∃ n, n < 10 ∧ c = nI (48 + n) ∧ dgv c = n := by
  unfold isD at h
  rw [Bool.and_eq_true, decide_eq_true_iff, decide_eq_true_iff] at h
  have h0 : ¬ c < 0 := fun q => by
    have := h.1
    rw [Int32.le_iff_toInt_le] at this
    rw [Int32.lt_iff_toInt_lt] at q
    have a : (48 : Int32).toInt = 48 := by decide
    have b : (0 : Int32).toInt = 0 := by decide
    omega
  obtain ⟨j, hj, rfl⟩ := nI_of2 (M := 57) (n := 57) (by decide) h0 h.2
  have h1 := h.1
  rw [iL, nI_leI (by decide) (by omega)] at h1
  refine ⟨j - 48, by omega, by congr 1; omega, ?_⟩
  unfold dgv
  rw [nI_clamp (by omega)]
theorem numD_lt (s : List Int32) : ∀ d i n r, numD s d i n = some r → r < (n + 1) * 10 ^ d := by
  intro d
  induction d with
  | zero => intro i n r h; cases h; simp
  | succ d ih =>
    intro i n r h
    unfold numD at h
    split at h
    · rename_i hd
      obtain ⟨m, hm, -, e2⟩ := isD_n hd
      have := ih _ _ _ h
      rw [e2] at this
      have h3 : (10 * n + m + 1) * 10 ^ d ≤ (10 * (n + 1)) * 10 ^ d := Nat.mul_le_mul_right _ (by omega)
      rw [Nat.pow_succ]
      calc r < _ := this
        _ ≤ _ := h3
        _ = _ := by rw [Nat.mul_comm 10 (n + 1), Nat.mul_assoc, Nat.mul_comm 10 (10 ^ d)]
    · cases h
theorem nI_mul (a b : Nat) : nI a * nI b = nI (a * b) := (Int32.ofNat_mul a b).symm
theorem Rw.number {A : Hp} {r cap : Nat} {s : List Int32} (h : Rw A r cap s) {a b : Nat} (hab : a ≤ b) (hb : b < 16000) : f_X6_number A r (nI a) (nI b) = some (oI (num s a b)) := by
  have L : ∀ d i n fu, i + d = b → d < fu → k_X6_number_5 A r (nI b) fu (nI n) (nI i) = some (oI (numD s d i n)) := by
    intro d
    induction d with
    | zero =>
      intro i n fu h1 h2
      obtain ⟨fu, rfl⟩ : ∃ f, fu = f + 1 := ⟨fu - 1, by omega⟩
      show k_X6_number_5s A r _ _ _ _ = _
      unfold k_X6_number_5s
      rw [if_pos (nI_le (by omega) (by omega))]
      rfl
    | succ d ih =>
      intro i n fu h1 h2
      obtain ⟨fu, rfl⟩ : ∃ f, fu = f + 1 := ⟨fu - 1, by omega⟩
      show k_X6_number_5s A r _ _ _ _ = _
      unfold k_X6_number_5s
      rw [if_neg (nI_ge (by omega) (by omega)), if_pos h.1.1, h.at (by omega), Option.bind_some]
      by_cases hd : isD (g s i) = true
      · obtain ⟨m, hm, e1, e2⟩ := isD_n hd
        have hd' := hd
        unfold isD at hd'
        rw [Bool.and_eq_true, decide_eq_true_iff, decide_eq_true_iff] at hd'
        rw [if_neg (Int32.not_lt.mpr hd'.1), if_pos hd'.2]
        have e3 : (10 : Int32) * nI n + (g s i - 48) = nI (10 * n + dgv (g s i)) := by
          rw [e2, e1, show (48 : Int32) = nI 48 from rfl, pk_sub (by omega), show (10 : Int32) = nI 10 from rfl, nI_mul, nI_add]
          congr 1; omega
        rw [e3, nI_1, ih (i + 1) _ fu (by omega) (by omega)]
        show _ = some (oI (if isD (g s i) = true then _ else _))
        rw [if_pos hd]
      · have e : numD s (d + 1) i n = none := by
          show (if isD (g s i) = true then _ else none) = none
          rw [if_neg hd]
        rw [e]
        by_cases hlt : g s i < 48
        · rw [if_pos hlt]; rfl
        · rw [if_neg hlt, if_neg]
          · rfl
          · intro z
            apply hd
            unfold isD
            rw [Bool.and_eq_true, decide_eq_true_iff, decide_eq_true_iff]
            exact ⟨Int32.not_lt.mp hlt, z⟩
  unfold f_X6_number num
  exact L (b - a) a 0 FU (by omega) (by unfold FU; omega)
def mixS (s : List Int32) (x : Int64) : Int64 := s.foldl (fun x c => 31 * x + c.toInt64) x
theorem Rw.mix {A : Hp} {r cap : Nat} {s : List Int32} (h : Rw A r cap s) (hs : s.length < 16000) (x : Int64) : f_X6_mix A r x = some (mixS s x) := by
  have L : ∀ d i x fu, i + d = s.length → d < fu → k_X6_mix_5 A r fu x (nI i) = some (mixS (s.drop i) x) := by
    intro d
    induction d with
    | zero =>
      intro i x fu h1 h2
      obtain ⟨fu, rfl⟩ : ∃ f, fu = f + 1 := ⟨fu - 1, by omega⟩
      show k_X6_mix_5s A r _ _ _ = _
      unfold k_X6_mix_5s
      rw [if_pos h.1.1, h.2.1, if_pos (nI_le (by omega) (by omega)), List.drop_of_length_le (by omega)]
      rfl
    | succ d ih =>
      intro i x fu h1 h2
      obtain ⟨fu, rfl⟩ : ∃ f, fu = f + 1 := ⟨fu - 1, by omega⟩
      show k_X6_mix_5s A r _ _ _ = _
      unfold k_X6_mix_5s
      rw [if_pos h.1.1, h.2.1, if_neg (nI_ge (by omega) (by omega)), h.at (by omega), Option.bind_some, nI_1, ih (i + 1) _ fu (by omega) (by omega), drop_g (i := i) (by omega)]
      rfl
  unfold f_X6_mix
  exact L s.length 0 x FU (by omega) (by unfold FU; omega)
def lowc (c : Int32) : Int32 := if 65 ≤ c ∧ c ≤ 90 then c + 32 else c
def low (s : List Int32) : List Int32 := s.map lowc
theorem lowc_up {c : Int32} (h1 : ¬ c < 65) (h2 : ¬ 90 < c) : vp_nar .char (((c - 65 + 97).toUInt32 % 65536).toInt32) = lowc c ∧ okc (lowc c) := by
  have h0 : ¬ c < 0 := fun q => by
    rw [Int32.lt_iff_toInt_lt] at h1 q
    have a : (65 : Int32).toInt = 65 := by decide
    have b : (0 : Int32).toInt = 0 := by decide
    omega
  obtain ⟨j, hj, rfl⟩ := nI_of2 (M := 90) (n := 90) (by decide) h0 (Int32.not_lt.mp h2)
  have h3 := Int32.not_lt.mp h1
  rw [iL, nI_leI (by decide) (by omega)] at h3
  have : ∀ j, j < 91 → 65 ≤ j → vp_nar .char (((nI j - 65 + 97).toUInt32 % 65536).toInt32) = lowc (nI j) ∧ 32 ≤ lowc (nI j) ∧ lowc (nI j) ≤ 126 := by decide +kernel
  exact this j (by omega) h3
theorem lowc_ok {c : Int32} (h : okc c) : okc (lowc c) := by
  unfold lowc
  split
  · rename_i q
    have := (lowc_up (c := c) (Int32.not_lt.mpr q.1) (Int32.not_lt.mpr q.2)).2
    unfold lowc at this
    rw [if_pos q] at this
    exact this
  · exact h
theorem low_ok {s : List Int32} (h : oks s) : oks (low s) := fun c hc => by
  obtain ⟨d, hd, rfl⟩ := List.mem_map.mp hc
  exact lowc_ok (h d hd)
theorem Rw.setc {A : Hp} {r cap i : Nat} {s : List Int32} (h : Rw A r cap s) (hi : i < s.length) {c : Int32} (hc : okc c) : Rw (hsI A 1033 (r + 1) i c) r cap (s.set i c) := by
  obtain ⟨⟨a1, a2, a3, a4⟩, a5, a6, a7, a8⟩ := h
  refine ⟨⟨a1, a2, a3, a4⟩, by rw [hgI_sI, if_neg (by omega), List.length_set]; exact a5, by rw [List.length_set]; exact a6, fun d hd => ?_, fun k hk => ?_⟩
  · rcases List.mem_or_eq_of_mem_set hd with q | q
    · exact a7 d q
    · rw [q]; exact hc
  · rw [List.length_set] at hk
    rw [hgI_sI]
    by_cases hq : k = i
    · rw [if_pos ⟨rfl, rfl, hq⟩, hq]
      simp [g, hi]
    · rw [if_neg (fun z => hq z.2.2), a8 k hk]
      simp only [g, List.getD_eq_getElem?_getD]
      rw [List.getElem?_set_ne (fun z => hq z.symm)]
theorem low_step {s : List Int32} {i : Nat} (h : i < s.length) : (low (s.take i) ++ s.drop i).set i (lowc (g s i)) = low (s.take (i + 1)) ++ s.drop (i + 1) := by
  have hl : (low (s.take i)).length = i := by simp [low]; omega
  rw [List.set_append_right _ _ (by omega), hl, Nat.sub_self, drop_g h, List.set_cons_zero, List.take_add_one, List.getElem?_eq_getElem h, g_lt h]
  unfold low
  rw [List.map_append, List.append_assoc]
  rfl
theorem Rw.toSmall {A : Hp} {r cap : Nat} {s : List Int32} (h : Rw A r cap s) (hs : s.length < 16000) : ∃ B, f_X6_toSmallLetters A r = some B ∧ Rw B r cap (low s) ∧ Eqx (rP r) A B := by
  have L : ∀ d i fu A, i + d = s.length → d < fu → Rw A r cap (low (s.take i) ++ s.drop i) → ∃ B, k_X6_toSmallLetters_2 r fu A (nI i) = some B ∧ Rw B r cap (low s) ∧ Eqx (rP r) A B := by
    intro d
    induction d with
    | zero =>
      intro i fu A h1 h2 hr
      obtain ⟨fu, rfl⟩ : ∃ f, fu = f + 1 := ⟨fu - 1, by omega⟩
      rw [List.take_of_length_le (by omega), List.drop_of_length_le (by omega), List.append_nil] at hr
      refine ⟨A, ?_, hr, Eqx.rf⟩
      show k_X6_toSmallLetters_2s r _ _ _ = _
      unfold k_X6_toSmallLetters_2s
      rw [if_pos hr.1.1, hr.2.1, if_pos (nI_le (by simp [low]; omega) (by omega))]
    | succ d ih =>
      intro i fu A h1 h2 hr
      obtain ⟨fu, rfl⟩ : ∃ f, fu = f + 1 := ⟨fu - 1, by omega⟩
      have hi : i < s.length := by omega
      have hlen : (low (s.take i) ++ s.drop i).length = s.length := by simp [low]; omega
      have hl : (low (s.take i)).length = i := by simp [low]; omega
      have hg : g (low (s.take i) ++ s.drop i) i = g s i := by
        simp only [g, List.getD_eq_getElem?_getD]
        rw [List.getElem?_append_right (by omega), hl, Nat.sub_self, List.getElem?_drop, Nat.add_zero]
      have hcap := hr.2.2.1
      have hcc := hr.1.2.2.2
      have hok : okc (g s i) := by rw [← hg]; exact g_ok hr.2.2.2.1 (by omega)
      have stay : lowc (g s i) = g s i → Rw A r cap (low (s.take (i + 1)) ++ s.drop (i + 1)) := fun z => by
        rw [← low_step hi, z]
        have : (low (s.take i) ++ s.drop i).set i (g s i) = low (s.take i) ++ s.drop i := by
          conv => lhs; rw [← hg]
          rw [g_lt (by omega)]
          exact List.set_getElem_self _
        rw [this]
        exact hr
      show ∃ B, k_X6_toSmallLetters_2s r _ _ _ = some B ∧ _
      unfold k_X6_toSmallLetters_2s k_X6_toSmallLetters_60
      rw [if_pos hr.1.1, hr.2.1, hlen, if_neg (nI_ge hi (by omega)), hr.1.2.1, hr.1.2.2.1, if_pos rfl, if_neg (nI_ge (show i < cap by omega) (by omega)), if_pos ((nI_wix (by omega)).mpr (show i < cap by omega)), nI_clamp (by omega), hr.2.2.2.2 i (by omega), hg, nI_1]
      by_cases q1 : g s i < 65
      · rw [if_pos q1]
        exact ih (i + 1) fu A (by omega) (by omega) (stay (by unfold lowc; rw [if_neg (fun z => absurd q1 (Int32.not_lt.mpr z.1))]))
      · rw [if_neg q1]
        by_cases q2 : 90 < g s i
        · rw [if_pos q2]
          exact ih (i + 1) fu A (by omega) (by omega) (stay (by unfold lowc; rw [if_neg (fun z => absurd q2 (Int32.not_lt.mpr z.2))]))
        · rw [if_neg q2, (lowc_up q1 q2).1]
          have hr' := hr.setc (i := i) (by omega) (lowc_up q1 q2).2
          rw [low_step hi] at hr'
          obtain ⟨B, e1, e2, e3⟩ := ih (i + 1) fu _ (by omega) (by omega) hr'
          exact ⟨B, e1, e2, (Eqx.sI (Or.inr rfl)).tr e3⟩
  unfold f_X6_toSmallLetters
  exact L s.length 0 FU A (by omega) (by unfold FU; omega) (by simpa [low] using h)
-- trimming
def trFD (s : List Int32) : Nat → Nat → Nat
  | 0, i => i
  | d + 1, i => if g s i = 32 then trFD s d (i + 1) else i
def trF (s : List Int32) (a b : Nat) : Nat := trFD s (b - a) a
def trTD (s : List Int32) : Nat → Nat → Nat
  | 0, i => i
  | d + 1, i => if g s (i - 1) = 32 then trTD s d (i - 1) else i
def trT (s : List Int32) (a b : Nat) : Nat := trTD s (b - a) b
theorem trFD_le (s : List Int32) : ∀ d i, i ≤ trFD s d i ∧ trFD s d i ≤ i + d := by
  intro d
  induction d with
  | zero => intro i; exact ⟨Nat.le_refl _, Nat.le_refl _⟩
  | succ d ih =>
    intro i
    show i ≤ (if g s i = 32 then trFD s d (i + 1) else i) ∧ (if g s i = 32 then trFD s d (i + 1) else i) ≤ _
    split
    · have := ih (i + 1); omega
    · omega
theorem trTD_le (s : List Int32) : ∀ d i, d ≤ i → i - d ≤ trTD s d i ∧ trTD s d i ≤ i := by
  intro d
  induction d with
  | zero => intro i h; exact ⟨Nat.le_refl _, Nat.le_refl _⟩
  | succ d ih =>
    intro i h
    show _ ≤ (if g s (i - 1) = 32 then trTD s d (i - 1) else i) ∧ (if g s (i - 1) = 32 then trTD s d (i - 1) else i) ≤ _
    split
    · have := ih (i - 1) (by omega); omega
    · omega
theorem trF_le {s : List Int32} {a b : Nat} (h : a ≤ b) : a ≤ trF s a b ∧ trF s a b ≤ b := by
  have := trFD_le s (b - a) a
  unfold trF; omega
theorem trT_le {s : List Int32} {a b : Nat} (h : a ≤ b) : a ≤ trT s a b ∧ trT s a b ≤ b := by
  have := trTD_le s (b - a) b (by omega)
  unfold trT; omega
def trm (s : List Int32) (a b : Nat) : List Int32 := sub s (trF s a b) (trT s (trF s a b) b)
theorem Rw.takeTrimmed {A : Hp} {r t cap cap' a b : Nat} {s s' : List Int32} (hr : Rw A r cap s') (ht : Rw A t cap' s) (hne : t ≠ r) (hab : a ≤ b) (hb : b ≤ s.length) (hs : s.length < 16000) (hcap : b - a ≤ cap) : ∃ B, f_X6_takeTrimmed A r t (nI a) (nI b) = some B ∧ Rw B r cap (trm s a b) ∧ Rw B t cap' s ∧ Eqx (rP r) A B := by
  have L2 : ∀ f, f ≤ b → a ≤ f → ∀ d i fu, f + d = i → i ≤ b → d < fu → ∃ B, k_X6_takeTrimmed_30 r t (nI f) fu A (nI i) = some B ∧ Rw B r cap (sub s f (trTD s d i)) ∧ Rw B t cap' s ∧ Eqx (rP r) A B := by
    intro f hf haf d
    have fin : ∀ i, f ≤ i → i ≤ b → ∃ B, k_X6_takeTrimmed_56 A r t (nI f) (nI i) = some B ∧ Rw B r cap (sub s f i) ∧ Rw B t cap' s ∧ Eqx (rP r) A B := by
      intro i h1 h2
      obtain ⟨B, e1, e2⟩ := hr.take ht hne hs (a := f) (b := i) (by omega) (by omega) (by omega)
      refine ⟨B, ?_, e2⟩
      unfold k_X6_takeTrimmed_56
      rw [if_pos hr.1.1, e1]
      rfl
    induction d with
    | zero =>
      intro i fu h1 h2 h3
      obtain ⟨fu, rfl⟩ : ∃ f, fu = f + 1 := ⟨fu - 1, by omega⟩
      show ∃ B, k_X6_takeTrimmed_30s r t _ _ _ _ = some B ∧ _
      unfold k_X6_takeTrimmed_30s
      rw [if_pos (nI_le (by omega) (by omega))]
      exact fin i (by omega) h2
    | succ d ih =>
      intro i fu h1 h2 h3
      obtain ⟨fu, rfl⟩ : ∃ f, fu = f + 1 := ⟨fu - 1, by omega⟩
      show ∃ B, k_X6_takeTrimmed_30s r t _ _ _ _ = some B ∧ _
      unfold k_X6_takeTrimmed_30s
      rw [if_neg (nI_ge (by omega) (by omega)), if_pos ht.1.1, show nI i - (1 : Int32) = nI (i - 1) from pk_sub (b := 1) (by omega), ht.at (by omega), Option.bind_some]
      have e1 : nI i + (-1 : Int32) = nI (i - 1) := by
        obtain ⟨j, rfl⟩ : ∃ j, i = j + 1 := ⟨i - 1, by omega⟩
        exact pk_m1 j
      rw [e1]
      have e2 : trTD s (d + 1) i = if g s (i - 1) = 32 then trTD s d (i - 1) else i := rfl
      rw [e2]
      by_cases hq : g s (i - 1) = 32
      · rw [if_pos hq, if_pos hq]
        exact ih (i - 1) fu (by omega) (by omega) (by omega)
      · rw [if_neg hq, if_neg hq]
        exact fin i (by omega) h2
  have L1 : ∀ d i fu, i + d = b → a ≤ i → d < fu → ∃ B, k_X6_takeTrimmed_6 r t (nI b) fu A (nI i) = some B ∧ Rw B r cap (sub s (trFD s d i) (trT s (trFD s d i) b)) ∧ Rw B t cap' s ∧ Eqx (rP r) A B := by
    intro d
    induction d with
    | zero =>
      intro i fu h1 h2 h3
      obtain ⟨fu, rfl⟩ : ∃ f, fu = f + 1 := ⟨fu - 1, by omega⟩
      show ∃ B, k_X6_takeTrimmed_6s r t _ _ _ _ = some B ∧ _
      unfold k_X6_takeTrimmed_6s
      rw [if_pos (nI_le (by omega) (by omega))]
      exact L2 i (by omega) h2 (b - i) b FU (by omega) (Nat.le_refl _) (by unfold FU; omega)
    | succ d ih =>
      intro i fu h1 h2 h3
      obtain ⟨fu, rfl⟩ : ∃ f, fu = f + 1 := ⟨fu - 1, by omega⟩
      show ∃ B, k_X6_takeTrimmed_6s r t _ _ _ _ = some B ∧ _
      unfold k_X6_takeTrimmed_6s
      rw [if_neg (nI_ge (by omega) (by omega)), if_pos ht.1.1, ht.at (by omega), Option.bind_some, nI_1]
      have e2 : trFD s (d + 1) i = if g s i = 32 then trFD s d (i + 1) else i := rfl
      rw [e2]
      by_cases hq : g s i = 32
      · rw [if_pos hq, if_pos hq]
        exact ih (i + 1) fu (by omega) (by omega) (by omega)
      · rw [if_neg hq, if_neg hq]
        exact L2 i (by omega) h2 (b - i) b FU (by omega) (Nat.le_refl _) (by unfold FU; omega)
  unfold f_X6_takeTrimmed trm trF
  exact L1 (b - a) a FU (by omega) (Nat.le_refl _) (by unfold FU; omega)
