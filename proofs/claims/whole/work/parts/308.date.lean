/-! dates -/
theorem nI_div {n m : Nat} (hn : n < 2 ^ 31) (hm : m < 2 ^ 31) (h0 : 0 < m) : nI n / nI m = nI (n / m) := by
  have hq : n / m ≤ n := Nat.div_le_self n m
  apply Int32.toInt_inj.mp
  rw [Int32.toInt_div, nI_toInt hn, nI_toInt hm, nI_toInt (by omega), Int.tdiv_eq_ediv_of_nonneg (by omega), ← Int.natCast_ediv]
  generalize n / m = q at hq
  apply Int.bmod_eq_of_le <;> omega
theorem nI_mod {n m : Nat} (hn : n < 2 ^ 31) (hm : m < 2 ^ 31) (h0 : 0 < m) : nI n - nI n / nI m * nI m = nI (n % m) := by
  rw [nI_div hn hm h0, nI_mul, pk_sub (Nat.div_mul_le_self n m)]
  congr 1
  have := Nat.div_add_mod n m
  rw [Nat.mul_comm] at this
  omega
def isLp (y : Nat) : Bool := decide (y % 4 = 0) && (decide (y % 100 ≠ 0) || decide (y % 400 = 0))
theorem leap_ {A : Hp} {y : Nat} (hy : y < 100000) : f_X2_isLeap A (nI y) = some (bI (isLp y)) := by
  unfold f_X2_isLeap k_X2_isLeap_21 isLp
  rw [show nI y - nI y / (4 : Int32) * 4 = nI (y % 4) from nI_mod (m := 4) (by omega) (by omega) (by omega), show nI y - nI y / (100 : Int32) * 100 = nI (y % 100) from nI_mod (m := 100) (by omega) (by omega) (by omega), show nI y - nI y / (400 : Int32) * 400 = nI (y % 400) from nI_mod (m := 400) (by omega) (by omega) (by omega)]
  have e : ∀ n, n < 2 ^ 31 → (nI n = 0 ↔ n = 0) := fun n hn => nI_eq (b := 0) hn (by omega)
  by_cases h1 : y % 4 = 0
  · rw [if_pos ((e _ (by omega)).mpr h1), decide_eq_true h1, Bool.true_and]
    by_cases h2 : y % 100 = 0
    · rw [if_pos ((e _ (by omega)).mpr h2), decide_eq_false (fun z => z h2), Bool.false_or, ifI]
      congr 2
      rw [decide_eq_decide]
      exact e _ (by omega)
    · rw [if_neg (fun z => h2 ((e _ (by omega)).mp z)), decide_eq_true h2, Bool.true_or]; rfl
  · rw [if_neg (fun z => h1 ((e _ (by omega)).mp z)), decide_eq_false h1, Bool.false_and]; rfl
def wdn (m : Nat) : Nat := [0, 31, 59, 90, 120, 151, 181, 212, 243, 273, 304, 334, 365].getD m 0
theorem wdn_ : ∀ m, m < 13 → wdy m = nI (wdn m) := by decide +kernel
theorem wdn_le : ∀ m, m < 12 → wdn m + 28 ≤ wdn (m + 1) ∧ wdn (m + 1) ≤ 365 ∧ wdn (m + 1) ≤ wdn m + 31 := by decide +kernel
def dys (y m : Nat) : Nat := if m = 1 ∧ isLp y = true then wdn (m + 1) - wdn m + 1 else wdn (m + 1) - wdn m
theorem daysOf_ {A : Hp} {y m : Nat} (hy : y < 100000) (hm : m < 12) : f_X2_daysOf A (nI y) (nI m) = some (nI (dys y m)) := by
  have hw := wdn_le m hm
  unfold f_X2_daysOf dys
  rw [if_neg (nI_pos (by omega)), if_pos (show nI m ≤ 11 from nI_le (b := 11) (by omega) (by omega)), nI_1, if_pos ((nI_wix (by omega)).mpr (by omega)), if_pos ((nI_wix (by omega)).mpr (by omega)), nI_clamp (by omega), nI_clamp (by omega), wdn_ _ (by omega), wdn_ _ (by omega), pk_sub (by omega), leap_ hy, Option.bind_some]
  by_cases h1 : m = 1
  · rw [if_pos (show nI m = 1 by rw [h1]; rfl)]
    cases hl : isLp y
    · rw [if_pos (by rfl), if_neg (fun z => by cases z.2)]
    · rw [if_neg (by decide), if_pos ⟨h1, rfl⟩, nI_1]
  · rw [if_neg (show ¬ nI m = 1 from fun z => h1 ((nI_eq (b := 1) (by omega) (by omega)).mp z)), if_neg (fun z => h1 z.1)]
def lb (y : Nat) : Nat := (y - 1) / 4 - (y - 1) / 100 + (y - 1) / 400
theorem lb_ {A : Hp} {y : Nat} (hy : y < 100000) (h1 : 1 ≤ y) : f_X2_leapDaysBefore A (nI y) = some (nI (lb y)) := by
  unfold f_X2_leapDaysBefore lb
  rw [show nI y - (1 : Int32) = nI (y - 1) from pk_sub (b := 1) h1, show nI (y - 1) / (4 : Int32) = _ from nI_div (m := 4) (by omega) (by omega) (by omega), show nI (y - 1) / (100 : Int32) = _ from nI_div (m := 100) (by omega) (by omega) (by omega), show nI (y - 1) / (400 : Int32) = _ from nI_div (m := 400) (by omega) (by omega) (by omega), pk_sub (by omega), nI_add]
/-- the days from 1970 to a month -/
def dayN (y m : Nat) : Nat := 365 * (y - 1970) + (lb y - lb 1970) + (if 1 < m ∧ isLp y = true then 1 else 0) + wdn m
theorem dayN_lt {y m : Nat} (hy : y < 10000) (hm : m < 12) : dayN y m < 10000000 := by
  have := wdn_le m hm
  unfold dayN lb
  split <;> omega
theorem daysBefore_ {A : Hp} {y m : Nat} (hy : y < 10000) (h1 : 1970 ≤ y) (hm : m < 12) : f_X2_daysBefore A (nI y) (nI m) = some (lN (dayN y m)) := by
  have hw := wdn_le m hm
  have hd := dayN_lt hy hm
  have hlb : lb 1970 ≤ lb y := by unfold lb; omega
  have fin : ∀ t, dayN y m = 365 * (y - 1970) + (lb y - lb 1970) + t + wdn m → k_X2_daysBefore_40 A (nI y) (nI m) (nI (lb y - lb 1970)) (nI t) = some (lN (dayN y m)) := by
    intro t ht
    unfold k_X2_daysBefore_40
    rw [if_pos ((nI_wix (by omega)).mpr (by omega)), nI_clamp (by omega), wdn_ _ (by omega), show nI y - (1970 : Int32) = nI (y - 1970) from pk_sub (b := 1970) h1, show (365 : Int32) * nI (y - 1970) = nI (365 * (y - 1970)) from nI_mul 365 _, nI_add, nI_add, nI_add, nI_l (by omega), show dayN y m = 365 * (y - 1970) + (lb y - lb 1970 + t) + wdn m by omega]
  unfold f_X2_daysBefore k_X2_daysBefore_39
  rw [if_neg (nI_pos (by omega)), if_pos (show nI m ≤ 11 from nI_le (b := 11) (by omega) (by omega)), lb_ (by omega) (by omega), Option.bind_some, show f_X2_leapDaysBefore A 1970 = some (nI (lb 1970)) from lb_ (y := 1970) (by omega) (by omega), Option.bind_some, pk_sub hlb, leap_ (by omega), Option.bind_some]
  by_cases h2 : 1 < m
  · rw [if_neg (show ¬ nI m ≤ 1 from nI_ge (a := 1) h2 (by omega))]
    cases hl : isLp y
    · rw [if_pos (by rfl)]
      exact fin 0 (by unfold dayN; rw [if_neg (fun z => by rw [hl] at z; cases z.2)])
    · rw [if_neg (by decide)]
      exact fin 1 (by unfold dayN; rw [if_pos ⟨h2, hl⟩])
  · rw [if_pos (show nI m ≤ 1 from nI_le (b := 1) (by omega) (by omega))]
    exact fin 0 (by unfold dayN; rw [if_neg (fun z => h2 z.1)])
def monD (s : List Int32) : Nat → Nat → Option Nat
  | 0, _ => none
  | d + 1, m => if g s 3 = g (wsc 3) (3 * m) ∧ g s 4 = g (wsc 3) (3 * m + 1) ∧ g s 5 = g (wsc 3) (3 * m + 2) then some m else monD s d (m + 1)
def mon (s : List Int32) : Option Nat := monD s 12 0
theorem monD_lt (s : List Int32) : ∀ d m r, monD s d m = some r → r < m + d := by
  intro d
  induction d with
  | zero => intro m r h; cases h
  | succ d ih =>
    intro m r h
    unfold monD at h
    split at h
    · cases h; omega
    · have := ih _ _ h; omega
theorem Rw.month {A : Hp} {r cap : Nat} {s : List Int32} (h : Rw A r cap s) : f_X2_month A r = some (oI (mon s)) := by
  have hn := wok_all 3 (by omega) (by omega)
  have hl : (wsc 3).length = 36 := by decide
  have L : ∀ d m fu, m + d = 12 → d < fu → k_X2_month_2 A r fu (nI m) = some (oI (monD s d m)) := by
    intro d
    induction d with
    | zero =>
      intro m fu h1 h2
      obtain ⟨fu, rfl⟩ : ∃ f, fu = f + 1 := ⟨fu - 1, by omega⟩
      show k_X2_month_2s A r _ _ = _
      unfold k_X2_month_2s
      rw [if_pos (show (12 : Int32) ≤ nI m from nI_le (a := 12) (by omega) (by omega))]
      rfl
    | succ d ih =>
      intro m fu h1 h2
      obtain ⟨fu, rfl⟩ : ∃ f, fu = f + 1 := ⟨fu - 1, by omega⟩
      show k_X2_month_2s A r _ _ = _
      unfold k_X2_month_2s k_X2_month_62
      rw [if_neg (show ¬ (12 : Int32) ≤ nI m from nI_ge (b := 12) (by omega) (by omega)), if_pos h.1.1, show f_X6_at A r 3 = some (g s 3) from h.at (i := 3) (by omega), show f_X6_at A r 4 = some (g s 4) from h.at (i := 4) (by omega), show f_X6_at A r 5 = some (g s 5) from h.at (i := 5) (by omega), Option.bind_some, if_pos hn.1.1, show (3 : Int32) * nI m = nI (3 * m) from nI_mul 3 m, wc_ hn (by omega), Option.bind_some, Option.bind_some, nI_1, wc_ hn (by omega), Option.bind_some, Option.bind_some, show nI (3 * m) + (2 : Int32) = nI (3 * m + 2) from nI_add _ 2, wc_ hn (by omega), Option.bind_some, nI_1, ih (m + 1) fu (by omega) (by omega)]
      show _ = some (oI (if _ then _ else _))
      by_cases q1 : g s 3 = g (wsc 3) (3 * m)
      · rw [if_pos q1]
        by_cases q2 : g s 4 = g (wsc 3) (3 * m + 1)
        · rw [if_pos q2]
          by_cases q3 : g s 5 = g (wsc 3) (3 * m + 2)
          · rw [if_pos q3, if_pos ⟨q1, q2, q3⟩]; rfl
          · rw [if_neg q3, if_neg (fun z => q3 z.2.2)]
        · rw [if_neg q2, if_neg (fun z => q2 z.2.1)]
      · rw [if_neg q1, if_neg (fun z => q1 z.1)]
  unfold f_X2_month mon
  exact L 12 0 FU (by omega) (by unfold FU; omega)
def dSig (s : List Int32) : Bool := decide (s.length = 20 ∧ g s 2 = 32 ∧ g s 6 = 32 ∧ g s 11 = 32 ∧ g s 14 = 58 ∧ g s 17 = 58)
def dFin (y m d h mi se : Nat) : Option Nat := if 1970 ≤ y ∧ 1 ≤ d ∧ d ≤ dys y m ∧ h ≤ 23 ∧ mi ≤ 59 ∧ se ≤ 59 then some ((((dayN y m + d - 1) * 24 + h) * 60 + mi) * 60 + se) else none
def rdDate (s : List Int32) : Option Nat := if dSig s then (num s 0 2).bind fun d => (mon s).bind fun m => (num s 7 11).bind fun y => (num s 12 14).bind fun h => (num s 15 17).bind fun mi => (num s 18 20).bind fun se => dFin y m d h mi se else none
def oL (o : Option Nat) : Int64 := match o with
  | none => -1
  | some n => lN n
theorem oI_none : oI none = -1 := rfl
theorem oI_some (n : Nat) : oI (some n) = nI n := rfl
theorem Rw.hasSigns {A : Hp} {r cap : Nat} {s : List Int32} (h : Rw A r cap s) : f_X2_hasSigns A r = some (bI (decide (g s 2 = 32 ∧ g s 6 = 32 ∧ g s 11 = 32 ∧ g s 14 = 58 ∧ g s 17 = 58))) := by
  unfold f_X2_hasSigns
  rw [if_pos h.1.1, show f_X6_at A r 2 = some (g s 2) from h.at (i := 2) (by omega), show f_X6_at A r 6 = some (g s 6) from h.at (i := 6) (by omega), show f_X6_at A r 11 = some (g s 11) from h.at (i := 11) (by omega), show f_X6_at A r 14 = some (g s 14) from h.at (i := 14) (by omega), show f_X6_at A r 17 = some (g s 17) from h.at (i := 17) (by omega)]
  simp only [Option.bind_some]
  by_cases q1 : g s 2 = 32
  · rw [if_pos q1]
    by_cases q2 : g s 6 = 32
    · rw [if_pos q2]
      by_cases q3 : g s 11 = 32
      · rw [if_pos q3]
        by_cases q4 : g s 14 = 58
        · rw [if_pos q4, ifI]
          congr 2
          rw [decide_eq_decide]
          exact ⟨fun z => ⟨q1, q2, q3, q4, z⟩, fun z => z.2.2.2.2⟩
        · rw [if_neg q4, decide_eq_false (fun z => q4 z.2.2.2.1)]; rfl
      · rw [if_neg q3, decide_eq_false (fun z => q3 z.2.2.1)]; rfl
    · rw [if_neg q2, decide_eq_false (fun z => q2 z.2.1)]; rfl
  · rw [if_neg q1, decide_eq_false (fun z => q1 z.1)]; rfl
theorem lN_m1 {n : Nat} (h : n < 2 ^ 31) : lN n ≠ (-1 : Int64) := fun z => by
  have := congrArg Int64.toInt z
  rw [lN_toInt h] at this
  have e : (-1 : Int64).toInt = -1 := by decide
  omega
theorem ifS {α : Type} {p : Prop} [Decidable p] (x y : α) : (if p then some x else some y) = some (if p then x else y) := by split <;> rfl
theorem Rw.dread {A : Hp} {r cap : Nat} {s : List Int32} (h : Rw A r cap s) : f_X2_read A r = some (oL (rdDate s)) := by
  have hcap := h.2.2.1
  have hc2 := h.1.2.2.2
  unfold f_X2_read rdDate
  rw [if_pos h.1.1, h.2.1, h.hasSigns, Option.bind_some]
  by_cases hl : s.length = 20
  · rw [if_pos (show nI s.length = 20 by rw [hl]; rfl)]
    by_cases hsg : (g s 2 = 32 ∧ g s 6 = 32 ∧ g s 11 = 32 ∧ g s 14 = 58 ∧ g s 17 = 58)
    · have hd : dSig s = true := decide_eq_true ⟨hl, hsg⟩
      rw [decide_eq_true hsg, if_neg (by decide), if_pos hd]
      rw [show f_X6_number A r 0 2 = _ from h.number (a := 0) (b := 2) (by omega) (by omega), show f_X6_number A r 7 11 = _ from h.number (a := 7) (b := 11) (by omega) (by omega), show f_X6_number A r 12 14 = _ from h.number (a := 12) (b := 14) (by omega) (by omega), show f_X6_number A r 15 17 = _ from h.number (a := 15) (b := 17) (by omega) (by omega), show f_X6_number A r 18 20 = _ from h.number (a := 18) (b := 20) (by omega) (by omega), h.month]
      simp only [Option.bind_some]
      cases hy : num s 7 11 with
      | none =>
        rw [oI_none, if_pos (by decide)]
        cases num s 0 2 <;> cases mon s <;> rfl
      | some y =>
        have hy' : y < 10000 := by have := numD_lt s _ _ _ _ hy; omega
        rw [oI_some]
        by_cases y1 : y < 1970
        · rw [if_pos (show nI y < 1970 from nI_lt (b := 1970) y1 (by omega))]
          have : ∀ m d h mi se, dFin y m d h mi se = none := fun m d h mi se => by unfold dFin; rw [if_neg (by omega)]
          simp only [Option.bind_some, this]
          cases num s 0 2 <;> cases mon s <;> cases num s 12 14 <;> cases num s 15 17 <;> cases num s 18 20 <;> rfl
        · rw [if_neg (show ¬ nI y < 1970 from nI_nlt (b := 1970) (by omega) (by omega))]
          cases hm : mon s with
          | none =>
            rw [oI_none, if_pos (by decide)]
            cases num s 0 2 <;> rfl
          | some m =>
            have hm' : m < 12 := by have := monD_lt s _ _ _ hm; omega
            rw [oI_some, if_neg (nI_pos (by omega))]
            cases hd : num s 0 2 with
            | none => rw [oI_none, if_pos (by decide)]; rfl
            | some d =>
              have hd' : d < 100 := by have := numD_lt s _ _ _ _ hd; omega
              rw [oI_some]
              simp only [Option.bind_some]
              by_cases d1 : d < 1
              · rw [if_pos (show nI d < 1 from nI_lt (b := 1) d1 (by omega))]
                have : ∀ h mi se, dFin y m d h mi se = none := fun h mi se => by unfold dFin; rw [if_neg (by omega)]
                simp only [this]
                cases num s 12 14 <;> cases num s 15 17 <;> cases num s 18 20 <;> rfl
              · rw [if_neg (show ¬ nI d < 1 from nI_nlt (b := 1) (by omega) (by omega)), daysOf_ (by omega) hm', Option.bind_some]
                have hdy : dys y m ≤ 32 := by have := wdn_le m hm'; unfold dys; split <;> omega
                by_cases d2 : d ≤ dys y m
                · rw [if_pos (nI_le d2 (by omega))]
                  cases hh : num s 12 14 with
                  | none => rw [oI_none, if_pos (by decide)]; rfl
                  | some hh1 =>
                    have hh' : hh1 < 100 := by have := numD_lt s _ _ _ _ hh; omega
                    rw [oI_some, if_neg (nI_pos (by omega))]
                    simp only [Option.bind_some]
                    by_cases h23 : hh1 ≤ 23
                    · rw [if_neg (show ¬ (23 : Int32) < nI hh1 from nI_nlt (a := 23) h23 (by omega))]
                      cases hmi : num s 15 17 with
                      | none => rw [oI_none, if_pos (by decide)]; rfl
                      | some mi =>
                        have hmi' : mi < 100 := by have := numD_lt s _ _ _ _ hmi; omega
                        rw [oI_some, if_neg (nI_pos (by omega))]
                        simp only [Option.bind_some]
                        by_cases m59 : mi ≤ 59
                        · rw [if_neg (show ¬ (59 : Int32) < nI mi from nI_nlt (a := 59) m59 (by omega))]
                          cases hse : num s 18 20 with
                          | none => rw [oI_none, if_pos (by decide)]; rfl
                          | some se =>
                            have hse' : se < 100 := by have := numD_lt s _ _ _ _ hse; omega
                            rw [oI_some, if_neg (nI_pos (by omega))]
                            simp only [Option.bind_some]
                            by_cases s59 : se ≤ 59
                            · rw [if_pos (show nI se ≤ 59 from nI_le (b := 59) s59 (by omega)), daysBefore_ hy' (by omega) hm', Option.bind_some]
                              have e : dFin y m d hh1 mi se = some ((((dayN y m + d - 1) * 24 + hh1) * 60 + mi) * 60 + se) := by
                                unfold dFin; rw [if_pos ⟨by omega, by omega, d2, h23, m59, s59⟩]
                              rw [e]
                              rw [nI_l (by omega), nI_l (by omega), nI_l (by omega), nI_l (by omega), lN_add, show lN (dayN y m + d) - (1 : Int64) = _ from lN_sub (b := 1) (by omega), show lN (dayN y m + d - 1) * (24 : Int64) = _ from lN_mul _ 24, lN_add, show lN _ * (60 : Int64) = _ from lN_mul _ 60, lN_add, show lN _ * (60 : Int64) = _ from lN_mul _ 60, lN_add]
                              rfl
                            · rw [if_neg (show ¬ nI se ≤ 59 from nI_ge (a := 59) (by omega) (by omega))]
                              have : dFin y m d hh1 mi se = none := by unfold dFin; rw [if_neg (by omega)]
                              rw [this]; rfl
                        · rw [if_pos (show (59 : Int32) < nI mi from nI_lt (a := 59) (by omega) (by omega))]
                          have : ∀ se, dFin y m d hh1 mi se = none := fun se => by unfold dFin; rw [if_neg (by omega)]
                          simp only [this]
                          cases num s 18 20 <;> rfl
                    · rw [if_pos (show (23 : Int32) < nI hh1 from nI_lt (a := 23) (by omega) (by omega))]
                      have : ∀ mi se, dFin y m d hh1 mi se = none := fun mi se => by unfold dFin; rw [if_neg (by omega)]
                      simp only [this]
                      cases num s 15 17 <;> cases num s 18 20 <;> rfl
                · rw [if_neg (nI_ge (by omega) (by omega))]
                  have : ∀ h mi se, dFin y m d h mi se = none := fun h mi se => by unfold dFin; rw [if_neg (by omega)]
                  simp only [this]
                  cases num s 12 14 <;> cases num s 15 17 <;> cases num s 18 20 <;> rfl
    · have hd : dSig s = false := decide_eq_false (fun z => hsg z.2)
      rw [decide_eq_false hsg, if_pos (by rfl), hd]
      rfl
  · rw [if_neg (show ¬ nI s.length = 20 from fun z => hl ((nI_eq (b := 20) (by omega) (by omega)).mp z))]
    have hd : dSig s = false := decide_eq_false (fun z => hl z.1)
    rw [hd]
    rfl
theorem rdDate_lt {s : List Int32} {n : Nat} (h : rdDate s = some n) : n < 1000000000000 := by
  unfold rdDate at h
  split at h
  · obtain ⟨d, h1, h⟩ := Option.bind_eq_some_iff.mp h
    obtain ⟨m, h2, h⟩ := Option.bind_eq_some_iff.mp h
    obtain ⟨y, h3, h⟩ := Option.bind_eq_some_iff.mp h
    obtain ⟨hh, h4, h⟩ := Option.bind_eq_some_iff.mp h
    obtain ⟨mi, h5, h⟩ := Option.bind_eq_some_iff.mp h
    obtain ⟨se, h6, h⟩ := Option.bind_eq_some_iff.mp h
    have := numD_lt s _ _ _ _ h1
    have := monD_lt s _ _ _ h2
    have := numD_lt s _ _ _ _ h3
    unfold dFin at h
    split at h
    · cases h
      have := dayN_lt (y := y) (m := m) (by omega) (by omega)
      omega
    · cases h
  · cases h
