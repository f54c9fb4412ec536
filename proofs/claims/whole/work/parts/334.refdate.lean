/-! the reference: dates -/
theorem lN_div {n m : Nat} (hn : n < 2 ^ 31) (hm : m < 2 ^ 31) (h0 : 0 < m) : lN n / lN m = lN (n / m) := by
  have hq : n / m ≤ n := Nat.div_le_self n m
  apply Int64.toInt_inj.mp
  rw [Int64.toInt_div, lN_toInt hn, lN_toInt hm, lN_toInt (by omega), Int.tdiv_eq_ediv_of_nonneg (by omega), ← Int.natCast_ediv]
  generalize n / m = q at hq
  apply Int.bmod_eq_of_le <;> omega
theorem lN_mod {n m : Nat} (hn : n < 2 ^ 31) (hm : m < 2 ^ 31) (h0 : 0 < m) : lN n - lN n / lN m * lN m = lN (n % m) := by
  rw [lN_div hn hm h0, lN_mul, lN_sub (Nat.div_mul_le_self n m)]
  congr 1
  have := Nat.div_add_mod n m
  rw [Nat.mul_comm] at this
  omega
theorem leapL {A : Hp} {y : Nat} (hy : y < 100000) : f_X9_isLeap A (lN y) = some (bI (isLp y)) := by
  unfold f_X9_isLeap k_X9_isLeap_30 isLp
  rw [show lN y - lN y / (4 : Int64) * 4 = lN (y % 4) from lN_mod (m := 4) (by omega) (by omega) (by omega), show lN y - lN y / (100 : Int64) * 100 = lN (y % 100) from lN_mod (m := 100) (by omega) (by omega) (by omega), show lN y - lN y / (400 : Int64) * 400 = lN (y % 400) from lN_mod (m := 400) (by omega) (by omega) (by omega)]
  have e : ∀ n, n < 2 ^ 31 → (lN n = 0 ↔ n = 0) := fun n hn => lN_eq (b := 0) hn (by omega)
  by_cases h1 : y % 4 = 0
  · rw [if_pos ((e _ (by omega)).mpr h1), decide_eq_true h1, Bool.true_and]
    by_cases h2 : y % 100 = 0
    · rw [if_pos ((e _ (by omega)).mpr h2), decide_eq_false (fun z => z h2), Bool.false_or, ifI]
      congr 2
      rw [decide_eq_decide]
      exact e _ (by omega)
    · rw [if_neg (fun z => h2 ((e _ (by omega)).mp z)), decide_eq_true h2, Bool.true_or]; rfl
  · rw [if_neg (fun z => h1 ((e _ (by omega)).mp z)), decide_eq_false h1, Bool.false_and]; rfl
theorem daysLt : ∀ m, m < 12 → m ≠ 1 → ¬ lN (m + 1) = (2 : Int64) ∧ (if lN (m + 1) = (4 : Int64) then (30 : Int64) else if lN (m + 1) = (6 : Int64) then 30 else if lN (m + 1) = (9 : Int64) then 30 else if lN (m + 1) = (11 : Int64) then 30 else 31) = lN (wdn (m + 1) - wdn m) := by decide +kernel
theorem daysL {A : Hp} {y m : Nat} (hy : y < 100000) (hm : m < 12) : f_X9_daysOf A (lN (m + 1)) (lN y) = some (lN (dys y m)) := by
  unfold f_X9_daysOf k_X9_daysOf_59 dys
  by_cases h1 : m = 1
  · rw [h1, if_pos (show lN (1 + 1) = (2 : Int64) from rfl), leapL hy, Option.bind_some]
    cases hl : isLp y
    · rw [if_pos (by rfl), if_neg (fun z => by cases z.2)]; rfl
    · rw [if_neg (by decide), if_pos ⟨rfl, rfl⟩]; rfl
  · have := daysLt m hm h1
    rw [if_neg this.1, ifS, ifS, ifS, ifS, this.2, if_neg (fun z => h1 z.1)]
def msm (y m : Nat) : Nat := (if 1 < m ∧ isLp y = true then 1 else 0) + wdn m
theorem msm_step (y : Nat) {m : Nat} (hm : m < 12) : msm y (m + 1) = msm y m + dys y m := by
  have := wdn_le m hm
  unfold msm dys
  by_cases h1 : m = 0
  · subst h1
    rw [if_neg (by omega), if_neg (by omega), if_neg (by omega)]; omega
  · by_cases h2 : m = 1
    · subst h2
      cases isLp y
      · rw [if_neg (fun z => by cases z.2), if_neg (fun z => by cases z.2), if_neg (fun z => by cases z.2)]; omega
      · rw [if_pos ⟨by omega, rfl⟩, if_neg (by omega), if_pos ⟨rfl, rfl⟩]; omega
    · cases isLp y
      · rw [if_neg (fun z => by cases z.2), if_neg (fun z => by cases z.2), if_neg (fun z => by cases z.2)]; omega
      · rw [if_pos ⟨by omega, rfl⟩, if_pos ⟨by omega, rfl⟩, if_neg (fun z => h2 z.1)]; omega
def yrs (y : Nat) : Nat := 365 * (y - 1970) + (lb y - lb 1970)
theorem lb_step {y : Nat} (h : 1 ≤ y) : lb (y + 1) = lb y + (if isLp y = true then 1 else 0) := by
  have hl : isLp y = true ↔ y % 4 = 0 ∧ (y % 100 ≠ 0 ∨ y % 400 = 0) := by
    unfold isLp
    rw [Bool.and_eq_true, Bool.or_eq_true, decide_eq_true_iff, decide_eq_true_iff, decide_eq_true_iff]
  unfold lb
  by_cases q : isLp y = true
  · rw [if_pos q]
    have := hl.mp q
    omega
  · rw [if_neg q]
    have : ¬ (y % 4 = 0 ∧ (y % 100 ≠ 0 ∨ y % 400 = 0)) := fun z => q (hl.mpr z)
    omega
theorem lb_mono {y : Nat} (h : 1970 ≤ y) : lb 1970 ≤ lb y := by
  unfold lb; omega
theorem yrs_step {y : Nat} (h : 1970 ≤ y) : yrs (y + 1) = yrs y + (if isLp y = true then 366 else 365) := by
  have h1 := lb_step (y := y) (by omega)
  have h2 := lb_mono h
  unfold yrs
  rw [h1]
  by_cases q : isLp y = true
  · rw [if_pos q, if_pos q]; omega
  · rw [if_neg q, if_neg q]; omega
section
variable {A : Hp} {M : Nat} {t : List Int32}
theorem Ms.yearL (h : Ms A M) {y H N S : Nat} (hy : y < 10000) (d1 : Nat) : ∀ e k fu, k + e = y → 1970 ≤ k → e < fu → k_X9_readsDate_292 M (lN y) (lN H) (lN N) (lN S) fu A (lN (d1 + yrs k)) (lN k) = some (hsL (hsI A 474 M 0 1) 475 M 0 (lN (86400 * (d1 + yrs y) + 3600 * H + 60 * N + S))) := by
  intro e
  induction e with
  | zero =>
    intro k fu h1 h2 h3
    obtain ⟨fu, rfl⟩ : ∃ f, fu = f + 1 := ⟨fu - 1, by omega⟩
    have : k = y := by omega
    subst this
    show k_X9_readsDate_292s M _ _ _ _ _ _ _ _ = _
    unfold k_X9_readsDate_292s
    rw [if_pos Int64.le_rfl, if_pos h.1, show (86400 : Int64) * lN (d1 + yrs k) = lN (86400 * (d1 + yrs k)) from lN_mul 86400 _, show (3600 : Int64) * lN H = lN (3600 * H) from lN_mul 3600 _, show (60 : Int64) * lN N = lN (60 * N) from lN_mul 60 _, lN_add, lN_add, lN_add]
  | succ e ih =>
    intro k fu h1 h2 h3
    obtain ⟨fu, rfl⟩ : ∃ f, fu = f + 1 := ⟨fu - 1, by omega⟩
    show k_X9_readsDate_292s M _ _ _ _ _ _ _ _ = _
    unfold k_X9_readsDate_292s k_X9_readsDate_319
    have e1 := ih (k + 1) fu (by omega) (by omega) (by omega)
    rw [yrs_step h2] at e1
    rw [if_neg (fun z => by have := (lN_le (by omega) (by omega)).mp z; omega), leapL (by omega), Option.bind_some, lN_1]
    cases hl : isLp k
    · rw [hl, if_neg (by decide)] at e1
      rw [if_pos (by rfl), show lN (d1 + yrs k) + (365 : Int64) = lN (d1 + yrs k + 365) from lN_add _ 365, Nat.add_assoc]
      exact e1
    · rw [hl, if_pos rfl] at e1
      rw [if_neg (by decide), show lN (d1 + yrs k) + (366 : Int64) = lN (d1 + yrs k + 366) from lN_add _ 366, Nat.add_assoc]
      exact e1
theorem Ms.monL (h : Ms A M) {y m H N S : Nat} (hy : y < 10000) (hy2 : 1970 ≤ y) (hm : m < 12) (d0 : Nat) : ∀ e k fu, k + e = m → e < fu → k_X9_readsDate_258 M (lN (m + 1)) (lN y) (lN H) (lN N) (lN S) fu A (lN (d0 + msm y k)) (lN (k + 1)) = some (hsL (hsI A 474 M 0 1) 475 M 0 (lN (86400 * (d0 + msm y m + yrs y) + 3600 * H + 60 * N + S))) := by
  intro e
  induction e with
  | zero =>
    intro k fu h1 h2
    obtain ⟨fu, rfl⟩ : ∃ f, fu = f + 1 := ⟨fu - 1, by omega⟩
    have : k = m := by omega
    subst this
    show k_X9_readsDate_258s M _ _ _ _ _ _ _ _ _ = _
    unfold k_X9_readsDate_258s
    rw [if_pos Int64.le_rfl]
    have := h.yearL (H := H) (N := N) (S := S) hy (d0 + msm y k) (y - 1970) 1970 FU (by omega) (by omega) (by unfold FU; omega)
    have e0 : yrs 1970 = 0 := by decide
    rw [e0, Nat.add_zero] at this
    exact this
  | succ e ih =>
    intro k fu h1 h2
    obtain ⟨fu, rfl⟩ : ∃ f, fu = f + 1 := ⟨fu - 1, by omega⟩
    show k_X9_readsDate_258s M _ _ _ _ _ _ _ _ _ = _
    unfold k_X9_readsDate_258s
    have e1 := ih (k + 1) fu (by omega) (by omega)
    rw [msm_step y (by omega)] at e1
    rw [if_neg (fun z => by have := (lN_le (by omega) (by omega)).mp z; omega), daysL (by omega) (by omega), Option.bind_some, lN_add, lN_1, Nat.add_assoc]
    exact e1
def oM (o : Option Nat) : Int64 := match o with
  | none => 0
  | some m => lN (m + 1)
theorem Ms.monthAt (h : Ms A M) (hM : Mw A M) (x : Tx A M t) {p : Nat} (hp : p + 2 < t.length) {s : List Int32} (g3 : g s 3 = g t p) (g4 : g s 4 = g t (p + 1)) (g5 : g s 5 = g t (p + 2)) : f_X9_monthAt A M (nI p) = some (oM (mon s)) := by
  have hx2 := x.2.1
  obtain ⟨m1, m2, m3⟩ := hM 18 (by omega)
  have m1 : hgR A 471 M 0 = M + 22 := m1
  have m2 : hsh A (M + 22) = (9, 36) := m2
  have m3 : ∀ i, i < 36 → hgI A 1033 (M + 22) i = g (wsc 3) i := m3
  have L : ∀ d m fu, m + d = 12 → d < fu → k_X9_monthAt_2 A M (nI p) fu (nI m) = some (oM (monD s d m)) := by
    intro d
    induction d with
    | zero =>
      intro m fu h1 h2
      obtain ⟨fu, rfl⟩ : ∃ f, fu = f + 1 := ⟨fu - 1, by omega⟩
      show k_X9_monthAt_2s A M _ _ _ = _
      unfold k_X9_monthAt_2s
      rw [if_pos (show (12 : Int32) ≤ nI m from nI_le (a := 12) (by omega) (by omega))]
      rfl
    | succ d ih =>
      intro m fu h1 h2
      obtain ⟨fu, rfl⟩ : ∃ f, fu = f + 1 := ⟨fu - 1, by omega⟩
      show k_X9_monthAt_2s A M _ _ _ = _
      unfold k_X9_monthAt_2s k_X9_monthAt_90
      rw [if_neg (show ¬ (12 : Int32) ≤ nI m from nI_ge (b := 12) (by omega) (by omega)), show (8400 : Int32) + nI p = nI (8400 + p) from nI_add 8400 p, h.gd (by omega), m1, m2, if_pos rfl, show (3 : Int32) * nI m = nI (3 * m) from nI_mul 3 m, if_pos ((nI_wix (by omega)).mpr (show 3 * m < 36 by omega)), h.vl (by omega), show mu A M (8400 + p) = _ from x.2.2.1 p (by omega), nI_clamp (by omega), m3 _ (by omega), nI_1, nI_1, if_pos (h.wx (by omega)), if_pos ((nI_wix (by omega)).mpr (show 3 * m + 1 < 36 by omega)), h.vl (by omega), show mu A M (8400 + p + 1) = _ from x.2.2.1 (p + 1) (by omega), nI_clamp (by omega), m3 _ (by omega), show nI (8400 + p) + (2 : Int32) = nI (8400 + p + 2) from nI_add _ 2, show nI (3 * m) + (2 : Int32) = nI (3 * m + 2) from nI_add _ 2, if_pos (h.wx (by omega)), if_pos ((nI_wix (by omega)).mpr (show 3 * m + 2 < 36 by omega)), h.vl (by omega), show mu A M (8400 + p + 2) = _ from x.2.2.1 (p + 2) (by omega), nI_clamp (by omega), m3 _ (by omega), nI_1, ih (m + 1) fu (by omega) (by omega), nI_l (by omega), lN_1]
      show _ = some (oM (if _ then _ else _))
      rw [g3, g4, g5]
      by_cases q1 : g t p = g (wsc 3) (3 * m)
      · rw [if_pos (by rw [q1])]
        by_cases q2 : g t (p + 1) = g (wsc 3) (3 * m + 1)
        · rw [if_pos (by rw [q2])]
          by_cases q3 : g t (p + 2) = g (wsc 3) (3 * m + 2)
          · rw [if_pos (by rw [q3]), if_pos ⟨q1, q2, q3⟩]; rfl
          · rw [if_neg (fun z => q3 (i64_inj.mp z)), if_neg (fun z => q3 z.2.2)]
        · rw [if_neg (fun z => q2 (i64_inj.mp z)), if_neg (fun z => q2 z.2.1)]
      · rw [if_neg (fun z => q1 (i64_inj.mp z)), if_neg (fun z => q1 z.1)]
  unfold f_X9_monthAt mon
  exact L 12 0 FU (by omega) (by unfold FU; omega)
def chn (od om oy oh oi os : Option Nat) : Option Nat := od.bind fun d => om.bind fun m => oy.bind fun y => oh.bind fun h => oi.bind fun mi => os.bind fun se => dFin y m d h mi se
theorem chn_none {od om oy oh oi os : Option Nat} (h : ∀ d m y H N S, od = some d → om = some m → oy = some y → oh = some H → oi = some N → os = some S → ¬ (1970 ≤ y ∧ 1 ≤ d ∧ d ≤ dys y m ∧ H ≤ 23 ∧ N ≤ 59 ∧ S ≤ 59)) : chn od om oy oh oi os = none := by
  unfold chn
  cases od with
  | none => rfl
  | some d => cases om with
    | none => rfl
    | some m => cases oy with
      | none => rfl
      | some y => cases oh with
        | none => rfl
        | some H => cases oi with
          | none => rfl
          | some N => cases os with
            | none => rfl
            | some S =>
              show dFin y m d H N S = none
              unfold dFin
              rw [if_neg (h d m y H N S rfl rfl rfl rfl rfl rfl)]
def dSt (A : Hp) (M : Nat) (o : Option Nat) : Hp := match o with
  | none => A
  | some n => hsL (hsI A 474 M 0 1) 475 M 0 (lN n)
theorem oL_in {o : Option Nat} {a b : Nat} (hb : ∀ n, o = some n → n < 2 ^ 31) (ha : a < 2 ^ 31) (hbb : b < 2 ^ 31) : f_X9_in A (oL o) (lN a) (lN b) = some (bI (match o with | none => false | some n => decide (a ≤ n ∧ n ≤ b))) := by
  cases o with
  | none =>
    rw [in_]
    congr 2
    apply decide_eq_false
    intro z
    have := z.1
    rw [Int64.le_iff_toInt_le, lN_toInt ha, show (oL none).toInt = -1 from by decide] at this
    omega
  | some n => exact inn_ (hb n rfl) ha hbb
theorem num_lt9 {s : List Int32} {a b n : Nat} (h9 : b - a ≤ 9) (h : num s a b = some n) : n < 10 ^ 9 := by
  have := numD_lt s (b - a) a 0 n h
  have hp : (10 : Nat) ^ (b - a) ≤ 10 ^ 9 := Nat.pow_le_pow_right (by omega) h9
  omega
theorem num_lt4 {s : List Int32} {a b n : Nat} (h9 : b - a ≤ 4) (h : num s a b = some n) : n < 10000 := by
  have := numD_lt s (b - a) a 0 n h
  have hp : (10 : Nat) ^ (b - a) ≤ 10 ^ 4 := Nat.pow_le_pow_right (by omega) h9
  omega
theorem Ms.readsDate (h : Ms A M) (hM : Mw A M) (x : Tx A M t) {c d : Nat} (hcd : c ≤ d) (hd : d ≤ t.length) : f_X9_readsDate A M (nI c) (nI d) = some (dSt A M (rdDate (sub t c d))) := by
  have hx2 := x.2.1
  have hlen : (sub t c d).length = d - c := by rw [sub_len]; omega
  unfold f_X9_readsDate rdDate dSig
  rw [pk_sub hcd]
  by_cases h20 : d - c = 20
  rotate_left
  · rw [if_neg (show ¬ nI (d - c) = (20 : Int32) from fun z => h20 ((nI_eq (b := 20) (by omega) (by omega)).mp z)), decide_eq_false (fun z => h20 (by omega)), if_neg (by decide)]
    rfl
  · rw [if_pos (show nI (d - c) = (20 : Int32) by rw [h20]; rfl)]
    have sgk : ∀ k, k < 20 → mu A M (8400 + c + k) = (g (sub t c d) k).toInt64 := fun k hk => by
      rw [sub_g (by omega), Nat.add_assoc]; exact x.2.2.1 (c + k) (by omega)
    have bad : ∀ {P : Prop} [Decidable P], ¬ P → some A = some (dSt A M (if decide P = true then chn (num (sub t c d) 0 2) (mon (sub t c d)) (num (sub t c d) 7 11) (num (sub t c d) 12 14) (num (sub t c d) 15 17) (num (sub t c d) 18 20) else none)) := by
      intro P _ hP
      rw [decide_eq_false hP, if_neg (by decide)]; rfl
    have ch : ∀ k n : Nat, (k < 20 ∧ n < 2 ^ 31) → ((g (sub t c d) k).toInt64 = lN n ↔ g (sub t c d) k = nI n) := fun k n hk => cq n hk.2
    show _ = some (dSt A M (if decide ((sub t c d).length = 20 ∧ g (sub t c d) 2 = 32 ∧ g (sub t c d) 6 = 32 ∧ g (sub t c d) 11 = 32 ∧ g (sub t c d) 14 = 58 ∧ g (sub t c d) 17 = 58) = true then chn (num (sub t c d) 0 2) (mon (sub t c d)) (num (sub t c d) 7 11) (num (sub t c d) 12 14) (num (sub t c d) 15 17) (num (sub t c d) 18 20) else none))
    rw [show (8400 : Int32) + nI c = nI (8400 + c) from nI_add 8400 c, show nI (8400 + c) + (2 : Int32) = nI (8400 + c + 2) from nI_add _ 2, show nI (8400 + c) + (6 : Int32) = nI (8400 + c + 6) from nI_add _ 6, show nI (8400 + c) + (11 : Int32) = nI (8400 + c + 11) from nI_add _ 11, show nI (8400 + c) + (14 : Int32) = nI (8400 + c + 14) from nI_add _ 14, show nI (8400 + c) + (17 : Int32) = nI (8400 + c + 17) from nI_add _ 17, h.gd (by omega), h.vl (by omega), sgk 2 (by omega)]
    by_cases s2 : g (sub t c d) 2 = 32
    rotate_left
    · rw [if_neg (show ¬ (g (sub t c d) 2).toInt64 = (32 : Int64) from fun z => s2 ((ch 2 32 (by omega)).mp z))]
      exact bad (fun z => s2 z.2.1)
    rw [if_pos (show (g (sub t c d) 2).toInt64 = (32 : Int64) from (ch 2 32 (by omega)).mpr s2), if_pos (h.wx (by omega)), h.vl (by omega), sgk 6 (by omega)]
    by_cases s6 : g (sub t c d) 6 = 32
    rotate_left
    · rw [if_neg (show ¬ (g (sub t c d) 6).toInt64 = (32 : Int64) from fun z => s6 ((ch 6 32 (by omega)).mp z))]
      exact bad (fun z => s6 z.2.2.1)
    rw [if_pos (show (g (sub t c d) 6).toInt64 = (32 : Int64) from (ch 6 32 (by omega)).mpr s6), if_pos (h.wx (by omega)), h.vl (by omega), sgk 11 (by omega)]
    by_cases s11 : g (sub t c d) 11 = 32
    rotate_left
    · rw [if_neg (show ¬ (g (sub t c d) 11).toInt64 = (32 : Int64) from fun z => s11 ((ch 11 32 (by omega)).mp z))]
      exact bad (fun z => s11 z.2.2.2.1)
    rw [if_pos (show (g (sub t c d) 11).toInt64 = (32 : Int64) from (ch 11 32 (by omega)).mpr s11), if_pos (h.wx (by omega)), h.vl (by omega), sgk 14 (by omega)]
    by_cases s14 : g (sub t c d) 14 = 58
    rotate_left
    · rw [if_neg (show ¬ (g (sub t c d) 14).toInt64 = (58 : Int64) from fun z => s14 ((ch 14 58 (by omega)).mp z))]
      exact bad (fun z => s14 z.2.2.2.2.1)
    rw [if_pos (show (g (sub t c d) 14).toInt64 = (58 : Int64) from (ch 14 58 (by omega)).mpr s14), if_pos (h.wx (by omega)), h.vl (by omega), sgk 17 (by omega)]
    by_cases s17 : g (sub t c d) 17 = 58
    rotate_left
    · rw [if_neg (show ¬ (g (sub t c d) 17).toInt64 = (58 : Int64) from fun z => s17 ((ch 17 58 (by omega)).mp z))]
      exact bad (fun z => s17 z.2.2.2.2.2)
    rw [if_pos (show (g (sub t c d) 17).toInt64 = (58 : Int64) from (ch 17 58 (by omega)).mpr s17), decide_eq_true ⟨by omega, s2, s6, s11, s14, s17⟩, if_pos rfl]
    have nm : ∀ a b : Nat, a ≤ b → b ≤ 20 → b - a ≤ 9 → f_X9_number A M (nI (c + a)) (nI (c + b)) = some (oL (num (sub t c d) a b)) := fun a b h1 h2 h3 => by
      rw [num_sub hd h1 (by omega)]; exact h.number x (by omega) (by omega) (by omega)
    rw [show nI c + (2 : Int32) = nI (c + 2) from nI_add c 2, show nI c + (3 : Int32) = nI (c + 3) from nI_add c 3, show nI c + (7 : Int32) = nI (c + 7) from nI_add c 7, show nI c + (11 : Int32) = nI (c + 11) from nI_add c 11, show nI c + (12 : Int32) = nI (c + 12) from nI_add c 12, show nI c + (14 : Int32) = nI (c + 14) from nI_add c 14, show nI c + (15 : Int32) = nI (c + 15) from nI_add c 15, show nI c + (17 : Int32) = nI (c + 17) from nI_add c 17, show nI c + (18 : Int32) = nI (c + 18) from nI_add c 18, show nI c + (20 : Int32) = nI (c + 20) from nI_add c 20, show f_X9_number A M (nI c) (nI (c + 2)) = _ from nm 0 2 (by omega) (by omega) (by omega), Option.bind_some, h.monthAt hM x (p := c + 3) (s := sub t c d) (by omega) (sub_g (by omega)) (sub_g (by omega)) (sub_g (by omega)), Option.bind_some, nm 7 11 (by omega) (by omega) (by omega), Option.bind_some, nm 12 14 (by omega) (by omega) (by omega), Option.bind_some, nm 15 17 (by omega) (by omega) (by omega), Option.bind_some, nm 18 20 (by omega) (by omega) (by omega), Option.bind_some]
    have b1 : ∀ n, num (sub t c d) 0 2 = some n → n < 2 ^ 31 := fun n hn => by have := num_lt4 (by omega) hn; omega
    have b2 : ∀ n, num (sub t c d) 7 11 = some n → n < 10000 := fun n hn => num_lt4 (by omega) hn
    have b3 : ∀ n, num (sub t c d) 12 14 = some n → n < 2 ^ 31 := fun n hn => by have := num_lt4 (by omega) hn; omega
    have b4 : ∀ n, num (sub t c d) 15 17 = some n → n < 2 ^ 31 := fun n hn => by have := num_lt4 (by omega) hn; omega
    have b5 : ∀ n, num (sub t c d) 18 20 = some n → n < 2 ^ 31 := fun n hn => by have := num_lt4 (by omega) hn; omega
    have b6 : ∀ m, mon (sub t c d) = some m → m < 12 := fun m hm => by have := monD_lt (sub t c d) 12 0 m hm; omega
    generalize num (sub t c d) 0 2 = od at *
    generalize num (sub t c d) 7 11 = oy at *
    generalize num (sub t c d) 12 14 = oh at *
    generalize num (sub t c d) 15 17 = oi at *
    generalize num (sub t c d) 18 20 = os at *
    generalize mon (sub t c d) = om at *
    have no : (∀ d m y H N S, od = some d → om = some m → oy = some y → oh = some H → oi = some N → os = some S → ¬ (1970 ≤ y ∧ 1 ≤ d ∧ d ≤ dys y m ∧ H ≤ 23 ∧ N ≤ 59 ∧ S ≤ 59)) → some A = some (dSt A M (chn od om oy oh oi os)) := fun z => by rw [chn_none z]; rfl
    cases om with
    | none => rw [if_pos (by rfl)]; exact no (fun _ _ _ _ _ _ _ z => by cases z)
    | some m =>
      have hm := b6 m rfl
      rw [if_neg (show ¬ oM (some m) = (0 : Int64) from fun z => by have := (lN_eq (b := 0) (by omega) (by omega)).mp z; omega)]
      cases oy with
      | none => rw [if_pos (by decide)]; exact no (fun _ _ _ _ _ _ _ _ z => by cases z)
      | some y =>
        have hy := b2 y rfl
        by_cases h70 : 1970 ≤ y
        rotate_left
        · rw [if_pos (show oL (some y) < (1970 : Int64) from (lN_lt (b := 1970) (by omega) (by omega)).mpr (by omega))]
          exact no (fun _ _ y' _ _ _ _ _ z _ _ _ w => by cases z; omega)
        rw [if_neg (show ¬ oL (some y) < (1970 : Int64) from fun z => by have := (lN_lt (b := 1970) (by omega) (by omega)).mp z; omega), show f_X9_daysOf A (oM (some m)) (oL (some y)) = _ from daysL (by omega) hm, Option.bind_some]
        have hdl : dys y m < 2 ^ 31 := by unfold dys; have := wdn_le m hm; split <;> omega
        rw [show f_X9_in A (oL od) (1 : Int64) (lN (dys y m)) = _ from oL_in (a := 1) b1 (by omega) hdl, Option.bind_some]
        cases od with
        | none => rw [if_pos (by rfl)]; exact no (fun _ _ _ _ _ _ z => by cases z)
        | some D =>
          by_cases hD : 1 ≤ D ∧ D ≤ dys y m
          rotate_left
          · rw [if_pos (show bI (decide (1 ≤ D ∧ D ≤ dys y m)) = 0 by rw [decide_eq_false hD]; rfl)]
            exact no (fun _ _ _ _ _ _ z1 z2 z3 _ _ _ w => by cases z1; cases z2; cases z3; exact hD ⟨w.2.1, w.2.2.1⟩)
          rw [if_neg (show ¬ bI (decide (1 ≤ D ∧ D ≤ dys y m)) = 0 by rw [decide_eq_true hD]; decide), show f_X9_in A (oL oh) (0 : Int64) (23 : Int64) = _ from oL_in (a := 0) (b := 23) b3 (by omega) (by omega), Option.bind_some]
          cases oh with
          | none => rw [if_pos (by rfl)]; exact no (fun _ _ _ _ _ _ _ _ _ z => by cases z)
          | some H =>
            by_cases hH : 0 ≤ H ∧ H ≤ 23
            rotate_left
            · rw [if_pos (show bI (decide (0 ≤ H ∧ H ≤ 23)) = 0 by rw [decide_eq_false hH]; rfl)]
              exact no (fun _ _ _ _ _ _ _ _ _ z _ _ w => by cases z; omega)
            rw [if_neg (show ¬ bI (decide (0 ≤ H ∧ H ≤ 23)) = 0 by rw [decide_eq_true hH]; decide), show f_X9_in A (oL oi) (0 : Int64) (59 : Int64) = _ from oL_in (a := 0) (b := 59) b4 (by omega) (by omega), Option.bind_some]
            cases oi with
            | none => rw [if_pos (by rfl)]; exact no (fun _ _ _ _ _ _ _ _ _ _ z => by cases z)
            | some N =>
              by_cases hN : 0 ≤ N ∧ N ≤ 59
              rotate_left
              · rw [if_pos (show bI (decide (0 ≤ N ∧ N ≤ 59)) = 0 by rw [decide_eq_false hN]; rfl)]
                exact no (fun _ _ _ _ _ _ _ _ _ _ z _ w => by cases z; omega)
              rw [if_neg (show ¬ bI (decide (0 ≤ N ∧ N ≤ 59)) = 0 by rw [decide_eq_true hN]; decide), show f_X9_in A (oL os) (0 : Int64) (59 : Int64) = _ from oL_in (a := 0) (b := 59) b5 (by omega) (by omega), Option.bind_some]
              cases os with
              | none => rw [if_pos (by rfl)]; exact no (fun _ _ _ _ _ _ _ _ _ _ _ z => by cases z)
              | some S =>
                by_cases hS : 0 ≤ S ∧ S ≤ 59
                rotate_left
                · rw [if_pos (show bI (decide (0 ≤ S ∧ S ≤ 59)) = 0 by rw [decide_eq_false hS]; rfl)]
                  exact no (fun _ _ _ _ _ _ _ _ _ _ _ z w => by cases z; omega)
                rw [if_neg (show ¬ bI (decide (0 ≤ S ∧ S ≤ 59)) = 0 by rw [decide_eq_true hS]; decide)]
                have e1 := h.monL (y := y) (m := m) (H := H) (N := N) (S := S) hy h70 hm (D - 1) m 0 FU (by omega) (by unfold FU; omega)
                have e0 : msm y 0 = 0 := by unfold msm; rw [if_neg (by omega)]; rfl
                rw [e0, Nat.add_zero] at e1
                rw [show oL (some D) - (1 : Int64) = lN (D - 1) from lN_sub (b := 1) hD.1]
                refine Eq.trans e1 ?_
                show _ = some (dSt A M (dFin y m D H N S))
                unfold dFin
                rw [if_pos ⟨h70, hD.1, hD.2, hH.2, hN.2, hS.2⟩]
                show _ = some (hsL (hsI A 474 M 0 1) 475 M 0 (lN ((((dayN y m + D - 1) * 24 + H) * 60 + N) * 60 + S)))
                have : 86400 * (D - 1 + msm y m + yrs y) + 3600 * H + 60 * N + S = (((dayN y m + D - 1) * 24 + H) * 60 + N) * 60 + S := by
                  have : D - 1 + msm y m + yrs y = dayN y m + D - 1 := by
                    have := hD.1
                    unfold msm yrs dayN
                    omega
                  rw [this]
                  omega
                rw [this]
end
