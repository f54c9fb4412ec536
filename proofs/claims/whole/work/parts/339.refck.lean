/-! the reference: its cookies -/
def KyM (μ : Nat → Int64) (c : Nat) (v : CkV) : Prop :=
  (μ c = lN (cN v).length ∧ μ (c + 1) = lN (cV v).length ∧ μ (c + 2) = lN (cD v).length ∧ μ (c + 3) = lN (cP v).length) ∧ μ (c + 8) = lB (cH v) ∧
  (Sg μ (c + 14) (cN v) ∧ Sg μ (c + 30) (cV v) ∧ Sg μ (c + 62) (cD v) ∧ Sg μ (c + 92) (cP v)) ∧
  (cN v).length ≤ 16 ∧ (cV v).length ≤ 32 ∧ (cD v).length ≤ 30 ∧ (cP v).length ≤ 40
theorem CkM.ky {μ : Nat → Int64} {c : Nat} {v : CkV} (h : CkM μ c v) : KyM μ c v := ⟨h.1, h.2.2.1.1, h.2.2.2.1, h.2.2.2.2⟩
theorem KyM.congr {μ ν : Nat → Int64} {c : Nat} {v : CkV} (h : KyM μ c v) (e : ∀ k, c ≤ k → k < c + 4 ∨ k = c + 8 ∨ c + 14 ≤ k → k < c + 140 → ν k = μ k) : KyM ν c v := by
  obtain ⟨⟨a1, a2, a3, a4⟩, b, ⟨d1, d2, d3, d4⟩, l1, l2, l3, l4⟩ := h
  exact ⟨⟨(e _ (by omega) (by omega) (by omega)).trans a1, (e _ (by omega) (by omega) (by omega)).trans a2, (e _ (by omega) (by omega) (by omega)).trans a3, (e _ (by omega) (by omega) (by omega)).trans a4⟩, (e _ (by omega) (by omega) (by omega)).trans b, ⟨d1.congr (fun k h1 h2 => e k (by omega) (by omega) (by omega)), d2.congr (fun k h1 h2 => e k (by omega) (by omega) (by omega)), d3.congr (fun k h1 h2 => e k (by omega) (by omega) (by omega)), d4.congr (fun k h1 h2 => e k (by omega) (by omega) (by omega))⟩, l1, l2, l3, l4⟩
def sky (u v : CkV) : Bool := decide (cN u = cN v) && (decide (cH u = cH v) && (decide (cD u = cD v) && decide (cP u = cP v)))
def eld (f : CkV) : List CkV → Nat → Option Nat
  | [], _ => none
  | c :: cs, i => if sky c f then some i else eld f cs (i + 1)
theorem ck_ {A : Hp} (i : Nat) : f_X9_cookie A (nI i) = some (nI (2500 + 140 * i)) := by
  unfold f_X9_cookie
  rw [show (140 : Int32) * nI i = nI (140 * i) from nI_mul 140 i, show (2500 : Int32) + nI (140 * i) = nI (2500 + 140 * i) from nI_add 2500 _]
/-- the expiry of a cookie is a time, or -1 -/
def okE (c : CkV) : Prop := -1 ≤ (cE c).toInt ∧ (cE c).toInt < 2 ^ 50
theorem okE_m1 {c : CkV} (h : okE c) : cE c = -1 ↔ cE c < 0 := by
  unfold okE at h
  rw [Int64.lt_iff_toInt_lt, Int64.toInt_zero, ← Int64.toInt_inj, show (-1 : Int64).toInt = -1 by decide]
  omega
section
variable {A : Hp} {M a b : Nat} {u v : CkV}
theorem Ms.haveOneName (h : Ms A M) (hu : KyM (mu A M) a u) (hv : KyM (mu A M) b v) (ha : a + 140 ≤ 9000) (hb : b + 140 ≤ 9000) : f_X9_haveOneName A M (nI a) (nI b) = some (bI (decide (cN u = cN v))) := by
  have l1 := hu.2.2.2.1
  have l2 := hv.2.2.2.1
  unfold f_X9_haveOneName
  rw [h.gd (by omega), if_pos (h.wx (by omega)), h.vl (by omega), h.vl (by omega), show mu A M a = _ from hu.1.1, show mu A M b = _ from hv.1.1, lN_i, lN_i, show nI a + (14 : Int32) = nI (a + 14) from nI_add a 14, show nI b + (14 : Int32) = nI (b + 14) from nI_add b 14, h.areLike hu.2.2.1.1 hv.2.2.1.1 (by omega) (by omega), Option.bind_some, if_pos (bI_Z _)]
theorem Ms.areOne (h : Ms A M) (hu : KyM (mu A M) a u) (hv : KyM (mu A M) b v) (ha : a + 140 ≤ 9000) (hb : b + 140 ≤ 9000) : f_X9_areOne A M (nI a) (nI b) = some (bI (sky u v)) := by
  have l1 := hu.2.2.2
  have l2 := hv.2.2.2
  unfold f_X9_areOne k_X9_areOne_35 k_X9_areOne_36 sky
  rw [if_pos h.1, h.haveOneName hu hv ha hb, Option.bind_some, show nI a + (8 : Int32) = nI (a + 8) from nI_add a 8, show nI b + (8 : Int32) = nI (b + 8) from nI_add b 8, show nI a + (2 : Int32) = nI (a + 2) from nI_add a 2, show nI b + (2 : Int32) = nI (b + 2) from nI_add b 2, show nI a + (3 : Int32) = nI (a + 3) from nI_add a 3, show nI b + (3 : Int32) = nI (b + 3) from nI_add b 3, show nI a + (62 : Int32) = nI (a + 62) from nI_add a 62, show nI b + (62 : Int32) = nI (b + 62) from nI_add b 62, show nI a + (92 : Int32) = nI (a + 92) from nI_add a 92, show nI b + (92 : Int32) = nI (b + 92) from nI_add b 92]
  by_cases q1 : cN u = cN v
  · rw [decide_eq_true q1, if_neg (by decide), if_pos h.a11, if_pos (h.wx (by omega)), if_pos (h.wx (by omega)), h.vl (by omega), h.vl (by omega), show mu A M (a + 8) = _ from hu.2.1, show mu A M (b + 8) = _ from hv.2.1, Bool.true_and]
    by_cases q2 : cH u = cH v
    · rw [if_pos (lB_eq.mpr q2), decide_eq_true q2, Bool.true_and, if_neg (show ¬ (1 : Int32) = 0 by decide), if_pos h.1, if_pos h.a11, if_pos (h.wx (by omega)), if_pos (h.wx (by omega)), h.vl (by omega), h.vl (by omega), show mu A M (a + 2) = _ from hu.1.2.2.1, show mu A M (b + 2) = _ from hv.1.2.2.1, lN_i, lN_i, h.areLike hu.2.2.1.2.2.1 hv.2.2.1.2.2.1 (by omega) (by omega), Option.bind_some]
      by_cases q3 : cD u = cD v
      · rw [decide_eq_true q3, if_neg (by decide), Bool.true_and, if_pos (h.wx (by omega)), if_pos (h.wx (by omega)), h.vl (by omega), h.vl (by omega), show mu A M (a + 3) = _ from hu.1.2.2.2, show mu A M (b + 3) = _ from hv.1.2.2.2, lN_i, lN_i, h.areLike hu.2.2.1.2.2.2 hv.2.2.1.2.2.2 (by omega) (by omega), Option.bind_some]
        cases decide (cP u = cP v) <;> rfl
      · rw [decide_eq_false q3, if_pos (by rfl), Bool.false_and]; rfl
    · rw [if_neg (fun z => q2 (lB_eq.mp z)), decide_eq_false q2, Bool.false_and, if_pos rfl]; rfl
  · rw [decide_eq_false q1, if_pos (by rfl), Bool.false_and, if_pos rfl]; rfl
theorem Ms.isSentAhead (h : Ms A M) (hu : CkM (mu A M) a u) (hv : CkM (mu A M) b v) (ha : a + 140 ≤ 9000) (hb : b + 140 ≤ 9000) (su : cS u < 100000) (sv : cS v < 100000) : f_X9_isSentAhead A M (nI a) (nI b) = some (bI (sntB u v)) := by
  have l1 := hu.2.2.2.2
  have l2 := hv.2.2.2.2
  unfold f_X9_isSentAhead k_X9_isSentAhead_62 sntB
  rw [show nI a + (3 : Int32) = nI (a + 3) from nI_add a 3, show nI b + (3 : Int32) = nI (b + 3) from nI_add b 3, show nI a + (7 : Int32) = nI (a + 7) from nI_add a 7, show nI b + (7 : Int32) = nI (b + 7) from nI_add b 7, h.gd (by omega), if_pos (h.wx (by omega)), h.vl (by omega), h.vl (by omega), show mu A M (a + 3) = _ from hu.1.2.2.2, show mu A M (b + 3) = _ from hv.1.2.2.2, if_pos (h.wx (by omega)), if_pos (h.wx (by omega)), h.vl (by omega), h.vl (by omega), show mu A M (a + 7) = _ from hu.2.1.2.2.2, show mu A M (b + 7) = _ from hv.2.1.2.2.2]
  by_cases q1 : (cP u).length = (cP v).length
  · rw [if_neg (fun z => by have := (lN_lt (by omega) (by omega)).mp z; omega), if_pos (by rw [q1]), if_pos q1]
    by_cases q2 : cS u < cS v
    · rw [if_neg (fun z => by have := (lN_le (by omega) (by omega)).mp z; omega), decide_eq_true q2]; rfl
    · rw [if_pos ((lN_le (by omega) (by omega)).mpr (by omega)), decide_eq_false q2]; rfl
  · rw [if_neg q1]
    by_cases q2 : (cP v).length < (cP u).length
    · rw [if_pos ((lN_lt (by omega) (by omega)).mpr q2), decide_eq_true q2]; rfl
    · rw [if_neg (fun z => q2 ((lN_lt (by omega) (by omega)).mp z)), if_neg (fun z => q1 ((lN_eq (by omega) (by omega)).mp z)), decide_eq_false q2]; rfl
theorem Ms.isAhead (h : Ms A M) (hu : KyM (mu A M) a u) (hv : KyM (mu A M) b v) (ha : a + 140 ≤ 9000) (hb : b + 140 ≤ 9000) (du : isDom (cD u) = true) (dv : isDom (cD v) = true) : f_X9_isAhead A M (nI a) (nI b) = some (bI (decide (ccmp u v < 0))) := by
  have l1 := hu.2.2.2
  have l2 := hv.2.2.2
  have k104 : ∀ o : Int32, (o = 0 → ccmp u v = if cH u = cH v then 0 else if cH u then 1 else -1) → (o ≠ 0 → ccmp u v = o) → k_X9_isAhead_104 A M (nI a) (nI b) o = some (bI (decide (ccmp u v < 0))) := by
    intro o h1 h2
    unfold k_X9_isAhead_104 k_X9_isAhead_135
    by_cases q0 : o = 0
    · rw [q0, if_neg (by decide), if_pos rfl, show nI a + (8 : Int32) = nI (a + 8) from nI_add a 8, show nI b + (8 : Int32) = nI (b + 8) from nI_add b 8, h.gd (by omega), if_pos (h.wx (by omega)), h.vl (by omega), h.vl (by omega), show mu A M (a + 8) = _ from hu.2.1, show mu A M (b + 8) = _ from hv.2.1, h1 q0]
      cases cH u <;> cases cH v <;> decide
    · rw [h2 q0]
      by_cases ql : o < 0
      · rw [if_pos ql, decide_eq_true ql]; rfl
      · rw [if_neg ql, if_neg q0, decide_eq_false ql]; rfl
  unfold f_X9_isAhead
  rw [show nI a + (2 : Int32) = nI (a + 2) from nI_add a 2, show nI b + (2 : Int32) = nI (b + 2) from nI_add b 2, show nI a + (62 : Int32) = nI (a + 62) from nI_add a 62, show nI b + (62 : Int32) = nI (b + 62) from nI_add b 62, show nI a + (3 : Int32) = nI (a + 3) from nI_add a 3, show nI b + (3 : Int32) = nI (b + 3) from nI_add b 3, show nI a + (92 : Int32) = nI (a + 92) from nI_add a 92, show nI b + (92 : Int32) = nI (b + 92) from nI_add b 92, h.gd (by omega), if_pos (h.wx (by omega)), h.vl (by omega), h.vl (by omega), show mu A M (a + 2) = _ from hu.1.2.2.1, show mu A M (b + 2) = _ from hv.1.2.2.1, lN_i, lN_i, h.orderedDomains hu.2.2.1.2.2.1 hv.2.2.1.2.2.1 (by omega) (by omega) du dv, Option.bind_some, if_pos (h.wx (by omega)), if_pos (h.wx (by omega)), h.vl (by omega), h.vl (by omega), show mu A M (a + 3) = _ from hu.1.2.2.2, show mu A M (b + 3) = _ from hv.1.2.2.2, lN_i, lN_i, h.ordered hu.2.2.1.2.2.2 hv.2.2.1.2.2.2 (by omega) (by omega), Option.bind_some]
  unfold k_X9_isAhead_69
  rw [show nI a + (14 : Int32) = nI (a + 14) from nI_add a 14, show nI b + (14 : Int32) = nI (b + 14) from nI_add b 14, h.gd (by omega), if_pos (h.wx (by omega)), h.vl (by omega), h.vl (by omega), show mu A M a = _ from hu.1.1, show mu A M b = _ from hv.1.1, lN_i, lN_i, h.ordered hu.2.2.1.1 hv.2.2.1.1 (by omega) (by omega), Option.bind_some]
  by_cases q1 : dcmp (cD u) (cD v) = 0
  · rw [if_pos q1]
    by_cases q2 : scmp (cP u) (cP v) = 0
    · rw [if_pos q2]
      refine k104 _ (fun z => ?_) (fun z => ?_)
      · unfold ccmp; rw [if_neg (fun w => w q1), if_neg (fun w => w q2), if_neg (fun w => w z)]
      · unfold ccmp; rw [if_neg (fun w => w q1), if_neg (fun w => w q2), if_pos z]
    · rw [if_neg q2]
      refine k104 _ (fun z => absurd z q2) (fun z => ?_)
      unfold ccmp; rw [if_neg (fun w => w q1), if_pos z]
  · rw [if_neg q1, if_neg q1]
    refine k104 _ (fun z => absurd z q1) (fun z => ?_)
    unfold ccmp; rw [if_pos z]
def wth (p : Nat) (v : CkV) : Int64 := if p = 0 then cA v else if p = 1 then cC v else if p = 2 then (if 0 ≤ cE v then cE v else 9000000000000000000) else 0 - lN ((cN v).length + (cV v).length)
theorem Ms.worth (h : Ms A M) (hu : CkM (mu A M) a u) (ha : a + 140 ≤ 9000) {p : Nat} (hp : mu A M 4 = lN p) (h3 : p ≤ 3) : f_X9_worth A M (nI a) = some (wth p u) := by
  have l1 := hu.2.2.2.2
  have e : ∀ n, n < 2 ^ 31 → (lN p = lN n ↔ p = n) := fun n hn => lN_eq (by omega) hn
  unfold f_X9_worth wth f_X9_sizeOf
  rw [show (4 : Int32) = nI 4 from rfl, h.gd (by omega), h.vl (by omega), hp, show nI a + (6 : Int32) = nI (a + 6) from nI_add a 6, show nI a + (5 : Int32) = nI (a + 5) from nI_add a 5, nI_add a 4, if_pos (h.wx (by omega)), if_pos (h.wx (by omega)), if_pos (h.wx (by omega)), h.vl (by omega), h.vl (by omega), h.vl (by omega), show mu A M (a + 6) = _ from hu.2.1.2.2.1, show mu A M (a + 5) = _ from hu.2.1.2.1, show mu A M (a + 4) = _ from hu.2.1.1]
  by_cases q0 : p = 0
  · rw [if_pos (show lN p = (0 : Int64) from (e 0 (by omega)).mpr q0), if_pos q0]
  rw [if_neg (show ¬ lN p = (0 : Int64) from fun z => q0 ((e 0 (by omega)).mp z)), if_neg q0]
  by_cases q1 : p = 1
  · rw [if_pos (show lN p = (1 : Int64) from (e 1 (by omega)).mpr q1), if_pos q1]
  rw [if_neg (show ¬ lN p = (1 : Int64) from fun z => q1 ((e 1 (by omega)).mp z)), if_neg q1]
  by_cases q2 : p = 2
  · rw [if_pos (show lN p = (2 : Int64) from (e 2 (by omega)).mpr q2), if_pos q2, ifS]
  rw [if_neg (show ¬ lN p = (2 : Int64) from fun z => q2 ((e 2 (by omega)).mp z)), if_neg q2, h.gd (by omega), nI_1, if_pos (h.wx (by omega)), h.vl (by omega), h.vl (by omega), show mu A M a = _ from hu.1.1, show mu A M (a + 1) = _ from hu.1.2.1, lN_add]
  rfl
theorem wth_wgt {p : Nat} (h : p ≤ 3) (ou : okE u) (ov : okE v) (l1 : (cN u).length ≤ 16 ∧ (cV u).length ≤ 32) (l2 : (cN v).length ≤ 16 ∧ (cV v).length ≤ 32) : (wth p u = wth p v ↔ wgt p u = wgt p v) ∧ (wth p u < wth p v ↔ wgt p u < wgt p v) := by
  unfold wth wgt
  by_cases q0 : p = 0
  · rw [if_pos q0, if_pos q0, if_pos q0, if_pos q0]; exact ⟨Iff.rfl, Iff.rfl⟩
  rw [if_neg q0, if_neg q0, if_neg q0, if_neg q0]
  by_cases q1 : p = 1
  · rw [if_pos q1, if_pos q1, if_pos q1, if_pos q1]; exact ⟨Iff.rfl, Iff.rfl⟩
  rw [if_neg q1, if_neg q1, if_neg q1, if_neg q1]
  by_cases q2 : p = 2
  · rw [if_pos q2, if_pos q2, if_pos q2, if_pos q2]
    have e1 : ∀ c : CkV, okE c → ((if 0 ≤ cE c then cE c else (9000000000000000000 : Int64)).toInt = if (cE c).toInt = -1 then 9000000000000000000 else (cE c).toInt) ∧ ((if cE c = -1 then (9223372036854775807 : Int64) else cE c).toInt = if (cE c).toInt = -1 then 9223372036854775807 else (cE c).toInt) := by
      intro c hc
      unfold okE at hc
      have c1 : cE c = -1 ↔ (cE c).toInt = -1 := by rw [← Int64.toInt_inj, show (-1 : Int64).toInt = -1 by decide]
      have c2 : 0 ≤ cE c ↔ ¬ (cE c).toInt = -1 := by rw [Int64.le_iff_toInt_le, Int64.toInt_zero]; omega
      constructor
      · by_cases z : (cE c).toInt = -1
        · rw [if_neg (fun w => c2.mp w z), if_pos z]; decide
        · rw [if_pos (c2.mpr z), if_neg z]
      · by_cases z : (cE c).toInt = -1
        · rw [if_pos (c1.mpr z), if_pos z]; decide
        · rw [if_neg (fun w => z (c1.mp w)), if_neg z]
    have a1 := e1 u ou
    have a2 := e1 v ov
    unfold okE at ou ov
    rw [← Int64.toInt_inj, ← Int64.toInt_inj, Int64.lt_iff_toInt_lt, Int64.lt_iff_toInt_lt, a1.1, a1.2, a2.1, a2.2]
    constructor
    · split <;> split <;> omega
    · split <;> split <;> omega
  rw [if_neg q2, if_neg q2, if_neg q2, if_neg q2, neg64 (by omega), neg64 (by omega)]
  exact ⟨Iff.rfl, Iff.rfl⟩
theorem Ms.goesAhead (h : Ms A M) (hu : CkM (mu A M) a u) (hv : CkM (mu A M) b v) (ha : a + 140 ≤ 9000) (hb : b + 140 ≤ 9000) {p : Nat} (hp : mu A M 4 = lN p) (h3 : p ≤ 3) (okU : okv u) (okV : okv v) (ou : okE u) (ov : okE v) : f_X9_goesAhead A M (nI a) (nI b) = some (bI (vict p u v)) := by
  have l1 := hu.2.2.2.2
  have l2 := hv.2.2.2.2
  obtain ⟨-, -, su, -, ru⟩ := okU
  obtain ⟨-, -, sv, -, rv⟩ := okV
  have ww := wth_wgt h3 ou ov ⟨l1.1, l1.2.1⟩ ⟨l2.1, l2.2.1⟩
  unfold f_X9_goesAhead k_X9_goesAhead_142 vict
  rw [show nI a + (12 : Int32) = nI (a + 12) from nI_add a 12, show nI b + (12 : Int32) = nI (b + 12) from nI_add b 12, show nI a + (9 : Int32) = nI (a + 9) from nI_add a 9, show nI b + (9 : Int32) = nI (b + 9) from nI_add b 9, show nI a + (7 : Int32) = nI (a + 7) from nI_add a 7, show nI b + (7 : Int32) = nI (b + 7) from nI_add b 7, h.gd (by omega), if_pos (h.wx (by omega)), h.vl (by omega), h.vl (by omega), show mu A M (a + 12) = _ from hu.2.2.1.2.2.2.2, show mu A M (b + 12) = _ from hv.2.2.1.2.2.2.2, if_pos (h.wx (by omega)), if_pos (h.wx (by omega)), h.vl (by omega), h.vl (by omega), show mu A M (a + 9) = _ from hu.2.2.1.2.1, show mu A M (b + 9) = _ from hv.2.2.1.2.1, h.worth hu ha hp h3, h.worth hv hb hp h3, Option.bind_some, Option.bind_some, Option.bind_some, Option.bind_some, if_pos (h.wx (by omega)), if_pos (h.wx (by omega)), h.vl (by omega), h.vl (by omega), show mu A M (a + 7) = _ from hu.2.1.2.2.2, show mu A M (b + 7) = _ from hv.2.1.2.2.2]
  by_cases q1 : cR u = cR v
  · rw [if_pos (by rw [q1]), if_pos q1]
    by_cases q2 : cX u = cX v
    · rw [if_pos (by rw [q2]), if_pos q2]
      by_cases q3 : wgt p u = wgt p v
      · rw [if_neg (fun z => by have z := ww.2.mp z; rw [q3] at z; exact Int64.lt_irrefl z), if_pos (ww.1.mpr q3), if_pos q3]
        by_cases q4 : cS u < cS v
        · rw [if_neg (fun z => by have := (lN_le (by omega) (by omega)).mp z; omega), decide_eq_true q4]; rfl
        · rw [if_pos ((lN_le (by omega) (by omega)).mpr (by omega)), decide_eq_false q4]; rfl
      · rw [if_neg (fun z => q3 (ww.1.mp z)), if_neg q3]
        by_cases q4 : wgt p u < wgt p v
        · rw [if_pos (ww.2.mpr q4), decide_eq_true q4]; rfl
        · rw [if_neg (fun z => q4 (ww.2.mp z)), decide_eq_false q4]; rfl
    · rw [if_neg (fun z => q2 (lB_eq.mp z)), if_neg q2]
      cases hX : cX u
      · cases hY : cX v
        · rw [hX, hY] at q2; exact absurd rfl q2
        · rfl
      · cases hY : cX v
        · rfl
        · rw [hX, hY] at q2; exact absurd rfl q2
  · rw [if_neg (fun z => q1 ((lN_eq (by omega) (by omega)).mp z)), if_neg q1]
    by_cases q2 : cR u < cR v
    · rw [if_neg (fun z => by have := (lN_le (by omega) (by omega)).mp z; omega), decide_eq_true q2]; rfl
    · rw [if_pos ((lN_le (by omega) (by omega)).mpr (by omega)), decide_eq_false q2]; rfl
end
