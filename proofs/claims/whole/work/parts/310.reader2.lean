/-! the reader of the class: a whole text -/
theorem oneOf_ {A : Hp} {a : Nat} {x gv : List Int32} (h0 : Rd0 A a) (hx : RdX A a x gv) {i j k o : Nat} (hi : 1 ≤ i ∧ i ≤ 36) (hj : 1 ≤ j ∧ j ≤ 36) (hk : 1 ≤ k ∧ k ≤ 36) : f_X5_oneOf A a i j k (nI o) = some (nI (oneO gv i j k o)) := by
  unfold f_X5_oneOf oneO
  rw [if_pos h0.1, h0.2.2.2.2.2.2, if_pos hx.2.1.1, hx.2.is hi.1 hi.2, Option.bind_some, hx.2.is hj.1 hj.2, Option.bind_some, hx.2.is hk.1 hk.2, Option.bind_some]
  by_cases q1 : gv = wsc i
  · rw [decide_eq_true q1, if_neg (by decide), if_pos q1]; rfl
  · rw [decide_eq_false q1, if_pos (by rfl), if_neg q1]
    by_cases q2 : gv = wsc j
    · rw [decide_eq_true q2, if_neg (by decide), if_pos q2]; rfl
    · rw [decide_eq_false q2, if_pos (by rfl), if_neg q2]
      by_cases q3 : gv = wsc k
      · rw [decide_eq_true q3, if_neg (by decide), if_pos q3]; rfl
      · rw [decide_eq_false q3, if_pos (by rfl), if_neg q3]
theorem Rd.attr {A : Hp} {a r : Nat} {v : RdV} {t : List Int32} (h : Rd A a v) (k : Rw A r 160 t) (hr : ¬ rdP a r) {i b : Nat} (hib : i ≤ b) (hb : b ≤ t.length) : ∃ B, f_X5_readAttribute A a r (nI i) (nI b) = some B ∧ Rd B a (rdAttr t i b v) ∧ Rw B r 160 t ∧ Eqx (rdP a) A B := by
  obtain ⟨h0, hF, hR, x0, y0, hX⟩ := h
  have hl := k.2.2.1
  have hsg := fnd_le (s := t) (c := 61) hib
  have hne : ∀ q, a ≤ q → q < a + 13 → r ≠ q := fun q q1 q2 z => hr ⟨by omega, by omega⟩
  have sb : ∀ {A B : Hp} {d : Nat}, Eqx (rP (a + d)) A B → d < 12 → Eqx (rdP a) A B := fun e hd => e.mo (fun q hq => by rcases hq with z | z <;> (constructor <;> omega))
  have na : ∀ d, 1 ≤ d → ¬ rP (a + d) a := fun d hd z => by rcases z with z | z <;> omega
  have hsg2 : fnd t 61 i b = fnd t 61 i b := rfl
  obtain ⟨A1, e1, e2, e3, e4⟩ := hX.1.takeTrimmed k (hne _ (by omega) (by omega)) hsg.1 (by omega) (by omega) (by omega)
  have h0a := h0.eq e4 (na 9 (by omega))
  obtain ⟨A2, f1, f2, f3⟩ := e2.toSmall (by have := e2.2.2.1; omega)
  have h0b := h0a.eq f3 (na 9 (by omega))
  have kb := e2.ot e3 (hne _ (by omega) (by omega)) f3
  have yb := e2.ot (hX.1.ot hX.2 (by omega) e4) (by omega) f3
  obtain ⟨A3, g1, g2, g3, g4⟩ := yb.gvn kb (hne _ (by omega) (by omega)) hsg.2 hb (by omega) hl
  have h0c := h0b.eq g4 (na 11 (by omega))
  have xc := yb.ot f2 (by omega) g4
  have e14 : Eqx (rdP a) A A3 := ((sb e4 (by omega)).tr (sb f3 (by omega))).tr (sb g4 (by omega))
  have eF : Eqx (fun q => a + 9 ≤ q ∧ q < a + 13) A A3 := ((e4.mo (fun q hq => by rcases hq with z | z <;> omega)).tr (f3.mo (fun q hq => by rcases hq with z | z <;> omega))).tr (g4.mo (fun q hq => by rcases hq with z | z <;> omega))
  have hF3 := hF.eq eF (by omega)
  have hR3 := hR.eq eF (fun q q1 q2 => by omega)
  have hX3 : RdX A3 a (low (trm t i (fnd t 61 i b))) (gvS t (fnd t 61 i b) b) := ⟨xc, g2⟩
  unfold f_X5_readAttribute rdAttr
  rw [if_pos k.1.1, k.find 61 hib (by omega), Option.bind_some, if_pos h0.1, h0.2.2.2.2.2.1, if_pos hX.1.1.1, e1, Option.bind_some, if_pos h0a.1, h0a.2.2.2.2.2.1, if_pos e2.1.1, f1, Option.bind_some, if_pos h0b.1, h0b.2.2.2.2.2.2, if_pos yb.1.1, g1, Option.bind_some, if_pos h0c.1, h0c.2.2.2.2.2.1, if_pos xc.1.1]
  generalize low (trm t i (fnd t 61 i b)) = at' at hX3 xc
  generalize gvS t (fnd t 61 i b) b = gv at hX3 g2
  simp only [xc.is (n := 7) (by omega) (by omega), xc.is (n := 8) (by omega) (by omega), xc.is (n := 9) (by omega) (by omega), xc.is (n := 10) (by omega) (by omega), xc.is (n := 11) (by omega) (by omega), xc.is (n := 12) (by omega) (by omega), xc.is (n := 13) (by omega) (by omega), xc.is (n := 17) (by omega) (by omega), Option.bind_some]
  have e_a : ∀ {B : Hp}, Eqx (fun q => q = a) A3 B → Eqx (rdP a) A3 B := fun e => e.mo (fun q hq => by rw [hq]; constructor <;> omega)
  -- an end that changes fields of a alone
  have fin : ∀ (B : Hp) (w : RdV), Eqx (fun q => q = a) A3 B → Rd0 B a → RdF B a w → w.1 = v.1 → Rd B a w ∧ Rw B r 160 t ∧ Eqx (rdP a) A B := by
    intro B w e z0 zF hw
    refine ⟨⟨z0, zF, ?_, at', gv, hX3.eq e (fun q q1 q2 => by omega)⟩, g3.eq e (fun z => hr ⟨by omega, by omega⟩) (fun z => ?_), e14.tr (e_a e)⟩
    · unfold RdR
      rw [hw]
      exact hR3.eq e (fun q q1 q2 => by omega)
    · have z : r + 1 = a := z
      have t9 := k.1.2.2.1
      rw [z] at t9
      have t8 := h0.1
      rw [t9] at t8
      cases t8
  have f0 : ∀ {f j : Nat} {x : Int32}, Rd0 (hsI A3 f a j x) a := h0c
  unfold rdA2
  by_cases q7 : at' = wsc 7
  · rw [decide_eq_true q7, if_neg (by decide), if_pos q7]
    unfold f_X5_readExpires
    rw [if_pos h0c.1, h0c.2.2.2.2.2.2, g2.dread, Option.bind_some]
    cases hd : rdDate gv with
    | none =>
      rw [if_pos (by decide)]
      exact ⟨A3, rfl, fin A3 _ Eqx.rf h0c hF3 rfl⟩
    | some n =>
      have hn := rdDate_lt hd
      have hp : ¬ oL (some n) < 0 := by
        show ¬ lN n < 0
        rw [Int64.lt_iff_toInt_lt, show (lN n).toInt = (n : Int) from Int64.toInt_ofNat_of_lt (by omega)]
        have : (0 : Int64).toInt = 0 := by decide
        omega
      rw [if_neg hp]
      refine ⟨hsL A3 201 a 0 (oL (some n)), rfl, fin _ _ (Eqx.sL rfl) h0c ?_ rfl⟩
      obtain ⟨⟨a0, a1, a2, a3⟩, a4, a5, a6, a7⟩ := hF3
      exact ⟨⟨a0, a1, a2, by rw [hgL_sL, if_pos ⟨rfl, rfl, rfl⟩]; rfl⟩, a4, a5, a6, a7⟩
  rw [decide_eq_false q7, if_pos (by rfl), if_neg q7]
  by_cases q8 : at' = wsc 8
  · rw [decide_eq_true q8, if_neg (by decide), if_pos q8]
    obtain ⟨B, z1, z2, z3, z4⟩ := Rd.age h0c hF3 hX3
    rw [z1, Option.bind_some]
    obtain ⟨c0, c1, c2, c3, c4, c5, c6⟩ := h0c
    exact ⟨B, rfl, fin B _ z3 ⟨by rw [z3.2.1]; exact c0, by rw [z4]; exact c1, by rw [z4]; exact c2, by rw [z4]; exact c3, by rw [z4]; exact c4, by rw [z4]; exact c5, by rw [z4]; exact c6⟩ z2 rfl⟩
  rw [decide_eq_false q8, if_pos (by rfl), if_neg q8]
  by_cases q9 : at' = wsc 9
  · rw [decide_eq_true q9, if_neg (by decide), if_pos q9]
    unfold f_X5_readDomain
    rw [if_pos h0c.1, h0c.2.2.2.2.2.2, if_pos g2.1.1, show f_X6_at A3 (a + 11) 0 = some (g gv 0) from g2.at (i := 0) (by omega), Option.bind_some]
    have hgl := g2.2.2.1
    have key : ∀ f, f ≤ 1 → rdDm gv = (if f < gv.length then some (low (sub gv f gv.length)) else none) → ∃ B, (k_X5_readDomain_18 A3 a (nI f)).bind (fun A57 => some A57) = some B ∧ Rd B a ((v.1.1, v.1.2.1, (rdDm gv).getD v.1.2.2.1, v.1.2.2.2), v.2) ∧ Rw B r 160 t ∧ Eqx (rdP a) A B := by
      intro f hf hdm
      rw [hdm]
      unfold k_X5_readDomain_18
      rw [if_pos h0c.1, h0c.2.2.2.2.2.2, if_pos g2.1.1, g2.2.1]
      by_cases hlt : f < gv.length
      · rw [if_neg (nI_ge hlt (by omega)), if_pos hlt, h0c.2.2.2.1, if_pos hR3.2.2.1.1.1]
        obtain ⟨B, z1, z2, z3, z4⟩ := hR3.2.2.1.take g2 (by omega) (by omega) (a := f) (b := gv.length) (by omega) (by omega) (by omega)
        have w0 := h0c.eq z4 (na 5 (by omega))
        obtain ⟨C, y1, y2, y3⟩ := z2.toSmall (by have := z2.2.2.1; omega)
        have w1 := w0.eq y3 (na 5 (by omega))
        rw [z1, Option.bind_some, if_pos w0.1, w0.2.2.2.1, if_pos z2.1.1, y1]
        have zz := z4.tr y3
        have n5 : ∀ q, q ≠ a + 5 → q ≠ a + 6 → ¬ rP (a + 5) q := fun q q1 q2 z => by rcases z with z | z <;> omega
        refine ⟨C, rfl, ⟨w1, hF3.eq zz (n5 _ (by omega) (by omega)), ⟨hR3.1.eq zz (n5 _ (by omega) (by omega)) (n5 _ (by omega) (by omega)), hR3.2.1.eq zz (n5 _ (by omega) (by omega)) (n5 _ (by omega) (by omega)), y2, hR3.2.2.2.eq zz (n5 _ (by omega) (by omega)) (n5 _ (by omega) (by omega))⟩, at', gv, hX3.eq zz (fun q q1 q2 => n5 _ (by omega) (by omega))⟩, z2.ot (hR3.2.2.1.ot g3 (hne _ (by omega) (by omega)) z4) (hne _ (by omega) (by omega)) y3, e14.tr (sb zz (by omega))⟩
      · rw [if_pos (nI_le (by omega) (by omega)), if_neg hlt]
        exact ⟨A3, rfl, fin A3 _ Eqx.rf h0c hF3 rfl⟩
    by_cases h46 : g gv 0 = 46
    · rw [if_pos h46]
      exact key 1 (by omega) (by unfold rdDm; rw [if_pos h46])
    · rw [if_neg h46]
      exact key 0 (by omega) (by unfold rdDm; rw [if_neg h46])
  rw [decide_eq_false q9, if_pos (by rfl), if_neg q9]
  by_cases q10 : at' = wsc 10
  · rw [decide_eq_true q10, if_neg (by decide), if_pos q10]
    have hgl := g2.2.2.1
    unfold f_X5_readPath
    rw [if_pos h0c.1, h0c.2.2.2.2.2.2, if_pos g2.1.1, show f_X6_at A3 (a + 11) 0 = some (g gv 0) from g2.at (i := 0) (by omega), Option.bind_some, g2.2.1]
    by_cases h47 : g gv 0 = 47
    · rw [if_pos h47]
      by_cases h40 : gv.length ≤ 40
      · rw [if_neg (show ¬ (40 : Int32) < nI gv.length from nI_nlt (a := 40) h40 (by omega)), h0c.2.2.2.2.1, if_pos hR3.2.2.2.1.1, if_pos (show g gv 0 = 47 ∧ gv.length ≤ 40 from ⟨h47, h40⟩)]
        obtain ⟨B, z1, z2, z3, z4⟩ := hR3.2.2.2.copy g2 (by omega) (by omega) h40
        rw [z1]
        have n5 : ∀ q, q ≠ a + 7 → q ≠ a + 8 → ¬ rP (a + 7) q := fun q q1 q2 z => by rcases z with z | z <;> omega
        exact ⟨B, rfl, ⟨h0c.eq z4 (na 7 (by omega)), hF3.eq z4 (n5 _ (by omega) (by omega)), ⟨hR3.1.eq z4 (n5 _ (by omega) (by omega)) (n5 _ (by omega) (by omega)), hR3.2.1.eq z4 (n5 _ (by omega) (by omega)) (n5 _ (by omega) (by omega)), hR3.2.2.1.eq z4 (n5 _ (by omega) (by omega)) (n5 _ (by omega) (by omega)), z2⟩, at', gv, hX3.eq z4 (fun q q1 q2 => n5 _ (by omega) (by omega))⟩, hR3.2.2.2.ot g3 (hne _ (by omega) (by omega)) z4, e14.tr (sb z4 (by omega))⟩
      · rw [if_pos (show (40 : Int32) < nI gv.length from nI_lt (a := 40) (by omega) (by omega)), if_neg (fun z => h40 z.2)]
        exact ⟨A3, rfl, fin A3 _ Eqx.rf h0c hF3 rfl⟩
    · rw [if_neg h47, if_neg (fun z => h47 z.1)]
      exact ⟨A3, rfl, fin A3 _ Eqx.rf h0c hF3 rfl⟩
  rw [decide_eq_false q10, if_pos (by rfl), if_neg q10]
  by_cases q11 : at' = wsc 11
  · rw [decide_eq_true q11, if_neg (by decide), if_pos q11]
    refine ⟨_, rfl, fin _ _ (Eqx.sI rfl) h0c ?_ rfl⟩
    obtain ⟨⟨a0, a1, a2, a3⟩, a4, a5, a6, a7⟩ := hF3
    simp only [RdF, hgI_sI, hgL_sI]
    exact ⟨⟨a0, a1, a2, a3⟩, rfl, a5, a6, a7⟩
  rw [decide_eq_false q11, if_pos (by rfl), if_neg q11]
  by_cases q12 : at' = wsc 12
  · rw [decide_eq_true q12, if_neg (by decide), if_pos q12]
    refine ⟨_, rfl, fin _ _ (Eqx.sI rfl) h0c ?_ rfl⟩
    obtain ⟨⟨a0, a1, a2, a3⟩, a4, a5, a6, a7⟩ := hF3
    simp only [RdF, hgI_sI, hgL_sI]
    exact ⟨⟨a0, a1, a2, a3⟩, a4, rfl, a6, a7⟩
  rw [decide_eq_false q12, if_pos (by rfl), if_neg q12]
  -- the two choices
  have cho : ∃ B, f_X6_toSmallLetters A3 (a + 11) = some B ∧ Rd0 B a ∧ RdF B a v ∧ RdR B a v ∧ RdX B a at' (low gv) ∧ Rw B r 160 t ∧ Eqx (rdP a) A B := by
    obtain ⟨B, z1, z2, z3⟩ := g2.toSmall (by have := g2.2.2.1; omega)
    have n5 : ∀ q, q ≠ a + 11 → q ≠ a + 12 → ¬ rP (a + 11) q := fun q q1 q2 z => by rcases z with z | z <;> omega
    exact ⟨B, z1, h0c.eq z3 (na 11 (by omega)), hF3.eq z3 (n5 _ (by omega) (by omega)), hR3.eq z3 (fun q q1 q2 => n5 _ (by omega) (by omega)), ⟨g2.ot xc (by omega) z3, z2⟩, g2.ot g3 (hne _ (by omega) (by omega)) z3, e14.tr (sb z3 (by omega))⟩
  have finC : ∀ (B : Hp) (f : Nat) (x : Int32) (w : RdV), Rd0 B a → RdR B a v → RdX B a at' (low gv) → Rw B r 160 t → Eqx (rdP a) A B → RdF (hsI B f a 0 x) a w → w.1 = v.1 → Rd (hsI B f a 0 x) a w ∧ Rw (hsI B f a 0 x) r 160 t ∧ Eqx (rdP a) A (hsI B f a 0 x) := by
    intro B f x w z0 zR zX zk ze zF hw
    have e : Eqx (fun q => q = a) B (hsI B f a 0 x) := Eqx.sI rfl
    refine ⟨⟨z0, zF, ?_, at', low gv, zX.eq e (fun q q1 q2 => by omega)⟩, zk.eq e (fun z => hr ⟨by omega, by omega⟩) (fun z => ?_), ze.tr (e.mo (fun q hq => by rw [hq]; constructor <;> omega))⟩
    · unfold RdR
      rw [hw]
      exact zR.eq e (fun q q1 q2 => by omega)
    · have z : r + 1 = a := z
      have t9 := k.1.2.2.1
      rw [z] at t9
      have t8 := h0.1
      rw [t9] at t8
      cases t8
  by_cases q13 : at' = wsc 13
  · rw [decide_eq_true q13, if_neg (by decide), if_pos q13, h0c.2.2.2.2.2.2, if_pos g2.1.1]
    obtain ⟨B, z1, z0, zF, zR, zX, zk, ze⟩ := cho
    rw [z1, Option.bind_some, if_pos z0.1, zF.2.2.2.1, oneOf_ z0 zX (by omega) (by omega) (by omega), Option.bind_some]
    refine ⟨_, rfl, finC B 204 _ _ z0 zR zX zk ze ?_ rfl⟩
    obtain ⟨⟨a0, a1, a2, a3⟩, a4, a5, a6, a7⟩ := zF
    simp only [RdF, hgI_sI, hgL_sI]
    exact ⟨⟨a0, a1, a2, a3⟩, a4, a5, rfl, a7⟩
  rw [decide_eq_false q13, if_pos (by rfl), if_neg q13]
  by_cases q17 : at' = wsc 17
  · rw [decide_eq_true q17, if_neg (by decide), if_pos q17, h0c.2.2.2.2.2.2, if_pos g2.1.1]
    obtain ⟨B, z1, z0, zF, zR, zX, zk, ze⟩ := cho
    rw [z1, Option.bind_some, if_pos z0.1, zF.2.2.2.2, oneOf_ z0 zX (by omega) (by omega) (by omega), Option.bind_some]
    refine ⟨_, rfl, finC B 205 _ _ z0 zR zX zk ze ?_ rfl⟩
    obtain ⟨⟨a0, a1, a2, a3⟩, a4, a5, a6, a7⟩ := zF
    simp only [RdF, hgI_sI, hgL_sI]
    exact ⟨⟨a0, a1, a2, a3⟩, a4, a5, a6, rfl⟩
  rw [decide_eq_false q17, if_pos (by rfl), if_neg q17]
  exact ⟨A3, rfl, fin A3 v Eqx.rf h0c hF3 rfl⟩

/-- all attributes behind the place e of a semicolon -/
def rdLoop (t : List Int32) : Nat → Nat → RdV → RdV
  | 0, _, v => v
  | f + 1, e, v => if e < t.length then rdLoop t f (fnd t 59 (e + 1) t.length) (rdAttr t (e + 1) (fnd t 59 (e + 1) t.length) v) else v
def rdBase (t : List Int32) : RdV := ((trm t 0 (fnd t 61 0 (fnd t 59 0 t.length)), gvS t (fnd t 61 0 (fnd t 59 0 t.length)) (fnd t 59 0 t.length), [], []), (decide (fnd t 61 0 (fnd t 59 0 t.length) < fnd t 59 0 t.length), none, none), (false, false, 1, 1))
def rdCk (t : List Int32) : RdV := rdLoop t (t.length + 1) (fnd t 59 0 t.length) (rdBase t)
theorem fnd_hit {s : List Int32} {c : Int32} {a b : Nat} (h : a < b) (hq : g s a = c) : fnd s c a b = a := by
  unfold fnd
  obtain ⟨d, hd⟩ : ∃ d, b - a = d + 1 := ⟨b - a - 1, by omega⟩
  rw [hd]
  show (if g s a = c then a else _) = a
  rw [if_pos hq]
theorem fnd_miss {s : List Int32} {c : Int32} {a b : Nat} (h : a < b) (hq : g s a ≠ c) : fnd s c a b = fnd s c (a + 1) b := by
  unfold fnd
  obtain ⟨d, hd⟩ : ∃ d, b - a = d + 1 := ⟨b - a - 1, by omega⟩
  rw [hd, show b - (a + 1) = d by omega]
  show (if g s a = c then a else _) = _
  rw [if_neg hq]
theorem fnd_end (s : List Int32) (c : Int32) (a : Nat) : fnd s c a a = a := by
  unfold fnd; rw [Nat.sub_self]; rfl
theorem Rd.loop {a r : Nat} {t : List Int32} (hr : ¬ rdP a r) : ∀ (d i k fu n : Nat) (A : Hp) (v : RdV), k + d = t.length → i ≤ k → d + 1 < fu → d < n → Rd A a v → Rw A r 160 t → ∃ B, k_X5_read_29 a r fu A (nI i) (nI k) = some B ∧ Rd B a (rdLoop t n (fnd t 59 k t.length) (rdAttr t i (fnd t 59 k t.length) v)) ∧ Rw B r 160 t ∧ Eqx (rdP a) A B := by
  intro d
  induction d with
  | zero =>
    intro i k fu n A v h1 h2 h3 h4 h hk
    have hl := hk.2.2.1
    obtain ⟨fu, rfl⟩ : ∃ f, fu = f + 2 := ⟨fu - 2, by omega⟩
    obtain ⟨n, rfl⟩ : ∃ f, n = f + 1 := ⟨n - 1, by omega⟩
    have hkl : k = t.length := by omega
    subst hkl
    rw [fnd_end]
    obtain ⟨B, e1, e2, e3, e4⟩ := h.attr hk hr h2 (Nat.le_refl _)
    refine ⟨B, ?_, ?_, e3, e4⟩
    · show k_X5_read_29s a r _ _ _ _ = _
      unfold k_X5_read_29s k_X5_read_58 k_X5_read_71
      rw [if_pos hk.1.1, hk.2.1, if_neg Int32.lt_irrefl, if_pos rfl, if_pos h.1.1, e1, Option.bind_some]
      show k_X5_read_29s a r _ _ _ _ = _
      unfold k_X5_read_29s
      rw [if_pos e3.1.1, e3.2.1, nI_1, if_pos (nI_lt (by omega) (by omega))]
    · show Rd B a (if t.length < t.length then _ else _)
      rw [if_neg (Nat.lt_irrefl _)]
      exact e2
  | succ d ih =>
    intro i k fu n A v h1 h2 h3 h4 h hk
    have hl := hk.2.2.1
    obtain ⟨fu, rfl⟩ : ∃ f, fu = f + 1 := ⟨fu - 1, by omega⟩
    obtain ⟨n, rfl⟩ : ∃ f, n = f + 1 := ⟨n - 1, by omega⟩
    have hst : k_X5_read_29 a r (fu + 1) A (nI i) (nI k) = k_X5_read_29s a r (k_X5_read_29 a r fu) A (nI i) (nI k) := rfl
    rw [hst]
    unfold k_X5_read_29s k_X5_read_58 k_X5_read_71
    rw [if_pos hk.1.1, hk.2.1, if_neg (nI_nlt (by omega) (by omega)), if_neg (fun z => by have := (nI_eq (by omega) (by omega)).mp z; omega), hk.at (by omega), Option.bind_some, nI_1]
    by_cases hq : g t k = 59
    · rw [if_pos hq, fnd_hit (by omega) hq, if_pos h.1.1]
      obtain ⟨B, e1, e2, e3, e4⟩ := h.attr hk hr h2 (by omega)
      rw [e1, Option.bind_some]
      obtain ⟨C, f1, f2, f3, f4⟩ := ih (k + 1) (k + 1) fu n B _ (by omega) (Nat.le_refl _) (by omega) (by omega) e2 e3
      refine ⟨C, f1, ?_, f3, e4.tr f4⟩
      show Rd C a (if k < t.length then _ else _)
      rw [if_pos (by omega)]
      exact f2
    · rw [if_neg hq, fnd_miss (by omega) hq]
      exact ih i (k + 1) fu (n + 1) A v (by omega) (by omega) (by omega) (by omega) h hk
theorem Rd.read {A : Hp} {a r : Nat} {v : RdV} {t : List Int32} (h : Rd A a v) (k : Rw A r 160 t) (hr : ¬ rdP a r) : ∃ B, f_X5_read A a r = some B ∧ Rd B a (rdCk t) ∧ Rw B r 160 t ∧ Eqx (rdP a) A B := by
  obtain ⟨h0, hF, hR, x, y, hX⟩ := id h
  have hl := k.2.2.1
  have hne : ∀ q, a ≤ q → q < a + 13 → r ≠ q := fun q q1 q2 z => hr ⟨by omega, by omega⟩
  have hr1 : ∀ {B : Hp}, hsh B (r + 1) = hsh A (r + 1) → ¬ r + 1 = a := fun _ z => by
    have t9 := k.1.2.2.1
    rw [z] at t9
    have t8 := h0.1
    rw [t9] at t8
    cases t8
  have sb : ∀ {A B : Hp} {d : Nat}, Eqx (rP (a + d)) A B → d < 12 → Eqx (rdP a) A B := fun e hd => e.mo (fun q hq => by rcases hq with z | z <;> (constructor <;> omega))
  have na : ∀ d, 1 ≤ d → ¬ rP (a + d) a := fun d hd z => by rcases z with z | z <;> omega
  have n5 : ∀ d q, q ≠ a + d → q ≠ a + d + 1 → ¬ rP (a + d) q := fun d q q1 q2 z => by rcases z with z | z <;> omega
  -- forget
  obtain ⟨A1, e1, e2, e3⟩ := hR.2.2.1.empty
  have h01 := h0.eq e3 (na 5 (by omega))
  have p1 := hR.2.2.1.ot hR.2.2.2 (by omega) e3
  obtain ⟨A2, f1, f2, f3⟩ := p1.empty
  have h02 := h01.eq f3 (na 7 (by omega))
  have ee := (sb (d := 5) e3 (by omega)).tr (sb (d := 7) f3 (by omega))
  let A3 : Hp := hsI (hsI (hsI (hsI (hsL (hsI (hsI A2 199 a 0 0) 200 a 0 0) 201 a 0 (-1)) 202 a 0 0) 203 a 0 0) 204 a 0 1) 205 a 0 1
  have g3 : Eqx (fun q => q = a) A2 A3 := (((((ea_I.tr ea_I).tr ea_L).tr ea_I).tr ea_I).tr ea_I).tr ea_I
  have h03 : Rd0 A3 a := h02
  have hfor : f_X5_forget A a = some A3 := by
    unfold f_X5_forget k_X5_forget_46
    rw [if_pos h0.1, h0.2.2.2.1, if_pos hR.2.2.1.1.1, e1, Option.bind_some, if_pos h01.1, h01.2.2.2.2.1, if_pos p1.1.1, f1, Option.bind_some, if_pos h02.1]
    exact if_pos h02.1
  have k3 : Rw A3 r 160 t := (p1.ot (hR.2.2.1.ot k (hne _ (by omega) (by omega)) e3) (hne _ (by omega) (by omega)) f3).eq g3 (hne a (by omega) (by omega)) (hr1 (B := A) rfl)
  have nm3 : Rw A3 (a + 1) 160 v.1.1 := ((hR.1.eq e3 (n5 5 _ (by omega) (by omega)) (n5 5 _ (by omega) (by omega))).eq f3 (n5 7 _ (by omega) (by omega)) (n5 7 _ (by omega) (by omega))).eq g3 (by omega) (by omega)
  have vl3 : Rw A3 (a + 3) 160 v.1.2.1 := ((hR.2.1.eq e3 (n5 5 _ (by omega) (by omega)) (n5 5 _ (by omega) (by omega))).eq f3 (n5 7 _ (by omega) (by omega)) (n5 7 _ (by omega) (by omega))).eq g3 (by omega) (by omega)
  have dm3 : Rw A3 (a + 5) 160 [] := (p1.ot e2 (by omega) f3).eq g3 (by omega) (by omega)
  have pt3 : Rw A3 (a + 7) 40 [] := f2.eq g3 (by omega) (by omega)
  have X3 : RdX A3 a x y := ((hX.eq e3 (fun q q1 q2 => n5 5 _ (by omega) (by omega))).eq f3 (fun q q1 q2 => n5 7 _ (by omega) (by omega))).eq g3 (fun q q1 q2 => by omega)
  have he := fnd_le (s := t) (c := 59) (a := 0) (b := t.length) (Nat.zero_le _)
  have hs := fnd_le (s := t) (c := 61) (a := 0) (b := fnd t 59 0 t.length) (Nat.zero_le _)
  -- the pair
  let b9 : Bool := decide (fnd t 61 0 (fnd t 59 0 t.length) < fnd t 59 0 t.length)
  let A4 : Hp := hsI A3 198 a 0 (bI b9)
  have g4 : Eqx (fun q => q = a) A3 A4 := Eqx.sI rfl
  have h04 : Rd0 A4 a := h03
  have k4 : Rw A4 r 160 t := k3.eq g4 (hne a (by omega) (by omega)) (hr1 (B := A) rfl)
  have nm4 := nm3.eq g4 (by omega) (by omega)
  obtain ⟨A5, i1, i2, i3, i4⟩ := nm4.takeTrimmed k4 (hne _ (by omega) (by omega)) (a := 0) (b := fnd t 61 0 (fnd t 59 0 t.length)) (Nat.zero_le _) (by omega) (by omega) (by omega)
  have h05 := h04.eq i4 (na 1 (by omega))
  have vl5 := nm4.ot (vl3.eq g4 (by omega) (by omega)) (by omega) i4
  obtain ⟨A6, j1, j2, j3, j4⟩ := vl5.gvn i3 (hne _ (by omega) (by omega)) hs.2 he.2 (by omega) hl
  have h06 := h05.eq j4 (na 3 (by omega))
  have hpair : f_X5_readPair A3 a r (nI (fnd t 59 0 t.length)) = some A6 := by
    have p20 : k_X5_readPair_20 A3 a r (nI (fnd t 59 0 t.length)) (nI (fnd t 61 0 (fnd t 59 0 t.length))) a (bI b9) = some A6 := by
      unfold k_X5_readPair_20
      rw [if_pos h03.1, if_pos (bI_Z _)]
      show (if (hsh A4 a).1 = 4 then if (hsh A4 (hgR A4 192 a 0)).1 = 5 then (f_X6_takeTrimmed A4 (hgR A4 192 a 0) r 0 _).bind _ else none else none) = _
      rw [if_pos h04.1, h04.2.1, if_pos nm4.1.1, show f_X6_takeTrimmed A4 (a + 1) r 0 (nI (fnd t 61 0 (fnd t 59 0 t.length))) = some A5 from i1, Option.bind_some, if_pos h05.1, h05.2.2.1, if_pos vl5.1.1, j1]
      rfl
    unfold f_X5_readPair
    rw [if_pos k3.1.1, show f_X6_find A3 r 61 0 (nI (fnd t 59 0 t.length)) = _ from k3.find 61 (a := 0) (Nat.zero_le _) (by omega), Option.bind_some]
    by_cases hq : fnd t 61 0 (fnd t 59 0 t.length) < fnd t 59 0 t.length
    · rw [if_neg (nI_ge hq (by omega))]
      have : b9 = true := decide_eq_true hq
      rw [this] at p20
      exact p20
    · rw [if_pos (nI_le (by omega) (by omega))]
      have : b9 = false := decide_eq_false hq
      rw [this] at p20
      exact p20
  have ij := i4.mo (Q := fun q => a + 1 ≤ q ∧ q < a + 5) (fun q hq => by rcases hq with z | z <;> omega)
  have ij := ij.tr (j4.mo (Q := fun q => a + 1 ≤ q ∧ q < a + 5) (fun q hq => by rcases hq with z | z <;> omega))
  have hF6 : RdF A6 a (rdBase t) := by
    have : RdF A4 a (rdBase t) := by
      refine ⟨⟨?_, ?_, ?_, ?_⟩, ?_, ?_, ?_, ?_⟩
      · show hgI (hsI A3 198 a 0 (bI b9)) 198 a 0 = _
        rw [hgI_sI, if_pos ⟨rfl, rfl, rfl⟩]; rfl
      all_goals (show _ = _; simp only [A4, A3, hgI_sI, hgI_sL, hgL_sI, hgL_sL]; first | rfl | decide)
    exact this.eq ij (by omega)
  have hR6 : RdR A6 a (rdBase t) := ⟨vl5.ot i2 (by omega) j4, j2, (dm3.eq g4 (by omega) (by omega)).eq ij (by omega) (by omega), (pt3.eq g4 (by omega) (by omega)).eq ij (by omega) (by omega)⟩
  have hX6 : RdX A6 a x y := (X3.eq g4 (fun q q1 q2 => by omega)).eq ij (fun q q1 q2 => by omega)
  have hRd6 : Rd A6 a (rdBase t) := ⟨h06, hF6, hR6, x, y, hX6⟩
  have g3' : Eqx (rdP a) A2 A4 := (g3.tr g4).mo (fun q hq => by rw [hq]; constructor <;> omega)
  have eAll : Eqx (rdP a) A A6 := (ee.tr g3').tr (ij.mo (fun q hq => by constructor <;> omega))
  unfold f_X5_read
  rw [if_pos h0.1, hfor, Option.bind_some, if_pos k3.1.1, k3.2.1, show f_X6_find A3 r 59 0 (nI t.length) = _ from k3.find 59 (a := 0) (Nat.zero_le _) (by omega), Option.bind_some, if_pos h03.1, hpair, Option.bind_some, nI_1]
  unfold rdCk
  by_cases hlt : fnd t 59 0 t.length < t.length
  · obtain ⟨B, z1, z2, z3, z4⟩ := Rd.loop hr (t.length - (fnd t 59 0 t.length + 1)) (fnd t 59 0 t.length + 1) (fnd t 59 0 t.length + 1) FU t.length A6 _ (by omega) (Nat.le_refl _) (by unfold FU; omega) (by omega) hRd6 j3
    refine ⟨B, z1, ?_, z3, eAll.tr z4⟩
    show Rd B a (if fnd t 59 0 t.length < t.length then _ else _)
    rw [if_pos hlt]
    exact z2
  · refine ⟨A6, ?_, ?_, j3, eAll⟩
    · obtain ⟨f, hf⟩ := fu_pos (n := 0) (by omega)
      rw [hf]
      show k_X5_read_29s a r _ _ _ _ = _
      unfold k_X5_read_29s
      rw [if_pos j3.1.1, j3.2.1, if_pos (nI_lt (by omega) (by omega))]
    · show Rd A6 a (if fnd t 59 0 t.length < t.length then _ else _)
      rw [if_neg hlt]
      exact hRd6
