/-! the reference: its face -/
def RP (A B : Hp) (M : Nat) (th : Int32) (t : List Int32) (v : JV) (ms : List CkV) (n : Nat) : Prop := RfE A B M ∧ hgI B 452 M 0 = th ∧ Tx B M t ∧ JM (mu B M) v ms n
theorem lkD (x : Int32) {l : Nat} (hl : l ≤ 41) : decide ((0 : Int64) ≤ x.toInt64 ∧ x.toInt64 ≤ lN l - 1) = decide (0 ≤ x ∧ x < nI l) := by
  have a : (0 : Int64) ≤ x.toInt64 ↔ 0 ≤ x := i64_le (a := 0)
  have b : x.toInt64 ≤ lN l - 1 ↔ x < nI l := by
    cases l with
    | zero =>
      rw [show lN 0 - 1 = (-1 : Int32).toInt64 by decide, i64_le, Int32.le_iff_toInt_le, Int32.lt_iff_toInt_lt, show (-1 : Int32).toInt = -1 by decide, show (nI 0).toInt = 0 by decide]
      omega
    | succ l =>
      rw [show lN (l + 1) - 1 = lN l from lN_sub (a := l + 1) (b := 1) (by omega), ← nI_l (n := l) (by omega), i64_le, Int32.le_iff_toInt_le, Int32.lt_iff_toInt_lt, nI_toInt (by omega), nI_toInt (by omega)]
      omega
  rw [decide_eq_decide, a, b]
theorem thg (A : Hp) (M : Nat) (c : Int32) : hgI (hsI A 452 M 0 c) 452 M 0 = c := by rw [hgI_sI, if_pos ⟨rfl, rfl, rfl⟩]
theorem lN_ne0 {n : Nat} (h : n < 2 ^ 31) : lN n = 0 ↔ n = 0 := lN_eq (b := 0) h (by omega)
section
variable {A : Hp} {M : Nat} {t : List Int32} {v : JV} {ms : List CkV} {n : Nat}
theorem RP.th (x : Tx A M t) (hJ : JM (mu A M) v ms n) (c : Int32) : RP A (hsI A 452 M 0 c) M c t v ms n := ⟨RfE.sI, by rw [hgI_sI, if_pos ⟨rfl, rfl, rfl⟩], ⟨by rw [hgI_sI, if_neg (by omega)]; exact x.1, x.2⟩, hJ⟩
theorem RP.tr {B C : Hp} {c c' : Int32} {t' : List Int32} {v' : JV} {ms' : List CkV} {n' : Nat} (h : RP A B M c t v ms n) (k : RP B C M c' t' v' ms' n') : RP A C M c' t' v' ms' n' := ⟨h.1.tr k.1, k.2⟩
theorem RP.tt (x : Tx A M t) (hJ : JM (mu A M) v ms n) (a c : Int32) : RP A (hsI (hsI A 452 M 0 a) 452 M 0 c) M c t v ms n := (RP.th x hJ a).tr (RP.th (RP.th x hJ a).2.2.1 (RP.th x hJ a).2.2.2 c)
theorem RP.go {B : Hp} {c : Int32} {v' : JV} {ms' : List CkV} {n' : Nat} (x : Tx A M t) (ht : hgI A 452 M 0 = c) (e : Eqx (oP M) A B) (hk : ∀ k, 8400 ≤ k → mu B M k = mu A M k) (hJ : JM (mu B M) v' ms' n') : RP A B M c t v' ms' n' := ⟨e.fe, (e.I (show ¬ M = M + 1 by omega) 452 0).trans ht, x.eq e (fun k h1 _ => hk k h1), hJ⟩
theorem fails_ (h : Ms A M) (c : Int32) : f_X9_fails A M c = some (0, hsI A 452 M 0 c) := by unfold f_X9_fails; rw [if_pos h.1]
theorem thrown_ (h : Ms A M) : f_X9_thrown A M = some (hgI A 452 M 0) := by unfold f_X9_thrown; rw [if_pos h.1]
theorem Ms.t0 (h : Ms A M) (c : Int32) : Ms (hsI A 452 M 0 c) M := h.fe RfE.sI
-- the request is open
theorem Ms.req (h : Ms A M) (hJ : JM (mu A M) v ms n) : hgL A 1035 (hgR A 448 M 0) (100 : Int32).toNatClampNeg = lB (jR v).1 := (h.vl (i := 100) (by omega)).trans hJ.2.2.2.2.1.1.1
theorem R_typeBad (h : Ms A M) {c : Int32} (hc : ¬ okc c) : f_X9_type A M c = some (0, hsI (hsI A 452 M 0 0) 452 M 0 1) := by
  unfold f_X9_type
  rw [if_pos h.1, show f_X9_in (hsI A 452 M 0 0) c.toInt64 (32 : Int64) (126 : Int64) = _ from inc_ c 32 126 (by omega) (by omega), Option.bind_some, show (decide (nI 32 ≤ c) && decide (c ≤ nI 126)) = false from (by
    rw [Bool.and_eq_false_iff, decide_eq_false_iff_not, decide_eq_false_iff_not]
    by_cases q : nI 32 ≤ c
    · exact Or.inr (fun z => hc ⟨q, z⟩)
    · exact Or.inl q), if_pos (by rfl), fails_ (h.t0 0), Option.bind_some]
theorem okc_in {c : Int32} (hc : okc c) : (decide (nI 32 ≤ c) && decide (c ≤ nI 126)) = true := by
  rw [Bool.and_eq_true, decide_eq_true_eq, decide_eq_true_eq]
  exact hc
theorem R_typeFull (h : Ms A M) (x : Tx A M t) {c : Int32} (hc : okc c) (hl : t.length = 160) : f_X9_type A M c = some (0, hsI (hsI A 452 M 0 0) 452 M 0 2) := by
  unfold f_X9_type
  rw [if_pos h.1, show f_X9_in (hsI A 452 M 0 0) c.toInt64 (32 : Int64) (126 : Int64) = _ from inc_ c 32 126 (by omega) (by omega), Option.bind_some, okc_in hc, if_neg (by decide), if_pos (show hgI (hsI A 452 M 0 0) 451 M 0 = 160 from (by rw [hgI_sI, if_neg (by omega), x.1, hl]; rfl)), fails_ (h.t0 0), Option.bind_some]
theorem R_type (h : Ms A M) (x : Tx A M t) (hJ : JM (mu A M) v ms n) {c : Int32} (hc : okc c) (hl : t.length < 160) : ∃ B, f_X9_type A M c = some (nI (t.length + 1), B) ∧ RP A B M 0 (t ++ [c]) v ms n := by
  have x0 := (RP.th x hJ 0).2.2.1
  have t0 := (RP.th x hJ 0).2.1
  have h0 := h.t0 0
  have j0 : JM (mu (hsI A 452 M 0 0) M) v ms n := hJ
  unfold f_X9_type
  rw [if_pos h.1, show f_X9_in (hsI A 452 M 0 0) c.toInt64 (32 : Int64) (126 : Int64) = _ from inc_ c 32 126 (by omega) (by omega), Option.bind_some, okc_in hc, if_neg (by decide)]
  have f0 : RfE A (hsI A 452 M 0 0) M := RfE.sI
  generalize hsI A 452 M 0 0 = A0 at *
  rw [x0.1, if_neg (show ¬ nI t.length = 160 from fun z => by have := (nI_eq (b := 160) (by omega) (by omega)).mp z; omega), if_pos h0.a11, show (8400 : Int32) + nI t.length = nI (8400 + t.length) from nI_add 8400 _, if_pos (h0.wx (by omega)), nI_clamp (by omega), h0.2.1, show hgI (hsL A0 1035 (M + 1) (8400 + t.length) c.toInt64) 451 M 0 = nI t.length from x0.1, nI_1, hgI_sI, if_pos ⟨rfl, rfl, rfl⟩]
  have m : ∀ k, mu (hsI (hsL A0 1035 (M + 1) (8400 + t.length) c.toInt64) 451 M 0 (nI (t.length + 1))) M k = if k = 8400 + t.length then c.toInt64 else mu A0 M k := fun k => by
    show mu (hsL A0 1035 (M + 1) (8400 + t.length) c.toInt64) M k = _
    rw [mu_set]
  refine ⟨_, rfl, f0.tr (RfE.sL.tr RfE.sI), by rw [hgI_sI, if_neg (by omega)]; exact t0, ⟨by rw [hgI_sI, if_pos ⟨rfl, rfl, rfl⟩, List.length_append]; rfl, by rw [List.length_append]; show t.length + 1 ≤ 160; omega, x0.2.2.1.app (fun k q1 q2 => by rw [m, if_neg (by omega)]) (fun i hi => ?_), fun d hd => ?_⟩, j0.congr (fun k hk => by rw [m, if_neg (by omega)])⟩
  · have hi : i < 1 := hi
    have : i = 0 := by omega
    subst this
    rw [m, if_pos (by omega)]; rfl
  · rcases List.mem_append.mp hd with z | z
    · exact x.2.2.2 d z
    · rw [List.mem_singleton.mp z]; exact hc
theorem Tx.emp {A : Hp} {M : Nat} : Tx (hsI A 451 M 0 0) M [] := ⟨by rw [hgI_sI, if_pos ⟨rfl, rfl, rfl⟩]; rfl, Nat.zero_le _, Sg.nil, fun c hc => (nomatch hc)⟩
theorem R_clear (h : Ms A M) (x : Tx A M t) (hJ : JM (mu A M) v ms n) : ∃ B, f_X9_clearText A M = some (nI t.length, B) ∧ RP A B M 0 [] v ms n := by
  unfold f_X9_clearText
  rw [if_pos h.1, (RP.th x hJ 0).2.2.1.1]
  exact ⟨_, rfl, RfE.sI.tr RfE.sI, by rw [hgI_sI, if_neg (by omega), hgI_sI, if_pos ⟨rfl, rfl, rfl⟩], Tx.emp, hJ⟩
def jsG (v : JV) (w : AdV) : JV := (v.1, (w, v.2.1.2), v.2.2)
def jsR (v : JV) (w : AdV) : JV := (v.1, (v.2.1.1, w), v.2.2)
theorem R_openBad (h : Ms A M) (hM : Mw A M) (x : Tx A M t) (hJ : JM (mu A M) v ms n) {to e : Nat} (hto : to + 74 ≤ 8400) (hr : rdAd t = .inl e) (he : e < 1000) : f_X9_opens A M (nI to) = some (-1 - nI e, hsI A 452 M 0 0) := by
  have r := (h.t0 0).readsAddress (hM.fe RfE.sI) (RP.th x hJ 0).2.2.1 hto
  rw [hr] at r
  have r : f_X9_readsAddress (hsI A 452 M 0 0) M (nI to) = some (nI e, hsI A 452 M 0 0) := r
  unfold f_X9_opens
  rw [if_pos h.1, r, Option.bind_some, if_neg (nI_pos (by omega))]
theorem R_open (h : Ms A M) (hM : Mw A M) (x : Tx A M t) (hJ : JM (mu A M) v ms n) {to : Nat} (hto : to = 20 ∨ to = 100) {w : AdV} (hr : rdAd t = .inr w) : ∃ B, f_X9_opens A M (nI to) = some (bI w.2.1, B) ∧ RP A B M 0 [] (if to = 20 then jsG v w else jsR v w) ms n := by
  have hne : ¬ oP M M := show ¬ M = M + 1 by omega
  have r := (h.t0 0).readsAddress (hM.fe RfE.sI) (RP.th x hJ 0).2.2.1 (to := to) (by omega)
  rw [hr] at r
  obtain ⟨B, b1, b2, b3, b4⟩ := r
  have hB : Ms B M := (h.t0 0).eq b2 hne
  have hB1 : Ms (hsI B 451 M 0 0) M := hB.fe RfE.sI
  unfold f_X9_opens
  rw [if_pos h.1, b1, Option.bind_some, if_pos (show (-1 : Int32) < 0 by decide), if_pos hB.1, if_pos hB1.a11, show nI to + (1 : Int32) = nI (to + 1) from nI_1 to, if_pos (hB1.wx (by omega)), hB1.vl (by omega), show mu (hsI B 451 M 0 0) M (to + 1) = lB w.2.1 from b3.1.2.1, lB_i]
  refine ⟨_, rfl, (RfE.sI.tr b2.fe).tr RfE.sI, ?_, Tx.emp, ?_⟩
  · rw [hgI_sI, if_neg (by omega), b2.I hne, hgI_sI, if_pos ⟨rfl, rfl, rfl⟩]
  · have b4 : ∀ k, k < to ∨ to + 74 ≤ k → mu B M k = mu A M k := b4
    show JM (mu B M) _ ms n
    obtain ⟨⟨⟨a0, a1, a2, a3⟩, a4, a5, a7, a8⟩, b, c, d1, d2, ⟨f1, f2⟩, hc, hl⟩ := hJ
    have lo : ∀ k, k < 20 ∨ 174 ≤ k → mu B M k = mu A M k := fun k hk => b4 k (by omega)
    rcases hto with z | z
    · subst z
      rw [if_pos rfl]
      exact ⟨⟨⟨(lo 0 (by omega)).trans a0, (lo 1 (by omega)).trans a1, (lo 2 (by omega)).trans a2, (lo 3 (by omega)).trans a3⟩, (lo 4 (by omega)).trans a4, (lo 5 (by omega)).trans a5, (lo 7 (by omega)).trans a7, (lo 8 (by omega)).trans a8⟩, fun i hi => (lo _ (by omega)).trans (b i hi), c.congr (lo 6 (by omega)) (fun k h1 h2 => lo k (by omega)), b3, d2.congr (fun k h1 h2 => b4 k (by omega)), ⟨f1.congr (fun k h1 h2 => lo k (by omega)), f2⟩, fun i hi => (hc i hi).congr (fun k h1 h2 => lo k (by omega)), hl⟩
    · subst z
      rw [if_neg (by omega)]
      exact ⟨⟨⟨(lo 0 (by omega)).trans a0, (lo 1 (by omega)).trans a1, (lo 2 (by omega)).trans a2, (lo 3 (by omega)).trans a3⟩, (lo 4 (by omega)).trans a4, (lo 5 (by omega)).trans a5, (lo 7 (by omega)).trans a7, (lo 8 (by omega)).trans a8⟩, fun i hi => (lo _ (by omega)).trans (b i hi), c.congr (lo 6 (by omega)) (fun k h1 h2 => lo k (by omega)), d1.congr (fun k h1 h2 => b4 k (by omega)), b3, ⟨f1.congr (fun k h1 h2 => lo k (by omega)), f2⟩, fun i hi => (hc i hi).congr (fun k h1 h2 => lo k (by omega)), hl⟩
theorem R_sameSite (h : Ms A M) (hJ : JM (mu A M) v ms n) : f_X9_isSameSite A M = some ((if (jR v).1 then bI (!(crs v)) else 0), hsI A 452 M 0 (if (jR v).1 then 0 else 1)) := by
  unfold f_X9_isSameSite k_X9_isSameSite_18
  rw [if_pos h.1, if_pos h.a11, if_pos (show wix (100 : Int32) _ from h.wx (i := 100) (by omega)), h.req hJ, if_pos h.1, if_pos (h.t0 1).1, if_pos h.1, if_pos (h.t0 0).1]
  cases hq : (jR v).1 with
  | false =>
    rw [if_pos (by decide), thg, if_neg (by decide)]; rfl
  | true =>
    rw [if_neg (by decide), thg, if_pos rfl, JM.isOneSite (h.t0 0) (v := v) (ms := ms) (n := n) hJ, Option.bind_some]
    cases crs v
    · rw [if_neg (by decide)]; rfl
    · rw [if_pos (by decide)]; rfl
theorem R_siteClosed (h : Ms A M) (hJ : JM (mu A M) v ms n) (hq : (jR v).1 = false) (k : Int32) : f_X9_siteChar A M k = some (0, hsI (hsI A 452 M 0 0) 452 M 0 1) := by
  have h0 := h.t0 0
  unfold f_X9_siteChar
  rw [if_pos h.1, if_pos h0.a11, if_pos (show wix (100 : Int32) _ from h0.wx (i := 100) (by omega)), if_pos (show hgL (hsI A 452 M 0 0) 1035 (hgR (hsI A 452 M 0 0) 448 M 0) (100 : Int32).toNatClampNeg = 0 from (h0.req (v := v) (ms := ms) (n := n) hJ).trans (by rw [hq]; rfl)), fails_ h0, Option.bind_some]
theorem R_siteNeg (h : Ms A M) (hJ : JM (mu A M) v ms n) (hq : (jR v).1 = true) {k : Int32} (hk : ¬ 0 ≤ k) : f_X9_siteChar A M k = some (0, hsI (hsI A 452 M 0 0) 452 M 0 2) := by
  have h0 := h.t0 0
  unfold f_X9_siteChar
  rw [if_pos h.1, if_pos h0.a11, if_pos (show wix (100 : Int32) _ from h0.wx (i := 100) (by omega)), if_neg (show ¬ hgL (hsI A 452 M 0 0) 1035 (hgR (hsI A 452 M 0 0) 448 M 0) (100 : Int32).toNatClampNeg = 0 from fun z => by rw [h0.req (v := v) (ms := ms) (n := n) hJ, hq] at z; exact absurd z (by decide)), if_neg hk, fails_ h0, Option.bind_some]
theorem R_site (h : Ms A M) (hJ : JM (mu A M) v ms n) (hq : (jR v).1 = true) {k : Nat} (hk : k < 2 ^ 31) : f_X9_siteChar A M (nI k) = some (g (jR v).2.2.1 (siteS (jU v) (jR v).2.2.1 + k), hsI A 452 M 0 0) := by
  have h0 := h.t0 0
  have j0 : JM (mu (hsI A 452 M 0 0) M) v ms n := hJ
  have hR := hJ.2.2.2.2.1
  have l2 := hR.2.2.2
  have hs := siteS_le (jU v) (jR v).2.2.1
  unfold f_X9_siteChar
  rw [if_pos h.1, if_pos h0.a11, if_pos (show wix (100 : Int32) _ from h0.wx (i := 100) (by omega)), if_neg (show ¬ hgL (hsI A 452 M 0 0) 1035 (hgR (hsI A 452 M 0 0) 448 M 0) (100 : Int32).toNatClampNeg = 0 from fun z => by rw [h0.req (v := v) (ms := ms) (n := n) hJ, hq] at z; exact absurd z (by decide)), if_pos (nI_pos' hk), j0.hostLong h0, Option.bind_some, show (104 : Int32) = nI (100 + 4) from rfl, h0.siteFrom j0.2.2.1 j0.2.2.2.2.1.2.1 (by omega), Option.bind_some, Option.bind_some, pk_sub hs, nI_add]
  by_cases z : siteS (jU v) (jR v).2.2.1 + k < (jR v).2.2.1.length
  · rw [if_neg (nI_ge (by omega) (by omega)), nI_add, if_pos (h0.wx (by omega)), h0.vl (by omega), show mu (hsI A 452 M 0 0) M (100 + 4 + siteS (jU v) (jR v).2.2.1 + k) = (g (jR v).2.2.1 (siteS (jU v) (jR v).2.2.1 + k)).toInt64 from (by rw [Nat.add_assoc]; exact hR.2.1 _ z), Int32.toInt32_toInt64]
  · rw [if_pos (nI_le (by omega) hk), g_ge (by omega)]
theorem R_rejBad (h : Ms A M) {d : Int32} (h0 : d ≠ 0) (h1 : d ≠ 1) : f_X9_rejection A M d = some (0, hsI (hsI A 452 M 0 0) 452 M 0 1) := by
  unfold f_X9_rejection
  rw [if_pos h.1, show f_X9_in (hsI A 452 M 0 0) d.toInt64 (0 : Int64) (1 : Int64) = _ from inc_ d 0 1 (by omega) (by omega), Option.bind_some, show (decide (nI 0 ≤ d) && decide (d ≤ nI 1)) = false from (by
    rw [Bool.and_eq_false_iff, decide_eq_false_iff_not, decide_eq_false_iff_not]
    by_cases q : nI 0 ≤ d
    · refine Or.inr (fun z => ?_)
      obtain ⟨j, hj, e⟩ := nI_of2 (x := d) (M := nI 1) (n := 1) (by decide) (Int32.not_lt.mpr q) z
      match j, hj with
      | 0, _ => exact h0 e
      | 1, _ => exact h1 e
    · exact Or.inl q), if_pos (by rfl), fails_ (h.t0 0), Option.bind_some]
theorem R_rej (h : Ms A M) (hJ : JM (mu A M) v ms n) (hx : jX v < 100) {d : Nat} (hd : d ≤ 1) : f_X9_rejection A M (nI d) = some (nI (if d = 0 then jX v / 10 else jX v), hsI A 452 M 0 0) := by
  have h0 := h.t0 0
  have h7 : hgL (hsI A 452 M 0 0) 1035 (hgR (hsI A 452 M 0 0) 448 M 0) (7 : Int32).toNatClampNeg = lN (jX v) := (h0.vl (i := 7) (by omega)).trans hJ.1.2.2.2.1
  unfold f_X9_rejection k_X9_rejection_46
  rw [if_pos h.1, show f_X9_in (hsI A 452 M 0 0) (nI d).toInt64 (0 : Int64) (1 : Int64) = _ from inc_ (nI d) 0 1 (by omega) (by omega), Option.bind_some, if_pos h0.a11, if_pos (show wix (7 : Int32) _ from h0.wx (i := 7) (by omega)), if_pos h0.a11, if_pos (show wix (7 : Int32) _ from h0.wx (i := 7) (by omega)), h7]
  match d, hd with
  | 0, _ =>
    rw [if_neg (by decide), if_pos (by rfl), if_pos rfl, show (10 : Int64) = lN 10 from rfl, lN_div (by omega) (by omega) (by omega), lN_i]
  | 1, _ =>
    rw [if_neg (by decide), if_neg (by decide), if_neg (by omega), lN_i]
theorem R_hdrBad (h : Ms A M) {k : Int32} (hk : ¬ 0 ≤ k) : f_X9_headerChar A M k = some (0, hsI (hsI A 452 M 0 0) 452 M 0 1) := by
  unfold f_X9_headerChar
  rw [if_pos h.1, if_neg hk, fails_ (h.t0 0), Option.bind_some]
theorem R_hdr (h : Ms A M) (hJ : JM (mu A M) v ms n) {k : Nat} (hk : k < 2 ^ 31) : f_X9_headerChar A M (nI k) = some (g (jH v) k, hsI A 452 M 0 0) := by
  have h0 := h.t0 0
  have h8 : hgL (hsI A 452 M 0 0) 1035 (hgR (hsI A 452 M 0 0) 448 M 0) (8 : Int32).toNatClampNeg = lN (jH v).length := (h0.vl (i := 8) (by omega)).trans hJ.1.2.2.2.2
  have hl := hJ.2.2.2.2.2.1.2
  unfold f_X9_headerChar
  rw [if_pos h.1, if_pos (nI_pos' hk), if_pos h0.a11, if_pos (show wix (8 : Int32) _ from h0.wx (i := 8) (by omega)), h8, nI_l hk]
  by_cases z : k < (jH v).length
  · rw [if_neg (fun y => by have := (lN_le (by omega) (by omega)).mp y; omega), show (380 : Int32) + nI k = nI (380 + k) from nI_add 380 k, if_pos (h0.wx (by omega)), h0.vl (by omega), show mu (hsI A 452 M 0 0) M (380 + k) = (g (jH v) k).toInt64 from hJ.2.2.2.2.2.1.1 k z, Int32.toInt32_toInt64]
  · rw [if_pos ((lN_le (by omega) hk).mpr (by omega)), g_ge (by omega)]
theorem R_cookies (h : Ms A M) (hJ : JM (mu A M) v ms n) : f_X9_cookies A M = some (nI ms.length, hsI A 452 M 0 0) := by
  have h0 := h.t0 0
  unfold f_X9_cookies
  rw [if_pos h.1, if_pos h0.a11, if_pos (show wix (5 : Int32) _ from h0.wx (i := 5) (by omega)), show hgL (hsI A 452 M 0 0) 1035 (hgR (hsI A 452 M 0 0) 448 M 0) (5 : Int32).toNatClampNeg = lN ms.length from (h0.vl (i := 5) (by omega)).trans hJ.1.2.2.1, lN_i]
theorem R_lacks (h : Ms A M) (hJ : JM (mu A M) v ms n) (i : Int32) : f_X9_lacks A M i = some (bI (!(decide (0 ≤ i ∧ i < nI ms.length))), hsI A 452 M 0 (bI (!(decide (0 ≤ i ∧ i < nI ms.length))))) := by
  have hml := hJ.2.2.2.2.2.2.2
  unfold f_X9_lacks k_X9_lacks_23
  rw [show (5 : Int32) = nI 5 from rfl, h.gd (by omega), h.vl (by omega), show mu A M 5 = lN ms.length from hJ.1.2.2.1, in_, lkD i hml, Option.bind_some, if_pos h.1, if_pos (h.t0 1).1, if_pos h.1, if_pos (h.t0 0).1]
  cases decide (0 ≤ i ∧ i < nI ms.length)
  · rw [if_pos (by rfl), thg, if_pos rfl]; rfl
  · rw [if_neg (by decide), thg, if_neg (by decide)]; rfl
end
