/-! the reference: going, searching, mixing -/
def goL (p : CkV → Bool) : Nat → List CkV → List CkV
  | 0, ms => ms
  | k + 1, ms => goL p k (if p (cg ms k) then gon ms k else ms)
theorem goL_len (p : CkV → Bool) : ∀ k ms, (goL p k ms).length ≤ ms.length := by
  intro k
  induction k with
  | zero => intro ms; exact Nat.le_refl _
  | succ k ih =>
    intro ms
    show (goL p k (if p (cg ms k) then gon ms k else ms)).length ≤ _
    have := ih (if p (cg ms k) then gon ms k else ms)
    split at this
    · rename_i z; rw [if_pos z]; rw [gon_len] at this; omega
    · rename_i z; rw [if_neg z]; exact this
theorem goL_perm {p : CkV → Bool} : ∀ (k : Nat) (ms : List CkV), k ≤ ms.length → (∀ j, k ≤ j → j < ms.length → p (cg ms j) = false) → (goL p k ms).Perm (flt p ms) := by
  intro k
  induction k with
  | zero =>
    intro ms _ h
    have : flt p ms = ms := by
      unfold flt
      rw [List.filter_eq_self]
      intro c hc
      obtain ⟨j, hj, e⟩ := cg_of_mem hc
      rw [← e, h j (Nat.zero_le _) hj]; rfl
    rw [this]
    exact List.Perm.refl _
  | succ k ih =>
    intro ms hk h
    show (goL p k (if p (cg ms k) then gon ms k else ms)).Perm _
    cases q : p (cg ms k) with
    | true =>
      rw [if_pos rfl]
      have h1 := ih (gon ms k) (by rw [gon_len]; omega) (fun j h1 h2 => by
        rw [gon_len] at h2
        rw [gon_get h2]
        by_cases z : j = k
        · rw [if_pos z]; exact h _ (by omega) (by omega)
        · rw [if_neg z]; exact h _ (by omega) (by omega))
      refine h1.trans ?_
      unfold flt
      have p1 := ((gon_perm (show k < ms.length by omega)).filter (fun c => !p c))
      have p2 := ((cg_erase_perm ms k (by omega)).filter (fun c => !p c))
      rw [List.filter_cons_of_neg (by rw [q]; decide)] at p2
      exact p1.trans p2
    | false =>
      rw [if_neg (by decide)]
      exact ih ms (by omega) (fun j h1 h2 => by
        by_cases z : j = k
        · rw [z]; exact q
        · exact h j (by omega) h2)
def idx (k : Nat) : Int32 := if k = 0 then -1 else nI (k - 1)
theorem idx_s (k : Nat) : idx (k + 1) = nI k := by unfold idx; rw [if_neg (by omega)]; rfl
theorem idx_m (k : Nat) : nI k + (-1) = idx k := by
  cases k with
  | zero => decide
  | succ k => rw [pk_m1, idx_s]
theorem idx_l (k : Nat) : nI k - 1 = idx k := by
  cases k with
  | zero => decide
  | succ k => rw [idx_s]; exact nI_pred k
section
variable {A : Hp} {M : Nat} {v : JV} {ms : List CkV} {n : Nat}
theorem JM.goBL {lo hi : Int64} : ∀ (k fu c : Nat) (A : Hp) (ms : List CkV), k < fu → k ≤ ms.length → Ms A M → JM (mu A M) v ms n → ∃ B, k_X9_goBetween_14 M lo hi fu A (nI c) (idx k) = some (nI (c + (ms.length - (goL (fun c => decide (lo ≤ cE c ∧ cE c ≤ hi)) k ms).length)), B) ∧ Eqx (oP M) A B ∧ JM (mu B M) v (goL (fun c => decide (lo ≤ cE c ∧ cE c ≤ hi)) k ms) n ∧ ∀ k, 8240 ≤ k → mu B M k = mu A M k := by
  intro k
  induction k with
  | zero =>
    intro fu c A ms h1 h2 h hJ
    obtain ⟨fu, rfl⟩ : ∃ f, fu = f + 1 := ⟨fu - 1, by omega⟩
    refine ⟨A, ?_, Eqx.rf, hJ, fun _ _ => rfl⟩
    show k_X9_goBetween_14s M _ _ _ _ _ _ = _
    unfold k_X9_goBetween_14s
    rw [if_pos (show idx 0 < 0 by decide), show c + (ms.length - (goL (fun c => decide (lo ≤ cE c ∧ cE c ≤ hi)) 0 ms).length) = c from (by show c + (ms.length - ms.length) = c; omega)]
  | succ k ih =>
    intro fu c A ms h1 h2 h hJ
    obtain ⟨fu, rfl⟩ : ∃ f, fu = f + 1 := ⟨fu - 1, by omega⟩
    have hml := hJ.2.2.2.2.2.2.2
    have hc := hJ.2.2.2.2.2.2.1 k (by omega)
    have hg : goL (fun c => decide (lo ≤ cE c ∧ cE c ≤ hi)) (k + 1) ms = goL (fun c => decide (lo ≤ cE c ∧ cE c ≤ hi)) k (if decide (lo ≤ cE (cg ms k) ∧ cE (cg ms k) ≤ hi) then gon ms k else ms) := rfl
    have hst : k_X9_goBetween_14 M lo hi (fu + 1) A (nI c) (idx (k + 1)) = k_X9_goBetween_14s M lo hi (k_X9_goBetween_14 M lo hi fu) A (nI c) (idx (k + 1)) := rfl
    rw [hst, hg, idx_s]
    unfold k_X9_goBetween_14s k_X9_goBetween_48
    rw [if_neg (nI_pos (by omega)), if_pos h.1, ck_, Option.bind_some, show nI (2500 + 140 * k) + (4 : Int32) = nI (2500 + 140 * k + 4) from nI_add _ 4, if_pos h.a11, if_pos (h.wx (by omega)), h.vl (by omega), show mu A M (2500 + 140 * k + 4) = _ from hc.2.1.1, in_, Option.bind_some, idx_m]
    cases hq : decide (lo ≤ cE (cg ms k) ∧ cE (cg ms k) ≤ hi) with
    | false =>
      rw [if_pos (by rfl), if_neg (by decide)]
      exact ih fu c A ms (by omega) (by omega) h hJ
    | true =>
      obtain ⟨B, b1, b2, b3, b4⟩ := hJ.goes h (i := k) (by omega)
      have hB : Ms B M := h.eq b2 (show ¬ M = M + 1 by omega)
      rw [if_neg (by decide), if_pos rfl, b1, Option.bind_some, nI_1]
      obtain ⟨C, c1, c2, c3, c4⟩ := ih fu (c + 1) B (gon ms k) (by omega) (by rw [gon_len]; omega) hB b3
      have hl := goL_len (fun c => decide (lo ≤ cE c ∧ cE c ≤ hi)) k (gon ms k)
      rw [gon_len] at hl
      refine ⟨C, ?_, b2.tr c2, c3, fun k hk => (c4 k hk).trans (b4 k hk)⟩
      rw [c1, gon_len, show c + 1 + (ms.length - 1 - (goL (fun c => decide (lo ≤ cE c ∧ cE c ≤ hi)) k (gon ms k)).length) = c + (ms.length - (goL (fun c => decide (lo ≤ cE c ∧ cE c ≤ hi)) k (gon ms k)).length) by omega]
theorem JM.goBetween {lo hi : Int64} (h : Ms A M) (hJ : JM (mu A M) v ms n) : ∃ B, f_X9_goBetween A M lo hi = some (nI (ms.length - (goL (fun c => decide (lo ≤ cE c ∧ cE c ≤ hi)) ms.length ms).length), B) ∧ Eqx (oP M) A B ∧ JM (mu B M) v (goL (fun c => decide (lo ≤ cE c ∧ cE c ≤ hi)) ms.length ms) n ∧ ∀ k, 8240 ≤ k → mu B M k = mu A M k := by
  have hml := hJ.2.2.2.2.2.2.2
  obtain ⟨B, b1, b2⟩ := JM.goBL (lo := lo) (hi := hi) ms.length FU 0 A ms (by unfold FU; omega) (Nat.le_refl _) h hJ
  rw [Nat.zero_add] at b1
  refine ⟨B, ?_, b2⟩
  unfold f_X9_goBetween
  rw [show (5 : Int32) = nI 5 from rfl, h.gd (by omega), h.vl (by omega), show mu A M 5 = _ from hJ.1.2.2.1, lN_i, idx_l]
  exact b1
theorem JM.hostLong (h : Ms A M) (hJ : JM (mu A M) v ms n) : f_X9_hostLong A M = some (nI (jR v).2.2.1.length) := by
  unfold f_X9_hostLong
  rw [show (102 : Int32) = nI 102 from rfl, h.gd (by omega), h.vl (by omega), show mu A M 102 = _ from hJ.2.2.2.2.1.1.2.2.1, lN_i]
theorem JM.clearL : ∀ (k fu c : Nat) (A : Hp) (ms : List CkV), k < fu → k ≤ ms.length → Ms A M → JM (mu A M) v ms n → ∃ B, k_X9_clearSite_35 M fu A (nI c) (idx k) = some (nI (c + (ms.length - (goL (fun c => sameSt (jU v) (cD c) (jR v).2.2.1) k ms).length)), B) ∧ Eqx (oP M) A B ∧ JM (mu B M) v (goL (fun c => sameSt (jU v) (cD c) (jR v).2.2.1) k ms) n ∧ ∀ k, 8240 ≤ k → mu B M k = mu A M k := by
  intro k
  induction k with
  | zero =>
    intro fu c A ms h1 h2 h hJ
    obtain ⟨fu, rfl⟩ : ∃ f, fu = f + 1 := ⟨fu - 1, by omega⟩
    refine ⟨A, ?_, Eqx.rf, hJ, fun _ _ => rfl⟩
    show k_X9_clearSite_35s M _ _ _ _ = _
    unfold k_X9_clearSite_35s
    rw [if_pos (show idx 0 < 0 by decide), show c + (ms.length - (goL (fun c => sameSt (jU v) (cD c) (jR v).2.2.1) 0 ms).length) = c from (by show c + (ms.length - ms.length) = c; omega)]
  | succ k ih =>
    intro fu c A ms h1 h2 h hJ
    obtain ⟨fu, rfl⟩ : ∃ f, fu = f + 1 := ⟨fu - 1, by omega⟩
    have hml := hJ.2.2.2.2.2.2.2
    have hc := hJ.2.2.2.2.2.2.1 k (by omega)
    have hR := hJ.2.2.2.2.1
    have l2 := hR.2.2.2
    have lc := hc.2.2.2.2
    have hg : goL (fun c => sameSt (jU v) (cD c) (jR v).2.2.1) (k + 1) ms = goL (fun c => sameSt (jU v) (cD c) (jR v).2.2.1) k (if sameSt (jU v) (cD (cg ms k)) (jR v).2.2.1 then gon ms k else ms) := rfl
    have hst : k_X9_clearSite_35 M (fu + 1) A (nI c) (idx (k + 1)) = k_X9_clearSite_35s M (k_X9_clearSite_35 M fu) A (nI c) (idx (k + 1)) := rfl
    rw [hst, hg, idx_s]
    unfold k_X9_clearSite_35s k_X9_clearSite_78
    rw [if_neg (nI_pos (by omega)), ck_, Option.bind_some, show nI (2500 + 140 * k) + (2 : Int32) = nI (2500 + 140 * k + 2) from nI_add _ 2, show nI (2500 + 140 * k) + (62 : Int32) = nI (2500 + 140 * k + 62) from nI_add _ 62, h.gd (by omega), h.vl (by omega), show mu A M (2500 + 140 * k + 2) = _ from hc.1.2.2.1, lN_i, hJ.hostLong h, Option.bind_some, show (104 : Int32) = nI (100 + 4) from rfl, h.areOneSite hJ.2.2.1 hc.2.2.2.1.2.2.1 hR.2.1 (by omega) (by omega), Option.bind_some, idx_m]
    cases hq : sameSt (jU v) (cD (cg ms k)) (jR v).2.2.1 with
    | false =>
      rw [if_pos (by rfl), if_neg (by decide)]
      exact ih fu c A ms (by omega) (by omega) h hJ
    | true =>
      obtain ⟨B, b1, b2, b3, b4⟩ := hJ.goes h (i := k) (by omega)
      have hB : Ms B M := h.eq b2 (show ¬ M = M + 1 by omega)
      rw [if_neg (by decide), if_pos rfl, b1, Option.bind_some, nI_1]
      obtain ⟨C, c1, c2, c3, c4⟩ := ih fu (c + 1) B (gon ms k) (by omega) (by rw [gon_len]; omega) hB b3
      have hl := goL_len (fun c => sameSt (jU v) (cD c) (jR v).2.2.1) k (gon ms k)
      rw [gon_len] at hl
      refine ⟨C, ?_, b2.tr c2, c3, fun k hk => (c4 k hk).trans (b4 k hk)⟩
      rw [c1, gon_len, show c + 1 + (ms.length - 1 - (goL (fun c => sameSt (jU v) (cD c) (jR v).2.2.1) k (gon ms k)).length) = c + (ms.length - (goL (fun c => sameSt (jU v) (cD c) (jR v).2.2.1) k (gon ms k)).length) by omega]
theorem JM.firstL {t : List Int32} (h : Ms A M) (hJ : JM (mu A M) v ms n) (x : Tx A M t) (ho : okl ms) (hd : isDom t = true) : ∀ (e i fu c : Nat), i + e = ms.length → e < fu → c ≤ i → k_X9_firstFrom_29 M fu A (nI c) (nI i) = some ((if c + (ms.drop i).countP (fun c => decide (dcmp (cD c) t < 0)) < ms.length then nI (c + (ms.drop i).countP (fun c => decide (dcmp (cD c) t < 0))) else -1), A) := by
  have hml := hJ.2.2.2.2.2.2.2
  have hm : mu A M 5 = lN ms.length := hJ.1.2.2.1
  intro e
  induction e with
  | zero =>
    intro i fu c h1 h2 h3
    obtain ⟨fu, rfl⟩ : ∃ f, fu = f + 1 := ⟨fu - 1, by omega⟩
    show k_X9_firstFrom_29s M _ _ _ _ = _
    unfold k_X9_firstFrom_29s
    rw [show (5 : Int32) = nI 5 from rfl, h.gd (by omega), h.vl (by omega), hm, nI_l (by omega), if_pos ((lN_le (by omega) (by omega)).mpr (by omega)), nI_l (by omega), List.drop_of_length_le (by omega)]
    show (if lN ms.length ≤ lN c then some ((-1 : Int32), A) else some (nI c, A)) = some ((if c < ms.length then nI c else -1), A)
    by_cases z : c < ms.length
    · rw [if_neg (fun y => by have := (lN_le (by omega) (by omega)).mp y; omega), if_pos z]
    · rw [if_pos ((lN_le (by omega) (by omega)).mpr (by omega)), if_neg z]
  | succ e ih =>
    intro i fu c h1 h2 h3
    obtain ⟨fu, rfl⟩ : ∃ f, fu = f + 1 := ⟨fu - 1, by omega⟩
    have hc := hJ.2.2.2.2.2.2.1 i (by omega)
    have lc := hc.2.2.2.2
    have hx2 := x.2.1
    have hst : k_X9_firstFrom_29 M (fu + 1) A (nI c) (nI i) = k_X9_firstFrom_29s M (k_X9_firstFrom_29 M fu) A (nI c) (nI i) := rfl
    rw [hst]
    unfold k_X9_firstFrom_29s k_X9_firstFrom_79
    rw [show (5 : Int32) = nI 5 from rfl, h.gd (by omega), h.vl (by omega), hm, nI_l (by omega), if_neg (fun y => by have := (lN_le (by omega) (by omega)).mp y; omega), ck_, Option.bind_some, show nI (2500 + 140 * i) + (2 : Int32) = nI (2500 + 140 * i + 2) from nI_add _ 2, show nI (2500 + 140 * i) + (62 : Int32) = nI (2500 + 140 * i + 62) from nI_add _ 62, if_pos (h.wx (by omega)), h.vl (by omega), show mu A M (2500 + 140 * i + 2) = _ from hc.1.2.2.1, lN_i, x.1, show (8400 : Int32) = nI 8400 from rfl, h.orderedDomains hc.2.2.2.1.2.2.1 x.2.2.1 (by omega) (by omega) (ho _ (cg_mem (by omega))).1 hd, Option.bind_some, nI_1, cg_drop (cs := ms) (i := i) (by omega)]
    by_cases z : dcmp (cD (cg ms i)) t < 0
    · rw [if_neg (show ¬ (0 : Int32) ≤ dcmp (cD (cg ms i)) t from fun y => absurd z (Int32.not_lt.mpr y)), show nI c + (1 : Int32) = nI (c + 1) from nI_1 c, ih (i + 1) fu (c + 1) (by omega) (by omega) (by omega), List.countP_cons_of_pos (by rw [decide_eq_true_eq]; exact z), show c + 1 + (ms.drop (i + 1)).countP (fun c => decide (dcmp (cD c) t < 0)) = c + ((ms.drop (i + 1)).countP (fun c => decide (dcmp (cD c) t < 0)) + 1) by omega]
    · rw [if_pos (Int32.not_lt.mp z), show nI c + (0 : Int32) = nI c from nI_add c 0, ih (i + 1) fu c (by omega) (by omega) (by omega), List.countP_cons_of_neg (by rw [decide_eq_true_eq]; exact z)]
def neS (x : Int64) (c : CkV) : Int64 := if cE c < 0 then x else if x < 0 then cE c else if x ≤ cE c then x else cE c
theorem JM.nextL (h : Ms A M) (hJ : JM (mu A M) v ms n) : ∀ (e i fu : Nat) (y : Int64), i + e = ms.length → e < fu → k_X9_nextExpiry_11 M fu A y (nI i) = some ((ms.drop i).foldl neS y, A) := by
  have hml := hJ.2.2.2.2.2.2.2
  have hm : mu A M 5 = lN ms.length := hJ.1.2.2.1
  intro e
  induction e with
  | zero =>
    intro i fu y h1 h2
    obtain ⟨fu, rfl⟩ : ∃ f, fu = f + 1 := ⟨fu - 1, by omega⟩
    show k_X9_nextExpiry_11s M _ _ _ _ = _
    unfold k_X9_nextExpiry_11s
    rw [show (5 : Int32) = nI 5 from rfl, h.gd (by omega), h.vl (by omega), hm, nI_l (by omega), if_pos ((lN_le (by omega) (by omega)).mpr (by omega)), List.drop_of_length_le (by omega)]
    rfl
  | succ e ih =>
    intro i fu y h1 h2
    obtain ⟨fu, rfl⟩ : ∃ f, fu = f + 1 := ⟨fu - 1, by omega⟩
    have hc := hJ.2.2.2.2.2.2.1 i (by omega)
    have hst : k_X9_nextExpiry_11 M (fu + 1) A y (nI i) = k_X9_nextExpiry_11s M (k_X9_nextExpiry_11 M fu) A y (nI i) := rfl
    rw [hst]
    unfold k_X9_nextExpiry_11s k_X9_nextExpiry_61 k_X9_nextExpiry_56 k_X9_nextExpiry_62
    rw [show (5 : Int32) = nI 5 from rfl, h.gd (by omega), h.vl (by omega), hm, nI_l (by omega), if_neg (fun y => by have := (lN_le (by omega) (by omega)).mp y; omega), ck_, Option.bind_some, show nI (2500 + 140 * i) + (4 : Int32) = nI (2500 + 140 * i + 4) from nI_add _ 4, if_pos (h.wx (by omega)), h.vl (by omega), show mu A M (2500 + 140 * i + 4) = _ from hc.2.1.1, nI_1, ih (i + 1) fu _ (by omega) (by omega), ih (i + 1) fu _ (by omega) (by omega), cg_drop (cs := ms) (i := i) (by omega)]
    show _ = some ((ms.drop (i + 1)).foldl neS (neS y (cg ms i)), A)
    unfold neS
    by_cases z1 : cE (cg ms i) < 0
    · rw [if_pos z1, if_pos z1]
    · rw [if_neg z1, if_neg z1]
      by_cases z2 : y < 0
      · rw [if_pos z2, if_pos z2]
      · rw [if_neg z2, if_neg z2]
        by_cases z3 : y ≤ cE (cg ms i)
        · rw [if_pos z3, if_pos z3]
        · rw [if_neg z3, if_neg z3]
def mixL (l : List Int64) (x : Int64) : Int64 := l.foldl (fun x y => 31 * x + y) x
theorem Ms.mixes (h : Ms A M) {a : Nat} {l : List Int64} (hl : ∀ i, i < l.length → mu A M (a + i) = l.getD i 0) (ha : a + l.length ≤ 9000) (x : Int64) : f_X9_mixes A M x (nI a) (lN l.length) = some (mixL l x) := by
  have L : ∀ e i fu x, i + e = l.length → e < fu → k_X9_mixes_6 A M (nI a) (lN l.length) fu x (nI i) = some (mixL (l.drop i) x) := by
    intro e
    induction e with
    | zero =>
      intro i fu x h1 h2
      obtain ⟨fu, rfl⟩ : ∃ f, fu = f + 1 := ⟨fu - 1, by omega⟩
      show k_X9_mixes_6s A M _ _ _ _ _ = _
      unfold k_X9_mixes_6s
      rw [nI_l (by omega), if_pos ((lN_le (by omega) (by omega)).mpr (by omega)), List.drop_of_length_le (by omega)]
      rfl
    | succ e ih =>
      intro i fu x h1 h2
      obtain ⟨fu, rfl⟩ : ∃ f, fu = f + 1 := ⟨fu - 1, by omega⟩
      show k_X9_mixes_6s A M _ _ _ _ _ = _
      unfold k_X9_mixes_6s
      rw [nI_l (by omega), if_neg (fun y => by have := (lN_le (by omega) (by omega)).mp y; omega), nI_add, h.gd (by omega), h.vl (by omega), hl i (by omega), nI_1, ih (i + 1) fu _ (by omega) (by omega), List.drop_eq_getElem_cons (show i < l.length by omega)]
      show _ = some (mixL (l.drop (i + 1)) (31 * x + l[i]))
      rw [List.getD_eq_getElem?_getD, List.getElem?_eq_getElem (show i < l.length by omega)]
      rfl
  unfold f_X9_mixes
  exact L l.length 0 FU x (by omega) (by unfold FU; omega)
theorem Ms.mixSg (h : Ms A M) {a : Nat} {s : List Int32} (hs : Sg (mu A M) a s) (ha : a + s.length ≤ 9000) (x : Int64) : f_X9_mixes A M x (nI a) (lN s.length) = some (mixS s x) := by
  have := h.mixes (a := a) (l := s.map (fun c => c.toInt64)) (fun i hi => by
    rw [List.length_map] at hi
    rw [hs i hi]
    simp [g, hi]) (by rw [List.length_map]; exact ha) x
  rw [List.length_map] at this
  rw [this]
  unfold mixL mixS
  rw [List.foldl_map]
end
theorem neS_eaS {c : CkV} (h : okE c) {x : Int64} (hx : x = -1 ∨ 0 ≤ x) : neS x c = eaS x c ∧ (eaS x c = -1 ∨ 0 ≤ eaS x c) := by
  have hE := okE_m1 h
  unfold neS eaS
  by_cases z : cE c = -1
  · rw [if_pos (hE.mp z), if_pos z]
    exact ⟨rfl, hx⟩
  · have z0 : ¬ cE c < 0 := fun y => z (hE.mpr y)
    have z1 : 0 ≤ cE c := Int64.not_lt.mp z0
    rw [if_neg z0, if_neg z]
    rcases hx with hx | hx
    · rw [hx, if_pos (by decide), if_pos rfl]
      exact ⟨rfl, Or.inr z1⟩
    · have hx0 : ¬ x < 0 := Int64.not_lt.mpr hx
      have hx1 : ¬ x = -1 := fun y => by rw [y] at hx; exact absurd hx (by decide)
      rw [if_neg hx0, if_neg hx1]
      refine ⟨rfl, Or.inr ?_⟩
      split
      · exact hx
      · exact z1
theorem ne_fold : ∀ (ms : List CkV) (x : Int64), (∀ c ∈ ms, okE c) → (x = -1 ∨ 0 ≤ x) → ms.foldl neS x = ms.foldl eaS x := by
  intro ms
  induction ms with
  | nil => intro x _ _; rfl
  | cons c ms ih =>
    intro x h hx
    obtain ⟨e1, e2⟩ := neS_eaS (h c List.mem_cons_self) hx
    show ms.foldl neS (neS x c) = ms.foldl eaS (eaS x c)
    rw [e1]
    exact ih _ (fun d hd => h d (List.mem_cons_of_mem _ hd)) e2
theorem eaS_comm (x : Int64) (a b : CkV) : eaS (eaS x a) b = eaS (eaS x b) a := by
  have key : ∀ x p q : Int64, (if q = -1 then (if p = -1 then x else if x = -1 then p else if x ≤ p then x else p) else if (if p = -1 then x else if x = -1 then p else if x ≤ p then x else p) = -1 then q else if (if p = -1 then x else if x = -1 then p else if x ≤ p then x else p) ≤ q then (if p = -1 then x else if x = -1 then p else if x ≤ p then x else p) else q) = (if p = -1 then (if q = -1 then x else if x = -1 then q else if x ≤ q then x else q) else if (if q = -1 then x else if x = -1 then q else if x ≤ q then x else q) = -1 then p else if (if q = -1 then x else if x = -1 then q else if x ≤ q then x else q) ≤ p then (if q = -1 then x else if x = -1 then q else if x ≤ q then x else q) else p) := by
    intro x p q
    have inj : ∀ a b : Int64, a = b ↔ a.toInt = b.toInt := fun a b => Int64.toInt_inj.symm
    have le : ∀ a b : Int64, a ≤ b ↔ a.toInt ≤ b.toInt := fun a b => Int64.le_iff_toInt_le
    have m1 : (-1 : Int64).toInt = -1 := by decide
    by_cases hp : p = -1
    · simp only [hp, if_true]
    · by_cases hq : q = -1
      · simp only [hq, if_true]
      · simp only [hp, hq, if_false]
        by_cases hx : x = -1
        · simp only [hx, if_true, hp, hq, if_false]
          by_cases h1 : p ≤ q
          · by_cases h2 : q ≤ p
            · rw [if_pos h1, if_pos h2, inj]
              rw [le] at h1 h2; omega
            · rw [if_pos h1, if_neg h2]
          · by_cases h2 : q ≤ p
            · rw [if_neg h1, if_pos h2]
            · rw [le] at h1 h2; omega
        · simp only [hx, if_false]
          by_cases h1 : x ≤ p
          · rw [if_pos h1]
            simp only [hx, if_false]
            by_cases h2 : x ≤ q
            · rw [if_pos h2]
              simp only [hx, if_false]
              rw [if_pos h1]
            · rw [if_neg h2]
              simp only [hq, if_false]
              rw [if_pos]
              rw [le] at h1 h2 ⊢; omega
          · rw [if_neg h1]
            simp only [hp, if_false]
            by_cases h2 : x ≤ q
            · rw [if_pos h2]
              simp only [hx, if_false]
              rw [if_neg h1, if_pos]
              rw [le] at h1 h2 ⊢; omega
            · rw [if_neg h2]
              simp only [hq, if_false]
              by_cases h3 : p ≤ q
              · by_cases h4 : q ≤ p
                · rw [if_pos h3, if_pos h4, inj]
                  rw [le] at h3 h4; omega
                · rw [if_pos h3, if_neg h4]
              · by_cases h4 : q ≤ p
                · rw [if_neg h3, if_pos h4]
                · rw [le] at h3 h4; omega
  exact key x (cE a) (cE b)
theorem ea_perm {ms cs : List CkV} (p : ms.Perm cs) (x : Int64) : ms.foldl eaS x = cs.foldl eaS x := p.foldl_eq' (fun a _ b _ z => eaS_comm z a b) x
