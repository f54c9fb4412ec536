/-! the reference: the cause of a rejection -/
theorem dm_dom {s e : List Int32} (hs : isDom s = true) (h : dm s e = true) (he : e ≠ []) : isDom e = true := by
  obtain ⟨h1, h2, h3⟩ := isDom_iff.mp hs
  unfold dm at h
  rw [Bool.and_eq_true, Bool.and_eq_true, Bool.or_eq_true, decide_eq_true_iff, decide_eq_true_iff, decide_eq_true_iff, decide_eq_true_iff] at h
  obtain ⟨⟨q1, q2⟩, q3⟩ := h
  have he1 : 1 ≤ e.length := by
    rcases Nat.eq_zero_or_pos e.length with z | z
    · exact absurd (List.length_eq_zero_iff.mp z) he
    · exact z
  have hg := (drop_iff q1).mp q3
  refine isDom_iff.mpr ⟨he1, by omega, fun k hk => ?_⟩
  have gk := hg k hk
  rcases h3 (s.length - e.length + k) (by omega) with z | z
  · rw [gk] at z; exact Or.inl z
  · rw [gk] at z
    refine Or.inr ⟨z.1, ?_, by omega, ?_⟩
    · rcases Nat.eq_zero_or_pos k with w | w
      · subst w
        exfalso
        rcases q2 with p | p
        · omega
        · have := z.2.2.2
          rw [Nat.add_zero] at this
          exact this p
      · exact w
    · by_cases w : k = 0
      · subst w
        exfalso
        rcases q2 with p | p
        · omega
        · have := z.2.2.2
          rw [Nat.add_zero] at this
          exact this p
      · have := z.2.2.2
        rw [show s.length - e.length + k - 1 = s.length - e.length + (k - 1) by omega, hg (k - 1) (by omega)] at this
        exact this
theorem dm_self (s : List Int32) : dm s s = true := by
  rw [dm_eq, decide_eq_true rfl, Bool.true_or]
def cauM (v : JV) (ms : List CkV) (r : RdV) (sc : Bool) : Nat := if cau2 v r ≠ 0 then cau2 v r else if cauP (jsC v ms) (mkF v r) sc ≠ 0 then cauP (jsC v ms) (mkF v r) sc else match eld (mkF v r) ms 0 with
  | none => 0
  | some i => if (sc && cO (cg ms i)) = true then 62 else 0
theorem mkO_eq {v : JV} {r : RdV} (hh : isDom (jR v).2.2.1 = true) (hc : cau2 v r = 0) : mkO (jU v) r = mkHO v r ∧ mkD (jU v) (jR v) r = cD (mkF v r) ∧ (mkD (jU v) (jR v) r).length ≤ 30 ∧ r.1.1.length ≤ 16 ∧ r.1.2.1.length ≤ 32 := by
  have q := mkF_dom hh hc
  have e : mkO (jU v) r = mkHO v r := by
    unfold mkO mkHO
    by_cases d0 : r.1.2.2.1 = []
    · rw [decide_eq_true d0, Bool.true_or, Bool.true_or]
    · rw [decide_eq_false d0, Bool.false_or, Bool.false_or]
      have hd : isDom r.1.2.2.1 = true := by
        unfold cau2 at hc
        split at hc
        · unfold cauD at hc
          rw [if_neg d0] at hc
          cases hd : isDom r.1.2.2.1
          · rw [hd, if_pos rfl] at hc; omega
          · rfl
        · rename_i z; exact absurd hc z
      rw [hd, Bool.true_and]
  have e2 : mkD (jU v) (jR v) r = cD (mkF v r) := by
    unfold mkD mkF
    rw [e]
  refine ⟨e, e2, ?_, q.2.2.1, q.2.2.2⟩
  rw [e2]
  exact (isDom_iff.mp q.1).2.1
section
variable {A : Hp} {M : Nat} {t : List Int32} {r : RdV} {v : JV} {ms : List CkV} {n : Nat}
theorem eld_lt {f : CkV} : ∀ {cs : List CkV} {i j : Nat}, eld f cs i = some j → i ≤ j ∧ j < i + cs.length := by
  intro cs
  induction cs with
  | nil => intro i j h; cases h
  | cons c cs ih =>
    intro i j h
    have h : (if sky c f then some i else eld f cs (i + 1)) = some j := h
    rw [List.length_cons]
    split at h
    · cases h; omega
    · have := ih h; omega
theorem Ms.cause132 (h : Ms A M) (hM : Mw A M) (hn : NvM A M t r) (hfl : FlM A M r) (hf : KyM (mu A M) 8600 (mkF v r)) (hJ : JM (mu A M) v ms n) (ho : okl ms) (h2 : okr r) (hp0 : g (cP (mkF v r)) 0 = 47) (h16 : r.1.1.length ≤ 16) (sc : Bool) : k_X9_cause_132 A M (bI sc) = some (nI (if cauP (jsC v ms) (mkF v r) sc ≠ 0 then cauP (jsC v ms) (mkF v r) sc else match eld (mkF v r) ms 0 with
    | none => 0
    | some i => if (sc && cO (cg ms i)) = true then 62 else 0)) := by
  have hm := hJ.1.2.2.1
  have hl := hJ.2.2.2.2.2.2.2
  have hc := hJ.2.2.2.2.2.2.1
  have hR := hJ.2.2.2.2.1
  have hX : cX (mkF v r) = r.2.2.1 := rfl
  have hO : cO (mkF v r) = r.2.2.2.1 := rfl
  have hL : cL (mkF v r) = r.2.2.2.2.1 := rfl
  have hN : cN (mkF v r) = r.1.1 := rfl
  have h483 := hn.2.1
  obtain ⟨_, _, h483, _, _⟩ := h483
  have sgN : Sg (mu A M) 8614 r.1.1 := hf.2.2.1.1
  have bS : f_X9_begins A M (8614 : Int32) (hgI A 483 M 0) (hgR A 469 M 0) = some (bI (bgn r.1.1 (wsc 4))) := by
    obtain ⟨m1, m2, m3⟩ := hM 16 (by omega)
    rw [h483, show hgR A 469 M 0 = _ from m1]
    exact h.begins sgN (by omega) m2 m3 (by decide)
  have bH : f_X9_begins A M (8614 : Int32) (hgI A 483 M 0) (hgR A 470 M 0) = some (bI (bgn r.1.1 (wsc 6))) := by
    obtain ⟨m1, m2, m3⟩ := hM 17 (by omega)
    rw [h483, show hgR A 470 M 0 = _ from m1]
    exact h.begins sgN (by omega) m2 m3 (by decide)
  have hel := h.elder hm hl hc hf
  -- from behind
  have k329 : k_X9_cause_329 A M (bI sc) = some (nI (match eld (mkF v r) ms 0 with
    | none => 0
    | some i => if (sc && cO (cg ms i)) = true then 62 else 0)) := by
    unfold k_X9_cause_329
    rw [if_pos h.1, hel, Option.bind_some]
    cases he : eld (mkF v r) ms 0 with
    | none =>
      cases sc
      · rw [if_pos (by rfl)]; rfl
      · rw [if_neg (by decide), if_pos (by decide)]; rfl
    | some i =>
      have hi := (eld_lt he).2
      rw [Nat.zero_add] at hi
      have hk := hc i hi
      cases sc
      · rw [if_pos (by rfl)]; rfl
      · rw [if_neg (by decide), if_neg (show ¬ oI (some i) < 0 from nI_pos (by omega)), show f_X9_cookie A (oI (some i)) = _ from ck_ i, Option.bind_some, if_pos h.a11, show nI (2500 + 140 * i) + (10 : Int32) = nI (2500 + 140 * i + 10) from nI_add _ 10, if_pos (h.wx (by omega)), h.vl (by omega), show mu A M (2500 + 140 * i + 10) = _ from hk.2.2.1.2.2.1]
        show _ = some (nI (if (true && cO (cg ms i)) = true then 62 else 0))
        cases cO (cg ms i) <;> rfl
  generalize (match eld (mkF v r) ms 0 with
    | none => 0
    | some i => if (sc && cO (cg ms i)) = true then 62 else 0) = z0 at k329 ⊢
  have k266 : k_X9_cause_266 A M (bI sc) (bI r.2.2.1) = some (nI (if bgn r.1.1 (wsc 6) = true ∧ ¬ (r.2.2.1 = true ∧ cH (mkF v r) = true ∧ cP (mkF v r) = wsc 5) then 42 else z0)) := by
    have hroot : cP (mkF v r) = wsc 5 ↔ (cP (mkF v r)).length = 1 := by
      constructor
      · intro z; rw [z]; decide
      · intro z
        have : ∀ p : List Int32, p.length = 1 → g p 0 = 47 → p = wsc 5 := by
          intro p hp hg
          match p, hp with
          | [a], _ =>
            have : a = 47 := hg
            rw [this]; rfl
        exact this _ z hp0
    have K : ∀ y : Bool, y = decide (cP (mkF v r) = wsc 5) → k_X9_cause_284 A M (bI sc) (bI r.2.2.1) (bI y) = some (nI (if bgn r.1.1 (wsc 6) = true ∧ ¬ (r.2.2.1 = true ∧ cH (mkF v r) = true ∧ cP (mkF v r) = wsc 5) then 42 else z0)) := by
      intro y hy
      unfold k_X9_cause_284
      rw [if_pos h.1, bH, Option.bind_some, k329]
      cases hb : bgn r.1.1 (wsc 6)
      · rw [if_pos (by rfl), if_neg (fun z => by cases z.1)]
      · rw [if_neg (by decide)]
        cases hs : r.2.2.1
        · rw [if_pos (by rfl), if_pos ⟨rfl, fun z => by cases z.1⟩]; rfl
        · rw [if_neg (by decide), if_pos h.a11, show (8608 : Int32) = nI 8608 from rfl, if_pos (h.wx (by omega)), h.vl (by omega), show mu A M 8608 = _ from hf.2.1]
          cases hH : cH (mkF v r)
          · rw [if_neg (by decide), if_pos ⟨rfl, fun z => by cases z.2.1⟩]; rfl
          · rw [if_pos (by rfl)]
            by_cases hq : cP (mkF v r) = wsc 5
            · rw [hy, decide_eq_true hq, if_neg (by decide), if_neg (fun z => z.2 ⟨rfl, rfl, hq⟩)]
            · rw [hy, decide_eq_false hq, if_pos (by rfl), if_pos ⟨rfl, fun z => hq z.2.2⟩]; rfl
    unfold k_X9_cause_266
    rw [show (8603 : Int32) = nI 8603 from rfl, h.gd (by omega), h.vl (by omega), show mu A M 8603 = _ from hf.1.2.2.2]
    by_cases hq : (cP (mkF v r)).length = 1
    · rw [if_pos (show lN (cP (mkF v r)).length = (1 : Int64) by rw [hq]; rfl)]
      exact K true (decide_eq_true (hroot.mpr hq)).symm
    · rw [if_neg (show ¬ lN (cP (mkF v r)).length = (1 : Int64) from fun z => hq ((lN_eq (b := 1) (by have := hf.2.2.2; omega) (by omega)).mp z))]
      exact K false (decide_eq_false (fun z => hq (hroot.mp z))).symm
  generalize hz1 : (if bgn r.1.1 (wsc 6) = true ∧ ¬ (r.2.2.1 = true ∧ cH (mkF v r) = true ∧ cP (mkF v r) = wsc 5) then 42 else z0) = z1 at k266
  have k241 : k_X9_cause_241 A M (bI sc) (bI r.2.2.1) = some (nI (if bgn r.1.1 (wsc 4) = true ∧ r.2.2.1 = false then 41 else z1)) := by
    unfold k_X9_cause_241
    rw [if_pos h.1, bS, Option.bind_some, k266]
    cases hb : bgn r.1.1 (wsc 4)
    · rw [if_pos (by rfl), if_neg (fun z => by cases z.1)]
    · rw [if_neg (by decide)]
      cases hs : r.2.2.1
      · rw [if_pos (by rfl), if_pos ⟨rfl, rfl⟩]; rfl
      · rw [if_neg (by decide), if_neg (fun z => by cases z.2)]
  generalize hz2 : (if bgn r.1.1 (wsc 4) = true ∧ r.2.2.1 = false then 41 else z1) = z2 at k241
  have k221 : k_X9_cause_221 A M (bI sc) (bI r.2.2.1) = some (nI (if r.2.2.2.2.1 = 0 ∧ r.2.2.1 = false then 51 else z2)) := by
    unfold k_X9_cause_221
    rw [show (8611 : Int32) = nI 8611 from rfl, h.gd (by omega), h.vl (by omega), show mu A M 8611 = _ from hfl.2.2.1, k241]
    by_cases q0 : r.2.2.2.2.1 = 0
    · rw [if_pos (show lN r.2.2.2.2.1 = (0 : Int64) by rw [q0]; rfl)]
      cases hs : r.2.2.1
      · rw [if_pos (by rfl), if_pos ⟨q0, rfl⟩]; rfl
      · rw [if_neg (by decide), if_neg (fun z => by cases z.2)]
    · rw [if_neg (show ¬ lN r.2.2.2.2.1 = (0 : Int64) from fun z => q0 ((lN_eq (b := 0) (by have := h2.2.1; omega) (by omega)).mp z)), if_neg (fun z => q0 z.1)]
  generalize hz3 : (if r.2.2.2.2.1 = 0 ∧ r.2.2.1 = false then 51 else z2) = z3 at k221
  have k202 : ∀ y : Bool, y = !(jR v).2.1 → k_X9_cause_202 A M (bI sc) (bI r.2.2.1) (bI y) = some (nI (if r.2.2.1 = false ∧ (jR v).2.1 = false ∧ ms.any (fun c => grd c (mkF v r)) = true then 32 else z3)) := by
    intro y hy
    unfold k_X9_cause_202
    rw [k221, if_pos h.1, h.hides hm hl hc hf ho, Option.bind_some]
    cases hs : r.2.2.1
    · rw [if_pos (by rfl)]
      cases hh : (jR v).2.1
      · rw [hy, hh, Bool.not_false, if_neg (by decide)]
        cases ha : ms.any (fun c => grd c (mkF v r))
        · rw [if_pos (by rfl), if_neg (fun z => by cases z.2.2)]
        · rw [if_neg (by decide), if_pos ⟨rfl, rfl, rfl⟩]; rfl
      · rw [hy, hh, Bool.not_true, if_pos (by rfl), if_neg (fun z => by cases z.2.1)]
    · rw [if_neg (by decide), if_neg (fun z => by cases z.1)]
  generalize hz4 : (if r.2.2.1 = false ∧ (jR v).2.1 = false ∧ ms.any (fun c => grd c (mkF v r)) = true then 32 else z3) = z4 at k202
  have k182 : ∀ y : Bool, y = !(jR v).2.1 → k_X9_cause_182 A M (bI sc) (bI r.2.2.1) (bI y) = some (nI (if r.2.2.2.1 = true ∧ sc = true then 61 else z4)) := by
    intro y hy
    unfold k_X9_cause_182
    rw [show (8610 : Int32) = nI 8610 from rfl, h.gd (by omega), h.vl (by omega), show mu A M 8610 = _ from hfl.2.1, k202 y hy]
    cases hs : r.2.2.2.1
    · rw [if_neg (by decide), if_neg (fun z => by cases z.1)]
    · rw [if_pos (by rfl)]
      cases hsc : sc
      · rw [if_pos (by rfl), if_neg (fun z => by cases z.2)]
      · rw [if_neg (by decide), if_pos ⟨rfl, rfl⟩]; rfl
  generalize hz5 : (if r.2.2.2.1 = true ∧ sc = true then 61 else z4) = z5 at k182
  have k168 : ∀ y : Bool, y = !(jR v).2.1 → k_X9_cause_168 A M (bI sc) (bI r.2.2.1) (bI y) = some (nI (if r.2.2.1 = true ∧ (jR v).2.1 = false then 31 else z5)) := by
    intro y hy
    unfold k_X9_cause_168
    rw [k182 y hy]
    cases hs : r.2.2.1
    · rw [if_pos (by rfl), if_neg (fun z => by cases z.1)]
    · rw [if_neg (by decide)]
      cases hh : (jR v).2.1
      · rw [hy, hh, Bool.not_false, if_neg (by decide), if_pos ⟨rfl, rfl⟩]; rfl
      · rw [hy, hh, Bool.not_true, if_pos (by rfl), if_neg (fun z => by cases z.2)]
  generalize hz6 : (if r.2.2.1 = true ∧ (jR v).2.1 = false then 31 else z5) = z6 at k168
  have k150 : k_X9_cause_150 A M (bI sc) (bI r.2.2.1) = some (nI z6) := by
    unfold k_X9_cause_150
    rw [show (101 : Int32) = nI 101 from rfl, h.gd (by omega), h.vl (by omega), show mu A M 101 = _ from hR.1.2.1]
    cases hh : (jR v).2.1
    · rw [if_pos (by rfl)]; exact k168 true (by rw [hh]; rfl)
    · rw [if_neg (by decide)]; exact k168 false (by rw [hh]; rfl)
  have fin : z6 = if cauP (jsC v ms) (mkF v r) sc ≠ 0 then cauP (jsC v ms) (mkF v r) sc else z0 := by
    rw [← hz6, ← hz5, ← hz4, ← hz3, ← hz2, ← hz1]
    have hcp : cauP (jsC v ms) (mkF v r) sc = if r.2.2.1 = true ∧ (jR v).2.1 = false then 31 else if r.2.2.2.1 = true ∧ sc = true then 61 else if r.2.2.1 = false ∧ (jR v).2.1 = false ∧ ms.any (fun c => grd c (mkF v r)) = true then 32 else if r.2.2.2.2.1 = 0 ∧ r.2.2.1 = false then 51 else if bgn r.1.1 (wsc 4) = true ∧ r.2.2.1 = false then 41 else if bgn r.1.1 (wsc 6) = true ∧ ¬ (r.2.2.1 = true ∧ cH (mkF v r) = true ∧ cP (mkF v r) = wsc 5) then 42 else 0 := rfl
    rw [hcp]
    by_cases c1 : r.2.2.1 = true ∧ (jR v).2.1 = false
    · simp only [if_pos c1]; rfl
    simp only [if_neg c1]
    by_cases c2 : r.2.2.2.1 = true ∧ sc = true
    · simp only [if_pos c2]; rfl
    simp only [if_neg c2]
    by_cases c3 : r.2.2.1 = false ∧ (jR v).2.1 = false ∧ ms.any (fun c => grd c (mkF v r)) = true
    · simp only [if_pos c3]; rfl
    simp only [if_neg c3]
    by_cases c4 : r.2.2.2.2.1 = 0 ∧ r.2.2.1 = false
    · simp only [if_pos c4]; rfl
    simp only [if_neg c4]
    by_cases c5 : bgn r.1.1 (wsc 4) = true ∧ r.2.2.1 = false
    · simp only [if_pos c5]; rfl
    simp only [if_neg c5]
    by_cases c6 : bgn r.1.1 (wsc 6) = true ∧ ¬ (r.2.2.1 = true ∧ cH (mkF v r) = true ∧ cP (mkF v r) = wsc 5)
    · simp only [if_pos c6]; rfl
    simp only [if_neg c6]; rfl
  rw [← fin, ← k150]
  unfold k_X9_cause_132
  rw [show (8609 : Int32) = nI 8609 from rfl, h.gd (by omega), h.vl (by omega), show mu A M 8609 = _ from hfl.1]
  cases r.2.2.1
  · rw [if_neg (by decide)]; rfl
  · rw [if_pos (by rfl)]; rfl
theorem Ms.cause (h : Ms A M) (hM : Mw A M) (hn : NvM A M t r) (ha : AtM A M t r) (hJ : JM (mu A M) v ms n) (ho : okl ms) (h2 : okr r) (hh : isDom (jR v).2.2.1 = true) (ht : t.length ≤ 160) (hf : cau2 v r = 0 → KyM (mu A M) 8600 (mkF v r) ∧ g (cP (mkF v r)) 0 = 47) (sc : Bool) : f_X9_cause A M (bI sc) = some (nI (cauM v ms r sc)) := by
  obtain ⟨n1, ⟨c, -, n3, n4, -⟩, d, -, n6, n7, -⟩ := id hn
  have hd := ha.2.2.1
  have hR := hJ.2.2.2.2.1
  have l2 := hR.2.2.2
  have hl : f_X9_hostLong A M = some (nI (jR v).2.2.1.length) := by
    unfold f_X9_hostLong
    rw [show (102 : Int32) = nI 102 from rfl, h.gd (by omega), h.vl (by omega), show mu A M 102 = _ from hR.1.2.2.1, lN_i]
  unfold f_X9_cause cauM
  rw [if_pos h.1, n1, n3, n6]
  by_cases q11 : r.2.1.1 = false
  · have : cau2 v r = 11 := by unfold cau2 cauT; rw [if_pos q11]; rfl
    rw [if_pos (by rw [q11]; rfl), this, if_pos (by decide)]; rfl
  rw [if_neg (fun z => q11 (bI_0.mp z))]
  by_cases q12 : r.1.1 = []
  · have : cau2 v r = 12 := by unfold cau2 cauT; rw [if_neg q11, if_pos q12]; rfl
    rw [if_pos ((nil_nI (by omega)).mpr q12), this, if_pos (by decide)]; rfl
  rw [if_neg (fun z => q12 ((nil_nI (by omega)).mp z))]
  by_cases q13 : 16 < r.1.1.length
  · have : cau2 v r = 13 := by unfold cau2 cauT; rw [if_neg q11, if_neg q12, if_pos (Or.inl q13)]; rfl
    rw [if_pos (show (16 : Int32) < nI r.1.1.length from nI_lt (a := 16) q13 (by omega)), this, if_pos (by decide)]; rfl
  rw [if_neg (show ¬ (16 : Int32) < nI r.1.1.length from nI_nlt (a := 16) (b := r.1.1.length) (by omega) (by omega))]
  by_cases q14 : 32 < r.1.2.1.length
  · have : cau2 v r = 13 := by unfold cau2 cauT; rw [if_neg q11, if_neg q12, if_pos (Or.inr q14)]; rfl
    rw [if_neg (show ¬ nI r.1.2.1.length ≤ (32 : Int32) from nI_ge (a := 32) q14 (by omega)), this, if_pos (by decide)]; rfl
  rw [if_pos (show nI r.1.2.1.length ≤ (32 : Int32) from nI_le (b := 32) (by omega) (by omega))]
  have hc0 : cauT r = 0 := by unfold cauT; rw [if_neg q11, if_neg q12, if_neg (by omega)]
  have hcT : cau2 v r = cauD v r.1.2.2.1 := by unfold cau2; rw [if_pos hc0]
  have rest : cau2 v r = 0 → k_X9_cause_132 A M (bI sc) = some (nI (cauM v ms r sc)) := by
    intro z
    obtain ⟨f1, f2⟩ := hf z
    unfold cauM
    rw [if_neg (fun w => w z)]
    exact h.cause132 hM hn ha.2.2.2.2 f1 hJ ho h2 f2 (by omega) sc
  show _ = some (nI (cauM v ms r sc))
  by_cases d0 : r.1.2.2.1 = []
  · have hz : cau2 v r = 0 := by rw [hcT]; unfold cauD; rw [if_pos d0]
    unfold k_X9_cause_72 k_X9_cause_73 k_X9_cause_102
    rw [hd.1, decide_eq_false (fun z => z d0), if_pos (by rfl), if_pos h.1, if_pos (by rfl), if_pos h.1, if_pos (by rfl)]
    exact rest hz
  · obtain ⟨d1, d2⟩ := hd.2.1 d0
    have d3 := hd.2.2
    have k102 : k_X9_cause_102 A M (bI sc) = if dm (jR v).2.2.1 r.1.2.2.1 = true then k_X9_cause_132 A M (bI sc) else some 22 := by
      unfold k_X9_cause_102
      rw [if_pos h.1, hd.1, decide_eq_true d0, if_neg (by decide), hl, Option.bind_some, d1, show (104 : Int32) = nI (100 + 4) from rfl, show (8800 : Int32) = nI 8800 from rfl, h.matches hR.2.1 d2 (by omega) (by omega), Option.bind_some]
      cases dm (jR v).2.2.1 r.1.2.2.1
      · rw [if_pos (by rfl), if_neg (by decide)]
      · rw [if_neg (by decide), if_pos rfl]
    have k73 : ∀ y : Bool, k_X9_cause_73 A M (bI sc) (bI y) = if (isDom r.1.2.2.1 && decide (pubS (jU v) r.1.2.2.1 = 0)) = true ∧ y = false then some 21 else k_X9_cause_102 A M (bI sc) := by
      intro y
      unfold k_X9_cause_73
      rw [if_pos h.1, hd.1, decide_eq_true d0, if_neg (by decide), d1, show (8800 : Int32) = nI 8800 from rfl, h.isPublic hJ.2.2.1 d2 (by omega), Option.bind_some]
      cases isDom r.1.2.2.1 && decide (pubS (jU v) r.1.2.2.1 = 0)
      · rw [if_pos (by rfl), if_neg (fun z => by cases z.1)]
      · rw [if_neg (by decide)]
        cases y
        · rw [if_pos (by rfl), if_pos ⟨rfl, rfl⟩]
        · rw [if_neg (by decide), if_neg (fun z => by cases z.2)]
    have cas : (if decide (r.1.2.2.1 = (jR v).2.2.1) = true then k_X9_cause_73 A M (bI sc) (bI true) else k_X9_cause_73 A M (bI sc) (bI false)) = some (nI (cauM v ms r sc)) := by
      have hcc : cauD v r.1.2.2.1 = if isDom r.1.2.2.1 = false then 22 else if pubS (jU v) r.1.2.2.1 = 0 then (if r.1.2.2.1 = (jR v).2.2.1 then 0 else 21) else if dm (jR v).2.2.1 r.1.2.2.1 then 0 else 22 := by unfold cauD; rw [if_neg d0]
      rw [hcc] at hcT
      have bad : ∀ m : Nat, m ≠ 0 → cau2 v r = m → some (nI m) = some (nI (cauM v ms r sc)) := fun m hm hq => by
        unfold cauM; rw [hq, if_pos hm]
      rw [k73, k73, k102]
      cases hdm : isDom r.1.2.2.1
      · rw [hdm, if_pos rfl] at hcT
        have hne : ¬ r.1.2.2.1 = (jR v).2.2.1 := fun z => by rw [z, hh] at hdm; cases hdm
        have hdd : dm (jR v).2.2.1 r.1.2.2.1 = false := by
          cases hz : dm (jR v).2.2.1 r.1.2.2.1
          · rfl
          · rw [dm_dom hh hz d0] at hdm; cases hdm
        rw [decide_eq_false hne, if_neg (by decide), Bool.false_and, if_neg (fun z => by cases z.1), hdd, if_neg (by decide)]
        exact bad 22 (by omega) hcT
      · rw [hdm, if_neg (by decide)] at hcT
        rw [Bool.true_and]
        by_cases hp : pubS (jU v) r.1.2.2.1 = 0
        · rw [if_pos hp] at hcT
          rw [decide_eq_true hp]
          by_cases he : r.1.2.2.1 = (jR v).2.2.1
          · rw [if_pos he] at hcT
            rw [decide_eq_true he, if_pos rfl, if_neg (fun z => by cases z.2), he, dm_self, if_pos rfl]
            exact rest hcT
          · rw [if_neg he] at hcT
            rw [decide_eq_false he, if_neg (by decide), if_pos ⟨rfl, rfl⟩]
            exact bad 21 (by omega) hcT
        · rw [if_neg hp] at hcT
          rw [decide_eq_false hp, show ∀ X Y : Option Int32, (if decide (r.1.2.2.1 = (jR v).2.2.1) = true then if false = true ∧ true = false then X else Y else if false = true ∧ false = false then X else Y) = Y from fun X Y => by rw [if_neg (show ¬ (false = true ∧ true = false) from fun z => by cases z.1), if_neg (show ¬ (false = true ∧ false = false) from fun z => by cases z.1), ite_self]]
          cases hdd : dm (jR v).2.2.1 r.1.2.2.1
          · rw [hdd, if_neg (by decide)] at hcT
            rw [if_neg (by decide)]
            exact bad 22 (by omega) hcT
          · rw [hdd, if_pos rfl] at hcT
            rw [if_pos rfl]
            exact rest hcT
    unfold k_X9_cause_72
    rw [hd.1, decide_eq_true d0, if_neg (by decide), hl, Option.bind_some, d1, show (104 : Int32) = nI (100 + 4) from rfl, show (8800 : Int32) = nI 8800 from rfl, h.areLike d2 hR.2.1 (by omega) (by omega), Option.bind_some, ← cas]
    cases decide (r.1.2.2.1 = (jR v).2.2.1)
    · rw [if_pos (by rfl), if_neg (by decide)]; rfl
    · rw [if_neg (by decide), if_pos rfl]; rfl
end
