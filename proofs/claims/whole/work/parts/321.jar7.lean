/-! the jar of the class: the header -/
def tou (c : CkV) (t : Int64) : CkV := (c.1, (c.2.1.1, c.2.1.2.1, t), c.2.2)
def wrH (h : List Int32) (c : CkV) : List Int32 := (if h = [] then h else h ++ [59, 32]) ++ cN c ++ [61] ++ cV c
def jsH (v : JV) (h : List Int32) : JV := (v.1, v.2.1, h, v.2.2.2)
theorem wrH_len (h : List Int32) (c : CkV) : (wrH h c).length ≤ h.length + 2 + (cN c).length + 1 + (cV c).length := by
  unfold wrH
  split
  · rename_i q
    simp [q]
    omega
  · simp; omega
theorem Ck.touch {A : Hp} {a : Nat} {c : CkV} (h : Ck A a c) (t : Int64) : Ck (hsL A 70 a 0 t) a (tou c t) := by
  obtain ⟨s0, ⟨⟨a0, a1, a2⟩, a3, a4, a5, a6, a7, a8⟩, r0⟩ := h
  have e : Eqx (fun q => q = a) A (hsL A 70 a 0 t) := ea_L
  exact ⟨s0, ⟨⟨by rw [hgL_sL, if_neg (by omega)]; exact a0, by rw [hgL_sL, if_neg (by omega)]; exact a1, by rw [hgL_sL, if_pos ⟨rfl, rfl, rfl⟩]; rfl⟩, a3, a4, a5, a6, a7, a8⟩, r0.eq e (fun q z1 z2 w => by have w : q = a := w; omega)⟩
theorem Jr.writeCookie {A : Hp} {J : Nat} {v : JV} {f : CkV} (h : Jr A J v f) {ad : Nat → Nat} (hC : JC A J ad (jC v)) {i : Nat} (hi : i < (jC v).length) (hl : (jH v).length + 51 ≤ 2091) : ∃ B, f_X4_writeCookie A J (ad i) = some B ∧ Jr B J (jsC (jsH v (wrH (jH v) (cg (jC v) i))) ((jC v).set i (tou (cg (jC v) i) (jT v)))) f ∧ JC B J ad ((jC v).set i (tou (cg (jC v) i) (jT v))) ∧ Eqx (fun q => q ≠ J + 380 ∧ jrP J q) A B := by
  obtain ⟨hS, hF, hQ, -, hf⟩ := h
  obtain ⟨c1, c2, c3, c4, c5, c6, c7⟩ := id hC
  obtain ⟨p, hp, ep⟩ := c2 i (by omega)
  have hk := c6 i hi
  have hH := hQ.2.2.2.1
  have n16 := hk.2.2.1.2.2.1
  have n32 := hk.2.2.2.1.2.2.1
  -- what stays while the header is written
  have tr : ∀ {B}, Eqx (rP (J + 405)) A B → JS B J ∧ JC B J ad (jC v) ∧ Ck B (ad i) (cg (jC v) i) := fun {B} e => ⟨hS.eq e (fun z => by rcases z with z | z <;> omega), hC.eq e (fun q z1 z2 z => by rcases z with z | z <;> omega), hk.eq e (fun q z1 z => by have := z1.1; have := z1.2; rcases z with z | z <;> omega)⟩
  have f28 : ∀ A1 s, Eqx (rP (J + 405)) A A1 → Rw A1 (J + 405) 2091 s → s.length + 49 ≤ 2091 → ∃ A4, k_X4_writeCookie_28 A1 J (ad i) = some (hsL A4 70 (ad i) 0 (jT v)) ∧ Rw A4 (J + 405) 2091 (s ++ cN (cg (jC v) i) ++ [61] ++ cV (cg (jC v) i)) ∧ Eqx (rP (J + 405)) A A4 := by
    intro A1 s e hs hsl
    obtain ⟨S1, C1, k1⟩ := tr e
    obtain ⟨A2, e1, e2, e3, e4⟩ := hs.append k1.2.2.1 (by omega) (by omega) (by omega)
    obtain ⟨S2, C2, k2⟩ := tr (e.tr e4)
    obtain ⟨A3, f1, f2, f3⟩ := e2.add (c := 61) (by unfold okc; decide) (by rw [List.length_append]; omega)
    obtain ⟨S3, C3, k3⟩ := tr ((e.tr e4).tr f3)
    obtain ⟨A4, g1, g2, g3, g4⟩ := f2.append k3.2.2.2.1 (by omega) (by omega) (by rw [List.length_append, List.length_append]; show _ + 1 + _ ≤ _; omega)
    obtain ⟨S4, C4, k4⟩ := tr (((e.tr e4).tr f3).tr g4)
    have hF4 : hgL A4 140 J 0 = jT v := by rw [(((e.tr e4).tr f3).tr g4).L (fun z => by rcases z with z | z <;> omega)]; exact hF.2.2
    refine ⟨A4, ?_, g2, ((e.tr e4).tr f3).tr g4⟩
    unfold k_X4_writeCookie_28
    rw [if_pos S1.1.1, if_pos k1.1.1, S1.1.2.2.2.2.2.2.2.1, if_pos hs.1.1, k1.1.2.1, e1, Option.bind_some, if_pos S2.1.1, S2.1.2.2.2.2.2.2.2.1, if_pos e2.1.1, f1, Option.bind_some, if_pos S3.1.1, if_pos k3.1.1, S3.1.2.2.2.2.2.2.2.1, if_pos f2.1.1, k3.1.2.2.1, g1, Option.bind_some, if_pos S4.1.1, if_pos k4.1.1, hF4]
  have fin : ∀ A4, Rw A4 (J + 405) 2091 (wrH (jH v) (cg (jC v) i)) → Eqx (rP (J + 405)) A A4 → Jr (hsL A4 70 (ad i) 0 (jT v)) J (jsC (jsH v (wrH (jH v) (cg (jC v) i))) ((jC v).set i (tou (cg (jC v) i) (jT v)))) f ∧ JC (hsL A4 70 (ad i) 0 (jT v)) J ad ((jC v).set i (tou (cg (jC v) i) (jT v))) ∧ Eqx (fun q => q ≠ J + 380 ∧ jrP J q) A (hsL A4 70 (ad i) 0 (jT v)) := by
    intro A4 hw e
    obtain ⟨S4, C4, k4⟩ := tr e
    have e5 : Eqx (fun q => q = ad i) A4 (hsL A4 70 (ad i) 0 (jT v)) := ea_L
    have e5' : Eqx (ckP (ad i)) A4 (hsL A4 70 (ad i) 0 (jT v)) := e5.mo (fun q hq => by have hq : q = ad i := hq; constructor <;> omega)
    have C5 := C4.setOne hi e5' (k4.touch (jT v))
    have hF4 := hF.eq e (fun z => by rcases z with z | z <;> omega)
    obtain ⟨q1, q2, q3, q4, q5, q6⟩ := hQ
    have nr : ∀ q, q ≠ J + 405 → q ≠ J + 406 → ¬ rP (J + 405) q := fun q z1 z2 z => by rcases z with z | z <;> omega
    have hQ4 : JQ A4 J (jsH v (wrH (jH v) (cg (jC v) i))) := ⟨q1.eq e (fun q z => nr q (by have := z.2; omega) (by have := z.2; omega)), q2.eq e (fun q z => nr q (by have := z.2; omega) (by have := z.2; omega)), q3.eq e (fun q z => nr q (by have := z.2; omega) (by have := z.2; omega)), hw, fun j hj => by rw [e.I (nr _ (by omega) (by omega))]; exact q5 j hj, fun j hj => by rw [e.I (nr _ (by omega) (by omega))]; exact q6 j hj⟩
    have hf4 := hf.eq e (fun q z => nr q (by have := z.2; omega) (by have := z.2; omega))
    refine ⟨⟨S4, hF4.eq e5 (by omega), hQ4.eq e5 (fun q z1 z2 w => by have w : q = ad i := w; omega), ⟨ad, C5⟩, hf4.eq e5 (fun q z w => by have := z.1; have w : q = ad i := w; omega)⟩, C5, (e.mo (fun q hq => by rcases hq with z | z <;> (constructor; omega; constructor <;> omega))).tr (e5.mo (fun q hq => by have hq : q = ad i := hq; constructor; omega; constructor <;> omega))⟩
  have n1 : (nI (jH v).length ≤ 0) ↔ (jH v) = [] := by
    rw [nil_len]
    exact (nI_leI (b := 0) (by omega) (by omega)).trans (by omega)
  unfold f_X4_writeCookie
  rw [if_pos hS.1.1, hS.1.2.2.2.2.2.2.2.1, if_pos hH.1.1, hH.2.1]
  by_cases q : jH v = []
  · rw [if_pos (n1.mpr q)]
    obtain ⟨A4, z1, z2, z3⟩ := f28 A (jH v) Eqx.rf hH (by omega)
    have : wrH (jH v) (cg (jC v) i) = jH v ++ cN (cg (jC v) i) ++ [61] ++ cV (cg (jC v) i) := by unfold wrH; rw [if_pos q]
    rw [← this] at z2
    exact ⟨_, z1, fin A4 z2 z3⟩
  · rw [if_neg (fun z => q (n1.mp z))]
    obtain ⟨A1, e1, e2, e3⟩ := hH.add (c := 59) (by unfold okc; decide) (by omega)
    obtain ⟨S1, C1, k1⟩ := tr e3
    obtain ⟨A2, f1, f2, f3⟩ := e2.add (c := 32) (by unfold okc; decide) (by rw [List.length_append]; show _ + 1 < _; omega)
    rw [e1, Option.bind_some, if_pos S1.1.1, S1.1.2.2.2.2.2.2.2.1, if_pos e2.1.1, f1, Option.bind_some]
    obtain ⟨A4, z1, z2, z3⟩ := f28 A2 _ (e3.tr f3) f2 (by rw [List.length_append, List.length_append]; show _ + 1 + 1 + 49 ≤ _; omega)
    have : wrH (jH v) (cg (jC v) i) = jH v ++ [59] ++ [32] ++ cN (cg (jC v) i) ++ [61] ++ cV (cg (jC v) i) := by
      unfold wrH
      rw [if_neg q, List.append_assoc (jH v) [59] [32]]
      rfl
    rw [← this] at z2
    exact ⟨_, z1, fin A4 z2 z3⟩
/-- the header and the cookies behind the sending of the places of L -/
def wrQ (t : Int64) : List Nat → List Int32 × List CkV → List Int32 × List CkV
  | [], x => x
  | i :: L, x => wrQ t L (wrH x.1 (cg x.2 i), x.2.set i (tou (cg x.2 i) t))
theorem wrH_51 (h : List Int32) {c : CkV} (h1 : (cN c).length ≤ 16) (h2 : (cV c).length ≤ 32) : (wrH h c).length ≤ h.length + 51 := by
  have := wrH_len h c; omega
theorem Jr.writeL {J : Nat} {f : CkV} {L : List Nat} {ad : Nat → Nat} (hL41 : L.length ≤ 40) : ∀ (d k fu : Nat) (A : Hp) (v : JV), k + d = L.length → d < fu → Jr A J v f → JC A J ad (jC v) → Qu A J L → (∀ i ∈ L, i < (jC v).length) → (jH v).length ≤ 51 * k → ∃ B, k_X4_writeHeader_59 J (nI L.length) fu A (nI k) = some (nI L.length, B) ∧ Jr B J (jsC (jsH v (wrQ (jT v) (L.drop k) (jH v, jC v)).1) (wrQ (jT v) (L.drop k) (jH v, jC v)).2) f ∧ Eqx (jrP J) A B := by
  intro d
  induction d with
  | zero =>
    intro k fu A v h1 h2 h hC hQ hb hh
    obtain ⟨fu, rfl⟩ : ∃ f, fu = f + 1 := ⟨fu - 1, by omega⟩
    refine ⟨A, ?_, ?_, Eqx.rf⟩
    · show k_X4_writeHeader_59s J _ _ _ _ = _
      unfold k_X4_writeHeader_59s
      rw [if_pos (nI_le (by omega) (by omega))]
    · rw [List.drop_of_length_le (by omega)]
      exact h
  | succ d ih =>
    intro k fu A v h1 h2 h hC hQ hb hh
    obtain ⟨fu, rfl⟩ : ∃ f, fu = f + 1 := ⟨fu - 1, by omega⟩
    have hkL : k < L.length := by omega
    have hdr : L.drop k = L.getD k 0 :: L.drop (k + 1) := by
      rw [List.getD_eq_getElem?_getD, List.getElem?_eq_getElem hkL]
      exact List.drop_eq_getElem_cons hkL
    have hm : L.getD k 0 ∈ L := by rw [List.getD_eq_getElem?_getD, List.getElem?_eq_getElem hkL]; exact List.getElem_mem hkL
    have hlt := hb _ hm
    have hc5 := hC.2.2.2.2.1
    have hck := hC.2.2.2.2.2.1 _ hlt
    obtain ⟨B, e1, e2, e3, e4⟩ := h.writeCookie hC hlt (by omega)
    have hst : k_X4_writeHeader_59 J (nI L.length) (fu + 1) A (nI k) = k_X4_writeHeader_59s J (nI L.length) (k_X4_writeHeader_59 J (nI L.length) fu) A (nI k) := rfl
    rw [hst]
    unfold k_X4_writeHeader_59s
    rw [if_neg (nI_ge hkL (by omega)), if_pos h.1.1.1, h.1.1.2.2.2.1, h.1.2.2.1, if_pos rfl, if_pos ((nI_wix (by omega)).mpr (show k < 41 by omega)), h.1.1.2.1, h.1.2.1, if_pos rfl, nI_clamp (n := k) (by omega), hQ k hkL, if_pos ((nI_wix (by omega)).mpr (show L.getD k 0 < 41 by omega)), nI_clamp (n := L.getD k 0) (by omega), hC.1 _ (by omega), e1, Option.bind_some, nI_1]
    obtain ⟨C, f1, f2, f3⟩ := ih (k + 1) fu B _ (by omega) (by omega) e2 e3 (fun j hj => by rw [e4.I (fun z => z.1 rfl)]; exact hQ j hj) (fun i hi => by show i < ((jC v).set _ _).length; rw [List.length_set]; exact hb i hi) (by
      have := wrH_51 (jH v) hck.2.2.1.2.2.1 hck.2.2.2.1.2.2.1
      show (wrH (jH v) _).length ≤ _
      omega)
    refine ⟨C, f1, ?_, (e4.mo (fun q hq => hq.2)).tr f3⟩
    rw [hdr]
    exact f2
/-- the places that are sent, in the order of sending -/
def snL (v : JV) (x nav sc : Bool) : Nat → List Nat
  | 0 => []
  | n + 1 => if gos v (cg (jC v) n) x nav sc then enq (jC v) (snL v x nav sc n) n else snL v x nav sc n
theorem enq_mem {cs : List CkV} {L : List Nat} {i k : Nat} : k ∈ enq cs L i ↔ k = i ∨ k ∈ L := by
  unfold enq
  rw [List.mem_insertIdx (posQ_le cs L i L.length)]
theorem snL_lt {v : JV} {x nav sc : Bool} : ∀ n, (∀ k ∈ snL v x nav sc n, k < n) ∧ (snL v x nav sc n).length ≤ n := by
  intro n
  induction n with
  | zero => exact ⟨(fun k hk => nomatch hk), Nat.le_refl _⟩
  | succ n ih =>
    unfold snL
    split
    · refine ⟨fun k hk => ?_, ?_⟩
      · rcases enq_mem.mp hk with z | z
        · omega
        · have := ih.1 k z; omega
      · unfold enq
        rw [List.length_insertIdx_of_le_length (posQ_le _ _ _ _)]
        have := ih.2
        omega
    · exact ⟨fun k hk => by have := ih.1 k hk; omega, by have := ih.2; omega⟩
theorem Jr.writeHeader {A : Hp} {J : Nat} {v : JV} {f : CkV} (h : Jr A J v f) (ho : okl (jC v)) (hl : (jC v).length ≤ 40) (nav sc : Bool) : ∃ B, f_X4_writeHeader A J (bI (crs v)) (bI nav) (bI sc) = some (nI (snL v (crs v) nav sc (jC v).length).length, B) ∧ Jr B J (jsC (jsH v (wrQ (jT v) (snL v (crs v) nav sc (jC v).length) ([], jC v)).1) (wrQ (jT v) (snL v (crs v) nav sc (jC v).length) ([], jC v)).2) f ∧ Eqx (jrP J) A B := by
  obtain ⟨ad, hC⟩ := h.2.2.2.1
  have K : ∀ d i fu A', i + d = (jC v).length → d < fu → Jr A' J v f → JC A' J ad (jC v) → Qu A' J (snL v (crs v) nav sc i) → ∃ B, k_X4_writeHeader_6 J (bI (crs v)) (bI nav) (bI sc) fu A' (nI (snL v (crs v) nav sc i).length) (nI i) = some (nI (snL v (crs v) nav sc (jC v).length).length, B) ∧ Jr B J (jsC (jsH v (wrQ (jT v) (snL v (crs v) nav sc (jC v).length) ([], jC v)).1) (wrQ (jT v) (snL v (crs v) nav sc (jC v).length) ([], jC v)).2) f ∧ Eqx (jrP J) A' B := by
    intro d
    induction d with
    | zero =>
      intro i fu A' h1 h2 hj hc hq
      obtain ⟨fu, rfl⟩ : ∃ f, fu = f + 1 := ⟨fu - 1, by omega⟩
      have hi : i = (jC v).length := by omega
      subst hi
      have hsn := snL_lt (v := v) (x := crs v) (nav := nav) (sc := sc) (jC v).length
      obtain ⟨B, e1, e2, e3⟩ := hj.2.2.1.2.2.2.1.empty
      have nr : ∀ q, q ≠ J + 405 → q ≠ J + 406 → ¬ rP (J + 405) q := fun q z1 z2 z => by rcases z with z | z <;> omega
      have hcB := hc.eq e3 (fun q z1 z2 => nr q (by omega) (by omega))
      have hjB : Jr B J (jsH v []) f := by
        obtain ⟨hS, hF, ⟨q1, q2, q3, q4, q5, q6⟩, -, hf⟩ := hj
        exact ⟨hS.eq e3 (nr _ (by omega) (by omega)), hF.eq e3 (nr _ (by omega) (by omega)), ⟨q1.eq e3 (fun q z => nr q (by have := z.2; omega) (by have := z.2; omega)), q2.eq e3 (fun q z => nr q (by have := z.2; omega) (by have := z.2; omega)), q3.eq e3 (fun q z => nr q (by have := z.2; omega) (by have := z.2; omega)), e2, fun j hj => by rw [e3.I (nr _ (by omega) (by omega))]; exact q5 j hj, fun j hj => by rw [e3.I (nr _ (by omega) (by omega))]; exact q6 j hj⟩, ⟨ad, hcB⟩, hf.eq e3 (fun q z => nr q (by have := z.2; omega) (by have := z.2; omega))⟩
      obtain ⟨C, f1, f2, f3⟩ := Jr.writeL (L := snL v (crs v) nav sc (jC v).length) (by omega) (snL v (crs v) nav sc (jC v).length).length 0 FU B (jsH v []) (by omega) (by unfold FU; omega) hjB hcB (fun j hj2 => by rw [e3.I (nr _ (by omega) (by omega))]; exact hq j hj2) hsn.1 (by show 0 ≤ _; omega)
      refine ⟨C, ?_, f2, (e3.mo (fun q hq => by rcases hq with z | z <;> (constructor <;> omega))).tr f3⟩
      show k_X4_writeHeader_6s J _ _ _ _ _ _ _ = _
      unfold k_X4_writeHeader_6s
      rw [if_pos hj.1.1.1, hc.2.2.2.1, if_pos Int32.le_rfl, hj.1.1.2.2.2.2.2.2.2.1, if_pos hj.2.2.1.2.2.2.1.1.1, e1, Option.bind_some]
      exact f1
    | succ d ih =>
      intro i fu A' h1 h2 hj hc hq
      obtain ⟨fu, rfl⟩ : ∃ f, fu = f + 1 := ⟨fu - 1, by omega⟩
      have hi : i < (jC v).length := by omega
      have hsn := snL_lt (v := v) (x := crs v) (nav := nav) (sc := sc) i
      have hk := hc.2.2.2.2.2.1 i hi
      have hst : k_X4_writeHeader_6 J (bI (crs v)) (bI nav) (bI sc) (fu + 1) A' (nI (snL v (crs v) nav sc i).length) (nI i) = k_X4_writeHeader_6s J (bI (crs v)) (bI nav) (bI sc) (k_X4_writeHeader_6 J (bI (crs v)) (bI nav) (bI sc) fu) A' (nI (snL v (crs v) nav sc i).length) (nI i) := rfl
      rw [hst]
      unfold k_X4_writeHeader_6s k_X4_writeHeader_43
      rw [if_pos hj.1.1.1, hc.2.2.2.1, if_neg (nI_ge hi (by omega)), hj.1.1.2.1, hj.1.2.1, if_pos rfl, if_pos ((nI_wix (by omega)).mpr (show i < 41 by omega)), nI_clamp (by omega), hc.1 i (by omega), hj.goes hk (ho _ (cg_mem hi)), Option.bind_some, nI_1]
      have hs1 : snL v (crs v) nav sc (i + 1) = if gos v (cg (jC v) i) (crs v) nav sc then enq (jC v) (snL v (crs v) nav sc i) i else snL v (crs v) nav sc i := rfl
      cases hg : gos v (cg (jC v) i) (crs v) nav sc
      · rw [if_pos (by rfl)]
        rw [hg, if_neg (by decide)] at hs1
        have := ih (i + 1) fu A' (by omega) (by omega) hj hc (by rw [hs1]; exact hq)
        rw [hs1] at this
        exact this
      · rw [if_neg (show ¬ bI true = 0 by decide)]
        rw [hg, if_pos rfl] at hs1
        obtain ⟨B, e1, e2, e3⟩ := hc.enqueue hj.1 ho hq (fun k hk => by have := hsn.1 k hk; omega) hi (by omega)
        rw [e1, Option.bind_some, nI_1]
        have hlen : (snL v (crs v) nav sc (i + 1)).length = (snL v (crs v) nav sc i).length + 1 := by
          rw [hs1]; unfold enq
          rw [List.length_insertIdx_of_le_length (posQ_le _ _ _ _)]
        have n3 : ∀ q, q ≠ J + 380 → ¬ (fun q => q = J + 380) q := fun q z1 z2 => z1 z2
        have hjB : Jr B J v f := by
          obtain ⟨hS, hF, hQ, -, hf⟩ := hj
          exact ⟨hS.eq e3 (n3 _ (by omega)), hF.eq e3 (n3 _ (by omega)), hQ.eq e3 (fun q z1 z2 => n3 _ (by omega)), ⟨ad, hc.eq e3 (fun q z1 z2 => n3 _ (by omega))⟩, hf.eq e3 (fun q z => n3 _ (by have := z.2; omega))⟩
        have := ih (i + 1) fu B (by omega) (by omega) hjB (hc.eq e3 (fun q z1 z2 => n3 _ (by omega))) (by rw [hs1]; exact e2)
        rw [hlen] at this
        obtain ⟨C, f1, f2, f3⟩ := this
        exact ⟨C, f1, f2, (e3.mo (fun q hq => by have hq : q = J + 380 := hq; constructor <;> omega)).tr f3⟩
  unfold f_X4_writeHeader
  exact K (jC v).length 0 FU A (by omega) (by unfold FU; omega) h hC (fun k hk => absurd hk (Nat.not_lt_zero k))
