/-! the jar of the class: creating, replacing -/
theorem ins_get {cs : List CkV} {p : Nat} {w : CkV} (hp : p ≤ cs.length) (j : Nat) : cg (cs.insertIdx p w) j = if j < p then cg cs j else if j = p then w else cg cs (j - 1) := by
  simp only [cg, List.getD_eq_getElem?_getD]
  rw [List.getElem?_insertIdx]
  by_cases q1 : j < p
  · rw [if_pos q1, if_pos q1]
  · rw [if_neg q1, if_neg q1]
    by_cases q2 : j = p
    · rw [if_pos q2, if_pos q2, if_pos (by omega)]; rfl
    · rw [if_neg q2, if_neg q2]
theorem ins_set {cs : List CkV} {p : Nat} {w f : CkV} (hp : p ≤ cs.length) : (cs.insertIdx p w).set p f = cs.insertIdx p f := by
  apply List.ext_getElem?
  intro j
  rw [List.getElem?_set, List.getElem?_insertIdx, List.getElem?_insertIdx, List.length_insertIdx_of_le_length hp]
  by_cases q : p = j
  · rw [if_pos q, if_pos (by omega), if_neg (by omega), if_pos q.symm, if_pos (by omega)]
  · rw [if_neg q]
    by_cases q1 : j < p
    · rw [if_pos q1, if_pos q1]
    · rw [if_neg q1, if_neg q1, if_neg (fun z => q z.symm), if_neg (fun z => q z.symm)]
theorem Jr.create {A : Hp} {J : Nat} {v : JV} {f : CkV} (h : Jr A J v f) {p : Nat} (hp : p ≤ (jC v).length) (hl : (jC v).length ≤ 40) : ∃ B, f_X4_create A J (nI p) = some (1, B) ∧ Jr B J (jsK (jsC v ((jC v).insertIdx p f)) 0 1) f ∧ Eqx (jrP J) A B := by
  obtain ⟨hS, hF, hQ, ⟨ad, hC⟩, hf⟩ := h
  obtain ⟨c1, c2, c3, c4, c5, c6, c7⟩ := hC
  obtain ⟨w0, hw0⟩ := c7 (jC v).length (by omega)
  let s : Nat → Nat := fun j => if j < p then j else if j = p then (jC v).length else if j ≤ (jC v).length then j - 1 else j
  obtain ⟨p0, hp0, ep0⟩ := c2 (jC v).length (by omega)
  have L : ∀ d k fu A', p + d = k → k ≤ (jC v).length → d < fu → JS A' J → hgI A' 129 J 0 = nI (jC v).length → (∀ j, j < 41 → hgR A' 1037 (J + 1) j = if j ≤ k then ad j else if j ≤ (jC v).length then ad (j - 1) else ad j) → Eqx (fun q => q = J + 1) A A' → ∃ B, k_X4_create_34 J (nI p) (ad (jC v).length) fu A' (nI k) = some (1, B) ∧ Jr B J (jsK (jsC v ((jC v).insertIdx p f)) 0 1) f ∧ Eqx (jrP J) A B := by
    intro d
    induction d with
    | zero =>
      intro k fu A' h1 h2 h3 zS z4 zA ze
      obtain ⟨fu, rfl⟩ : ∃ f, fu = f + 1 := ⟨fu - 1, by omega⟩
      have hk : k = p := by omega
      have hsp : (hsh A' (ad (jC v).length)).1 = 2 := by rw [ze.2.1]; exact hw0.1.1
      let A1 : Hp := hsI (hsR A' 1037 (J + 1) p (ad (jC v).length)) 129 J 0 (nI ((jC v).length + 1))
      have e1 : Eqx (jjP J) A A1 := ((ze.mo (fun q hq => Or.inr hq)).tr (Eqx.sR (Or.inr rfl))).tr (Eqx.sI (Or.inl rfl))
      have hS1 : JS A1 J := zS.arr
      have hlen : ((jC v).insertIdx p w0).length = (jC v).length + 1 := List.length_insertIdx_of_le_length hp _
      have hC1 : JC A1 J (fun j => ad (s j)) ((jC v).insertIdx p w0) := by
        refine JC.perm (cs := jC v ++ [w0]) s c2 c3 (fun i hi => ?_) c7 e1 (fun j hj => ?_) (fun j hj => ?_) (fun j k hj hk z => ?_) ?_ (by omega) (fun j hj => ?_)
        · rw [List.length_append] at hi
          have hi : i < (jC v).length + 1 := hi
          by_cases q : i = (jC v).length
          · have : cg (jC v ++ [w0]) i = w0 := by rw [q]; simp [cg]
            rw [this, q]
            exact hw0
          · have : cg (jC v ++ [w0]) i = cg (jC v) i := cg_of (List.getElem?_append_left (by omega))
            rw [this]
            exact c6 i (by omega)
        · show hgR (hsR A' 1037 (J + 1) p (ad (jC v).length)) 1037 (J + 1) j = ad (if j < p then j else if j = p then (jC v).length else if j ≤ (jC v).length then j - 1 else j)
          rw [hgR_sR]
          by_cases q : j = p
          · rw [if_pos ⟨rfl, rfl, q⟩, if_neg (by omega), if_pos q]
          · rw [if_neg (fun z => q z.2.2), zA j hj, hk]
            by_cases q1 : j < p
            · rw [if_pos (by omega), if_pos q1]
            · rw [if_neg (by omega), if_neg q1, if_neg q]
              by_cases q2 : j ≤ (jC v).length
              · rw [if_pos q2, if_pos q2]
              · rw [if_neg q2, if_neg q2]
        · show (if j < p then j else if j = p then (jC v).length else if j ≤ (jC v).length then j - 1 else j) < 41
          split
          · omega
          · split
            · omega
            · split <;> omega
        · have z : (if j < p then j else if j = p then (jC v).length else if j ≤ (jC v).length then j - 1 else j) = (if k < p then k else if k = p then (jC v).length else if k ≤ (jC v).length then k - 1 else k) := z
          split at z
          · split at z
            · exact z
            · split at z
              · omega
              · split at z <;> omega
          · split at z
            · split at z
              · omega
              · split at z
                · omega
                · split at z <;> omega
            · split at z
              · split at z
                · omega
                · split at z
                  · omega
                  · split at z <;> omega
              · split at z
                · omega
                · split at z
                  · omega
                  · split at z <;> omega
        · show hgI (hsI _ 129 J 0 (nI ((jC v).length + 1))) 129 J 0 = _
          rw [hgI_sI, if_pos ⟨rfl, rfl, rfl⟩, hlen]
        · rw [hlen] at hj
          have hs : s j = if j < p then j else if j = p then (jC v).length else j - 1 := by
            show (if j < p then j else if j = p then (jC v).length else if j ≤ (jC v).length then j - 1 else j) = _
            rw [show (if j ≤ (jC v).length then j - 1 else j) = j - 1 from if_pos (by omega)]
          refine ⟨by rw [hs, List.length_append]; show _ < (jC v).length + 1; split <;> (try split) <;> omega, ?_⟩
          rw [ins_get hp, hs]
          by_cases q1 : j < p
          · rw [if_pos q1, if_pos q1]
            exact cg_of (List.getElem?_append_left (by omega)).symm
          · rw [if_neg q1, if_neg q1]
            by_cases q2 : j = p
            · rw [if_pos q2, if_pos q2]
              simp [cg]
            · rw [if_neg q2, if_neg q2]
              exact cg_of (List.getElem?_append_left (by omega)).symm
      have hf1 : Ck A1 (J + 371) f := hf.eq e1 (fun q z w => by have := z.1; rcases w with w | w <;> omega)
      have hsp1 : s p = (jC v).length := by
        show (if p < p then p else if p = p then (jC v).length else if p ≤ (jC v).length then p - 1 else p) = _
        rw [if_neg (Nat.lt_irrefl p), if_pos rfl]
      have hcp : Ck A1 (ad (jC v).length) w0 := by
        have := hC1.2.2.2.2.2.1 p (by omega)
        rw [ins_get hp, if_neg (Nat.lt_irrefl p), if_pos rfl] at this
        have this : Ck A1 (ad (s p)) w0 := this
        rw [hsp1] at this
        exact this
      obtain ⟨B, f1, f2, f3, f4⟩ := hcp.become hf1 (by omega)
      have hSB := hS1.eq f4 (fun z => by have := z.1; omega)
      have hCB : JC B J (fun j => ad (s j)) (((jC v).insertIdx p w0).set p f) := hC1.setOne (i := p) (by omega) (by show Eqx (ckP (ad (s p))) A1 B; rw [hsp1]; exact f4) (by show Ck B (ad (s p)) f; rw [hsp1]; exact f2)
      rw [ins_set hp] at hCB
      have hF1 : JF A1 J v := by
        have hv' : JF A' J v := hF.eq ze (by omega)
        refine ⟨?_, ?_, ?_⟩
        · show hgI (hsI (hsR A' _ _ _ _) 129 J 0 _) 138 J 0 = _
          rw [hgI_sI, if_neg (by omega), hgI_sR]; exact hv'.1
        · show hgI (hsI (hsR A' _ _ _ _) 129 J 0 _) 139 J 0 = _
          rw [hgI_sI, if_neg (by omega), hgI_sR]; exact hv'.2.1
        · exact hv'.2.2
      have hFB := hF1.eq f4 (fun z => by have := z.1; omega)
      have hQB := (hQ.eq e1 (fun q z1 z2 w => by rcases w with w | w <;> omega)).eq f4 (fun q z1 z2 w => by have := w.1; have := w.2; omega)
      have hJB : Jr B J (jsC v ((jC v).insertIdx p f)) f := ⟨hSB, hFB, hQB, ⟨_, hCB⟩, f3⟩
      refine ⟨_, ?_, (hJB.bump (i := 0) 1 (by omega)).1, ((e1.mo (fun q w => by rcases w with w | w <;> (constructor <;> omega))).tr (f4.mo (fun q w => by have := w.1; have := w.2; constructor <;> omega))).tr (hJB.bump (i := 0) 1 (by omega)).2⟩
      show k_X4_create_34s J _ _ _ _ _ = _
      unfold k_X4_create_34s
      have g1 : hgI (hsR A' 1037 (J + 1) p (ad (jC v).length)) 129 J 0 = nI (jC v).length := z4
      rw [if_pos (nI_le (by omega) (by omega)), if_pos zS.1.1, zS.1.2.1, zS.2.1, if_pos rfl, if_pos hsp, if_pos ((nI_wix (by omega)).mpr (show p < 41 by omega)), nI_clamp (by omega), g1, nI_1]
      show ((f_X1_become A1 (ad (jC v).length) (hgR A1 130 J 0)).bind _) = _
      rw [hS1.1.2.2.1, f1, Option.bind_some, if_pos hSB.1.1, hSB.1.2.2.2.2.2.2.2.2.2, hSB.2.2.2.2, if_pos rfl, if_pos (show wix (0 : Int32) (10, 7).2 by decide), show (0 : Int32).toNatClampNeg = 0 from rfl, hJB.cnt (by omega)]
      rfl
    | succ d ih =>
      intro k fu A' h1 h2 h3 zS z4 zA ze
      obtain ⟨fu, rfl⟩ : ∃ f, fu = f + 1 := ⟨fu - 1, by omega⟩
      have e1 : nI k - (1 : Int32) = nI (k - 1) := pk_sub (b := 1) (by omega)
      have zk1 : hgR A' 1037 (J + 1) (k - 1) = ad (k - 1) := by rw [zA _ (by omega), if_pos (by omega)]
      have hnx : (hsh A' (ad (k - 1))).1 = 2 := by rw [ze.2.1]; exact (c6 (k - 1) (by omega)).1.1
      have st : k_X4_create_34 J (nI p) (ad (jC v).length) (fu + 1) A' (nI k) = k_X4_create_34s J (nI p) (ad (jC v).length) (k_X4_create_34 J (nI p) (ad (jC v).length) fu) A' (nI k) := rfl
      rw [st]
      unfold k_X4_create_34s
      have e2 : nI k + (-1 : Int32) = nI (k - 1) := by
        obtain ⟨j, rfl⟩ : ∃ j, k = j + 1 := ⟨k - 1, by omega⟩
        exact pk_m1 j
      rw [if_neg (nI_ge (by omega) (by omega)), if_pos zS.1.1, zS.1.2.1, zS.2.1, if_pos rfl, e1, if_pos ((nI_wix (by omega)).mpr (show k - 1 < 41 by omega)), nI_clamp (by omega), zk1, if_pos hnx, if_pos ((nI_wix (by omega)).mpr (show k < 41 by omega)), nI_clamp (by omega), e2]
      refine ih (k - 1) fu _ (by omega) (by omega) (by omega) zS.arr z4 (fun j hj => ?_) (ze.tr (Eqx.sR rfl))
      rw [hgR_sR]
      by_cases q : j = k
      · rw [if_pos ⟨rfl, rfl, q⟩, if_neg (by omega), if_pos (by omega), q]
      · rw [if_neg (fun z => q z.2.2), zA j hj]
        by_cases q1 : j ≤ k - 1
        · rw [if_pos (by omega), if_pos q1]
        · rw [if_neg (by omega), if_neg q1]
  unfold f_X4_create
  rw [if_pos hS.1.1, c4, if_neg (show ¬ (41 : Int32) ≤ nI (jC v).length from nI_ge (b := 41) (by omega) (by omega)), if_pos (nI_le hp (by omega)), hS.1.2.1, hS.2.1, if_pos rfl, if_pos ((nI_wix (by omega)).mpr (show (jC v).length < 41 by omega)), nI_clamp (by omega), c1 _ (by omega)]
  exact L ((jC v).length - p) (jC v).length FU A (by omega) (Nat.le_refl _) (by unfold FU; omega) hS c4 (fun j hj => by
    rw [c1 j hj]
    by_cases q : j ≤ (jC v).length
    · rw [if_pos q]
    · rw [if_neg q, if_neg q]) Eqx.rf
/-- the new cookie takes the number and the creation of the old one -/
def repl (f c : CkV) : CkV := (f.1, (f.2.1.1, cC c, f.2.1.2.2), cS c, f.2.2.2)
theorem Jr.replace {A : Hp} {J : Nat} {v : JV} {f : CkV} (h : Jr A J v f) {p : Nat} (hp : p < (jC v).length) : ∃ B, f_X4_replace A J (nI p) = some (2, B) ∧ Jr B J (jsK (jsC v ((jC v).set p (repl f (cg (jC v) p)))) 1 1) (repl f (cg (jC v) p)) ∧ Eqx (jrP J) A B := by
  obtain ⟨hS, hF, hQ, ⟨ad, hC⟩, hf⟩ := h
  obtain ⟨c1, c2, c3, c4, c5, c6, c7⟩ := id hC
  obtain ⟨q0, hq0, eq0⟩ := c2 p (by omega)
  have hk := c6 p hp
  let A1 : Hp := hsI A 71 (J + 371) 0 (nI (cS (cg (jC v) p)))
  let A2 : Hp := hsL A1 69 (J + 371) 0 (cC (cg (jC v) p))
  have e2 : Eqx (fun q => q = J + 371) A A2 := ea_I.tr ea_L
  have hS2 : JS A2 J := hS
  have hf2 : Ck A2 (J + 371) (repl f (cg (jC v) p)) := by
    obtain ⟨s0, ⟨⟨a0, a1, a2⟩, a3, a4, a5, a6, a7, a8⟩, r0⟩ := hf
    refine ⟨s0, ⟨⟨?_, ?_, ?_⟩, ?_, ?_, ?_, ?_, ?_, ?_⟩, r0.eq e2 (fun q z1 z2 w => by have w : q = J + 371 := w; omega)⟩
    · show hgL (hsL A1 69 (J + 371) 0 (cC (cg (jC v) p))) 68 (J + 371) 0 = _
      rw [hgL_sL, if_neg (by omega)]; exact a0
    · show hgL (hsL A1 69 (J + 371) 0 (cC (cg (jC v) p))) 69 (J + 371) 0 = _
      rw [hgL_sL, if_pos ⟨rfl, rfl, rfl⟩]; rfl
    · show hgL (hsL A1 69 (J + 371) 0 (cC (cg (jC v) p))) 70 (J + 371) 0 = _
      rw [hgL_sL, if_neg (by omega)]; exact a2
    · show hgI (hsI A 71 (J + 371) 0 (nI (cS (cg (jC v) p)))) 71 (J + 371) 0 = _
      rw [hgI_sI, if_pos ⟨rfl, rfl, rfl⟩]; rfl
    · show hgI (hsI A 71 (J + 371) 0 (nI (cS (cg (jC v) p)))) 72 (J + 371) 0 = _
      rw [hgI_sI, if_neg (by omega)]; exact a4
    · show hgI (hsI A 71 (J + 371) 0 (nI (cS (cg (jC v) p)))) 73 (J + 371) 0 = _
      rw [hgI_sI, if_neg (by omega)]; exact a5
    · show hgI (hsI A 71 (J + 371) 0 (nI (cS (cg (jC v) p)))) 74 (J + 371) 0 = _
      rw [hgI_sI, if_neg (by omega)]; exact a6
    · show hgI (hsI A 71 (J + 371) 0 (nI (cS (cg (jC v) p)))) 75 (J + 371) 0 = _
      rw [hgI_sI, if_neg (by omega)]; exact a7
    · show hgI (hsI A 71 (J + 371) 0 (nI (cS (cg (jC v) p)))) 76 (J + 371) 0 = _
      rw [hgI_sI, if_neg (by omega)]; exact a8
  have hC2 : JC A2 J ad (jC v) := hC.eq e2 (fun q z1 z2 w => by have w : q = J + 371 := w; omega)
  have hk2 := hC2.2.2.2.2.2.1 p hp
  obtain ⟨B, f1, f2, f3, f4⟩ := hk2.become hf2 (by omega)
  have hSB := hS2.eq f4 (fun z => by have := z.1; omega)
  have hCB := hC2.setOne hp f4 f2
  have hFB := (hF.eq e2 (by omega)).eq f4 (fun z => by have := z.1; omega)
  have hQB := (hQ.eq e2 (fun q z1 z2 w => by have w : q = J + 371 := w; omega)).eq f4 (fun q z1 z2 w => by have := w.1; have := w.2; omega)
  have hJB : Jr B J (jsC v ((jC v).set p (repl f (cg (jC v) p)))) (repl f (cg (jC v) p)) := ⟨hSB, hFB, hQB, ⟨ad, hCB⟩, f3⟩
  refine ⟨_, ?_, (hJB.bump (i := 1) 1 (by omega)).1, ((e2.mo (fun q w => by have w : q = J + 371 := w; constructor <;> omega)).tr (f4.mo (fun q w => by have := w.1; have := w.2; constructor <;> omega))).tr (hJB.bump (i := 1) 1 (by omega)).2⟩
  have k1 : (hsh A1 (J + 371)).1 = 2 := hf.1.1
  have g1 : hgL A1 69 (ad p) 0 = cC (cg (jC v) p) := hk.2.1.1.2.1
  unfold f_X4_replace
  have cl : (nI p).toNatClampNeg = p := nI_clamp (by omega)
  have c1' : hgR A 1037 (J + 1) (nI p).toNatClampNeg = ad p := by rw [cl]; exact c1 p (by omega)
  rw [if_pos hS.1.1, hS.1.2.1, hS.2.1, if_pos rfl, if_pos ((nI_wix (by omega)).mpr (show p < 41 by omega)), c1', if_pos hk.1.1, hS.1.2.2.1, if_pos hf.1.1, hk.2.1.2.1]
  show (if (hsh A1 (hgR A1 128 J 0)).1 = 13 then if wix (nI p) (hsh A1 (hgR A1 128 J 0)).2 then if (hsh A1 (hgR A1 1037 (hgR A1 128 J 0) (nI p).toNatClampNeg)).1 = 2 then if (hsh A1 (hgR A1 130 J 0)).1 = 2 then _ else none else none else none else none) = _
  have hSA1 : JS A1 J := hS
  have c1A : hgR A1 1037 (J + 1) (nI p).toNatClampNeg = ad p := c1'
  rw [hSA1.1.2.1, hSA1.2.1, if_pos rfl, if_pos ((nI_wix (by omega)).mpr (show p < 41 by omega)), c1A, if_pos (show (hsh A1 (ad p)).1 = 2 from hk.1.1), hSA1.1.2.2.1, if_pos k1, g1]
  show (if (hsh A2 (hgR A2 128 J 0)).1 = 13 then if wix (nI p) (hsh A2 (hgR A2 128 J 0)).2 then if (hsh A2 (hgR A2 1037 (hgR A2 128 J 0) (nI p).toNatClampNeg)).1 = 2 then ((f_X1_become A2 (hgR A2 1037 (hgR A2 128 J 0) (nI p).toNatClampNeg) (hgR A2 130 J 0)).bind _) else none else none else none) = _
  have c1B : hgR A2 1037 (J + 1) (nI p).toNatClampNeg = ad p := c1'
  rw [hS2.1.2.1, hS2.2.1, if_pos rfl, if_pos ((nI_wix (by omega)).mpr (show p < 41 by omega)), c1B, if_pos (show (hsh A2 (ad p)).1 = 2 from hk.1.1), hS2.1.2.2.1, f1, Option.bind_some, if_pos hSB.1.1, hSB.1.2.2.2.2.2.2.2.2.2, hSB.2.2.2.2, if_pos rfl, if_pos (show wix (1 : Int32) (10, 7).2 by decide), show (1 : Int32).toNatClampNeg = 1 from rfl, hJB.cnt (by omega)]
  rfl
