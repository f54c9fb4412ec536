/-! the jar of the class: becoming another one -/
section
variable {J K : Nat} {w : JV}
theorem Jr.bec110 (hd : J + 409 ≤ K ∨ K + 409 ≤ J) : ∀ (d i fu : Nat) (A : Hp), i + d = 7 → d < fu → JS A J → JS A K → (∀ j, j < i → hgI A 1034 (J + 408) j = nI (jK w j)) → (∀ j, j < 7 → hgI A 1034 (K + 408) j = nI (jK w j)) → JF A K w → ∃ B, k_X4_become_110 J K fu A (nI i) = some B ∧ (∀ j, j < 7 → hgI B 1034 (J + 408) j = nI (jK w j)) ∧ JF B J w ∧ (JS B J ∧ hgI B 129 J 0 = hgI A 129 J 0) ∧ Eqx (fun q => q = J ∨ q = J + 408) A B := by
  intro d
  induction d with
  | zero =>
    intro i fu A h1 h2 hJ hK hj hk hF
    obtain ⟨fu, rfl⟩ : ∃ f, fu = f + 1 := ⟨fu - 1, by omega⟩
    have hi : i = 7 := by omega
    subst hi
    refine ⟨hsL (hsI (hsI A 138 J 0 (nI (jP w))) 139 J 0 (nI (jX w))) 140 J 0 (jT w), ?_, fun j q => ?_, ⟨?_, ?_, ?_⟩, ⟨hJ, ?_⟩, ((Eqx.sI (f := 138) (a := J) (j := 0) (v := nI (jP w)) (Or.inl rfl)).tr (Eqx.sI (f := 139) (a := J) (j := 0) (v := nI (jX w)) (Or.inl rfl))).tr (Eqx.sL (f := 140) (a := J) (j := 0) (v := jT w) (Or.inl rfl))⟩
    · show k_X4_become_110s J K _ _ _ = _
      unfold k_X4_become_110s
      rw [if_pos (show (7 : Int32) ≤ nI 7 from Int32.le_rfl), if_pos hK.1.1, if_pos hJ.1.1, hF.1, hgI_sI, if_neg (by omega), hF.2.1]
      show some (hsL _ 140 J 0 (hgL A 140 K 0)) = _
      rw [hF.2.2]
    · rw [hgI_sL, hgI_sI, if_neg (by omega), hgI_sI, if_neg (by omega)]; exact hj j q
    · rw [hgI_sL, hgI_sI, if_neg (by omega), hgI_sI, if_pos ⟨rfl, rfl, rfl⟩]
    · rw [hgI_sL, hgI_sI, if_pos ⟨rfl, rfl, rfl⟩]
    · rw [hgL_sL, if_pos ⟨rfl, rfl, rfl⟩]
    · rw [hgI_sL, hgI_sI, if_neg (by omega), hgI_sI, if_neg (by omega)]
  | succ d ih =>
    intro i fu A h1 h2 hJ hK hj hk hF
    obtain ⟨fu, rfl⟩ : ∃ f, fu = f + 1 := ⟨fu - 1, by omega⟩
    have e1 : Eqx (fun q => q = J + 408) A (hsI A 1034 (J + 408) i (nI (jK w i))) := Eqx.sI rfl
    obtain ⟨B, b1, b2, b3, b6, b4⟩ := ih (i + 1) fu (hsI A 1034 (J + 408) i (nI (jK w i))) (by omega) (by omega) (hJ.eq e1 (by omega)) (hK.eq e1 (by omega)) (fun j q => by
      rw [hgI_sI]
      by_cases z : j = i
      · rw [if_pos ⟨rfl, rfl, z⟩, z]
      · rw [if_neg (fun y => z y.2.2)]; exact hj j (by omega)) (fun j q => by rw [hgI_sI, if_neg (by omega)]; exact hk j q) (hF.eq e1 (by omega))
    refine ⟨B, ?_, b2, b3, ⟨b6.1, b6.2.trans (e1.I (by omega) 129 0)⟩, (e1.mo (fun q z => Or.inr z)).tr b4⟩
    show k_X4_become_110s J K _ _ _ = _
    unfold k_X4_become_110s
    rw [if_neg (show ¬ (7 : Int32) ≤ nI i from nI_ge (b := 7) (by omega) (by omega)), if_pos hJ.1.1, if_pos hK.1.1, hK.1.2.2.2.2.2.2.2.2.2, hJ.1.2.2.2.2.2.2.2.2.2, hK.2.2.2.2, hJ.2.2.2.2, if_pos rfl, if_pos ((nI_wix (by omega)).mpr (show i < 7 by omega)), if_pos rfl, if_pos ((nI_wix (by omega)).mpr (show i < 7 by omega)), nI_clamp (by omega), hk i (by omega), nI_1, b1]
theorem Jr.bec85 (hd : J + 409 ≤ K ∨ K + 409 ≤ J) : ∀ (d i fu : Nat) (A : Hp), i + d = 2 → d < fu → JS A J → JS A K → (∀ j, j < i → hgI A 1034 (J + 407) j = nI (jL w j)) → (∀ j, j < 2 → hgI A 1034 (K + 407) j = nI (jL w j)) → (∀ j, j < 7 → hgI A 1034 (K + 408) j = nI (jK w j)) → JF A K w → ∃ B, k_X4_become_85 J K fu A (nI i) = some B ∧ (∀ j, j < 2 → hgI B 1034 (J + 407) j = nI (jL w j)) ∧ (∀ j, j < 7 → hgI B 1034 (J + 408) j = nI (jK w j)) ∧ JF B J w ∧ (JS B J ∧ hgI B 129 J 0 = hgI A 129 J 0) ∧ Eqx (fun q => q = J ∨ q = J + 407 ∨ q = J + 408) A B := by
  intro d
  induction d with
  | zero =>
    intro i fu A h1 h2 hJ hK hj hk hk7 hF
    obtain ⟨fu, rfl⟩ : ∃ f, fu = f + 1 := ⟨fu - 1, by omega⟩
    have hi : i = 2 := by omega
    subst hi
    obtain ⟨B, b1, b2, b3, b6, b4⟩ := Jr.bec110 (w := w) hd 7 0 FU A (by omega) (by unfold FU; omega) hJ hK (fun j q => absurd q (Nat.not_lt_zero j)) hk7 hF
    refine ⟨B, ?_, fun j q => by rw [b4.I (fun z => by omega)]; exact hj j q, b2, b3, b6, b4.mo (fun q z => by omega)⟩
    show k_X4_become_85s J K _ _ _ = _
    unfold k_X4_become_85s
    rw [if_pos (show (2 : Int32) ≤ nI 2 from Int32.le_rfl)]
    exact b1
  | succ d ih =>
    intro i fu A h1 h2 hJ hK hj hk hk7 hF
    obtain ⟨fu, rfl⟩ : ∃ f, fu = f + 1 := ⟨fu - 1, by omega⟩
    have e1 : Eqx (fun q => q = J + 407) A (hsI A 1034 (J + 407) i (nI (jL w i))) := Eqx.sI rfl
    obtain ⟨B, b1, b2, b3, b4, b6, b5⟩ := ih (i + 1) fu (hsI A 1034 (J + 407) i (nI (jL w i))) (by omega) (by omega) (hJ.eq e1 (by omega)) (hK.eq e1 (by omega)) (fun j q => by
      rw [hgI_sI]
      by_cases z : j = i
      · rw [if_pos ⟨rfl, rfl, z⟩, z]
      · rw [if_neg (fun y => z y.2.2)]; exact hj j (by omega)) (fun j q => by rw [hgI_sI, if_neg (by omega)]; exact hk j q) (fun j q => by rw [hgI_sI, if_neg (by omega)]; exact hk7 j q) (hF.eq e1 (by omega))
    refine ⟨B, ?_, b2, b3, b4, ⟨b6.1, b6.2.trans (e1.I (by omega) 129 0)⟩, (e1.mo (fun q z => Or.inr (Or.inl z))).tr b5⟩
    show k_X4_become_85s J K _ _ _ = _
    unfold k_X4_become_85s
    rw [if_neg (show ¬ (2 : Int32) ≤ nI i from nI_ge (b := 2) (by omega) (by omega)), if_pos hJ.1.1, if_pos hK.1.1, hK.1.2.2.2.2.2.2.2.2.1, hJ.1.2.2.2.2.2.2.2.2.1, hK.2.2.2.1, hJ.2.2.2.1, if_pos rfl, if_pos ((nI_wix (by omega)).mpr (show i < 2 by omega)), if_pos rfl, if_pos ((nI_wix (by omega)).mpr (show i < 2 by omega)), nI_clamp (by omega), hk i (by omega), nI_1, b1]
/-- behind the cookies -/
theorem Jr.bec2 (hd : J + 409 ≤ K ∨ K + 409 ≤ J) {A : Hp} {v : JV} (hJ : JS A J) (hK : JS A K) (qJ : JQ A J v) (qK : JQ A K w) (hF : JF A K w) : ∃ B, ((f_X7_become A (hgR A 132 J 0) (hgR A 132 K 0)).bind fun A22 => if (hsh A22 J).1 = 3 then if (hsh A22 K).1 = 3 then if (hsh A22 (hgR A22 133 J 0)).1 = 1 then ((f_X0_become A22 (hgR A22 133 J 0) (hgR A22 133 K 0)).bind fun A27 => if (hsh A27 J).1 = 3 then if (hsh A27 K).1 = 3 then if (hsh A27 (hgR A27 134 J 0)).1 = 1 then ((f_X0_become A27 (hgR A27 134 J 0) (hgR A27 134 K 0)).bind fun A32 => if (hsh A32 J).1 = 3 then if (hsh A32 K).1 = 3 then if (hsh A32 (hgR A32 135 J 0)).1 = 5 then ((f_X6_copy A32 (hgR A32 135 J 0) (hgR A32 135 K 0)).bind fun A37 => k_X4_become_85 J K FU A37 (0 : Int32)) else none else none else none) else none else none else none) else none else none else none) = some B ∧ JQ B J w ∧ JF B J w ∧ (JS B J ∧ hgI B 129 J 0 = hgI A 129 J 0) ∧ Eqx (fun q => q = J ∨ (J + 381 ≤ q ∧ q < J + 409)) A B := by
  obtain ⟨a1, a2, a3, a4, a5, a6⟩ := qJ
  obtain ⟨c1, c2, c3, c4, c5, c6⟩ := qK
  have sx : ∀ {a b : Nat} {q : Nat}, (a + 14 ≤ b ∨ b + 14 ≤ a) → sxP b q → ¬ sxP a q := fun hd z1 z2 => by have := z1.1; have := z1.2; have := z2.1; have := z2.2; omega
  obtain ⟨A1, b1, b2, b3, b4⟩ := a1.become c1 (by omega)
  have m1 : Eqx (fun q => J + 381 ≤ q ∧ q < J + 395) A A1 := b4.mo (fun q z => by have := z.1; have := z.2; omega)
  have hJ1 := hJ.eq m1 (by omega)
  have hK1 := hK.eq m1 (by omega)
  obtain ⟨A2, d1, d2, d3, d4⟩ := (a2.eq m1 (fun q z => by have := z.1; have := z.2; omega)).become (c2.eq m1 (fun q z => by have := z.1; have := z.2; omega)) (by omega)
  have m2 : Eqx (fun q => J + 395 ≤ q ∧ q < J + 400) A1 A2 := d4.mo (fun q z => by have := z.1; have := z.2; omega)
  have hJ2 := hJ1.eq m2 (by omega)
  have hK2 := hK1.eq m2 (by omega)
  obtain ⟨A3, g1, g2, g3, g4⟩ := ((a3.eq m1 (fun q z => by have := z.1; have := z.2; omega)).eq m2 (fun q z => by have := z.1; have := z.2; omega)).become ((c3.eq m1 (fun q z => by have := z.1; have := z.2; omega)).eq m2 (fun q z => by have := z.1; have := z.2; omega)) (by omega)
  have m3 : Eqx (fun q => J + 400 ≤ q ∧ q < J + 405) A2 A3 := g4.mo (fun q z => by have := z.1; have := z.2; omega)
  have hJ3 := hJ2.eq m3 (by omega)
  have hK3 := hK2.eq m3 (by omega)
  have rJ : Rw A3 (J + 405) 2091 (jH v) := ((a4.eq m1 (by omega) (by omega)).eq m2 (by omega) (by omega)).eq m3 (by omega) (by omega)
  have rK : Rw A3 (K + 405) 2091 (jH w) := ((c4.eq m1 (by omega) (by omega)).eq m2 (by omega) (by omega)).eq m3 (by omega) (by omega)
  obtain ⟨A4, u1, u2, u3, u4⟩ := rJ.copy rK (by omega) (by have := rK.2.2.1; omega) rK.2.2.1
  have m4 : Eqx (fun q => J + 405 ≤ q ∧ q < J + 407) A3 A4 := u4.mo (fun q z => by rcases z with z | z <;> omega)
  have hJ4 := hJ3.eq m4 (by omega)
  have hK4 := hK3.eq m4 (by omega)
  have mi : ∀ f q j, q < J + 381 ∨ J + 407 ≤ q → hgI A4 f q j = hgI A f q j := fun f q j hq => by rw [m4.I (by omega), m3.I (by omega), m2.I (by omega), m1.I (by omega)]
  have hF4 : JF A4 K w := (((hF.eq m1 (by omega)).eq m2 (by omega)).eq m3 (by omega)).eq m4 (by omega)
  obtain ⟨B, y1, y2, y3, y4, y6, y5⟩ := Jr.bec85 (w := w) hd 2 0 FU A4 (by omega) (by unfold FU; omega) hJ4 hK4 (fun j q => absurd q (Nat.not_lt_zero j)) (fun j q => by rw [mi _ _ _ (by omega)]; exact c5 j q) (fun j q => by rw [mi _ _ _ (by omega)]; exact c6 j q) hF4
  have m5 : Eqx (fun q => q = J ∨ (J + 407 ≤ q ∧ q < J + 409)) A4 B := y5.mo (fun q z => by omega)
  refine ⟨B, ?_, ⟨?_, ?_, ?_, ?_, y2, y3⟩, y4, ⟨y6.1, y6.2.trans (mi _ _ _ (by omega))⟩, ((((m1.mo (fun q z => ?_)).tr (m2.mo (fun q z => ?_))).tr (m3.mo (fun q z => ?_))).tr (m4.mo (fun q z => ?_))).tr (m5.mo (fun q z => ?_))⟩
  · rw [hJ.1.2.2.2.2.1, hK.1.2.2.2.2.1, b1, Option.bind_some, if_pos hJ1.1.1, if_pos hK1.1.1, hJ1.1.2.2.2.2.2.1, hK1.1.2.2.2.2.2.1, if_pos (by rw [m1.2.1]; exact a2.1.1), d1, Option.bind_some, if_pos hJ2.1.1, if_pos hK2.1.1, hJ2.1.2.2.2.2.2.2.1, hK2.1.2.2.2.2.2.2.1, if_pos (by rw [m2.2.1, m1.2.1]; exact a3.1.1), g1, Option.bind_some, if_pos hJ3.1.1, if_pos hK3.1.1, hJ3.1.2.2.2.2.2.2.2.1, hK3.1.2.2.2.2.2.2.2.1, if_pos rJ.1.1, u1, Option.bind_some]
    exact y1
  · exact (((b2.eq m2 (fun q z => by have := z.1; have := z.2; omega)).eq m3 (fun q z => by have := z.1; have := z.2; omega)).eq m4 (fun q z => by have := z.1; have := z.2; omega)).eq m5 (fun q z => by have := z.1; have := z.2; omega)
  · exact ((d2.eq m3 (fun q z => by have := z.1; have := z.2; omega)).eq m4 (fun q z => by have := z.1; have := z.2; omega)).eq m5 (fun q z => by have := z.1; have := z.2; omega)
  · exact (g2.eq m4 (fun q z => by have := z.1; have := z.2; omega)).eq m5 (fun q z => by have := z.1; have := z.2; omega)
  · exact u2.eq m5 (by omega) (by omega)
  all_goals omega
theorem Jr.become {A : Hp} {v : JV} {f f' : CkV} (h : Jr A J v f) (k : Jr A K w f') (hd : J + 409 ≤ K ∨ K + 409 ≤ J) : ∃ B, f_X4_become A J K = some B ∧ Jr B J w f ∧ Jr B K w f' ∧ Eqx (jrP J) A B := by
  obtain ⟨hS, hF, hQ, ⟨ad, c1, c2, c3, c4, c5, c6, c7⟩, hf⟩ := h
  have k0 := k
  obtain ⟨kS, kF, kQ, ⟨bd, e1, e2, e3, e4, e5, e6, e7⟩, kf⟩ := k
  have L : ∀ d i fu A, i + d = (jC w).length → d < fu → JS A J → JS A K → hgI A 129 J 0 = nI (jC w).length → (∀ j, j < 41 → hgR A 1037 (J + 1) j = ad j) → (∀ j, j < 41 → hgR A 1037 (K + 1) j = bd j) → (∀ j, j < i → Ck A (ad j) (cg (jC w) j)) → (∀ j, j < 41 → ∃ x, Ck A (ad j) x) → (∀ j, j < (jC w).length → Ck A (bd j) (cg (jC w) j)) → JQ A J v → JQ A K w → JF A K w → ∃ B, k_X4_become_10 J K fu A (nI i) = some B ∧ JC B J ad (jC w) ∧ JQ B J w ∧ JF B J w ∧ JS B J ∧ Eqx (fun q => q = J ∨ (J + 2 ≤ q ∧ q < J + 371) ∨ (J + 381 ≤ q ∧ q < J + 409)) A B := by
    intro d
    induction d with
    | zero =>
      intro i fu A h1 h2 hJ hK hn hA hB hi h41 hk qJ qK kF
      obtain ⟨fu, rfl⟩ : ∃ f, fu = f + 1 := ⟨fu - 1, by omega⟩
      have hie : i = (jC w).length := by omega
      subst hie
      obtain ⟨B, b1, b2, b3, b6, b4⟩ := Jr.bec2 (w := w) hd hJ hK qJ qK kF
      refine ⟨B, ?_, ?_, b2, b3, b6.1, b4.mo (fun q z => by omega)⟩
      · show k_X4_become_10s J K _ _ _ = _
        unfold k_X4_become_10s
        rw [if_pos hJ.1.1, hn, if_pos Int32.le_rfl, if_pos hK.1.1, if_pos (by rw [hJ.1.2.2.2.2.1]; exact qJ.1.1.1)]
        exact b1
      · have pc : ∀ j, j < 41 → ∀ q, ckP (ad j) q → ¬ (q = J ∨ (J + 381 ≤ q ∧ q < J + 409)) := fun j hj q hq => by
          obtain ⟨p, hp, e9⟩ := c2 j hj
          have := hq.1
          have := hq.2
          omega
        refine ⟨fun j hj => by rw [b4.R (by omega)]; exact hA j hj, c2, c3, b6.2.trans hn, e5, fun j hj => (hi j hj).eq b4 (pc j (by omega)), fun j hj => by obtain ⟨x, hx⟩ := h41 j hj; exact ⟨x, hx.eq b4 (pc j hj)⟩⟩
    | succ d ih =>
      intro i fu A h1 h2 hJ hK hn hA hB hi h41 hk qJ qK kF
      obtain ⟨fu, rfl⟩ : ∃ f, fu = f + 1 := ⟨fu - 1, by omega⟩
      obtain ⟨x, hx⟩ := h41 i (by omega)
      obtain ⟨p, hp, pe⟩ := c2 i (by omega)
      obtain ⟨p', hp', pe'⟩ := e2 i (by omega)
      obtain ⟨B, b1, b2, b3, b4⟩ := hx.become (hk i (by omega)) (by omega)
      have m : Eqx (fun q => J + 2 ≤ q ∧ q < J + 371) A B := b4.mo (fun q z => by have := z.1; have := z.2; omega)
      have oth : ∀ j y, j < 41 → j ≠ i → Ck A (ad j) y → Ck B (ad j) y := fun j y hj hne hy => by
        obtain ⟨p2, hp2, pe2⟩ := c2 j hj
        have hpp : p2 ≠ p := fun z => hne (c3 j i hj (by omega) (by rw [pe2, pe, z]))
        exact hy.eq b4 (fun q z1 z2 => by have := z1.1; have := z1.2; have := z2.1; have := z2.2; omega)
      obtain ⟨C, g1, g2, g3, g4, g6, g5⟩ := ih (i + 1) fu B (by omega) (by omega) (hJ.eq m (by omega)) (hK.eq m (by omega)) (by rw [m.I (by omega)]; exact hn) (fun j hj => by rw [m.R (by omega)]; exact hA j hj) (fun j hj => by rw [m.R (by omega)]; exact hB j hj) (fun j hj => by
          by_cases z : j = i
          · rw [z]; exact b2
          · exact oth j _ (by omega) z (hi j (by omega))) (fun j hj => by
          by_cases z : j = i
          · exact ⟨_, by rw [z]; exact b2⟩
          · obtain ⟨y, hy⟩ := h41 j hj
            exact ⟨y, oth j _ hj z hy⟩) (fun j hj => by
          obtain ⟨p2, hp2, pe2⟩ := e2 j (by omega)
          exact (hk j hj).eq m (fun q z1 z2 => by have := z1.1; have := z1.2; omega)) (qJ.eq m (fun q _ _ => by omega)) (qK.eq m (fun q _ _ => by omega)) (kF.eq m (by omega))
      refine ⟨C, ?_, g2, g3, g4, g6, (m.mo (fun q z => by omega)).tr g5⟩
      show k_X4_become_10s J K _ _ _ = _
      unfold k_X4_become_10s
      rw [if_pos hJ.1.1, hn, if_neg (nI_ge (by omega) (by omega)), hJ.1.2.1, hJ.2.1, if_pos rfl, if_pos ((nI_wix (by omega)).mpr (show i < 41 by omega)), if_pos hK.1.1, hK.1.2.1, hK.2.1, if_pos rfl, if_pos ((nI_wix (by omega)).mpr (show i < 41 by omega)), nI_clamp (by omega), hA i (by omega), hB i (by omega), if_pos hx.1.1, b1, Option.bind_some, nI_1, g1]
  have s0 : Eqx (fun q => q = J) A (hsI A 129 J 0 (nI (jC w).length)) := Eqx.sI rfl
  have pc : ∀ j, j < 41 → ∀ q, ckP (ad j) q → ¬ q = J := fun j hj q hq => by
    obtain ⟨p, hp, e9⟩ := c2 j hj
    have := hq.1
    have := hq.2
    omega
  have pc' : ∀ j, j < 41 → ∀ q, ckP (bd j) q → ¬ q = J := fun j hj q hq => by
    obtain ⟨p, hp, e9⟩ := e2 j hj
    have := hq.1
    have := hq.2
    omega
  have hS0 : JS (hsI A 129 J 0 (nI (jC w).length)) J := hS
  obtain ⟨B, b1, b2, b3, b4, b6, b5⟩ := L (jC w).length 0 FU (hsI A 129 J 0 (nI (jC w).length)) (by omega) (by unfold FU; omega) hS0 (kS.eq s0 (by omega)) (by rw [hgI_sI, if_pos ⟨rfl, rfl, rfl⟩]) (fun j hj => c1 j hj) (fun j hj => e1 j hj) (fun j hj => absurd hj (Nat.not_lt_zero j)) (fun j hj => by obtain ⟨x, hx⟩ := c7 j hj; exact ⟨x, hx.eq s0 (pc j hj)⟩) (fun j hj => (e6 j hj).eq s0 (pc' j (by omega))) (hQ.eq s0 (fun q _ _ => by omega)) (kQ.eq s0 (fun q _ _ => by omega)) (kF.eq s0 (by omega))
  have m : Eqx (jrP J) A B := (s0.mo (fun q z => ⟨by omega, by omega⟩)).tr (b5.mo (fun q z => ⟨by omega, by omega⟩))
  refine ⟨B, ?_, ⟨b6, b4, b3, ⟨ad, b2⟩, (hf.eq s0 (fun q z => by have := z.1; omega)).eq b5 (fun q z y => by have := z.1; have := z.2; omega)⟩, k0.eq m (fun q z y => by have := z.1; have := z.2; have := y.1; have := y.2; omega), m⟩
  · unfold f_X4_become
    rw [if_pos kS.1.1, if_pos hS.1.1, e4]
    exact b1
end
