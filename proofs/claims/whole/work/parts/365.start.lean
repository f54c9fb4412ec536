/-! the start of the law -/
theorem cs_init {A : Hp} (hz : hsz A = 101) (h1 : (hsh A 100).1 = 7) : ∃ B, f_X8_init A 100 = some B ∧ CSt B [] jv0 ∧ (∀ i, hgR B 1038 525 i = 0) ∧ hsz B = 526 := by
  obtain ⟨B1, b1, o1, e1, z1⟩ := Rw.init (A := A) (cap := 160) (by omega)
  rw [hz] at b1 o1 e1 z1
  have b1 : f_X6_init (hmk A 5 0) 101 (160 : Int32) = some B1 := b1
  have z1 : hsz B1 = 103 := z1
  obtain ⟨w1, y1, g1, s1, t1, x1⟩ := stg (F := 384) e1 (show 100 < 101 by omega) z1
  have o1 := o1.ew x1 (by omega) (by omega)
  unfold f_X8_init
  rw [if_pos h1, if_pos (by rw [hsh_mk, if_pos rfl]), hz, b1, Option.bind_some, if_pos (by rw [t1]; exact h1)]
  clear t1 x1 e1 b1
  generalize hsR B1 384 100 0 101 = H1 at *
  obtain ⟨B2, b2, o2, e2, z2⟩ := Rd.init (A := H1)
  rw [y1] at b2 o2 e2 z2
  have z2 : hsz B2 = 116 := z2
  obtain ⟨w2, y2, g2, s2, t2, x2⟩ := stg (F := 385) e2 (show 100 < 103 by omega) z2
  rw [if_pos (by rw [hsh_mk, if_pos rfl]), y1, b2, Option.bind_some, if_pos (by rw [t2, s1]; exact h1)]
  have o2 := o2.ew x2 (fun q z => by have := z.1; omega)
  clear t2 x2 e2 b2
  generalize hsR B2 385 100 0 103 = H2 at *
  obtain ⟨B3, b3, o3, e3, z3⟩ := Jr.init (A := H2)
  rw [y2] at b3 o3 e3 z3
  have z3 : hsz B3 = 525 := z3
  obtain ⟨w3, y3, g3, s3, t3, x3⟩ := stg (F := 386) e3 (show 100 < 116 by omega) z3
  rw [if_pos (by rw [hsh_mk, if_pos rfl]), y2, b3, Option.bind_some, if_pos (by rw [t3, s2, s1]; exact h1)]
  have o3 := o3.ew x3 (fun q z => by have := z.1; omega)
  clear t3 x3 e3 b3
  generalize hsR B3 386 100 0 116 = H3 at *
  have e4 : Ew (fun q => 525 ≤ q) H3 (hmk H3 14 2) := (Ew.mk H3 14 2).mo (fun q z => by omega)
  obtain ⟨w4, y4, g4, s4, t4, x4⟩ := stg (F := 387) e4 (show 100 < 525 by omega) (show hsz (hmk H3 14 2) = 526 by rw [hsz_mk, y3])
  rw [if_pos (by rw [t4, s3, s2, s1]; exact h1), y3]
  have o4 : hsh (hsR (hmk H3 14 2) 387 100 0 525) 525 = (14, 2) := by rw [hsh_sR, hsh_mk, if_pos y3.symm]
  have k4 : ∀ i, hgR (hsR (hmk H3 14 2) 387 100 0 525) 1038 525 i = 0 := fun i => by rw [hgR_sR, if_neg (by omega), hgR_mk, if_pos y3.symm]
  clear t4 x4 e4
  generalize hsR (hmk H3 14 2) 387 100 0 525 = H4 at *
  have c1 : (hsh H4 100).1 = 7 := by rw [s4, s3, s2, s1]; exact h1
  have c2 : hgR H4 384 100 0 = 101 := by rw [g4, if_neg (by omega), g3, if_neg (by omega), g2, if_neg (by omega), g1, if_pos rfl]
  have c3 : hgR H4 385 100 0 = 103 := by rw [g4, if_neg (by omega), g3, if_neg (by omega), g2, if_pos rfl]
  have c4 : hgR H4 386 100 0 = 116 := by rw [g4, if_neg (by omega), g3, if_pos rfl]
  have c5 : hgR H4 387 100 0 = 525 := by rw [g4, if_pos rfl]
  have d1 : Rw H4 101 160 [] := ((o1.ew w2 (by omega) (by omega)).ew w3 (by omega) (by omega)).ew w4 (by omega) (by omega)
  have d2 : Rd H4 103 rd0 := (o2.ew w3 (fun q z => by have := z.1; have := z.2; omega)).ew w4 (fun q z => by have := z.1; have := z.2; omega)
  have d3 : Jr H4 116 jv0 ck0 := o3.ew w4 (fun q z => by have := z.1; have := z.2; omega)
  exact ⟨H4, rfl, ⟨⟨c1, c2, c3, c4, c5, o4⟩, d1, ⟨rd0, d2⟩, ⟨ck0, d3⟩⟩, k4, y4⟩
theorem JM.zero {μ : Nat → Int64} (h : ∀ k, μ k = if k = 3 then lN 20 else if k = 2 then lN 5 else 0) : JM μ jv0 [] 0 := by
  have m : ∀ k, k ≠ 3 → k ≠ 2 → μ k = 0 := fun k h3 h2 => by rw [h, if_neg h3, if_neg h2]
  have n : ∀ k, k ≠ 3 → k ≠ 2 → μ k = lN 0 := fun k h3 h2 => (m k h3 h2).trans rfl
  have ad : ∀ a, 4 ≤ a → AdM μ a (false, false, [], []) := fun a ha => ⟨⟨(m _ (by omega) (by omega)).trans rfl, (m _ (by omega) (by omega)).trans rfl, n _ (by omega) (by omega), n _ (by omega) (by omega)⟩, Sg.nil, Sg.nil, Nat.zero_le _, Nat.zero_le _⟩
  have m2 : μ 2 = lN 5 := by rw [h, if_neg (by omega), if_pos rfl]
  have m3 : μ 3 = lN 20 := by rw [h, if_pos rfl]
  have su : SuM μ [] := ⟨n _ (by omega) (by omega), Nat.zero_le _, fun i hi => absurd hi (Nat.not_lt_zero i)⟩
  exact ⟨⟨⟨m 0 (by omega) (by omega), n 1 (by omega) (by omega), m2, m3⟩, n 4 (by omega) (by omega), n 5 (by omega) (by omega), n 7 (by omega) (by omega), n 8 (by omega) (by omega)⟩, fun i _ => n _ (by omega) (by omega), su, ad 20 (by omega), ad 100 (by omega), ⟨Sg.nil, Nat.zero_le _⟩, fun i hi => absurd hi (Nat.not_lt_zero i), Nat.zero_le _⟩
theorem Inv.zero : Inv jv0 0 :=
  ⟨⟨List.Pairwise.nil, ⟨fun c hc => (nomatch hc), fun c hc => (nomatch hc), List.Pairwise.nil⟩, Nat.zero_le _, fun c hc => (nomatch hc)⟩, ⟨⟨show 1 ≤ 5 by omega, show 5 ≤ 40 by omega⟩, show 1 ≤ 20 by omega, show 20 ≤ 40 by omega⟩, ⟨show 0 ≤ 3 by omega, show 0 < 100 by omega⟩, fun h => Bool.noConfusion (show false = true from h), fun i _ => Nat.zero_le _, 0, rfl, Nat.zero_le _⟩
theorem st_zero {B C : Hp} (c : CSt B [] jv0) (k4 : ∀ i, hgR B 1038 525 i = 0) (m1 : Ms C 526) (m2 : Mw C 526) (m3 : KpS C 526) (m4 : hgI C 451 526 0 = 0) (m5 : ∀ k, mu C 526 k = if k = 3 then lN 20 else if k = 2 then lN 5 else 0) (m6 : ∀ i, hgI C 1036 529 i = 0) (e : Ew (fun q => 526 ≤ q) B C) (z : hsz C = 549) : ST (hmk C 11 1) 0 := by
  have e2 : Ew (fun q => q = 549) C (hmk C 11 1) := (Ew.mk C 11 1).mo (fun q y => by omega)
  have tx : Tx C 526 [] := ⟨by rw [m4]; rfl, Nat.zero_le _, Sg.nil, fun c hc => (nomatch hc)⟩
  have zz : hsz (hmk C 11 1) = hsz C + 1 := rfl
  refine ⟨[], jv0, [], fun _ => none, ⟨(c.ew e (fun q _ h y => by omega)).ew e2 (fun q _ h y => by omega), ⟨m1.ew e2 (by omega) (by omega), m2.ew e2 (by omega) (fun k hk => by omega), tx.ew e2 (by omega) (by omega), (JM.zero m5).congr (fun k _ => mu_ew e2 (by omega) k), ?_, ?_, ?_, ?_⟩, ⟨fun i hi _ => ⟨?_, ?_⟩, fun i q w ns _ h => nomatch (show (none : Option (Nat × JV × List CkV)) = some (q, w, ns) from h)⟩, fun q w ns q' w' ns' h => nomatch (show (none : Option (Nat × JV × List CkV)) = some (q, w, ns) from h)⟩, ⟨List.Perm.refl _, Inv.zero⟩, ?_, by omega⟩
  · rw [e2.R (by omega)]; exact m3.1
  · rw [e2.S (by omega)]; exact m3.2.1
  · rw [e2.R (by omega)]; exact m3.2.2.1
  · rw [e2.S (by omega)]; exact m3.2.2.2
  · rw [e2.R (by omega), e.R (by omega)]; exact k4 i
  · rw [e2.I (by omega)]; exact m6 i
  · rw [hsh_mk, if_pos z.symm]
theorem law_pure {xs : Nat → Int32} {Ln : Nat} (hL : Ln ≤ 2048) : f_L_law xs Ln hA0 = some 1 := by
  have z0 : hsz hA0 = 100 := rfl
  obtain ⟨B, b1, b2, b3, b4⟩ := cs_init (A := hmk hA0 7 0) (by rw [hsz_mk, z0]) (by rw [hsh_mk, if_pos z0.symm])
  obtain ⟨C, c1, m1, m2, m3, m4, m5, m6, e, z⟩ := Ms.init b4
  have z : hsz C = 549 := z
  have st := st_zero b2 b3 m1 m2 m3 m4 m5 m6 e z
  have q := lw_loop (xs := xs) hL 512 0 (hmk C 11 1) rfl st (Or.inr (Or.inl rfl))
  unfold f_L_law
  rw [if_pos (by rw [hsh_mk, if_pos rfl]), z0, b1, Option.bind_some, if_pos (by rw [hsh_mk, if_pos rfl]), b4, c1, Option.bind_some, z]
  exact q
