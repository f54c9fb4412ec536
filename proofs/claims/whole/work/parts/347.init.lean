/-! new objects of the class -/
theorem Rw.init {A : Hp} {cap : Nat} (hc : cap ≤ 20000) : ∃ B, f_X6_init (hmk A 5 0) (hsz A) (nI cap) = some B ∧ Rw B (hsz A) cap [] ∧ Ew (fun q => hsz A ≤ q) A B ∧ hsz B = hsz A + 2 := by
  refine ⟨hsI (hsR (hmk (hmk A 5 0) 9 cap) 256 (hsz A) 0 (hsz A + 1)) 257 (hsz A) 0 0, ?_, ?_, ?_, rfl⟩
  · unfold f_X6_init
    rw [if_pos (by rw [hsh_mk, if_pos rfl]), if_neg (nI_pos (by omega)), if_pos ⟨nI_pos' (by omega), by rw [nI_clamp (by omega)]; exact hc⟩, nI_clamp (by omega), if_pos (by rw [hsh_mk, if_neg (by rw [hsz_mk]; omega), hsh_mk, if_pos rfl]), hsz_mk]
  · refine ⟨⟨?_, ?_, ?_, hc⟩, ?_, Nat.zero_le _, fun c hc => (nomatch hc), fun i hi => absurd hi (Nat.not_lt_zero i)⟩
    · rw [hsh_sI, hsh_sR, hsh_mk, if_neg (by rw [hsz_mk]; omega), hsh_mk, if_pos rfl]
    · rw [hgR_sI, hgR_sR, if_pos ⟨rfl, rfl, rfl⟩]
    · rw [hsh_sI, hsh_sR, hsh_mk, if_pos (by rw [hsz_mk])]
    · rw [hgI_sI, if_pos ⟨rfl, rfl, rfl⟩]; rfl
  · exact ((((Ew.mk A 5 0).mo (fun q z => by omega)).tr ((Ew.mk (hmk A 5 0) 9 cap).mo (fun q z => by rw [hsz_mk] at z; omega))).tr (ea_R.ew.mo (fun q z => by omega))).tr (ea_I.ew.mo (fun q z => by omega))
theorem addRow {A : Hp} {c F cap n : Nat} (hc : cap ≤ 20000) (hn : hsz A = n) (hA : c < n) : ∃ B, f_X6_init (hmk A 5 0) n (nI cap) = some B ∧ hsh B c = hsh A c ∧ Rw (hsR B F c 0 n) n cap [] ∧ Ew (fun q => n ≤ q ∨ q = c) A (hsR B F c 0 n) ∧ hsz (hsR B F c 0 n) = n + 2 ∧ (∀ f j, hgI (hsR B F c 0 n) f c j = hgI A f c j) ∧ (∀ f j, hgL (hsR B F c 0 n) f c j = hgL A f c j) ∧ (∀ f, hgR (hsR B F c 0 n) f c 0 = if f = F then n else hgR A f c 0) ∧ hsh (hsR B F c 0 n) c = hsh A c := by
  subst hn
  obtain ⟨B, b1, b2, b3, b4⟩ := Rw.init (A := A) hc
  have e : Ew (fun q => q = c) B (hsR B F c 0 (hsz A)) := ea_R.ew
  exact ⟨B, b1, b3.S (by omega), b2.ew e (by omega) (by omega), (b3.mo (fun q z => Or.inl z)).tr (e.mo (fun q z => Or.inr z)), b4, fun f j => b3.I (by omega) f j, fun f j => b3.L (by omega) f j, fun f => by
    rw [hgR_sR]
    by_cases z : f = F
    · rw [if_pos ⟨z, rfl, rfl⟩, if_pos z]
    · rw [if_neg (fun y => z y.1), if_neg z]; exact b3.R (by omega) f 0, b3.S (by omega)⟩
theorem Ad.init {A : Hp} : ∃ B, f_X0_init (hmk A 1 0) (hsz A) = some B ∧ Ad B (hsz A) (false, false, [], []) ∧ Ew (fun q => hsz A ≤ q) A B ∧ hsz B = hsz A + 5 := by
  have z0 : hsz (hmk A 1 0) = hsz A + 1 := rfl
  have s0 : hsh (hmk A 1 0) (hsz A) = (1, 0) := by rw [hsh_mk, if_pos rfl]
  have i0 : ∀ f j, hgI (hmk A 1 0) f (hsz A) j = 0 := fun f j => by rw [hgI_mk, if_pos rfl]
  have l0 : ∀ f j, hgL (hmk A 1 0) f (hsz A) j = 0 := fun f j => by rw [hgL_mk, if_pos rfl]
  have e0 : Ew (fun q => hsz A ≤ q) A (hmk A 1 0) := (Ew.mk A 1 0).mo (fun q z => by omega)
  generalize hh0 : hmk A 1 0 = H0 at *
  generalize hsz A = c at *
  obtain ⟨B1, a1, t1, r1, w1, z1, p1, q1, g1, s1⟩ := addRow (A := H0) (c := c) (F := 0) (cap := 30) (n := c + 1) (by omega) z0 (by omega)
  have a1 : f_X6_init (hmk H0 5 0) (c + 1) (30 : Int32) = some B1 := a1
  have z1 : hsz (hsR B1 0 c 0 (c + 1)) = c + 3 := z1
  generalize hh1 : hsR B1 0 c 0 (c + 1) = H1 at *
  obtain ⟨B2, a2, t2, r2, w2, z2, p2, q2, g2, s2⟩ := addRow (A := H1) (c := c) (F := 1) (cap := 40) (n := c + 3) (by omega) z1 (by omega)
  have a2 : f_X6_init (hmk H1 5 0) (c + 3) (40 : Int32) = some B2 := a2
  have z2 : hsz (hsR B2 1 c 0 (c + 3)) = c + 5 := z2
  generalize hh2 : hsR B2 1 c 0 (c + 3) = H2 at *
  have e3 : Ew (fun q => q = c) H2 (hsI (hsI H2 2 c 0 0) 3 c 0 0) := (ea_I.tr ea_I).ew
  refine ⟨hsI (hsI H2 2 c 0 0) 3 c 0 0, ?_, ⟨⟨?_, ?_, ?_⟩, ?_, ?_, (r1.ew w2 (by omega) (by omega)).ew e3 (by omega) (by omega), r2.ew e3 (by omega) (by omega)⟩, ((e0.tr (w1.mo (fun q z => by omega))).tr (w2.mo (fun q z => by omega))).tr (e3.mo (fun q z => by omega)), z2⟩
  · unfold f_X0_init
    rw [if_pos (by rw [s0]), if_pos (by rw [hsh_mk, if_pos rfl]), z0, a1, Option.bind_some, if_pos (by rw [t1, s0]), hh1, if_pos (by rw [hsh_mk, if_pos rfl]), z1, a2, Option.bind_some, if_pos (by rw [t2, s1, s0]), hh2]
  · rw [hsh_sI, hsh_sI, s2, s1, s0]
  · rw [hgR_sI, hgR_sI]; exact by rw [g2, if_neg (by omega), g1, if_pos rfl]
  · rw [hgR_sI, hgR_sI]; exact by rw [g2, if_pos rfl]
  · rw [hgI_sI, if_neg (by omega), hgI_sI, if_pos ⟨rfl, rfl, rfl⟩]; rfl
  · rw [hgI_sI, if_pos ⟨rfl, rfl, rfl⟩]; rfl
theorem Ck.init {A : Hp} : ∃ B, f_X1_init (hmk A 2 0) (hsz A) = some B ∧ Ck B (hsz A) ck0 ∧ Ew (fun q => hsz A ≤ q) A B ∧ hsz B = hsz A + 9 := by
  have z0 : hsz (hmk A 2 0) = hsz A + 1 := rfl
  have s0 : hsh (hmk A 2 0) (hsz A) = (2, 0) := by rw [hsh_mk, if_pos rfl]
  have i0 : ∀ f j, hgI (hmk A 2 0) f (hsz A) j = 0 := fun f j => by rw [hgI_mk, if_pos rfl]
  have l0 : ∀ f j, hgL (hmk A 2 0) f (hsz A) j = 0 := fun f j => by rw [hgL_mk, if_pos rfl]
  have e0 : Ew (fun q => hsz A ≤ q) A (hmk A 2 0) := (Ew.mk A 2 0).mo (fun q z => by omega)
  generalize hh0 : hmk A 2 0 = H0 at *
  generalize hsz A = c at *
  obtain ⟨B1, a1, t1, r1, w1, z1, p1, q1, g1, s1⟩ := addRow (A := H0) (c := c) (F := 64) (cap := 16) (n := c + 1) (by omega) z0 (by omega)
  have a1 : f_X6_init (hmk H0 5 0) (c + 1) (16 : Int32) = some B1 := a1
  have z1 : hsz (hsR B1 64 c 0 (c + 1)) = c + 3 := z1
  generalize hh1 : hsR B1 64 c 0 (c + 1) = H1 at *
  obtain ⟨B2, a2, t2, r2, w2, z2, p2, q2, g2, s2⟩ := addRow (A := H1) (c := c) (F := 65) (cap := 32) (n := c + 3) (by omega) z1 (by omega)
  have a2 : f_X6_init (hmk H1 5 0) (c + 3) (32 : Int32) = some B2 := a2
  have z2 : hsz (hsR B2 65 c 0 (c + 3)) = c + 5 := z2
  generalize hh2 : hsR B2 65 c 0 (c + 3) = H2 at *
  obtain ⟨B3, a3, t3, r3, w3, z3, p3, q3, g3, s3⟩ := addRow (A := H2) (c := c) (F := 66) (cap := 30) (n := c + 5) (by omega) z2 (by omega)
  have a3 : f_X6_init (hmk H2 5 0) (c + 5) (30 : Int32) = some B3 := a3
  have z3 : hsz (hsR B3 66 c 0 (c + 5)) = c + 7 := z3
  generalize hh3 : hsR B3 66 c 0 (c + 5) = H3 at *
  obtain ⟨B4, a4, t4, r4, w4, z4, p4, q4, g4, s4⟩ := addRow (A := H3) (c := c) (F := 67) (cap := 40) (n := c + 7) (by omega) z3 (by omega)
  have a4 : f_X6_init (hmk H3 5 0) (c + 7) (40 : Int32) = some B4 := a4
  have z4 : hsz (hsR B4 67 c 0 (c + 7)) = c + 9 := z4
  generalize hh4 : hsR B4 67 c 0 (c + 7) = H4 at *
  refine ⟨H4, ?_, ⟨⟨by rw [s4, s3, s2, s1, s0], by rw [g4, if_neg (by omega), g3, if_neg (by omega), g2, if_neg (by omega), g1, if_pos rfl], by rw [g4, if_neg (by omega), g3, if_neg (by omega), g2, if_pos rfl], by rw [g4, if_neg (by omega), g3, if_pos rfl], by rw [g4, if_pos rfl]⟩, ⟨⟨by rw [q4, q3, q2, q1, l0]; rfl, by rw [q4, q3, q2, q1, l0]; rfl, by rw [q4, q3, q2, q1, l0]; rfl⟩, by rw [p4, p3, p2, p1, i0]; rfl, by rw [p4, p3, p2, p1, i0]; rfl, by rw [p4, p3, p2, p1, i0]; rfl, by rw [p4, p3, p2, p1, i0]; rfl, by rw [p4, p3, p2, p1, i0]; rfl, by rw [p4, p3, p2, p1, i0]; rfl⟩, (((r1.ew w2 (by omega) (by omega)).ew w3 (by omega) (by omega)).ew w4 (by omega) (by omega)), ((r2.ew w3 (by omega) (by omega)).ew w4 (by omega) (by omega)), (r3.ew w4 (by omega) (by omega)), r4⟩, ((((e0.tr (w1.mo (fun q z => by omega))).tr (w2.mo (fun q z => by omega))).tr (w3.mo (fun q z => by omega))).tr (w4.mo (fun q z => by omega))), z4⟩
  unfold f_X1_init
  rw [if_pos (by rw [s0]), if_pos (by rw [hsh_mk, if_pos rfl]), z0, a1, Option.bind_some, if_pos (by rw [t1, s0]), hh1, if_pos (by rw [hsh_mk, if_pos rfl]), z1, a2, Option.bind_some, if_pos (by rw [t2, s1, s0]), hh2, if_pos (by rw [hsh_mk, if_pos rfl]), z2, a3, Option.bind_some, if_pos (by rw [t3, s2, s1, s0]), hh3, if_pos (by rw [hsh_mk, if_pos rfl]), z3, a4, Option.bind_some, if_pos (by rw [t4, s3, s2, s1, s0]), hh4]
def rd0 : RdV := (([], [], [], []), (false, none, some 0), (false, false, 0, 0))
theorem Rd.init {A : Hp} : ∃ B, f_X5_init (hmk A 4 0) (hsz A) = some B ∧ Rd B (hsz A) rd0 ∧ Ew (fun q => hsz A ≤ q) A B ∧ hsz B = hsz A + 13 := by
  have z0 : hsz (hmk A 4 0) = hsz A + 1 := rfl
  have s0 : hsh (hmk A 4 0) (hsz A) = (4, 0) := by rw [hsh_mk, if_pos rfl]
  have i0 : ∀ f j, hgI (hmk A 4 0) f (hsz A) j = 0 := fun f j => by rw [hgI_mk, if_pos rfl]
  have l0 : ∀ f j, hgL (hmk A 4 0) f (hsz A) j = 0 := fun f j => by rw [hgL_mk, if_pos rfl]
  have e0 : Ew (fun q => hsz A ≤ q) A (hmk A 4 0) := (Ew.mk A 4 0).mo (fun q z => by omega)
  generalize hh0 : hmk A 4 0 = H0 at *
  generalize hsz A = c at *
  obtain ⟨B1, a1, t1, r1, w1, z1, p1, q1, g1, s1⟩ := addRow (A := H0) (c := c) (F := 192) (cap := 160) (n := c + 1) (by omega) z0 (by omega)
  have a1 : f_X6_init (hmk H0 5 0) (c + 1) (160 : Int32) = some B1 := a1
  have z1 : hsz (hsR B1 192 c 0 (c + 1)) = c + 3 := z1
  generalize hh1 : hsR B1 192 c 0 (c + 1) = H1 at *
  obtain ⟨B2, a2, t2, r2, w2, z2, p2, q2, g2, s2⟩ := addRow (A := H1) (c := c) (F := 193) (cap := 160) (n := c + 3) (by omega) z1 (by omega)
  have a2 : f_X6_init (hmk H1 5 0) (c + 3) (160 : Int32) = some B2 := a2
  have z2 : hsz (hsR B2 193 c 0 (c + 3)) = c + 5 := z2
  generalize hh2 : hsR B2 193 c 0 (c + 3) = H2 at *
  obtain ⟨B3, a3, t3, r3, w3, z3, p3, q3, g3, s3⟩ := addRow (A := H2) (c := c) (F := 194) (cap := 160) (n := c + 5) (by omega) z2 (by omega)
  have a3 : f_X6_init (hmk H2 5 0) (c + 5) (160 : Int32) = some B3 := a3
  have z3 : hsz (hsR B3 194 c 0 (c + 5)) = c + 7 := z3
  generalize hh3 : hsR B3 194 c 0 (c + 5) = H3 at *
  obtain ⟨B4, a4, t4, r4, w4, z4, p4, q4, g4, s4⟩ := addRow (A := H3) (c := c) (F := 195) (cap := 40) (n := c + 7) (by omega) z3 (by omega)
  have a4 : f_X6_init (hmk H3 5 0) (c + 7) (40 : Int32) = some B4 := a4
  have z4 : hsz (hsR B4 195 c 0 (c + 7)) = c + 9 := z4
  generalize hh4 : hsR B4 195 c 0 (c + 7) = H4 at *
  obtain ⟨B5, a5, t5, r5, w5, z5, p5, q5, g5, s5⟩ := addRow (A := H4) (c := c) (F := 196) (cap := 160) (n := c + 9) (by omega) z4 (by omega)
  have a5 : f_X6_init (hmk H4 5 0) (c + 9) (160 : Int32) = some B5 := a5
  have z5 : hsz (hsR B5 196 c 0 (c + 9)) = c + 11 := z5
  generalize hh5 : hsR B5 196 c 0 (c + 9) = H5 at *
  obtain ⟨B6, a6, t6, r6, w6, z6, p6, q6, g6, s6⟩ := addRow (A := H5) (c := c) (F := 197) (cap := 160) (n := c + 11) (by omega) z5 (by omega)
  have a6 : f_X6_init (hmk H5 5 0) (c + 11) (160 : Int32) = some B6 := a6
  have z6 : hsz (hsR B6 197 c 0 (c + 11)) = c + 13 := z6
  generalize hh6 : hsR B6 197 c 0 (c + 11) = H6 at *
  refine ⟨H6, ?_, ⟨⟨by rw [s6, s5, s4, s3, s2, s1, s0], by rw [g6, if_neg (by omega), g5, if_neg (by omega), g4, if_neg (by omega), g3, if_neg (by omega), g2, if_neg (by omega), g1, if_pos rfl], by rw [g6, if_neg (by omega), g5, if_neg (by omega), g4, if_neg (by omega), g3, if_neg (by omega), g2, if_pos rfl], by rw [g6, if_neg (by omega), g5, if_neg (by omega), g4, if_neg (by omega), g3, if_pos rfl], by rw [g6, if_neg (by omega), g5, if_neg (by omega), g4, if_pos rfl], by rw [g6, if_neg (by omega), g5, if_pos rfl], by rw [g6, if_pos rfl]⟩, ⟨⟨by rw [p6, p5, p4, p3, p2, p1, i0]; rfl, by rw [p6, p5, p4, p3, p2, p1, i0]; rfl, by rw [p6, p5, p4, p3, p2, p1, i0]; rfl, by rw [q6, q5, q4, q3, q2, q1, l0]; rfl⟩, by rw [p6, p5, p4, p3, p2, p1, i0]; rfl, by rw [p6, p5, p4, p3, p2, p1, i0]; rfl, by rw [p6, p5, p4, p3, p2, p1, i0]; rfl, by rw [p6, p5, p4, p3, p2, p1, i0]; rfl⟩, ⟨(((((r1.ew w2 (by omega) (by omega)).ew w3 (by omega) (by omega)).ew w4 (by omega) (by omega)).ew w5 (by omega) (by omega)).ew w6 (by omega) (by omega)), ((((r2.ew w3 (by omega) (by omega)).ew w4 (by omega) (by omega)).ew w5 (by omega) (by omega)).ew w6 (by omega) (by omega)), (((r3.ew w4 (by omega) (by omega)).ew w5 (by omega) (by omega)).ew w6 (by omega) (by omega)), ((r4.ew w5 (by omega) (by omega)).ew w6 (by omega) (by omega))⟩, [], [], (r5.ew w6 (by omega) (by omega)), r6⟩, ((((((e0.tr (w1.mo (fun q z => by omega))).tr (w2.mo (fun q z => by omega))).tr (w3.mo (fun q z => by omega))).tr (w4.mo (fun q z => by omega))).tr (w5.mo (fun q z => by omega))).tr (w6.mo (fun q z => by omega))), z6⟩
  unfold f_X5_init
  rw [if_pos (by rw [s0]), if_pos (by rw [hsh_mk, if_pos rfl]), z0, a1, Option.bind_some, if_pos (by rw [t1, s0]), hh1, if_pos (by rw [hsh_mk, if_pos rfl]), z1, a2, Option.bind_some, if_pos (by rw [t2, s1, s0]), hh2, if_pos (by rw [hsh_mk, if_pos rfl]), z2, a3, Option.bind_some, if_pos (by rw [t3, s2, s1, s0]), hh3, if_pos (by rw [hsh_mk, if_pos rfl]), z3, a4, Option.bind_some, if_pos (by rw [t4, s3, s2, s1, s0]), hh4, if_pos (by rw [hsh_mk, if_pos rfl]), z4, a5, Option.bind_some, if_pos (by rw [t5, s4, s3, s2, s1, s0]), hh5, if_pos (by rw [hsh_mk, if_pos rfl]), z5, a6, Option.bind_some, if_pos (by rw [t6, s5, s4, s3, s2, s1, s0]), hh6]
theorem Sx.init {A : Hp} : ∃ B, f_X7_init (hmk A 6 0) (hsz A) = some B ∧ Sx B (hsz A) [] ∧ Ew (fun q => hsz A ≤ q) A B ∧ hsz B = hsz A + 14 := by
  have L : ∀ (c d i fu : Nat) (H : Hp), i + d = 6 → d < fu → hsz H = c + 2 + 2 * i → (hsh H c).1 = 6 → hgR H 320 c 0 = c + 1 → hsh H (c + 1) = (15, 6) → (∀ j, j < i → hgR H 1039 (c + 1) j = c + 2 + 2 * j) → (∀ j, j < i → Rw H (c + 2 + 2 * j) 30 []) → ∃ B, k_X7_init_15 c fu H (nI i) = some B ∧ Sx B c [] ∧ Ew (fun q => c ≤ q) H B ∧ hsz B = c + 14 := by
    intro c d
    induction d with
    | zero =>
      intro i fu H h1 h2 hz s1 s2 s3 s4 s5
      obtain ⟨fu, rfl⟩ : ∃ f, fu = f + 1 := ⟨fu - 1, by omega⟩
      have hi : i = 6 := by omega
      subst hi
      have e : Ew (fun q => q = c) H (hsI H 321 c 0 0) := ea_I.ew
      refine ⟨hsI H 321 c 0 0, ?_, ⟨⟨s1, s2, s3⟩, s4, by rw [hgI_sI, if_pos ⟨rfl, rfl, rfl⟩]; rfl, Nat.zero_le _, fun j hj => absurd hj (Nat.not_lt_zero j), fun j hj => ⟨[], (s5 j hj).ew e (by omega) (by omega)⟩⟩, e.mo (fun q z => by omega), hz⟩
      show k_X7_init_15s c _ _ _ = _
      unfold k_X7_init_15s
      rw [if_pos (show (6 : Int32) ≤ nI 6 from Int32.le_rfl), if_pos s1]
    | succ d ih =>
      intro i fu H h1 h2 hz s1 s2 s3 s4 s5
      obtain ⟨fu, rfl⟩ : ∃ f, fu = f + 1 := ⟨fu - 1, by omega⟩
      obtain ⟨B, b1, b2, b3, b4⟩ := Rw.init (A := H) (cap := 30) (by omega)
      have b1 : f_X6_init (hmk H 5 0) (hsz H) (30 : Int32) = some B := b1
      rw [hz] at b1 b2 b3 b4
      have e : Ew (fun q => q = c + 1) B (hsR B 1039 (c + 1) i (c + 2 + 2 * i)) := ea_R.ew
      obtain ⟨C, c1, c2, c3, c4⟩ := ih (i + 1) fu (hsR B 1039 (c + 1) i (c + 2 + 2 * i)) (by omega) (by omega) (by rw [hsz_sR, b4]; omega) (by rw [hsh_sR, b3.S (by omega)]; exact s1) (by rw [e.R (by omega), b3.R (by omega)]; exact s2) (by rw [hsh_sR, b3.S (by omega)]; exact s3) (fun j hj => by
          rw [hgR_sR]
          by_cases z : j = i
          · rw [if_pos ⟨rfl, rfl, z⟩, z]
          · rw [if_neg (fun y => z y.2.2), b3.R (by omega)]; exact s4 j (by omega)) (fun j hj => by
          by_cases z : j = i
          · rw [z]; exact b2.ew e (by omega) (by omega)
          · exact ((s5 j (by omega)).ew b3 (by omega) (by omega)).ew e (by omega) (by omega))
      refine ⟨C, ?_, c2, ((b3.mo (fun q z => by omega)).tr (e.mo (fun q z => by omega))).tr c3, c4⟩
      show k_X7_init_15s c _ _ _ = _
      unfold k_X7_init_15s
      rw [if_neg (show ¬ (6 : Int32) ≤ nI i from nI_ge (b := 6) (by omega) (by omega)), if_pos s1, if_pos (by rw [hsh_mk, if_pos rfl]), hz, b1, Option.bind_some, s2, if_pos (by rw [b3.S (by omega), s3]), if_pos b2.1.1, if_pos (show wix (nI i) (hsh B (c + 1)).2 by rw [b3.S (by omega), s3]; exact (nI_wix (by omega)).mpr (by omega)), nI_clamp (by omega), nI_1, c1]
  have s0 : hsh (hmk A 6 0) (hsz A) = (6, 0) := by rw [hsh_mk, if_pos rfl]
  have e1 : Ew (fun q => q = hsz A + 1) (hmk A 6 0) (hmk (hmk A 6 0) 15 6) := Ew.mk (hmk A 6 0) 15 6
  have e2 : Ew (fun q => q = hsz A) (hmk (hmk A 6 0) 15 6) (hsR (hmk (hmk A 6 0) 15 6) 320 (hsz A) 0 (hsz A + 1)) := ea_R.ew
  obtain ⟨B, b1, b2, b3, b4⟩ := L (hsz A) 6 0 7 (hsR (hmk (hmk A 6 0) 15 6) 320 (hsz A) 0 (hsz A + 1)) (by omega) (by omega) rfl (by rw [hsh_sR, e1.S (by omega), s0]) (by rw [hgR_sR, if_pos ⟨rfl, rfl, rfl⟩]) (by rw [hsh_sR, hsh_mk, if_pos (show hsz A + 1 = hsz (hmk A 6 0) from rfl)]) (fun j hj => absurd hj (Nat.not_lt_zero j)) (fun j hj => absurd hj (Nat.not_lt_zero j))
  refine ⟨B, ?_, b2, ((((Ew.mk A 6 0).mo (fun q z => by omega)).tr (e1.mo (fun q z => by omega))).tr (e2.mo (fun q z => by omega))).tr b3, b4⟩
  unfold f_X7_init
  rw [if_pos (by rw [s0]), if_pos (by rw [e1.S (by omega), s0])]
  exact b1
/-- a new object comes into a field of the jar -/
theorem stg {A B : Hp} {J F n m : Nat} (e : Ew (fun q => n ≤ q) A B) (hJ : J < n) (hz : hsz B = m) : Ew (fun q => n ≤ q ∨ q = J) A (hsR B F J 0 n) ∧ hsz (hsR B F J 0 n) = m ∧ (∀ f, hgR (hsR B F J 0 n) f J 0 = if f = F then n else hgR A f J 0) ∧ hsh (hsR B F J 0 n) J = hsh A J ∧ hsh B J = hsh A J ∧ Ew (fun q => q = J) B (hsR B F J 0 n) :=
  ⟨(e.mo (fun q z => Or.inl z)).tr (ea_R.ew.mo (fun q z => Or.inr z)), hz, fun f => by
    rw [hgR_sR]
    by_cases z : f = F
    · rw [if_pos ⟨z, rfl, rfl⟩, if_pos z]
    · rw [if_neg (fun y => z y.1), if_neg z]; exact e.R (by omega) f 0, e.S (by omega), e.S (by omega), ea_R.ew⟩
def in9 (x0 : Nat) (H : Hp) : Option Hp := if (hsh (hmk H 10 7) x0).1 = 3 then k_X4_init_141 (hsR (hmk H 10 7) 137 x0 0 (hsz H)) x0 else none
def in8 (x0 : Nat) (H : Hp) : Option Hp := if (hsh H (hgR H 136 x0 0)).1 = 10 then if wix (1 : Int32) (hsh H (hgR H 136 x0 0)).2 then in9 x0 (hsI H 1034 (hgR H 136 x0 0) (1 : Int32).toNatClampNeg (20 : Int32)) else none else none
def in7 (x0 : Nat) (H : Hp) : Option Hp := if (hsh H (hgR H 136 x0 0)).1 = 10 then if wix (0 : Int32) (hsh H (hgR H 136 x0 0)).2 then in8 x0 (hsI H 1034 (hgR H 136 x0 0) (0 : Int32).toNatClampNeg (5 : Int32)) else none else none
def in6 (x0 : Nat) (H : Hp) : Option Hp := if (hsh (hmk H 10 2) x0).1 = 3 then in7 x0 (hsR (hmk H 10 2) 136 x0 0 (hsz H)) else none
def in5 (x0 : Nat) (H : Hp) : Option Hp := if (hsh (hmk H 5 0) (hsz H)).1 = 5 then ((f_X6_init (hmk H 5 0) (hsz H) (2091 : Int32)).bind fun B => if (hsh B x0).1 = 3 then in6 x0 (hsR B 135 x0 0 (hsz H)) else none) else none
def in4 (x0 : Nat) (H : Hp) : Option Hp := if (hsh (hmk H 1 0) (hsz H)).1 = 1 then ((f_X0_init (hmk H 1 0) (hsz H)).bind fun B => if (hsh B x0).1 = 3 then in5 x0 (hsR B 134 x0 0 (hsz H)) else none) else none
def in3 (x0 : Nat) (H : Hp) : Option Hp := if (hsh (hmk H 1 0) (hsz H)).1 = 1 then ((f_X0_init (hmk H 1 0) (hsz H)).bind fun B => if (hsh B x0).1 = 3 then in4 x0 (hsR B 133 x0 0 (hsz H)) else none) else none
def in2 (x0 : Nat) (H : Hp) : Option Hp := if (hsh (hmk H 6 0) (hsz H)).1 = 6 then ((f_X7_init (hmk H 6 0) (hsz H)).bind fun B => if (hsh B x0).1 = 3 then in3 x0 (hsR B 132 x0 0 (hsz H)) else none) else none
def in1 (x0 : Nat) (H : Hp) : Option Hp := if (hsh (hmk H 10 41) x0).1 = 3 then in2 x0 (hsR (hmk H 10 41) 131 x0 0 (hsz H)) else none
def in0 (x0 : Nat) (H : Hp) : Option Hp := if (hsh (hmk H 2 0) (hsz H)).1 = 2 then ((f_X1_init (hmk H 2 0) (hsz H)).bind fun B => if (hsh B x0).1 = 3 then in1 x0 (hsR B 130 x0 0 (hsz H)) else none) else none
def jv0 : JV := (([], []), ((false, false, [], []), (false, false, [], [])), [], (fun i => if i = 0 then 5 else 20), (fun _ => 0), 0, 0, 0)
def InZ (Z : Hp) (J : Nat) : Prop := (hsh Z J).1 = 3 ∧ hsh Z (J + 408) = (10, 7) ∧ (∀ j, hgI Z 1034 (J + 408) j = 0) ∧ (hgI Z 138 J 0 = 0 ∧ hgI Z 139 J 0 = 0 ∧ hgL Z 140 J 0 = 0) ∧ hgI Z 129 J 0 = 0 ∧ hsz Z = J + 409
theorem in9_spec {J : Nat} {H : Hp} (y : hsz H = J + 408) (h1 : (hsh H J).1 = 3) (i8 : hgI H 129 J 0 = 0) : ∃ Z, in9 J H = some Z ∧ Ew (fun q => q = J ∨ J + 408 ≤ q) H Z ∧ (∀ f, hgR Z f J 0 = if f = 137 then J + 408 else hgR H f J 0) ∧ InZ Z J := by
  have e9 : Ew (fun q => J + 408 ≤ q) H (hmk H 10 7) := (Ew.mk H 10 7).mo (fun q z => by omega)
  obtain ⟨w9, y9, g9, s9, t9, x9⟩ := stg (F := 137) e9 (show J < J + 408 by omega) (show hsz (hmk H 10 7) = J + 409 by rw [hsz_mk, y])
  have i9 : hgI (hsR (hmk H 10 7) 137 J 0 (J + 408)) 129 J 0 = 0 := by rw [hgI_sR, e9.I (by omega)]; exact i8
  have o9 : hsh (hsR (hmk H 10 7) 137 J 0 (J + 408)) (J + 408) = (10, 7) := by rw [hsh_sR, hsh_mk, if_pos y.symm]
  have k9 : ∀ j, hgI (hsR (hmk H 10 7) 137 J 0 (J + 408)) 1034 (J + 408) j = 0 := fun j => by rw [hgI_sR, hgI_mk, if_pos y.symm]
  have u : in9 J H = k_X4_init_141 (hsR (hmk H 10 7) 137 J 0 (J + 408)) J := by
    unfold in9
    rw [if_pos (by rw [t9]; exact h1), y]
  rw [u]
  clear u x9 t9 e9
  generalize hsR (hmk H 10 7) 137 J 0 (J + 408) = H9 at *
  have eX : Ew (fun q => q = J) H9 (hsL (hsI (hsI H9 138 J 0 0) 139 J 0 0) 140 J 0 0) := ((ea_I.tr ea_I).tr ea_L).ew
  refine ⟨hsL (hsI (hsI H9 138 J 0 0) 139 J 0 0) 140 J 0 0, ?_, (w9.mo (fun q z => by omega)).tr (eX.mo (fun q z => by omega)), fun f => ?_, ?_, ?_, fun j => ?_, ⟨?_, ?_, ?_⟩, ?_, ?_⟩
  · unfold k_X4_init_141
    rw [if_pos (by rw [s9]; exact h1)]
  · rw [hgR_sL, hgR_sI, hgR_sI]; exact g9 f
  · rw [hsh_sL, hsh_sI, hsh_sI, s9]; exact h1
  · rw [hsh_sL, hsh_sI, hsh_sI]; exact o9
  · rw [hgI_sL, hgI_sI, if_neg (by omega), hgI_sI, if_neg (by omega)]; exact k9 j
  · rw [hgI_sL, hgI_sI, if_neg (by omega), hgI_sI, if_pos ⟨rfl, rfl, rfl⟩]
  · rw [hgI_sL, hgI_sI, if_pos ⟨rfl, rfl, rfl⟩]
  · rw [hgL_sL, if_pos ⟨rfl, rfl, rfl⟩]
  · rw [hgI_sL, hgI_sI, if_neg (by omega), hgI_sI, if_neg (by omega)]; exact i9
  · rw [hsz_sL, hsz_sI, hsz_sI]; exact y9
theorem in7_spec {J : Nat} {H : Hp} (q7 : hgR H 136 J 0 = J + 407) (o7 : hsh H (J + 407) = (10, 2)) : in7 J H = in9 J (hsI (hsI H 1034 (J + 407) 0 5) 1034 (J + 407) 1 20) := by
  unfold in7
  rw [q7, o7, if_pos rfl, if_pos (show wix (0 : Int32) ((10, 2) : Nat × Nat).2 from (nI_wix (i := 0) (by omega)).mpr (show 0 < 2 by omega)), show (0 : Int32).toNatClampNeg = 0 by decide]
  unfold in8
  rw [hgR_sI, q7, hsh_sI, o7, if_pos rfl, if_pos (show wix (1 : Int32) ((10, 2) : Nat × Nat).2 from (nI_wix (i := 1) (by omega)).mpr (show 1 < 2 by omega)), show (1 : Int32).toNatClampNeg = 1 by decide]
theorem in6_spec {J : Nat} {H : Hp} (y : hsz H = J + 407) (h1 : (hsh H J).1 = 3) (i6 : hgI H 129 J 0 = 0) : ∃ Z, in6 J H = some Z ∧ Ew (fun q => q = J ∨ J + 407 ≤ q) H Z ∧ (∀ f, hgR Z f J 0 = if f = 137 then J + 408 else if f = 136 then J + 407 else hgR H f J 0) ∧ (hsh Z (J + 407) = (10, 2) ∧ hgI Z 1034 (J + 407) 0 = 5 ∧ hgI Z 1034 (J + 407) 1 = 20) ∧ InZ Z J := by
  have e7 : Ew (fun q => J + 407 ≤ q) H (hmk H 10 2) := (Ew.mk H 10 2).mo (fun q z => by omega)
  obtain ⟨w7, y7, g7, s7, t7, x7⟩ := stg (F := 136) e7 (show J < J + 407 by omega) (show hsz (hmk H 10 2) = J + 408 by rw [hsz_mk, y])
  have i7 : hgI (hsR (hmk H 10 2) 136 J 0 (J + 407)) 129 J 0 = 0 := by rw [hgI_sR, e7.I (by omega)]; exact i6
  have o7 : hsh (hsR (hmk H 10 2) 136 J 0 (J + 407)) (J + 407) = (10, 2) := by rw [hsh_sR, hsh_mk, if_pos y.symm]
  have u : in6 J H = in7 J (hsR (hmk H 10 2) 136 J 0 (J + 407)) := by
    unfold in6
    rw [if_pos (by rw [t7]; exact h1), y]
  rw [u]
  clear u x7 t7 e7
  generalize hsR (hmk H 10 2) 136 J 0 (J + 407) = H7 at *
  rw [in7_spec (by rw [g7, if_pos rfl]) o7]
  have e8 : Ew (fun q => q = J + 407) H7 (hsI (hsI H7 1034 (J + 407) 0 5) 1034 (J + 407) 1 20) := (ea_I.tr ea_I).ew
  have l0 : hgI (hsI (hsI H7 1034 (J + 407) 0 5) 1034 (J + 407) 1 20) 1034 (J + 407) 0 = 5 := by rw [hgI_sI, if_neg (by omega), hgI_sI, if_pos ⟨rfl, rfl, rfl⟩]
  have l1 : hgI (hsI (hsI H7 1034 (J + 407) 0 5) 1034 (J + 407) 1 20) 1034 (J + 407) 1 = 20 := by rw [hgI_sI, if_pos ⟨rfl, rfl, rfl⟩]
  have y8 : hsz (hsI (hsI H7 1034 (J + 407) 0 5) 1034 (J + 407) 1 20) = J + 408 := by rw [hsz_sI, hsz_sI]; exact y7
  have o8 : hsh (hsI (hsI H7 1034 (J + 407) 0 5) 1034 (J + 407) 1 20) (J + 407) = (10, 2) := by rw [hsh_sI, hsh_sI]; exact o7
  generalize hsI (hsI H7 1034 (J + 407) 0 5) 1034 (J + 407) 1 20 = H8 at *
  obtain ⟨Z, z1, z2, z3, z4⟩ := in9_spec y8 (by rw [e8.S (by omega), s7]; exact h1) (by rw [e8.I (by omega)]; exact i7)
  exact ⟨Z, z1, ((w7.mo (fun q z => by omega)).tr (e8.mo (fun q z => by omega))).tr (z2.mo (fun q z => by omega)), fun f => by rw [z3, e8.R (by omega), g7], ⟨by rw [z2.S (by omega)]; exact o8, by rw [z2.I (by omega)]; exact l0, by rw [z2.I (by omega)]; exact l1⟩, z4⟩
theorem in5_spec {J : Nat} {H : Hp} (y : hsz H = J + 405) (h1 : (hsh H J).1 = 3) (i5 : hgI H 129 J 0 = 0) : ∃ Z, in5 J H = some Z ∧ Ew (fun q => q = J ∨ J + 405 ≤ q) H Z ∧ (∀ f, hgR Z f J 0 = if f = 137 then J + 408 else if f = 136 then J + 407 else if f = 135 then J + 405 else hgR H f J 0) ∧ Rw Z (J + 405) 2091 [] ∧ (hsh Z (J + 407) = (10, 2) ∧ hgI Z 1034 (J + 407) 0 = 5 ∧ hgI Z 1034 (J + 407) 1 = 20) ∧ InZ Z J := by
  obtain ⟨B6, b6, o6, e6, z6⟩ := Rw.init (A := H) (cap := 2091) (by omega)
  rw [y] at b6 o6 e6 z6
  have z6 : hsz B6 = J + 407 := z6
  obtain ⟨w6, y6, g6, s6, t6, x6⟩ := stg (F := 135) e6 (show J < J + 405 by omega) z6
  have i6 : hgI (hsR B6 135 J 0 (J + 405)) 129 J 0 = 0 := by rw [hgI_sR, e6.I (by omega)]; exact i5
  have u : in5 J H = in6 J (hsR B6 135 J 0 (J + 405)) := by
    unfold in5
    rw [if_pos (by rw [hsh_mk, if_pos rfl]), y, show (2091 : Int32) = nI 2091 by decide, b6, Option.bind_some, if_pos (by rw [t6]; exact h1)]
  rw [u]
  have o6 := o6.ew x6 (by omega) (by omega)
  clear u x6 t6 e6 b6
  generalize hsR B6 135 J 0 (J + 405) = H6 at *
  obtain ⟨Z, z1, z2, z3, z4, z5⟩ := in6_spec y6 (by rw [s6]; exact h1) i6
  exact ⟨Z, z1, (w6.mo (fun q z => by omega)).tr (z2.mo (fun q z => by omega)), fun f => by rw [z3, g6], o6.ew z2 (by omega) (by omega), z4, z5⟩
theorem in4_spec {J : Nat} {H : Hp} (y : hsz H = J + 400) (h1 : (hsh H J).1 = 3) (i4 : hgI H 129 J 0 = 0) : ∃ Z, in4 J H = some Z ∧ Ew (fun q => q = J ∨ J + 400 ≤ q) H Z ∧ (∀ f, hgR Z f J 0 = if f = 137 then J + 408 else if f = 136 then J + 407 else if f = 135 then J + 405 else if f = 134 then J + 400 else hgR H f J 0) ∧ Ad Z (J + 400) (false, false, [], []) ∧ Rw Z (J + 405) 2091 [] ∧ (hsh Z (J + 407) = (10, 2) ∧ hgI Z 1034 (J + 407) 0 = 5 ∧ hgI Z 1034 (J + 407) 1 = 20) ∧ InZ Z J := by
  obtain ⟨B5, b5, o5, e5, z5⟩ := Ad.init (A := H)
  rw [y] at b5 o5 e5 z5
  have z5 : hsz B5 = J + 405 := z5
  obtain ⟨w5, y5, g5, s5, t5, x5⟩ := stg (F := 134) e5 (show J < J + 400 by omega) z5
  have i5 : hgI (hsR B5 134 J 0 (J + 400)) 129 J 0 = 0 := by rw [hgI_sR, e5.I (by omega)]; exact i4
  have u : in4 J H = in5 J (hsR B5 134 J 0 (J + 400)) := by
    unfold in4
    rw [if_pos (by rw [hsh_mk, if_pos rfl]), y, b5, Option.bind_some, if_pos (by rw [t5]; exact h1)]
  rw [u]
  have o5 := o5.ew x5 (fun q z => by have := z.1; omega)
  clear u x5 t5 e5 b5
  generalize hsR B5 134 J 0 (J + 400) = H5 at *
  obtain ⟨Z, z1, z2, z3, z4, z5⟩ := in5_spec y5 (by rw [s5]; exact h1) i5
  exact ⟨Z, z1, (w5.mo (fun q z => by omega)).tr (z2.mo (fun q z => by omega)), fun f => by rw [z3, g5], o5.ew z2 (fun q z => by have := z.1; have := z.2; omega), z4, z5⟩
theorem JQ.mk0 {Z : Hp} {J : Nat} (D3 : Sx Z (J + 381) []) (D4 : Ad Z (J + 395) (false, false, [], [])) (a3 : Ad Z (J + 400) (false, false, [], [])) (a4 : Rw Z (J + 405) 2091 []) (l0 : hgI Z 1034 (J + 407) 0 = 5) (l1 : hgI Z 1034 (J + 407) 1 = 20) (k9 : ∀ j, hgI Z 1034 (J + 408) j = 0) : JQ Z J jv0 := by
  refine ⟨D3, D4, a3, a4, fun i hi => ?_, fun i _ => ?_⟩
  · have h : i = 0 ∨ i = 1 := by omega
    rcases h with h | h
    · rw [h, l0]; rfl
    · rw [h, l1]; rfl
  · rw [k9]; rfl
theorem JC.mk0 {Z : Hp} {J : Nat} (R1 : ∀ i, i < 41 → hgR Z 1037 (J + 1) i = J + 2 + 9 * i) (f4 : hgI Z 129 J 0 = 0) (hck : ∀ i, i < 41 → Ck Z (J + 2 + 9 * i) ck0) : JC Z J (fun i => J + 2 + 9 * i) [] :=
  ⟨R1, fun i hi => ⟨i, hi, rfl⟩, fun i j _ _ q => by
    have q : J + 2 + 9 * i = J + 2 + 9 * j := q
    omega, by rw [f4]; rfl, Nat.zero_le _, fun i hi => absurd hi (Nat.not_lt_zero i), fun i hi => ⟨ck0, hck i hi⟩⟩
theorem JF.mk0 {Z : Hp} {J : Nat} (f1 : hgI Z 138 J 0 = 0) (f2 : hgI Z 139 J 0 = 0) (f3 : hgL Z 140 J 0 = 0) : JF Z J jv0 := ⟨by rw [f1]; rfl, by rw [f2]; rfl, by rw [f3]; rfl⟩
theorem in3_spec {J : Nat} {H : Hp} (y : hsz H = J + 395) (h1 : (hsh H J).1 = 3) (i4 : hgI H 129 J 0 = 0) : ∃ Z, in3 J H = some Z ∧ Ew (fun q => q = J ∨ J + 395 ≤ q) H Z ∧ (∀ f, hgR Z f J 0 = if f = 137 then J + 408 else if f = 136 then J + 407 else if f = 135 then J + 405 else if f = 134 then J + 400 else if f = 133 then J + 395 else hgR H f J 0) ∧ Ad Z (J + 395) (false, false, [], []) ∧ Ad Z (J + 400) (false, false, [], []) ∧ Rw Z (J + 405) 2091 [] ∧ (hsh Z (J + 407) = (10, 2) ∧ hgI Z 1034 (J + 407) 0 = 5 ∧ hgI Z 1034 (J + 407) 1 = 20) ∧ InZ Z J := by
  obtain ⟨B5, b5, o5, e5, z5⟩ := Ad.init (A := H)
  rw [y] at b5 o5 e5 z5
  have z5 : hsz B5 = J + 400 := z5
  obtain ⟨w5, y5, g5, s5, t5, x5⟩ := stg (F := 133) e5 (show J < J + 395 by omega) z5
  have i5 : hgI (hsR B5 133 J 0 (J + 395)) 129 J 0 = 0 := by rw [hgI_sR, e5.I (by omega)]; exact i4
  have u : in3 J H = in4 J (hsR B5 133 J 0 (J + 395)) := by
    unfold in3
    rw [if_pos (by rw [hsh_mk, if_pos rfl]), y, b5, Option.bind_some, if_pos (by rw [t5]; exact h1)]
  rw [u]
  have o5 := o5.ew x5 (fun q z => by have := z.1; omega)
  clear u x5 t5 e5 b5
  generalize hsR B5 133 J 0 (J + 395) = H5 at *
  obtain ⟨Z, z1, z2, z3, z4, z5⟩ := in4_spec y5 (by rw [s5]; exact h1) i5
  exact ⟨Z, z1, (w5.mo (fun q z => by omega)).tr (z2.mo (fun q z => by omega)), fun f => by rw [z3, g5], o5.ew z2 (fun q z => by have := z.1; have := z.2; omega), z4, z5⟩
theorem in2_spec {J : Nat} {H : Hp} (y : hsz H = J + 381) (h1 : (hsh H J).1 = 3) (i4 : hgI H 129 J 0 = 0) : ∃ Z, in2 J H = some Z ∧ Ew (fun q => q = J ∨ J + 381 ≤ q) H Z ∧ (∀ f, hgR Z f J 0 = if f = 137 then J + 408 else if f = 136 then J + 407 else if f = 135 then J + 405 else if f = 134 then J + 400 else if f = 133 then J + 395 else if f = 132 then J + 381 else hgR H f J 0) ∧ Sx Z (J + 381) [] ∧ Ad Z (J + 395) (false, false, [], []) ∧ Ad Z (J + 400) (false, false, [], []) ∧ Rw Z (J + 405) 2091 [] ∧ (hsh Z (J + 407) = (10, 2) ∧ hgI Z 1034 (J + 407) 0 = 5 ∧ hgI Z 1034 (J + 407) 1 = 20) ∧ InZ Z J := by
  obtain ⟨B5, b5, o5, e5, z5⟩ := Sx.init (A := H)
  rw [y] at b5 o5 e5 z5
  have z5 : hsz B5 = J + 395 := z5
  obtain ⟨w5, y5, g5, s5, t5, x5⟩ := stg (F := 132) e5 (show J < J + 381 by omega) z5
  have i5 : hgI (hsR B5 132 J 0 (J + 381)) 129 J 0 = 0 := by rw [hgI_sR, e5.I (by omega)]; exact i4
  have u : in2 J H = in3 J (hsR B5 132 J 0 (J + 381)) := by
    unfold in2
    rw [if_pos (by rw [hsh_mk, if_pos rfl]), y, b5, Option.bind_some, if_pos (by rw [t5]; exact h1)]
  rw [u]
  have o5 := o5.ew x5 (fun q z => by have := z.1; omega)
  clear u x5 t5 e5 b5
  generalize hsR B5 132 J 0 (J + 381) = H5 at *
  obtain ⟨Z, z1, z2, z3, z4, z5⟩ := in3_spec y5 (by rw [s5]; exact h1) i5
  exact ⟨Z, z1, (w5.mo (fun q z => by omega)).tr (z2.mo (fun q z => by omega)), fun f => by rw [z3, g5], o5.ew z2 (fun q z => by have := z.1; have := z.2; omega), z4, z5⟩
theorem in1_spec {J : Nat} {H : Hp} (y : hsz H = J + 380) (h1 : (hsh H J).1 = 3) (i4 : hgI H 129 J 0 = 0) : ∃ Z, in1 J H = some Z ∧ Ew (fun q => q = J ∨ J + 380 ≤ q) H Z ∧ (∀ f, hgR Z f J 0 = if f = 137 then J + 408 else if f = 136 then J + 407 else if f = 135 then J + 405 else if f = 134 then J + 400 else if f = 133 then J + 395 else if f = 132 then J + 381 else if f = 131 then J + 380 else hgR H f J 0) ∧ hsh Z (J + 380) = (10, 41) ∧ Sx Z (J + 381) [] ∧ Ad Z (J + 395) (false, false, [], []) ∧ Ad Z (J + 400) (false, false, [], []) ∧ Rw Z (J + 405) 2091 [] ∧ (hsh Z (J + 407) = (10, 2) ∧ hgI Z 1034 (J + 407) 0 = 5 ∧ hgI Z 1034 (J + 407) 1 = 20) ∧ InZ Z J := by
  have e7 : Ew (fun q => J + 380 ≤ q) H (hmk H 10 41) := (Ew.mk H 10 41).mo (fun q z => by omega)
  obtain ⟨w5, y5, g5, s5, t5, x5⟩ := stg (F := 131) e7 (show J < J + 380 by omega) (show hsz (hmk H 10 41) = J + 381 by rw [hsz_mk, y])
  have i5 : hgI (hsR (hmk H 10 41) 131 J 0 (J + 380)) 129 J 0 = 0 := by rw [hgI_sR, e7.I (by omega)]; exact i4
  have o5 : hsh (hsR (hmk H 10 41) 131 J 0 (J + 380)) (J + 380) = (10, 41) := by rw [hsh_sR, hsh_mk, if_pos y.symm]
  have u : in1 J H = in2 J (hsR (hmk H 10 41) 131 J 0 (J + 380)) := by
    unfold in1
    rw [if_pos (by rw [t5]; exact h1), y]
  rw [u]
  clear u x5 t5 e7
  generalize hsR (hmk H 10 41) 131 J 0 (J + 380) = H5 at *
  obtain ⟨Z, z1, z2, z3, z4, z5⟩ := in2_spec y5 (by rw [s5]; exact h1) i5
  exact ⟨Z, z1, (w5.mo (fun q z => by omega)).tr (z2.mo (fun q z => by omega)), fun f => by rw [z3, g5], by rw [z2.S (by omega)]; exact o5, z4, z5⟩
theorem in0_spec {J : Nat} {H : Hp} (y : hsz H = J + 371) (h1 : (hsh H J).1 = 3) (i4 : hgI H 129 J 0 = 0) : ∃ Z, in0 J H = some Z ∧ Ew (fun q => q = J ∨ J + 371 ≤ q) H Z ∧ (∀ f, hgR Z f J 0 = if f = 137 then J + 408 else if f = 136 then J + 407 else if f = 135 then J + 405 else if f = 134 then J + 400 else if f = 133 then J + 395 else if f = 132 then J + 381 else if f = 131 then J + 380 else if f = 130 then J + 371 else hgR H f J 0) ∧ Ck Z (J + 371) ck0 ∧ hsh Z (J + 380) = (10, 41) ∧ Sx Z (J + 381) [] ∧ Ad Z (J + 395) (false, false, [], []) ∧ Ad Z (J + 400) (false, false, [], []) ∧ Rw Z (J + 405) 2091 [] ∧ (hsh Z (J + 407) = (10, 2) ∧ hgI Z 1034 (J + 407) 0 = 5 ∧ hgI Z 1034 (J + 407) 1 = 20) ∧ InZ Z J := by
  obtain ⟨B5, b5, o5, e5, z5⟩ := Ck.init (A := H)
  rw [y] at b5 o5 e5 z5
  have z5 : hsz B5 = J + 380 := z5
  obtain ⟨w5, y5, g5, s5, t5, x5⟩ := stg (F := 130) e5 (show J < J + 371 by omega) z5
  have i5 : hgI (hsR B5 130 J 0 (J + 371)) 129 J 0 = 0 := by rw [hgI_sR, e5.I (by omega)]; exact i4
  have u : in0 J H = in1 J (hsR B5 130 J 0 (J + 371)) := by
    unfold in0
    rw [if_pos (by rw [hsh_mk, if_pos rfl]), y, b5, Option.bind_some, if_pos (by rw [t5]; exact h1)]
  rw [u]
  have o5 := o5.ew x5 (fun q z => by have := z.1; omega)
  clear u x5 t5 e5 b5
  generalize hsR B5 130 J 0 (J + 371) = H5 at *
  obtain ⟨Z, z1, z2, z3, z4, z5⟩ := in1_spec y5 (by rw [s5]; exact h1) i5
  exact ⟨Z, z1, (w5.mo (fun q z => by omega)).tr (z2.mo (fun q z => by omega)), fun f => by rw [z3, g5], o5.ew z2 (fun q z => by have := z.1; have := z.2; omega), z4, z5⟩
theorem Jr.initT {J : Nat} {H : Hp} (hz : hsz H = J + 371) (h1 : (hsh H J).1 = 3) (h2 : hgR H 128 J 0 = J + 1) (h3 : hsh H (J + 1) = (13, 41)) (h4 : ∀ j, j < 41 → hgR H 1037 (J + 1) j = J + 2 + 9 * j) (h5 : ∀ j, j < 41 → Ck H (J + 2 + 9 * j) ck0) (h6 : hgI H 129 J 0 = 0) : ∃ B, in0 J H = some B ∧ Jr B J jv0 ck0 ∧ Ew (fun q => J ≤ q) H B ∧ hsz B = J + 409 := by
  obtain ⟨Z, a1, r0, gR, D1, C2, D3, D4, a3, a4, ⟨a5, l0, l1⟩, hS, o9, k9, ⟨f1, f2, f3⟩, f4, zz⟩ := in0_spec hz h1 h6
  have hck : ∀ i, i < 41 → Ck Z (J + 2 + 9 * i) ck0 := fun i hi => (h5 i hi).ew r0 (fun q z => by have := z.1; have := z.2; omega)
  have A1 : hgR Z 128 J 0 = J + 1 := by rw [gR, if_neg (by omega), if_neg (by omega), if_neg (by omega), if_neg (by omega), if_neg (by omega), if_neg (by omega), if_neg (by omega), if_neg (by omega)]; exact h2
  have A2 : hgR Z 130 J 0 = J + 371 := by rw [gR, if_neg (by omega), if_neg (by omega), if_neg (by omega), if_neg (by omega), if_neg (by omega), if_neg (by omega), if_neg (by omega), if_pos rfl]
  have A3 : hgR Z 131 J 0 = J + 380 := by rw [gR, if_neg (by omega), if_neg (by omega), if_neg (by omega), if_neg (by omega), if_neg (by omega), if_neg (by omega), if_pos rfl]
  have A4 : hgR Z 132 J 0 = J + 381 := by rw [gR, if_neg (by omega), if_neg (by omega), if_neg (by omega), if_neg (by omega), if_neg (by omega), if_pos rfl]
  have A5 : hgR Z 133 J 0 = J + 395 := by rw [gR, if_neg (by omega), if_neg (by omega), if_neg (by omega), if_neg (by omega), if_pos rfl]
  have A6 : hgR Z 134 J 0 = J + 400 := by rw [gR, if_neg (by omega), if_neg (by omega), if_neg (by omega), if_pos rfl]
  have A7 : hgR Z 135 J 0 = J + 405 := by rw [gR, if_neg (by omega), if_neg (by omega), if_pos rfl]
  have A8 : hgR Z 136 J 0 = J + 407 := by rw [gR, if_neg (by omega), if_pos rfl]
  have A9 : hgR Z 137 J 0 = J + 408 := by rw [gR, if_pos rfl]
  have C1 : hsh Z (J + 1) = (13, 41) := by rw [r0.S (by omega)]; exact h3
  have R1 : ∀ i, i < 41 → hgR Z 1037 (J + 1) i = J + 2 + 9 * i := fun i hi => by rw [r0.R (by omega)]; exact h4 i hi
  rw [a1]
  clear a1 gR
  have K1 : JS Z J := ⟨⟨hS, A1, A2, A3, A4, A5, A6, A7, A8, A9⟩, C1, C2, a5, o9⟩
  have K2 : JF Z J jv0 := JF.mk0 f1 f2 f3
  have K3 : JQ Z J jv0 := JQ.mk0 D3 D4 a3 a4 l0 l1 k9
  have K4 : JC Z J (fun i => J + 2 + 9 * i) [] := JC.mk0 R1 f4 hck
  have K5 : Ck Z (J + 371) ck0 := D1
  exact ⟨Z, rfl, ⟨K1, K2, K3, ⟨_, K4⟩, K5⟩, r0.mo (fun q z => by omega), zz⟩
theorem Jr.init {A : Hp} : ∃ B, f_X4_init (hmk A 3 0) (hsz A) = some B ∧ Jr B (hsz A) jv0 ck0 ∧ Ew (fun q => hsz A ≤ q) A B ∧ hsz B = hsz A + 409 := by
  have L : ∀ (J d i fu : Nat) (H : Hp), i + d = 41 → d < fu → hsz H = J + 2 + 9 * i → (hsh H J).1 = 3 → hgR H 128 J 0 = J + 1 → hsh H (J + 1) = (13, 41) → (∀ j, j < i → hgR H 1037 (J + 1) j = J + 2 + 9 * j) → (∀ j, j < i → Ck H (J + 2 + 9 * j) ck0) → ∃ B, k_X4_init_15 J fu H (nI i) = some B ∧ Jr B J jv0 ck0 ∧ Ew (fun q => J ≤ q) H B ∧ hsz B = J + 409 := by
    intro J d
    induction d with
    | zero =>
      intro i fu H h1 h2 hz s1 s2 s3 s4 s5
      obtain ⟨fu, rfl⟩ : ∃ f, fu = f + 1 := ⟨fu - 1, by omega⟩
      have hi : i = 41 := by omega
      subst hi
      have e : Ew (fun q => q = J) H (hsI H 129 J 0 0) := ea_I.ew
      obtain ⟨B, b1, b2, b3, b4⟩ := Jr.initT (J := J) (H := hsI H 129 J 0 0) hz s1 s2 s3 s4 (fun j hj => (s5 j hj).ew e (fun q z => by have := z.1; omega)) (by rw [hgI_sI, if_pos ⟨rfl, rfl, rfl⟩])
      refine ⟨B, ?_, b2, (e.mo (fun q z => by omega)).tr b3, b4⟩
      show k_X4_init_15s J _ _ _ = _
      unfold k_X4_init_15s
      rw [if_pos (show (41 : Int32) ≤ nI 41 from Int32.le_rfl), if_pos s1]
      exact b1
    | succ d ih =>
      intro i fu H h1 h2 hz s1 s2 s3 s4 s5
      obtain ⟨fu, rfl⟩ : ∃ f, fu = f + 1 := ⟨fu - 1, by omega⟩
      obtain ⟨B, b1, b2, b3, b4⟩ := Ck.init (A := H)
      rw [hz] at b1 b2 b3 b4
      have e : Ew (fun q => q = J + 1) B (hsR B 1037 (J + 1) i (J + 2 + 9 * i)) := ea_R.ew
      obtain ⟨C, c1, c2, c3, c4⟩ := ih (i + 1) fu (hsR B 1037 (J + 1) i (J + 2 + 9 * i)) (by omega) (by omega) (by rw [hsz_sR, b4]; omega) (by rw [hsh_sR, b3.S (by omega)]; exact s1) (by rw [e.R (by omega), b3.R (by omega)]; exact s2) (by rw [hsh_sR, b3.S (by omega)]; exact s3) (fun j hj => by
          rw [hgR_sR]
          by_cases z : j = i
          · rw [if_pos ⟨rfl, rfl, z⟩, z]
          · rw [if_neg (fun y => z y.2.2), b3.R (by omega)]; exact s4 j (by omega)) (fun j hj => by
          by_cases z : j = i
          · rw [z]; exact b2.ew e (fun q z => by have := z.1; omega)
          · exact ((s5 j (by omega)).ew b3 (fun q z => by have := z.1; have := z.2; omega)).ew e (fun q z => by have := z.1; omega))
      refine ⟨C, ?_, c2, ((b3.mo (fun q z => by omega)).tr (e.mo (fun q z => by omega))).tr c3, c4⟩
      show k_X4_init_15s J _ _ _ = _
      unfold k_X4_init_15s
      rw [if_neg (show ¬ (41 : Int32) ≤ nI i from nI_ge (b := 41) (by omega) (by omega)), if_pos s1, if_pos (by rw [hsh_mk, if_pos rfl]), hz, b1, Option.bind_some, s2, if_pos (by rw [b3.S (by omega), s3]), if_pos b2.1.1, if_pos (show wix (nI i) (hsh B (J + 1)).2 by rw [b3.S (by omega), s3]; exact (nI_wix (by omega)).mpr (by omega)), nI_clamp (by omega), nI_1, c1]
  have s0 : hsh (hmk A 3 0) (hsz A) = (3, 0) := by rw [hsh_mk, if_pos rfl]
  have e1 : Ew (fun q => q = hsz A + 1) (hmk A 3 0) (hmk (hmk A 3 0) 13 41) := Ew.mk (hmk A 3 0) 13 41
  have e2 : Ew (fun q => q = hsz A) (hmk (hmk A 3 0) 13 41) (hsR (hmk (hmk A 3 0) 13 41) 128 (hsz A) 0 (hsz A + 1)) := ea_R.ew
  obtain ⟨B, b1, b2, b3, b4⟩ := L (hsz A) 41 0 42 (hsR (hmk (hmk A 3 0) 13 41) 128 (hsz A) 0 (hsz A + 1)) (by omega) (by omega) rfl (by rw [hsh_sR, e1.S (by omega), s0]) (by rw [hgR_sR, if_pos ⟨rfl, rfl, rfl⟩]) (by rw [hsh_sR, hsh_mk, if_pos (show hsz A + 1 = hsz (hmk A 3 0) from rfl)]) (fun j hj => absurd hj (Nat.not_lt_zero j)) (fun j hj => absurd hj (Nat.not_lt_zero j))
  refine ⟨B, ?_, b2, ((((Ew.mk A 3 0).mo (fun q z => by omega)).tr (e1.mo (fun q z => by omega))).tr (e2.mo (fun q z => by omega))).tr b3, b4⟩
  unfold f_X4_init
  rw [if_pos (by rw [s0]), if_pos (by rw [e1.S (by omega), s0])]
  exact b1
