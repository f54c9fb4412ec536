/-! the state of both, and a step of the law -/
abbrev SnT : Type := Nat → Option (Nat × JV × List CkV)
def Snp (A : Hp) (K : SnT) (b : Nat) : Prop := (∀ i, i < 2 → K i = none → hgR A 1038 525 i = 0 ∧ hgI A 1036 529 i = 0) ∧ ∀ i q w ns, i < 2 → K i = some (q, w, ns) → (hgR A 1038 525 i = q ∧ 550 ≤ q ∧ q + 409 ≤ hsz A ∧ ∃ f, Jr A q w f) ∧ hgI A 1036 529 i = 1 ∧ JM (fun k => hgL A 1035 528 (8400 * i + k)) w ns (jK w 0) ∧ ns.Perm (jC w) ∧ Inv w b
def Dj (K : SnT) : Prop := ∀ q w ns q' w' ns', K 0 = some (q, w, ns) → K 1 = some (q', w', ns') → q + 409 ≤ q' ∨ q' + 409 ≤ q
def RSt (A : Hp) (t : List Int32) (v : JV) (ms : List CkV) : Prop := Ms A 526 ∧ Mw A 526 ∧ Tx A 526 t ∧ JM (mu A 526) v ms (jK v 0) ∧ KpS A 526
def Sy (A : Hp) (b : Nat) (t : List Int32) (v : JV) (ms : List CkV) (K : SnT) : Prop := (CSt A t v ∧ RSt A t v ms ∧ Snp A K b ∧ Dj K) ∧ (ms.Perm (jC v) ∧ Inv v b) ∧ hsh A 549 = (11, 1) ∧ 550 ≤ hsz A
def ST (A : Hp) (b : Nat) : Prop := ∃ t v ms K, Sy A b t v ms K
section
variable {A B C : Hp} {t t' : List Int32} {v v' : JV} {ms ms' : List CkV} {K : SnT} {b : Nat}
theorem ceP_no {q : Nat} (h1 : 525 ≤ q) (h2 : q ≠ 549) (h3 : q < hsz A) : ¬ ceP A q := fun z => by
  rcases z with z | z | z
  · omega
  · exact h2 z
  · omega
theorem Snp.ce (h : Snp A K b) (e : CE A B) (hz : 550 ≤ hsz A) : Snp B K b := by
  refine ⟨fun i hi hk => ?_, fun i q w ns hi hk => ?_⟩
  · rw [e.1.R (ceP_no (by omega) (by omega) (by omega)), e.1.I (ceP_no (by omega) (by omega) (by omega))]
    exact h.1 i hi hk
  · obtain ⟨⟨a1, a2, a3, f, a4⟩, a5, a6, a7, a8⟩ := h.2 i q w ns hi hk
    have e2 := e.2.1
    exact ⟨⟨by rw [e.1.R (ceP_no (by omega) (by omega) (by omega))]; exact a1, a2, by omega, f, a4.ew e.1 (fun x z => ceP_no (by have := z.1; omega) (by have := z.1; omega) (by have := z.2; omega))⟩, by rw [e.1.I (ceP_no (by omega) (by omega) (by omega))]; exact a5, a6.congr (fun k _ => e.1.L (ceP_no (by omega) (by omega) (by omega)) 1035 _), a7, a8⟩
theorem Snp.fe (h : Snp A K b) (e : RfE A B 526) : Snp B K b := by
  have n : ∀ q, q ≠ 526 → q ≠ 527 → ¬ (q = 526 ∨ q = 526 + 1) := fun q h1 h2 z => by omega
  refine ⟨fun i hi hk => ?_, fun i q w ns hi hk => ?_⟩
  · rw [e.1.R (n 525 (by omega) (by omega)), e.1.I (n 529 (by omega) (by omega))]
    exact h.1 i hi hk
  · obtain ⟨⟨a1, a2, a3, f, a4⟩, a5, a6, a7, a8⟩ := h.2 i q w ns hi hk
    exact ⟨⟨by rw [e.1.R (n 525 (by omega) (by omega))]; exact a1, a2, by rw [e.1.2.2]; exact a3, f, a4.eq e.1 (fun x z => n x (by have := z.1; omega) (by have := z.1; omega))⟩, by rw [e.1.I (n 529 (by omega) (by omega))]; exact a5, a6.congr (fun k _ => e.1.L (n 528 (by omega) (by omega)) 1035 _), a7, a8⟩
theorem Snp.mo (h : Snp A K b) : Snp A K (b + 1) := ⟨h.1, fun i q w ns hi hk => by
  obtain ⟨a1, a5, a6, a7, a8⟩ := h.2 i q w ns hi hk
  exact ⟨a1, a5, a6, a7, a8.mo (by omega)⟩⟩
theorem RSt.ce (h : RSt A t v ms) (e : CE A B) (hz : 550 ≤ hsz A) : RSt B t v ms := by
  have n : ∀ q, 526 ≤ q → q < 549 → ¬ ceP A q := fun q h1 h2 => ceP_no (by omega) (by omega) (by omega)
  obtain ⟨h1, h2, h3, h4, h5⟩ := h
  exact ⟨h1.ew e.1 (n _ (by omega) (by omega)) (n _ (by omega) (by omega)), h2.ew e.1 (n _ (by omega) (by omega)) (fun k hk => n _ (by omega) (by omega)), h3.ew e.1 (n _ (by omega) (by omega)) (n _ (by omega) (by omega)), h4.congr (fun k _ => mu_ew e.1 (n _ (by omega) (by omega)) k), by rw [e.1.R (n _ (by omega) (by omega))]; exact h5.1, by rw [e.1.S (n _ (by omega) (by omega))]; exact h5.2.1, by rw [e.1.R (n _ (by omega) (by omega))]; exact h5.2.2.1, by rw [e.1.S (n _ (by omega) (by omega))]; exact h5.2.2.2⟩
theorem CSt.fe (h : CSt A t v) (e : RfE A B 526) : CSt B t v := h.ew e.1.ew (fun q h1 h2 z => by omega)
theorem KpS.fe (h : KpS A 526) (e : RfE A B 526) : KpS B 526 := ⟨by rw [e.2]; exact h.1, by rw [e.1.2.1]; exact h.2.1, by rw [e.2]; exact h.2.2.1, by rw [e.1.2.1]; exact h.2.2.2⟩
/-- the class from A to B, then the reference from B to C -/
theorem Sy.go {th : Int32} (h : Sy A b t v ms K) (e : CE A B) (hC : CSt B t' v') (hP : RP B C 526 th t' v' ms' (jK v' 0)) (p : ms'.Perm (jC v')) (hI : Inv v' (b + 1)) : ST C (b + 1) ∧ Ms C 526 ∧ hsh C 549 = (11, 1) ∧ hgL C 1035 549 0 = hgL B 1035 549 0 := by
  obtain ⟨⟨h1, h2, h3, h4⟩, -, h5, h6⟩ := h
  obtain ⟨p1, p2, p3, p4⟩ := hP
  have r := h2.ce e h6
  have m := r.1.fe p1
  have o : hsh C 549 = (11, 1) := by rw [p1.1.2.1, e.2.2]; exact h5
  refine ⟨⟨t', v', ms', K, ⟨hC.fe p1, ⟨m, r.2.1.fe p1, p3, p4, r.2.2.2.2.fe p1⟩, ((h3.ce e h6).fe p1).mo, h4⟩, ⟨p, hI⟩, o, ?_⟩, m, o, p1.1.L (by omega) 1035 0⟩
  rw [p1.1.2.2]
  exact Nat.le_trans h6 e.2.1
def StI (o : Option (Int32 × Hp)) (F : Hp → Option (Int32 × Hp)) (b : Nat) : Prop := ∃ k A1 y A2, o = some (k, A1) ∧ (hsh A1 526).1 = 8 ∧ F A1 = some (y, A2) ∧ (hsh A2 526).1 = 8 ∧ f_X9_thrown A2 526 = some k ∧ (k = 0 → hsh A2 549 = (11, 1) ∧ hgL A2 1035 549 (0 : Int32).toNatClampNeg = y.toInt64) ∧ ST A2 (b + 1)
def StL (o : Option (Int32 × Hp)) (F : Hp → Option (Int64 × Hp)) (b : Nat) : Prop := ∃ k A1 y A2, o = some (k, A1) ∧ (hsh A1 526).1 = 8 ∧ F A1 = some (y, A2) ∧ (hsh A2 526).1 = 8 ∧ f_X9_thrown A2 526 = some k ∧ (k = 0 → hsh A2 549 = (11, 1) ∧ hgL A2 1035 549 (0 : Int32).toNatClampNeg = y) ∧ ST A2 (b + 1)
def StZ (o : Option (Int32 × Hp)) (F : Hp → Option (Int32 × Hp)) (b : Nat) : Prop := ∃ k A1 y A2, o = some (k, A1) ∧ (hsh A1 526).1 = 8 ∧ F A1 = some (y, A2) ∧ (hsh A2 526).1 = 8 ∧ f_X9_thrown A2 526 = some k ∧ (k = 0 → hsh A2 549 = (11, 1) ∧ ((y = 0 ∧ hgL A2 1035 549 (0 : Int32).toNatClampNeg = 0) ∨ (¬ y = 0 ∧ hgL A2 1035 549 (0 : Int32).toNatClampNeg = 1))) ∧ ST A2 (b + 1)
theorem Sy.badG {k : Int32} {α : Type} {y : α} {F : Hp → Option (α × Hp)} (h : Sy A b t v ms K) (h2 : ∀ B, RSt B t v ms → ∃ C, F B = some (y, C) ∧ RP B C 526 k t v ms (jK v 0)) : ∃ A2, (hsh (hmk A 0 0) 526).1 = 8 ∧ F (hmk A 0 0) = some (y, A2) ∧ (hsh A2 526).1 = 8 ∧ f_X9_thrown A2 526 = some k ∧ ST A2 (b + 1) := by
  have e := CE.mk h.2.2.2 0 0
  have r := h.1.2.1.ce e h.2.2.2
  obtain ⟨C, c1, c2⟩ := h2 _ r
  obtain ⟨g1, g2, -⟩ := h.go e (h.1.1.mk h.2.2.2 0 0) c2 h.2.1.1 (h.2.1.2.mo (by omega))
  exact ⟨C, r.1.1, c1, g2.1, by rw [thrown_ g2, c2.2.1], g1⟩
theorem Sy.bad {k : Int32} {o : Option (Int32 × Hp)} {F : Hp → Option (Int32 × Hp)} (h : Sy A b t v ms K) (hk : k ≠ 0) (h1 : o = some (k, hmk A 0 0)) (h2 : ∀ B, RSt B t v ms → ∃ C, F B = some (0, C) ∧ RP B C 526 k t v ms (jK v 0)) : StI o F b := by
  obtain ⟨A2, a1, a2, a3, a4, a5⟩ := h.badG h2
  exact ⟨k, _, 0, A2, h1, a1, a2, a3, a4, fun z => absurd z hk, a5⟩
theorem Sy.badZ {k : Int32} {o : Option (Int32 × Hp)} {F : Hp → Option (Int32 × Hp)} (h : Sy A b t v ms K) (hk : k ≠ 0) (h1 : o = some (k, hmk A 0 0)) (h2 : ∀ B, RSt B t v ms → ∃ C, F B = some (0, C) ∧ RP B C 526 k t v ms (jK v 0)) : StZ o F b := by
  obtain ⟨A2, a1, a2, a3, a4, a5⟩ := h.badG h2
  exact ⟨k, _, 0, A2, h1, a1, a2, a3, a4, fun z => absurd z hk, a5⟩
theorem Sy.badL {k : Int32} {o : Option (Int32 × Hp)} {F : Hp → Option (Int64 × Hp)} (h : Sy A b t v ms K) (hk : k ≠ 0) (h1 : o = some (k, hmk A 0 0)) (h2 : ∀ B, RSt B t v ms → ∃ C, F B = some (0, C) ∧ RP B C 526 k t v ms (jK v 0)) : StL o F b := by
  obtain ⟨A2, a1, a2, a3, a4, a5⟩ := h.badG h2
  exact ⟨k, _, 0, A2, h1, a1, a2, a3, a4, fun z => absurd z hk, a5⟩
theorem Sy.okG {α : Type} {y : α} {x : Int64} {F : Hp → Option (α × Hp)} (h : Sy A b t v ms K) (hB : CE A B) (hC : CSt B t' v') (h2 : ∀ B', RSt B' t v ms → ∃ C ms', F B' = some (y, C) ∧ RP B' C 526 0 t' v' ms' (jK v' 0) ∧ ms'.Perm (jC v')) (hI : Inv v' (b + 1)) : ∃ A2, (hsh (hsL B 1035 549 0 x) 526).1 = 8 ∧ F (hsL B 1035 549 0 x) = some (y, A2) ∧ (hsh A2 526).1 = 8 ∧ f_X9_thrown A2 526 = some 0 ∧ (hsh A2 549 = (11, 1) ∧ hgL A2 1035 549 (0 : Int32).toNatClampNeg = x) ∧ ST A2 (b + 1) := by
  have e := hB.tr (CE.out x)
  have r := h.1.2.1.ce e h.2.2.2
  obtain ⟨C, ms', c1, c2, c3⟩ := h2 _ r
  obtain ⟨g1, g2, g3, g4⟩ := h.go e (hC.out x) c2 c3 hI
  refine ⟨C, r.1.1, c1, g2.1, by rw [thrown_ g2, c2.2.1], ⟨g3, ?_⟩, g1⟩
  rw [show (0 : Int32).toNatClampNeg = 0 by decide, g4, hgL_sL, if_pos ⟨rfl, rfl, rfl⟩]
theorem Sy.ok {y : Int32} {o : Option (Int32 × Hp)} {F : Hp → Option (Int32 × Hp)} (h : Sy A b t v ms K) (hB : CE A B) (hC : CSt B t' v') (h1 : o = some (0, hsL B 1035 549 0 y.toInt64)) (h2 : ∀ B', RSt B' t v ms → ∃ C ms', F B' = some (y, C) ∧ RP B' C 526 0 t' v' ms' (jK v' 0) ∧ ms'.Perm (jC v')) (hI : Inv v' (b + 1)) : StI o F b := by
  obtain ⟨A2, a1, a2, a3, a4, a6, a5⟩ := h.okG (x := y.toInt64) hB hC h2 hI
  exact ⟨0, _, y, A2, h1, a1, a2, a3, a4, fun _ => a6, a5⟩
theorem Sy.okL {y : Int64} {o : Option (Int32 × Hp)} {F : Hp → Option (Int64 × Hp)} (h : Sy A b t v ms K) (hB : CE A B) (hC : CSt B t' v') (h1 : o = some (0, hsL B 1035 549 0 y)) (h2 : ∀ B', RSt B' t v ms → ∃ C ms', F B' = some (y, C) ∧ RP B' C 526 0 t' v' ms' (jK v' 0) ∧ ms'.Perm (jC v')) (hI : Inv v' (b + 1)) : StL o F b := by
  obtain ⟨A2, a1, a2, a3, a4, a6, a5⟩ := h.okG (x := y) hB hC h2 hI
  exact ⟨0, _, y, A2, h1, a1, a2, a3, a4, fun _ => a6, a5⟩
theorem Sy.okZ {y : Bool} {o : Option (Int32 × Hp)} {F : Hp → Option (Int32 × Hp)} (h : Sy A b t v ms K) (hB : CE A B) (hC : CSt B t' v') (h1 : o = some (0, hsL B 1035 549 0 (lB y))) (h2 : ∀ B', RSt B' t v ms → ∃ C ms', F B' = some (bI y, C) ∧ RP B' C 526 0 t' v' ms' (jK v' 0) ∧ ms'.Perm (jC v')) (hI : Inv v' (b + 1)) : StZ o F b := by
  obtain ⟨A2, a1, a2, a3, a4, a6, a5⟩ := h.okG (x := lB y) hB hC h2 hI
  refine ⟨0, _, bI y, A2, h1, a1, a2, a3, a4, fun _ => ⟨a6.1, ?_⟩, a5⟩
  rw [a6.2]
  cases y
  · exact Or.inl ⟨rfl, rfl⟩
  · exact Or.inr ⟨by decide, rfl⟩
theorem out_ {x : Int64} (h : hsh B 549 = (11, 1)) : (if (hsh B 549).1 = 11 then if wix (0 : Int32) (hsh B 549).2 then some ((0 : Int32), (hsL B 1035 549 (0 : Int32).toNatClampNeg x)) else none else none) = some (0, hsL B 1035 549 0 x) := by
  rw [h, if_pos rfl, if_pos (show wix (0 : Int32) ((11, 1) : Nat × Nat).2 from (nI_wix (i := 0) (by omega)).mpr (show 0 < 1 by omega)), show (0 : Int32).toNatClampNeg = 0 by decide]
theorem Sy.o (h : Sy A b t v ms K) (e : CE A B) : hsh B 549 = (11, 1) := e.2.2.trans h.2.2.1
theorem Sy.same {F : Hp → Option (Int32 × Hp)} {y : Int32} (h : Sy A b t v ms K) (h1 : ∀ B', RSt B' t v ms → F B' = some (y, hsI B' 452 526 0 0)) : ∀ B', RSt B' t v ms → ∃ C ms', F B' = some (y, C) ∧ RP B' C 526 0 t v ms' (jK v 0) ∧ ms'.Perm (jC v) := fun B' hB => ⟨_, ms, h1 B' hB, RP.th hB.2.2.1 hB.2.2.2.1 0, h.2.1.1⟩
theorem Sy.sameL {F : Hp → Option (Int64 × Hp)} {y : Int64} (h : Sy A b t v ms K) (h1 : ∀ B', RSt B' t v ms → F B' = some (y, hsI B' 452 526 0 0)) : ∀ B', RSt B' t v ms → ∃ C ms', F B' = some (y, C) ∧ RP B' C 526 0 t v ms' (jK v 0) ∧ ms'.Perm (jC v) := fun B' hB => ⟨_, ms, h1 B' hB, RP.th hB.2.2.1 hB.2.2.2.1 0, h.2.1.1⟩
theorem Sy.up (h : Sy A b t v ms K) : Inv v (b + 1) := h.2.1.2.mo (by omega)
theorem Sy.len (h : Sy A b t v ms K) : ms.length = (jC v).length := h.2.1.1.length_eq
theorem Sy.om (h : Sy A b t v ms K) : okm ms := h.2.1.2.1.2.1.perm h.2.1.1.symm
/-- calls that don't throw -/
theorem Sy.stN {y : Int32} {o : Option (Int32 × Hp)} {F : Hp → Option (Int32 × Hp)} (h : Sy A b t v ms K) (hB : CE A B) (hC : CSt B t' v') (h1 : o = some (y, B)) (h2 : ∀ B', RSt B' t v ms → ∃ C ms', F B' = some (y, C) ∧ RP B' C 526 0 t' v' ms' (jK v' 0) ∧ ms'.Perm (jC v')) (hI : Inv v' (b + 1)) : ∃ y A1 A2, o = some (y, A1) ∧ (hsh A1 526).1 = 8 ∧ F A1 = some (y, A2) ∧ ST A2 (b + 1) := by
  have r := h.1.2.1.ce hB h.2.2.2
  obtain ⟨C, ms', c1, c2, c3⟩ := h2 _ r
  obtain ⟨g1, g2, g3, g4⟩ := h.go hB hC c2 c3 hI
  exact ⟨y, B, C, h1, r.1.1, c1, g1⟩
/-- calls that only tell -/
theorem Sy.stG {α : Type} {y : α} {F : Option (α × Hp)} (h : Sy A b t v ms K) (h1 : F = some (y, hsI A 452 526 0 0)) : ∃ A2, F = some (y, A2) ∧ (hsh A 526).1 = 8 ∧ ST A2 (b + 1) :=
  ⟨_, h1, h.1.2.1.1.1, (h.go CE.rf h.1.1 (RP.th h.1.2.1.2.2.1 h.1.2.1.2.2.2.1 0) h.2.1.1 h.up).1⟩
end
