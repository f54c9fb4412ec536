/-! The small world: an abstract heap with typed maps; the machine's heap holds it -/
abbrev AV : Type := Int32 ⊕ Int64 ⊕ Nat
abbrev Hp : Type := (Nat → Nat → Nat → Int32) × (Nat → Nat → Nat → Int64) × (Nat → Nat → Nat → Nat) × (Nat → Nat × Nat) × Nat
def hgI (A : Hp) (f a j : Nat) : Int32 := A.1 f a j
def hgL (A : Hp) (f a j : Nat) : Int64 := A.2.1 f a j
def hgR (A : Hp) (f a j : Nat) : Nat := A.2.2.1 f a j
def hsh (A : Hp) (a : Nat) : Nat × Nat := A.2.2.2.1 a
def hsz (A : Hp) : Nat := A.2.2.2.2
def up3 {α : Type} (g : Nat → Nat → Nat → α) (f a j : Nat) (v : α) : Nat → Nat → Nat → α := fun f' a' j' => if f' = f ∧ a' = a ∧ j' = j then v else g f' a' j'
def hsI (A : Hp) (f a j : Nat) (v : Int32) : Hp := (up3 A.1 f a j v, A.2)
def hsL (A : Hp) (f a j : Nat) (v : Int64) : Hp := (A.1, up3 A.2.1 f a j v, A.2.2)
def hsR (A : Hp) (f a j : Nat) (v : Nat) : Hp := (A.1, A.2.1, up3 A.2.2.1 f a j v, A.2.2.2)
def hmk (A : Hp) (k n : Nat) : Hp := (fun f a j => if a = hsz A then 0 else A.1 f a j, fun f a j => if a = hsz A then 0 else A.2.1 f a j, fun f a j => if a = hsz A then 0 else A.2.2.1 f a j, fun a => if a = hsz A then (k, n) else hsh A a, hsz A + 1)
theorem hgI_sI (A : Hp) (f a j f' a' j' : Nat) (v : Int32) : hgI (hsI A f a j v) f' a' j' = if f' = f ∧ a' = a ∧ j' = j then v else hgI A f' a' j' := rfl
theorem hgI_sL (A : Hp) (f a j f' a' j' : Nat) (v : Int64) : hgI (hsL A f a j v) f' a' j' = hgI A f' a' j' := rfl
theorem hgI_sR (A : Hp) (f a j f' a' j' : Nat) (v : Nat) : hgI (hsR A f a j v) f' a' j' = hgI A f' a' j' := rfl
theorem hgL_sI (A : Hp) (f a j f' a' j' : Nat) (v : Int32) : hgL (hsI A f a j v) f' a' j' = hgL A f' a' j' := rfl
theorem hgL_sL (A : Hp) (f a j f' a' j' : Nat) (v : Int64) : hgL (hsL A f a j v) f' a' j' = if f' = f ∧ a' = a ∧ j' = j then v else hgL A f' a' j' := rfl
theorem hgL_sR (A : Hp) (f a j f' a' j' : Nat) (v : Nat) : hgL (hsR A f a j v) f' a' j' = hgL A f' a' j' := rfl
theorem hgR_sI (A : Hp) (f a j f' a' j' : Nat) (v : Int32) : hgR (hsI A f a j v) f' a' j' = hgR A f' a' j' := rfl
theorem hgR_sL (A : Hp) (f a j f' a' j' : Nat) (v : Int64) : hgR (hsL A f a j v) f' a' j' = hgR A f' a' j' := rfl
theorem hgR_sR (A : Hp) (f a j f' a' j' : Nat) (v : Nat) : hgR (hsR A f a j v) f' a' j' = if f' = f ∧ a' = a ∧ j' = j then v else hgR A f' a' j' := rfl
theorem hsh_sI (A : Hp) (f a j b : Nat) (v : Int32) : hsh (hsI A f a j v) b = hsh A b := rfl
theorem hsh_sL (A : Hp) (f a j b : Nat) (v : Int64) : hsh (hsL A f a j v) b = hsh A b := rfl
theorem hsh_sR (A : Hp) (f a j b : Nat) (v : Nat) : hsh (hsR A f a j v) b = hsh A b := rfl
theorem hsz_sI (A : Hp) (f a j : Nat) (v : Int32) : hsz (hsI A f a j v) = hsz A := rfl
theorem hsz_sL (A : Hp) (f a j : Nat) (v : Int64) : hsz (hsL A f a j v) = hsz A := rfl
theorem hsz_sR (A : Hp) (f a j : Nat) (v : Nat) : hsz (hsR A f a j v) = hsz A := rfl
theorem hgI_mk (A : Hp) (k n f a j : Nat) : hgI (hmk A k n) f a j = if a = hsz A then 0 else hgI A f a j := rfl
theorem hgL_mk (A : Hp) (k n f a j : Nat) : hgL (hmk A k n) f a j = if a = hsz A then 0 else hgL A f a j := rfl
theorem hgR_mk (A : Hp) (k n f a j : Nat) : hgR (hmk A k n) f a j = if a = hsz A then 0 else hgR A f a j := rfl
theorem hsh_mk (A : Hp) (k n a : Nat) : hsh (hmk A k n) a = if a = hsz A then (k, n) else hsh A a := rfl
theorem hsz_mk (A : Hp) (k n : Nat) : hsz (hmk A k n) = hsz A + 1 := rfl
-- the launch's own numbers: classes, array classes, the first new cell, the old cells, the constants
abbrev GT : Type := va_G × (Nat → ClassId) × Nat × (Nat → Option Cell) × (Nat → Nat)
def wad (g : GT) (n : Nat) : Nat := if n < 100 then g.2.2.2.2 n else g.2.2.1 + (n - 100)
def wro (g : GT) (n : Nat) : Option Nat := if n = 0 then none else some (wad g n)
def wrv (g : GT) (n : Nat) : Value := va_rf (wro g n)
def wcv (g : GT) (v : AV) : Value := match v with
  | .inl x => .int x
  | .inr (.inl x) => .long x
  | .inr (.inr n) => wrv g n
def acat (v : AV) : Nat := match v with
  | .inl _ => 1
  | .inr (.inl _) => 2
  | .inr (.inr _) => 1
theorem wrv_cat (g : GT) (n : Nat) : (wrv g n).category = 1 := by
  unfold wrv wro
  split <;> rfl
theorem wcv_cat (g : GT) (v : AV) : (wcv g v).category = acat v := by
  rcases v with x | x | x
  · rfl
  · rfl
  · exact wrv_cat g x
theorem wrv_ne (g : GT) {n : Nat} (h : n ≠ 0) : wrv g n = .ref (wad g n) := by
  unfold wrv wro
  rw [if_neg h]
  rfl
theorem wrv_0 (g : GT) : wrv g 0 = .null := rfl
-- field types: 0 an int, 1 a long, 2 a reference
def wft : Nat → List Nat
  | 0 => [2, 2, 0, 0]
  | 1 => [2, 2, 2, 2, 1, 1, 1, 0, 0, 0, 0, 0, 0]
  | 2 => [2, 0, 2, 2, 2, 2, 2, 2, 2, 2, 0, 0, 1]
  | 3 => [2, 2, 2, 2, 2, 2, 0, 0, 0, 1, 0, 0, 0, 0]
  | 4 => [2, 0]
  | 5 => [2, 0]
  | 6 => [2, 2, 2, 2]
  | 7 => [2, 2, 2, 0, 0, 2, 2, 2, 2, 2, 2, 2, 2, 2, 2, 2, 2, 2, 2, 2, 2, 2, 2, 2, 0, 1, 0, 1, 0, 0, 0, 0, 0, 0, 0, 0, 0, 0]
  | _ => []
def wfv (g : GT) (A : Hp) (ci a k t : Nat) : Value := match t with
  | 0 => .int (hgI A (64 * ci + k) a 0)
  | 1 => .long (hgL A (64 * ci + k) a 0)
  | _ => wrv g (hgR A (64 * ci + k) a 0)
def wfs (g : GT) (A : Hp) (ci a : Nat) : List Value := (wft ci).mapIdx (fun k t => wfv g A ci a k t)
def wcl (g : GT) (A : Hp) (a : Nat) : Option va_E :=
  if (hsh A a).1 = 0 then none
  else if (hsh A a).1 ≤ 8 then some (.inr ((hsh A a).1 - 1, wfs g A ((hsh A a).1 - 1) a))
  else if (hsh A a).1 = 11 then some (.inl (g.2.1 11, (hsh A a).2, .inr (.inl (fun j => hgL A 1035 a j))))
  else if (hsh A a).1 ≤ 12 then some (.inl (g.2.1 (hsh A a).1, (hsh A a).2, .inl (fun j => hgI A (1024 + (hsh A a).1) a j)))
  else if (hsh A a).1 ≤ 15 then some (.inl (g.2.1 (hsh A a).1, (hsh A a).2, .inr (.inr (.inr (.inr (fun j => wro g (hgR A (1024 + (hsh A a).1) a j)))))))
  else none
def wtys (g : GT) : List (ClassId × FieldType) := [(g.2.1 9, .char), (g.2.1 10, .int), (g.2.1 11, .long), (g.2.1 12, .boolean), (g.2.1 13, .object RX1), (g.2.1 14, .object RX4), (g.2.1 15, .object RX6)]
def wRep (g : GT) (A : Hp) (H : Heap) : Prop :=
  100 ≤ hsz A ∧ H.size + 100 = g.2.2.1 + hsz A ∧ (∀ q, q < g.2.2.1 → H[q]? = g.2.2.2.1 q) ∧ (∀ n, (hsh A n).1 ≠ 0 → 100 ≤ n ∧ n < hsz A) ∧ ∀ n e, wcl g A n = some e → va_at g.1 vwCl (g.2.2.1 + (n - 100), e) H
theorem wRep.ad {g : GT} {A : Hp} {H : Heap} (h : wRep g A H) {a : Nat} (ha : (hsh A a).1 ≠ 0) : wrv g a = .ref (g.2.2.1 + (a - 100)) := by
  have h1 := (h.2.2.2.1 a ha).1
  rw [wrv_ne g (by omega)]
  unfold wad
  rw [if_neg (by omega)]
theorem wcl_obj {g : GT} {A : Hp} {a ci : Nat} (h : (hsh A a).1 = ci + 1) (hc : ci < 8) : wcl g A a = some (.inr (ci, wfs g A ci a)) := by
  unfold wcl
  rw [if_neg (by omega), if_pos (by omega), h]
  rfl
theorem wcl_L {g : GT} {A : Hp} {a n : Nat} (h : hsh A a = (11, n)) : wcl g A a = some (.inl (g.2.1 11, n, .inr (.inl (fun j => hgL A 1035 a j)))) := by
  unfold wcl
  rw [h]
  rfl
theorem wcl_I {g : GT} {A : Hp} {a k n : Nat} (h : hsh A a = (k, n)) (h1 : 8 < k) (h2 : k ≤ 12) (h3 : k ≠ 11) : wcl g A a = some (.inl (g.2.1 k, n, .inl (fun j => hgI A (1024 + k) a j))) := by
  unfold wcl
  rw [h]
  rw [if_neg (by show ¬ k = 0; omega), if_neg (by show ¬ k ≤ 8; omega), if_neg (by exact h3), if_pos (by exact h2)]
theorem wcl_R {g : GT} {A : Hp} {a k n : Nat} (h : hsh A a = (k, n)) (h1 : 12 < k) (h2 : k ≤ 15) : wcl g A a = some (.inl (g.2.1 k, n, .inr (.inr (.inr (.inr (fun j => wro g (hgR A (1024 + k) a j))))))) := by
  unfold wcl
  rw [h]
  rw [if_neg (by show ¬ k = 0; omega), if_neg (by show ¬ k ≤ 8; omega), if_neg (by show ¬ k = 11; omega), if_neg (by show ¬ k ≤ 12; omega), if_pos (by exact h2)]
theorem wfs_congr {g : GT} {A B : Hp} {ci a : Nat} (h1 : ∀ f j, hgI B f a j = hgI A f a j) (h2 : ∀ f j, hgL B f a j = hgL A f a j) (h3 : ∀ f j, hgR B f a j = hgR A f a j) : wfs g B ci a = wfs g A ci a := by
  unfold wfs wfv
  simp only [h1, h2, h3]
theorem wcl_congr {g : GT} {A B : Hp} {a : Nat} (h0 : hsh B a = hsh A a) (h1 : ∀ f j, hgI B f a j = hgI A f a j) (h2 : ∀ f j, hgL B f a j = hgL A f a j) (h3 : ∀ f j, hgR B f a j = hgR A f a j) : wcl g B a = wcl g A a := by
  unfold wcl
  simp only [h0, h1, h2, h3, wfs_congr (g := g) h1 h2 h3]
/-- one cell changes, the others stay -/
theorem wRep.set {g : GT} {A B : Hp} {H H1 : Heap} {a : Nat} {e : va_E} (h : wRep g A H) (ha : (hsh A a).1 ≠ 0) (hz : hsz B = hsz A) (hs : ∀ b, hsh B b = hsh A b) (ho : ∀ b, b ≠ a → wcl g B b = wcl g A b) (he : wcl g B a = some e)
    (z : H1.size = H.size) (oq : ∀ q, q ≠ g.2.2.1 + (a - 100) → H1[q]? = H[q]?) (hat : va_at g.1 vwCl (g.2.2.1 + (a - 100), e) H1) : wRep g B H1 := by
  obtain ⟨a1, a2, a3, a4, a5⟩ := h
  have hal := a4 a ha
  refine ⟨by rw [hz]; exact a1, by rw [z, hz]; exact a2, fun q hq => ?_, fun n hn => by rw [hs] at hn; rw [hz]; exact a4 n hn, fun n e' hn => ?_⟩
  · rw [oq q (by omega)]
    exact a3 q hq
  · by_cases hna : n = a
    · subst hna
      rw [he] at hn
      cases hn
      exact hat
    · rw [ho n hna] at hn
      refine (a5 n e' hn).kept (oq _ ?_)
      have hn0 : (hsh A n).1 ≠ 0 := by
        intro q
        unfold wcl at hn
        rw [if_pos q] at hn
        cases hn
      have hnl := a4 n hn0
      show g.2.2.1 + (n - 100) ≠ _
      omega
theorem wOth_I {g : GT} {A : Hp} {f a j b : Nat} {v : Int32} (h : b ≠ a) : wcl g (hsI A f a j v) b = wcl g A b :=
  wcl_congr rfl (fun f' j' => by rw [hgI_sI, if_neg (fun q => h q.2.1)]) (fun _ _ => rfl) (fun _ _ => rfl)
theorem wOth_L {g : GT} {A : Hp} {f a j b : Nat} {v : Int64} (h : b ≠ a) : wcl g (hsL A f a j v) b = wcl g A b :=
  wcl_congr rfl (fun _ _ => rfl) (fun f' j' => by rw [hgL_sL, if_neg (fun q => h q.2.1)]) (fun _ _ => rfl)
theorem wOth_R {g : GT} {A : Hp} {f a j b : Nat} {v : Nat} (h : b ≠ a) : wcl g (hsR A f a j v) b = wcl g A b :=
  wcl_congr rfl (fun _ _ => rfl) (fun _ _ => rfl) (fun f' j' => by rw [hgR_sR, if_neg (fun q => h q.2.1)])
theorem wfs_get {g : GT} {A : Hp} {ci a k t : Nat} (h : (wft ci)[k]? = some t) : (wfs g A ci a)[k]? = some (wfv g A ci a k t) := by
  unfold wfs
  rw [List.getElem?_mapIdx, h]
  rfl
theorem wfs_len (g : GT) (A : Hp) (ci a : Nat) : (wfs g A ci a).length = (wft ci).length := by
  unfold wfs
  rw [List.length_mapIdx]
theorem wfs_set {g : GT} {A B : Hp} {ci a k t : Nat} {v : Value} (h : (wft ci)[k]? = some t) (hv : wfv g B ci a k t = v) (ho : ∀ k' t', k' ≠ k → (wft ci)[k']? = some t' → wfv g B ci a k' t' = wfv g A ci a k' t') : wfs g B ci a = (wfs g A ci a).set k v := by
  apply List.ext_getElem?
  intro i
  rw [List.getElem?_set, wfs_len]
  have hk : k < (wft ci).length := (List.getElem?_eq_some_iff.mp h).1
  by_cases hi : k = i
  · subst hi
    rw [if_pos rfl, if_pos hk, wfs_get h, hv]
  · rw [if_neg hi]
    cases hw : (wft ci)[i]? with
    | none =>
      unfold wfs
      rw [List.getElem?_mapIdx, List.getElem?_mapIdx, hw]
      rfl
    | some t' => rw [wfs_get hw, wfs_get hw, ho i t' (fun q => hi q.symm) hw]
/-- a new cell -/
theorem wRep.push {g : GT} {A : Hp} {H H1 : Heap} {k n : Nat} (h : wRep g A H) (z : H1.size = H.size + 1) (oq : ∀ q, q < H.size → H1[q]? = H[q]?) (hat : ∀ e, wcl g (hmk A k n) (hsz A) = some e → va_at g.1 vwCl (g.2.2.1 + (hsz A - 100), e) H1) : wRep g (hmk A k n) H1 := by
  obtain ⟨a1, a2, a3, a4, a5⟩ := h
  refine ⟨by rw [hsz_mk]; omega, by rw [hsz_mk]; omega, fun q hq => ?_, fun m hm => ?_, fun m e hm => ?_⟩
  · rw [oq q (by omega)]
    exact a3 q hq
  · rw [hsz_mk]
    by_cases hmz : m = hsz A
    · omega
    · rw [hsh_mk, if_neg hmz] at hm
      have := a4 m hm
      omega
  · by_cases hmz : m = hsz A
    · subst hmz
      exact hat e hm
    · have hc : wcl g (hmk A k n) m = wcl g A m := wcl_congr (by rw [hsh_mk, if_neg hmz]) (fun f j => by rw [hgI_mk, if_neg hmz]) (fun f j => by rw [hgL_mk, if_neg hmz]) (fun f j => by rw [hgR_mk, if_neg hmz])
      rw [hc] at hm
      have h9 := a5 m e hm
      exact h9.kept (oq _ h9.lt)
theorem wRep.sz {g : GT} {A : Hp} {H : Heap} (h : wRep g A H) : wrv g (hsz A) = .ref H.size := by
  obtain ⟨a1, a2, -⟩ := h
  rw [wrv_ne g (by omega)]
  unfold wad
  rw [if_neg (by omega)]
  have e9 : g.2.2.1 + (hsz A - 100) = H.size := by omega
  rw [e9]
