/-! the order of cookies; sorted lists -/
def GC {α : Type} (c : α → α → Int32) : Prop := (∀ a b, c a b = -1 ∨ c a b = 0 ∨ c a b = 1) ∧ (∀ a b, c b a = -(c a b)) ∧ (∀ a b d, c a b = -1 → c b d = -1 → c a d = -1) ∧ (∀ a b d, c a b = 0 → c a d = c b d)
theorem n1_n : -(-1 : Int32) = 1 := by decide
theorem n0_n : -(0 : Int32) = 0 := by decide
theorem n1_0 : (-1 : Int32) ≠ 0 := by decide
theorem n1_1 : (-1 : Int32) ≠ 1 := by decide
theorem p1_0 : (1 : Int32) ≠ 0 := by decide
theorem i32_tri (a b : Int32) : a = b ∨ a < b ∨ b < a := by
  rw [Int32.lt_iff_toInt_lt, Int32.lt_iff_toInt_lt, ← Int32.toInt_inj]
  omega
theorem i32_as {a b : Int32} (h : a < b) : a ≠ b ∧ ¬ b < a := by
  rw [Int32.lt_iff_toInt_lt] at *
  refine ⟨fun q => ?_, by omega⟩
  rw [q] at h
  omega
theorem i32_tr {a b c : Int32} (h : a < b) (k : b < c) : a < c := by
  rw [Int32.lt_iff_toInt_lt] at *
  omega
theorem scmp_cc (a b : Int32) (s t : List Int32) : scmp (a :: s) (b :: t) = if a = b then scmp s t else if a < b then -1 else 1 := rfl
theorem lcmp_cc (a b : List Int32) (s t : List (List Int32)) : lcmp (a :: s) (b :: t) = if scmp a b = 0 then lcmp s t else scmp a b := rfl
theorem scmp_GC : GC scmp := by
  refine ⟨?_, ?_, ?_, fun a b d h => by rw [scmp_0.mp h]⟩
  · intro a
    induction a with
    | nil => intro b; cases b with
      | nil => exact Or.inr (Or.inl rfl)
      | cons _ _ => exact Or.inl rfl
    | cons x a ih => intro b; cases b with
      | nil => exact Or.inr (Or.inr rfl)
      | cons y b =>
        rw [scmp_cc]
        split
        · exact ih b
        · split
          · exact Or.inl rfl
          · exact Or.inr (Or.inr rfl)
  · intro a
    induction a with
    | nil => intro b; cases b with
      | nil => exact n0_n.symm
      | cons _ _ => exact n1_n.symm
    | cons x a ih => intro b; cases b with
      | nil => exact (show (-1 : Int32) = -1 from rfl)
      | cons y b =>
        rw [scmp_cc, scmp_cc]
        rcases i32_tri x y with h | h | h
        · rw [if_pos h.symm, if_pos h]; exact ih b
        · rw [if_neg (Ne.symm (i32_as h).1), if_neg (i32_as h).2, if_neg (i32_as h).1, if_pos h]; exact n1_n.symm
        · rw [if_neg (i32_as h).1, if_pos h, if_neg (Ne.symm (i32_as h).1), if_neg (i32_as h).2]
  · intro a
    induction a with
    | nil =>
      intro b d h k
      cases b with
      | nil => exact absurd h (by decide)
      | cons y b => cases d with
        | nil => exact absurd (show (1 : Int32) = -1 from k) (by decide)
        | cons z d => rfl
    | cons x a ih =>
      intro b d h k
      cases b with
      | nil => exact absurd (show (1 : Int32) = -1 from h) (by decide)
      | cons y b => cases d with
        | nil => exact absurd (show (1 : Int32) = -1 from k) (by decide)
        | cons z d =>
          rw [scmp_cc] at h k ⊢
          rcases i32_tri x y with q | q | q
          · rw [if_pos q] at h
            rcases i32_tri y z with r | r | r
            · rw [if_pos r] at k
              rw [if_pos (q.trans r)]
              exact ih b d h k
            · rw [q, if_neg (i32_as r).1, if_pos r]
            · rw [if_neg (Ne.symm (i32_as r).1), if_neg (i32_as r).2] at k
              exact absurd k.symm n1_1
          · rcases i32_tri y z with r | r | r
            · rw [← r, if_neg (i32_as q).1, if_pos q]
            · rw [if_neg (i32_as (i32_tr q r)).1, if_pos (i32_tr q r)]
            · rw [if_neg (Ne.symm (i32_as r).1), if_neg (i32_as r).2] at k
              exact absurd k.symm n1_1
          · rw [if_neg (Ne.symm (i32_as q).1), if_neg (i32_as q).2] at h
            exact absurd h.symm n1_1
theorem lcmp_eq : ∀ a b : List (List Int32), lcmp a b = 0 → a = b := by
  intro a
  induction a with
  | nil => intro b h; cases b with
    | nil => rfl
    | cons _ _ => exact absurd (show (-1 : Int32) = 0 from h) (by decide)
  | cons x a ih => intro b h; cases b with
    | nil => exact absurd (show (1 : Int32) = 0 from h) (by decide)
    | cons y b =>
      rw [lcmp_cc] at h
      by_cases q : scmp x y = 0
      · rw [if_pos q] at h
        rw [scmp_0.mp q, ih b h]
      · rw [if_neg q] at h; exact absurd h q
theorem lcmp_GC : GC lcmp := by
  obtain ⟨s1, s2, s3, s4⟩ := scmp_GC
  refine ⟨?_, ?_, ?_, fun a b d h => by rw [lcmp_eq a b h]⟩
  · intro a
    induction a with
    | nil => intro b; cases b with
      | nil => exact Or.inr (Or.inl rfl)
      | cons _ _ => exact Or.inl rfl
    | cons x a ih => intro b; cases b with
      | nil => exact Or.inr (Or.inr rfl)
      | cons y b =>
        rw [lcmp_cc]
        split
        · exact ih b
        · exact s1 x y
  · intro a
    induction a with
    | nil => intro b; cases b with
      | nil => exact n0_n.symm
      | cons _ _ => exact n1_n.symm
    | cons x a ih => intro b; cases b with
      | nil => exact (show (-1 : Int32) = -1 from rfl)
      | cons y b =>
        rw [lcmp_cc, lcmp_cc, s2 x y]
        rcases s1 x y with h | h | h
        · rw [h, if_neg (by decide), if_neg (by decide)]
        · rw [h, if_pos (by decide), if_pos rfl]; exact ih b
        · rw [h, if_neg (by decide), if_neg (by decide)]
  · intro a
    induction a with
    | nil =>
      intro b d h k
      cases b with
      | nil => exact absurd h (by decide)
      | cons y b => cases d with
        | nil => exact absurd (show (1 : Int32) = -1 from k) (by decide)
        | cons z d => rfl
    | cons x a ih =>
      intro b d h k
      cases b with
      | nil => exact absurd (show (1 : Int32) = -1 from h) (by decide)
      | cons y b => cases d with
        | nil => exact absurd (show (1 : Int32) = -1 from k) (by decide)
        | cons z d =>
          rw [lcmp_cc] at h k ⊢
          by_cases q : scmp x y = 0
          · rw [if_pos q] at h
            rw [scmp_0.mp q]
            by_cases r : scmp y z = 0
            · rw [if_pos r] at k ⊢
              exact ih b d h k
            · rw [if_neg r] at k ⊢
              exact k
          · rw [if_neg q] at h
            by_cases r : scmp y z = 0
            · rw [← scmp_0.mp r, if_neg q]; exact h
            · rw [if_neg r] at k
              have := s3 x y z h k
              rw [this, if_neg n1_0]
theorem GC.map {α β : Type} {c : α → α → Int32} (h : GC c) (f : β → α) : GC (fun a b => c (f a) (f b)) := ⟨fun a b => h.1 _ _, fun a b => h.2.1 _ _, fun a b d => h.2.2.1 _ _ _, fun a b d => h.2.2.2 _ _ _⟩
theorem GC.r0 {α : Type} {c : α → α → Int32} (h : GC c) {a b : α} (q : c a b = 0) (d : α) : c d a = c d b := by
  rw [h.2.1 a d, h.2.1 b d, h.2.2.2 a b d q]
theorem GC.lex {α : Type} {c e : α → α → Int32} (h : GC c) (k : GC e) : GC (fun a b => if c a b ≠ 0 then c a b else e a b) := by
  refine ⟨fun a b => ?_, fun a b => ?_, fun a b d x y => ?_, fun a b d x => ?_⟩
  · show (if c a b ≠ 0 then c a b else e a b) = -1 ∨ (if c a b ≠ 0 then c a b else e a b) = 0 ∨ (if c a b ≠ 0 then c a b else e a b) = 1
    by_cases q : c a b = 0
    · rw [if_neg (fun z => z q)]; exact k.1 a b
    · rw [if_pos q]; exact h.1 a b
  · show (if c b a ≠ 0 then c b a else e b a) = -(if c a b ≠ 0 then c a b else e a b)
    rw [h.2.1 a b, k.2.1 a b]
    rcases h.1 a b with q | q | q
    · rw [q, if_pos (by decide), if_pos (by decide)]
    · rw [q, if_neg (by decide), if_neg (by decide)]
    · rw [q, if_pos (by decide), if_pos (by decide)]
  · have x : (if c a b ≠ 0 then c a b else e a b) = -1 := x
    have y : (if c b d ≠ 0 then c b d else e b d) = -1 := y
    show (if c a d ≠ 0 then c a d else e a d) = -1
    by_cases q : c a b = 0
    · rw [if_neg (fun z => z q)] at x
      rw [h.2.2.2 a b d q]
      by_cases r : c b d = 0
      · rw [if_neg (fun z => z r)] at y ⊢
        exact k.2.2.1 a b d x y
      · rw [if_pos r] at y ⊢; exact y
    · rw [if_pos q] at x
      by_cases r : c b d = 0
      · rw [← h.r0 r a, if_pos q]; exact x
      · rw [if_pos r] at y
        have := h.2.2.1 a b d x y
        rw [this, if_pos n1_0]
  · have x : (if c a b ≠ 0 then c a b else e a b) = 0 := x
    show (if c a d ≠ 0 then c a d else e a d) = (if c b d ≠ 0 then c b d else e b d)
    by_cases q : c a b = 0
    · rw [if_neg (fun z => z q)] at x
      rw [h.2.2.2 a b d q, k.2.2.2 a b d x]
    · rw [if_pos q] at x; exact absurd x q
def hcmp (u v : CkV) : Int32 := if cH u = cH v then 0 else if cH u then 1 else -1
theorem hcmp_GC : GC hcmp := by
  have b : GC (fun a b : Bool => if a = b then (0 : Int32) else if a then 1 else -1) := by
    refine ⟨?_, ?_, ?_, ?_⟩ <;> decide
  exact b.map (fun u : CkV => cH u)
theorem dcmp_GC : GC dcmp := lcmp_GC.map key
theorem ccmp_GC : GC ccmp := (dcmp_GC.map (fun u : CkV => cD u)).lex ((scmp_GC.map (fun u : CkV => cP u)).lex ((scmp_GC.map (fun u : CkV => cN u)).lex hcmp_GC))
-- the labels tell the domain
theorem take_lab {s : List Int32} {e : Nat} (he : e ≤ s.length) (h0 : 0 < labS s e) : s.take e = s.take (labS s e - 1) ++ (46 : Int32) :: sub s (labS s e) e := by
  have hl := labS_le s e
  have hd := labS_dot h0
  have h1 : labS s e - 1 < s.length := by omega
  conv => lhs; rw [← List.take_append_drop (labS s e) (s.take e), List.take_take, Nat.min_eq_left hl]
  rw [show labS s e = labS s e - 1 + 1 by omega, List.take_add_one, List.getElem?_eq_getElem h1, ← g_lt h1, hd, show labS s e - 1 + 1 = labS s e by omega]
  rw [List.append_assoc]
  rfl
theorem keyD_inj {s u : List Int32} : ∀ (n f f' e e' : Nat), e ≤ n → e + 1 ≤ f → e' + 1 ≤ f' → e ≤ s.length → e' ≤ u.length → keyD s f e = keyD u f' e' → s.take e = u.take e' := by
  intro n
  induction n with
  | zero =>
    intro f f' e e' hn h1 h2 h3 h4 hk
    obtain ⟨f, rfl⟩ : ∃ x, f = x + 1 := ⟨f - 1, by omega⟩
    obtain ⟨f', rfl⟩ : ∃ x, f' = x + 1 := ⟨f' - 1, by omega⟩
    have he : e = 0 := by omega
    subst he
    have hk : (sub s (labS s 0) 0 :: (if labS s 0 = 0 then [] else keyD s f (labS s 0 - 1))) = (sub u (labS u e') e' :: (if labS u e' = 0 then [] else keyD u f' (labS u e' - 1))) := hk
    rw [show labS s 0 = 0 from rfl, if_pos rfl] at hk
    obtain ⟨k1, k2⟩ := List.cons.inj hk
    by_cases q : labS u e' = 0
    · rw [q] at k1; exact k1
    · rw [if_neg q] at k2
      obtain ⟨f', rfl⟩ : ∃ x, f' = x + 1 := ⟨f' - 1, by have := labS_le u e'; omega⟩
      exact absurd k2 (by intro z; cases z)
  | succ n ih =>
    intro f f' e e' hn h1 h2 h3 h4 hk
    obtain ⟨f, rfl⟩ : ∃ x, f = x + 1 := ⟨f - 1, by omega⟩
    obtain ⟨f', rfl⟩ : ∃ x, f' = x + 1 := ⟨f' - 1, by omega⟩
    have hk : (sub s (labS s e) e :: (if labS s e = 0 then [] else keyD s f (labS s e - 1))) = (sub u (labS u e') e' :: (if labS u e' = 0 then [] else keyD u f' (labS u e' - 1))) := hk
    obtain ⟨k1, k2⟩ := List.cons.inj hk
    have l1 := labS_le s e
    have l2 := labS_le u e'
    by_cases p : labS s e = 0
    · rw [if_pos p] at k2
      by_cases q : labS u e' = 0
      · rw [p, q] at k1; exact k1
      · rw [if_neg q] at k2
        obtain ⟨f', rfl⟩ : ∃ x, f' = x + 1 := ⟨f' - 1, by omega⟩
        exact absurd k2 (by intro z; cases z)
    · rw [if_neg p] at k2
      by_cases q : labS u e' = 0
      · rw [if_pos q] at k2
        obtain ⟨f, rfl⟩ : ∃ x, f = x + 1 := ⟨f - 1, by omega⟩
        exact absurd k2 (by intro z; cases z)
      · rw [if_neg q] at k2
        have := ih f f' (labS s e - 1) (labS u e' - 1) (by omega) (by omega) (by omega) (by omega) (by omega) k2
        rw [take_lab h3 (by omega), take_lab h4 (by omega), this, k1]
theorem key_inj {s u : List Int32} (h : key s = key u) : s = u := by
  have := keyD_inj (s := s) (u := u) s.length (s.length + 1) (u.length + 1) s.length u.length (by omega) (by omega) (by omega) (by omega) (by omega) h
  rwa [List.take_of_length_le (by omega), List.take_of_length_le (by omega)] at this
theorem dcmp_0 {s u : List Int32} (h : dcmp s u = 0) : s = u := key_inj (lcmp_eq _ _ h)
theorem ccmp_sky {u v : CkV} : ccmp u v = 0 ↔ sky u v = true := by
  unfold ccmp sky
  constructor
  · intro h
    by_cases a : dcmp (cD u) (cD v) = 0
    · rw [if_neg (fun z => z a)] at h
      by_cases b : scmp (cP u) (cP v) = 0
      · rw [if_neg (fun z => z b)] at h
        by_cases c : scmp (cN u) (cN v) = 0
        · rw [if_neg (fun z => z c)] at h
          by_cases d : cH u = cH v
          · rw [decide_eq_true (scmp_0.mp c), decide_eq_true d, decide_eq_true (dcmp_0 a), decide_eq_true (scmp_0.mp b)]; rfl
          · rw [if_neg d] at h
            split at h
            · exact absurd h (by decide)
            · exact absurd h (by decide)
        · rw [if_pos c] at h; exact absurd h c
      · rw [if_pos b] at h; exact absurd h b
    · rw [if_pos a] at h; exact absurd h a
  · intro h
    simp only [Bool.and_eq_true, decide_eq_true_eq] at h
    obtain ⟨h1, h2, h3, h4⟩ := h
    rw [h1, h2, h3, h4, if_neg (fun z => z (lcmp_self _)), if_neg (fun z => z (scmp_self _)), if_neg (fun z => z (scmp_self _)), if_pos rfl]
theorem ccmp_lt {u v : CkV} : ccmp u v < 0 ↔ ccmp u v = -1 := by
  rcases ccmp_GC.1 u v with h | h | h
  · rw [h]; exact ⟨fun _ => rfl, fun _ => by decide⟩
  · rw [h]; exact ⟨fun q => absurd q (by decide), fun q => absurd q (by decide)⟩
  · rw [h]; exact ⟨fun q => absurd q (by decide), fun q => absurd q (by decide)⟩
theorem ccmp_gt {u v : CkV} (h : ccmp u v = -1) : ccmp v u = 1 := by rw [ccmp_GC.2.1 u v, h]; rfl
theorem ccmp_gt' {u v : CkV} (h : ccmp u v = 1) : ccmp v u = -1 := by rw [ccmp_GC.2.1 u v, h]
def srt (cs : List CkV) : Prop := cs.Pairwise (fun a b => ccmp a b = -1)
theorem srt.get {cs : List CkV} (h : srt cs) {i j : Nat} (hij : i < j) (hj : j < cs.length) : ccmp (cg cs i) (cg cs j) = -1 := by
  have := List.pairwise_iff_getElem.mp h i j (by omega) hj hij
  have e1 : cg cs i = cs[i]'(by omega) := by simp [cg, show i < cs.length by omega]
  have e2 : cg cs j = cs[j] := by simp [cg, hj]
  rw [e1, e2]; exact this
theorem srt.of {cs : List CkV} (h : ∀ i j, i < j → j < cs.length → ccmp (cg cs i) (cg cs j) = -1) : srt cs := by
  refine List.pairwise_iff_getElem.mpr (fun i j hi hj hij => ?_)
  have := h i j hij hj
  have e1 : cg cs i = cs[i] := by simp [cg, hi]
  have e2 : cg cs j = cs[j] := by simp [cg, hj]
  rw [e1, e2] at this; exact this
theorem srt.inj {cs : List CkV} (h : srt cs) {i j : Nat} (hi : i < cs.length) (hj : j < cs.length) (e : ccmp (cg cs i) (cg cs j) = 0) : i = j := by
  rcases Nat.lt_trichotomy i j with q | q | q
  · rw [h.get q hj] at e; exact absurd e n1_0
  · exact q
  · have := ccmp_gt (h.get q hi)
    rw [this] at e; exact absurd e p1_0
theorem srt.sub {cs ds : List CkV} (h : srt cs) (s : ds.Sublist cs) : srt ds := List.Pairwise.sublist s h
theorem srt.eqk {cs ds : List CkV} (h : srt cs) (hl : ds.length = cs.length) (e : ∀ i, i < cs.length → ccmp (cg cs i) (cg ds i) = 0) : srt ds := srt.of (fun i j hij hj => by
  have h1 := h.get hij (by omega)
  rw [ccmp_GC.2.2.2 _ _ _ (e i (by omega)), ccmp_GC.r0 (e j (by omega))] at h1
  exact h1)
/-- the rank of a cookie of a sorted list is its place -/
theorem srt.rnk {cs : List CkV} (h : srt cs) : ∀ {i : Nat}, i < cs.length → rnk cs (cg cs i) = i := by
  induction cs with
  | nil => intro i hi; exact absurd hi (Nat.not_lt_zero i)
  | cons c cs ih =>
    obtain ⟨h1, h2⟩ := List.pairwise_cons.mp h
    intro i hi
    cases i with
    | zero =>
      show List.countP (fun d => decide (ccmp d c < 0)) (c :: cs) = 0
      rw [List.countP_eq_zero]
      intro d hd
      rw [decide_eq_true_eq, ccmp_lt]
      rcases List.mem_cons.mp hd with q | q
      · rw [q, ccmp_self]; exact fun z => absurd z.symm n1_0
      · rw [ccmp_gt (h1 d q)]; exact fun z => absurd z.symm n1_1
    | succ i =>
      have hi : i < cs.length := Nat.lt_of_succ_lt_succ hi
      show List.countP (fun d => decide (ccmp d (cg cs i) < 0)) (c :: cs) = i + 1
      rw [List.countP_cons_of_pos (by rw [decide_eq_true_eq, ccmp_lt]; exact h1 _ (cg_mem hi))]
      exact congrArg (· + 1) (ih h2 hi)
theorem rnk_perm {ms cs : List CkV} (p : ms.Perm cs) (c : CkV) : rnk ms c = rnk cs c := p.countP_eq _
theorem plo_spec {ms : List CkV} {k : Nat} : ∀ d i, (plo ms k d i = none → ∀ j, i ≤ j → j < i + d → rnk ms (cg ms j) ≠ k) ∧ (∀ j, plo ms k d i = some j → i ≤ j ∧ j < i + d ∧ rnk ms (cg ms j) = k) := by
  intro d
  induction d with
  | zero => intro i; exact ⟨fun _ j h1 h2 => by omega, fun j h => by cases h⟩
  | succ d ih =>
    intro i
    show ((if rnk ms (cg ms i) = k then some i else plo ms k d (i + 1)) = none → _) ∧ (∀ j, (if rnk ms (cg ms i) = k then some i else plo ms k d (i + 1)) = some j → _)
    by_cases q : rnk ms (cg ms i) = k
    · rw [if_pos q]
      exact ⟨fun h => (by cases h), fun j h => by cases h; exact ⟨by omega, by omega, q⟩⟩
    · rw [if_neg q]
      obtain ⟨i1, i2⟩ := ih (i + 1)
      refine ⟨fun h j h1 h2 => ?_, fun j h => ?_⟩
      · by_cases z : j = i
        · rw [z]; exact q
        · exact i1 h j (by omega) (by omega)
      · obtain ⟨a, b, c⟩ := i2 j h; exact ⟨by omega, by omega, c⟩
theorem plo_get {ms cs : List CkV} (p : ms.Perm cs) (h : srt cs) {k : Nat} (hk : k < cs.length) : ∃ i, plo ms k ms.length 0 = some i ∧ i < ms.length ∧ cg ms i = cg cs k := by
  obtain ⟨h1, h2⟩ := plo_spec (ms := ms) (k := k) ms.length 0
  obtain ⟨j, hj, ej⟩ := cg_of_mem (p.mem_iff.mpr (cg_mem hk))
  cases hp : plo ms k ms.length 0 with
  | none =>
    exact absurd (by rw [ej, rnk_perm p, h.rnk hk]) (h1 hp j (Nat.zero_le _) (by omega))
  | some i =>
    obtain ⟨a, b, c⟩ := h2 i hp
    obtain ⟨l, hl, el⟩ := cg_of_mem (p.mem_iff.mp (cg_mem (cs := ms) (i := i) (by omega)))
    rw [← el, rnk_perm p, h.rnk hl] at c
    exact ⟨i, rfl, by omega, by rw [← el, c]⟩
/-- where a new cookie comes -/
theorem plc_spec {cs : List CkV} {f : CkV} (h : srt cs) : (∀ j, j < plc f cs → ccmp (cg cs j) f = -1) ∧ (plc f cs < cs.length → ccmp (cg cs (plc f cs)) f ≠ -1) := by
  induction cs with
  | nil => exact ⟨fun j hj => absurd hj (Nat.not_lt_zero j), fun hj => absurd hj (Nat.not_lt_zero _)⟩
  | cons c cs ih =>
    obtain ⟨i1, i2⟩ := ih (List.pairwise_cons.mp h).2
    have e : plc f (c :: cs) = if ccmp c f < 0 then plc f cs + 1 else 0 := rfl
    rw [e]
    by_cases q : ccmp c f < 0
    · rw [if_pos q]
      refine ⟨fun j hj => ?_, fun hj => ?_⟩
      · cases j with
        | zero => exact ccmp_lt.mp q
        | succ j => exact i1 j (by omega)
      · exact i2 (Nat.lt_of_succ_lt_succ hj)
    · rw [if_neg q]
      exact ⟨fun j hj => absurd hj (Nat.not_lt_zero j), fun _ z => q (ccmp_lt.mpr z)⟩
/-- not there: all behind the place are behind the new one -/
theorem plc_gt {cs : List CkV} {f : CkV} (h : srt cs) (hn : ¬ (plc f cs < cs.length ∧ ccmp (cg cs (plc f cs)) f = 0)) {j : Nat} (h1 : plc f cs ≤ j) (h2 : j < cs.length) : ccmp f (cg cs j) = -1 := by
  have hp : ccmp f (cg cs (plc f cs)) = -1 := by
    have a := (plc_spec (f := f) h).2 (by omega)
    rcases ccmp_GC.1 (cg cs (plc f cs)) f with q | q | q
    · exact absurd q a
    · exact absurd ⟨by omega, q⟩ hn
    · exact ccmp_gt' q
  by_cases z : j = plc f cs
  · rw [z]; exact hp
  · exact ccmp_GC.2.2.1 _ _ _ hp (h.get (by omega) h2)
theorem srt.ins {cs : List CkV} {f : CkV} (h : srt cs) (hn : ¬ (plc f cs < cs.length ∧ ccmp (cg cs (plc f cs)) f = 0)) : srt (cs.insertIdx (plc f cs) f) := by
  have hp := plc_le f cs
  have s := plc_spec (f := f) h
  refine srt.of (fun i j hij hj => ?_)
  rw [List.length_insertIdx_of_le_length hp] at hj
  rw [ins_get hp, ins_get hp]
  by_cases a : j < plc f cs
  · rw [if_pos (by omega), if_pos a]; exact h.get hij (by omega)
  · rw [if_neg a]
    by_cases b : j = plc f cs
    · rw [if_pos b, if_pos (by omega)]; exact s.1 i (by omega)
    · rw [if_neg b]
      by_cases c : i < plc f cs
      · rw [if_pos c]; exact h.get (by omega) (by omega)
      · rw [if_neg c]
        by_cases d : i = plc f cs
        · rw [if_pos d]; exact plc_gt h hn (by omega) (by omega)
        · rw [if_neg d]; exact h.get (by omega) (by omega)
theorem eld_spec {f : CkV} : ∀ (cs : List CkV) (i : Nat), (eld f cs i = none → ∀ c ∈ cs, sky c f = false) ∧ (∀ j, eld f cs i = some j → i ≤ j ∧ j < i + cs.length ∧ sky (cg cs (j - i)) f = true) := by
  intro cs
  induction cs with
  | nil => intro i; exact ⟨fun _ c hc => (nomatch hc), fun j h => by cases h⟩
  | cons c cs ih =>
    intro i
    show ((if sky c f then some i else eld f cs (i + 1)) = none → _) ∧ (∀ j, (if sky c f then some i else eld f cs (i + 1)) = some j → _)
    cases q : sky c f with
    | true =>
      refine ⟨fun h => (by cases h), fun j h => ?_⟩
      have h : some i = some j := h
      cases h
      refine ⟨by omega, by rw [List.length_cons]; omega, ?_⟩
      rw [Nat.sub_self]; exact q
    | false =>
      obtain ⟨i1, i2⟩ := ih (i + 1)
      refine ⟨fun h d hd => ?_, fun j h => ?_⟩
      · rcases List.mem_cons.mp hd with z | z
        · rw [z]; exact q
        · exact i1 h d z
      · obtain ⟨a, b, e⟩ := i2 j h
        refine ⟨by omega, by rw [List.length_cons]; omega, ?_⟩
        rw [show j - i = (j - (i + 1)) + 1 by omega]; exact e
/-- the elder one, in both lists -/
theorem eld_tie {ms cs : List CkV} {f : CkV} (p : ms.Perm cs) (h : srt cs) : (eld f ms 0 = none ∧ ¬ (plc f cs < cs.length ∧ ccmp (cg cs (plc f cs)) f = 0)) ∨ ∃ i, eld f ms 0 = some i ∧ i < ms.length ∧ (plc f cs < cs.length ∧ ccmp (cg cs (plc f cs)) f = 0) ∧ cg ms i = cg cs (plc f cs) := by
  obtain ⟨e1, e2⟩ := eld_spec (f := f) ms 0
  cases he : eld f ms 0 with
  | none =>
    refine Or.inl ⟨rfl, fun z => ?_⟩
    have := e1 he _ (p.mem_iff.mpr (cg_mem z.1))
    rw [ccmp_sky.mp z.2] at this
    cases this
  | some i =>
    obtain ⟨a, b, c⟩ := e2 i he
    rw [Nat.sub_zero] at c
    obtain ⟨l, hl, el⟩ := cg_of_mem (p.mem_iff.mp (cg_mem (cs := ms) (i := i) (by omega)))
    rw [← el] at c
    have c0 := ccmp_sky.mpr c
    have hz : plc f cs < cs.length ∧ ccmp (cg cs (plc f cs)) f = 0 := by
      have s := plc_spec (f := f) h
      by_cases q : plc f cs < cs.length ∧ ccmp (cg cs (plc f cs)) f = 0
      · exact q
      · by_cases r : l < plc f cs
        · rw [s.1 l r] at c0; exact absurd c0 n1_0
        · have := plc_gt h q (j := l) (by omega) hl
          rw [ccmp_GC.2.1 (cg cs l) f, c0] at this
          exact absurd this (by decide)
    refine Or.inr ⟨i, rfl, by omega, hz, ?_⟩
    have : ccmp (cg cs l) (cg cs (plc f cs)) = 0 := by rw [ccmp_GC.2.2.2 _ _ _ c0, ccmp_GC.2.1 (cg cs (plc f cs)) f, hz.2]; rfl
    rw [← el, h.inj hl hz.1 this]
