section QTA
/-! A: the pure state: t owners there, g parents (g 0 = 0), l limits, a used, w waiting, v reservations there, h holders, b left -/
def qt_u {α : Type} (f : Nat → α) (k : Nat) (x : α) : Nat → α := fun j => if j = k then x else f j
theorem qt_us {α : Type} {f : Nat → α} {k : Nat} {x : α} : qt_u f k x k = x := if_pos rfl
theorem qt_un {α : Type} {f : Nat → α} {k j : Nat} {x : α} (h : j ≠ k) : qt_u f k x j = f j := if_neg h
theorem qt_uu {α : Type} {f : Nat → α} {k : Nat} {x y : α} : qt_u (qt_u f k x) k y = qt_u f k y := by
  funext j
  by_cases e : j = k
  · rw [e, qt_us, qt_us]
  · rw [qt_un e, qt_un e, qt_un e]
theorem qt_ue {α : Type} {f : Nat → α} {k : Nat} {x : α} (h : f k = x) : qt_u f k x = f := by
  funext j
  by_cases e : j = k
  · rw [e, qt_us, h]
  · rw [qt_un e]
def qt_N (f : Nat → Nat) : Nat → Int32 := fun p => nI (f p)
def qt_B (t : Nat → Bool) : Nat → Int32 := fun p => if t p = true then 1 else 0
def qt_U (g : Nat → Nat) : Nat → Int32 := fun p => if p = 0 then -1 else nI (g p)
def qt_Z (v : Nat → Bool) (h : Nat → Nat) : Nat → Int32 := fun r => if v r = true then nI (h r + 1) else 0
theorem qt_uN (f : Nat → Nat) (k x : Nat) : upd (qt_N f) k (nI x) = qt_N (qt_u f k x) := by
  funext j
  by_cases e : j = k
  · simp only [upd, qt_N, qt_u, if_pos e]
  · simp only [upd, qt_N, qt_u, if_neg e]
theorem qt_uB1 (t : Nat → Bool) (k : Nat) : upd (qt_B t) k 1 = qt_B (qt_u t k true) := by
  funext j
  by_cases e : j = k
  · simp only [upd, qt_B, qt_u, if_pos e, if_true]
  · simp only [upd, qt_B, qt_u, if_neg e]
theorem qt_uB0 (t : Nat → Bool) (k : Nat) : upd (qt_B t) k 0 = qt_B (qt_u t k false) := by
  funext j
  by_cases e : j = k
  · simp [upd, qt_B, qt_u, e]
  · simp only [upd, qt_B, qt_u, if_neg e]
theorem qt_uU (g : Nat → Nat) {k : Nat} (hk : k ≠ 0) (x : Nat) : upd (qt_U g) k (nI x) = qt_U (qt_u g k x) := by
  funext j
  by_cases e : j = k
  · have z : j ≠ 0 := fun z => hk (e.symm.trans z)
    simp only [upd, qt_U, qt_u, if_pos e, if_neg z]
  · simp only [upd, qt_U, qt_u, if_neg e]
theorem qt_uZ1 (v : Nat → Bool) (h : Nat → Nat) (k x : Nat) : upd (qt_Z v h) k (nI (x + 1)) = qt_Z (qt_u v k true) (qt_u h k x) := by
  funext j
  by_cases e : j = k
  · simp only [upd, qt_Z, qt_u, if_pos e, if_true]
  · simp only [upd, qt_Z, qt_u, if_neg e]
theorem qt_uZ0 (v : Nat → Bool) (h : Nat → Nat) (k : Nat) : upd (qt_Z v h) k 0 = qt_Z (qt_u v k false) h := by
  funext j
  by_cases e : j = k
  · simp [upd, qt_Z, qt_u, e]
  · simp only [upd, qt_Z, qt_u, if_neg e]
/-! B: the way up -/
def qt_it (g : Nat → Nat) : Nat → Nat → Nat
  | 0, p => p
  | k + 1, p => qt_it g k (g p)
def qt_R (g : Nat → Nat) (p o : Nat) : Prop := ∃ k, qt_it g k p = o
def qt_ex (g : Nat → Nat) (c : Nat → Bool) : Nat → Nat → Bool
  | 0, _ => false
  | n + 1, p => if c p = true then true else if p = 0 then false else qt_ex g c n (g p)
def qt_is (o : Nat) : Nat → Bool := fun x => decide (x = o)
def qt_ub (g : Nat → Nat) (p o : Nat) : Bool := qt_ex g (qt_is o) 12 p
def qt_F (t : Nat → Bool) (g : Nat → Nat) : Prop :=
  t 0 = true ∧ g 0 = 0 ∧ (∀ p, p < 12 → t p = true → g p < 12 ∧ t (g p) = true) ∧ ∃ d : Nat → Nat, ∀ p, p < 12 → t p = true → p ≠ 0 → d (g p) < d p
theorem qt_it0 {g : Nat → Nat} (h0 : g 0 = 0) : ∀ k, qt_it g k 0 = 0 := by
  intro k
  induction k with
  | zero => rfl
  | succ k ih => show qt_it g k (g 0) = 0; rw [h0]; exact ih
theorem qt_it_add (g : Nat → Nat) : ∀ i j p, qt_it g (i + j) p = qt_it g j (qt_it g i p) := by
  intro i
  induction i with
  | zero => intro j p; rw [Nat.zero_add]; rfl
  | succ i ih => intro j p; rw [show i + 1 + j = (i + j) + 1 by omega]; exact ih j (g p)
theorem qt_itS (g : Nat → Nat) (k p : Nat) : qt_it g (k + 1) p = g (qt_it g k p) := qt_it_add g k 1 p
theorem qt_ex_iff {g : Nat → Nat} (h0 : g 0 = 0) (c : Nat → Bool) : ∀ n p, qt_ex g c n p = true ↔ ∃ k, k < n ∧ c (qt_it g k p) = true := by
  intro n
  induction n with
  | zero => intro p; exact ⟨fun h => absurd h (by simp [qt_ex]), fun ⟨k, hk, _⟩ => absurd hk (Nat.not_lt_zero k)⟩
  | succ n ih =>
    intro p
    rw [qt_ex]
    by_cases e : c p = true
    · rw [if_pos e]; exact ⟨fun _ => ⟨0, by omega, e⟩, fun _ => rfl⟩
    · rw [if_neg e]
      by_cases z : p = 0
      · rw [if_pos z]
        refine ⟨fun h => absurd h (by decide), fun ⟨k, _, hk⟩ => ?_⟩
        rw [z, qt_it0 h0] at hk
        rw [z] at e
        exact absurd hk e
      · rw [if_neg z, ih]
        constructor
        · intro ⟨k, hk, e2⟩; exact ⟨k + 1, by omega, e2⟩
        · intro ⟨k, hk, e2⟩
          cases k with
          | zero => exact absurd e2 e
          | succ k => exact ⟨k, by omega, e2⟩
theorem qt_pg : ∀ (n : Nat) (f : Nat → Nat), (∀ i, i ≤ n → f i < n) → ∃ i j, i < j ∧ j ≤ n ∧ f i = f j := by
  intro n
  induction n with
  | zero => intro f h; exact absurd (h 0 (Nat.le_refl 0)) (Nat.not_lt_zero _)
  | succ n ih =>
    intro f h
    by_cases c : ∃ i, i ≤ n ∧ f i = f (n + 1)
    · obtain ⟨i, hi, e⟩ := c
      exact ⟨i, n + 1, by omega, Nat.le_refl _, e⟩
    · have c' : ∀ i, i ≤ n → f i ≠ f (n + 1) := fun i hi e => c ⟨i, hi, e⟩
      obtain ⟨i, j, hij, hj, e⟩ := ih (fun i => if f i = n then f (n + 1) else f i) (by
        intro i hi
        have h1 := h i (by omega)
        have h2 := h (n + 1) (by omega)
        have h3 := c' i hi
        show (if f i = n then f (n + 1) else f i) < n
        by_cases z : f i = n
        · rw [if_pos z]; omega
        · rw [if_neg z]; omega)
      have e' : (if f i = n then f (n + 1) else f i) = (if f j = n then f (n + 1) else f j) := e
      have hi' := c' i (by omega)
      have hj' := c' j hj
      refine ⟨i, j, hij, by omega, ?_⟩
      by_cases zi : f i = n
      · by_cases zj : f j = n
        · omega
        · rw [if_pos zi, if_neg zj] at e'; exact absurd e'.symm hj'
      · by_cases zj : f j = n
        · rw [if_neg zi, if_pos zj] at e'; exact absurd e' hi'
        · rw [if_neg zi, if_neg zj] at e'; exact e'
theorem qt_ch {t : Nat → Bool} {g : Nat → Nat} (F : qt_F t g) {p : Nat} (hp : p < 12) (tp : t p = true) : ∀ k, qt_it g k p < 12 ∧ t (qt_it g k p) = true := by
  intro k
  induction k with
  | zero => exact ⟨hp, tp⟩
  | succ k ih => rw [qt_itS]; exact F.2.2.1 _ ih.1 ih.2
theorem qt_reach {t : Nat → Bool} {g : Nat → Nat} (F : qt_F t g) {p : Nat} (hp : p < 12) (tp : t p = true) : ∃ k, k ≤ 11 ∧ qt_it g k p = 0 := by
  apply Classical.byContradiction
  intro hn
  have nz : ∀ k, k ≤ 11 → qt_it g k p ≠ 0 := fun k hk e => hn ⟨k, hk, e⟩
  obtain ⟨d, hd⟩ := F.2.2.2
  have dec : ∀ k, k ≤ 11 → d (qt_it g (k + 1) p) < d (qt_it g k p) := by
    intro k hk
    rw [qt_itS]
    have c := qt_ch F hp tp k
    exact hd _ c.1 c.2 (nz k hk)
  have dlt : ∀ m i, i + m + 1 ≤ 12 → d (qt_it g (i + m + 1) p) < d (qt_it g i p) := by
    intro m
    induction m with
    | zero => intro i hi; exact dec i (by omega)
    | succ m ih => intro i hi; exact Nat.lt_trans (dec (i + m + 1) (by omega)) (ih i (by omega))
  obtain ⟨i, j, hij, hj, e⟩ := qt_pg 11 (fun k => qt_it g k p - 1) (by
    intro k hk
    have c := (qt_ch F hp tp k).1
    have z := nz k hk
    show qt_it g k p - 1 < 11
    omega)
  have e' : qt_it g i p - 1 = qt_it g j p - 1 := e
  have zi := nz i (by omega)
  have zj := nz j hj
  have e2 : qt_it g i p = qt_it g j p := by omega
  have l := dlt (j - i - 1) i (by omega)
  rw [show i + (j - i - 1) + 1 = j by omega, e2] at l
  exact Nat.lt_irrefl _ l
theorem qt_chain {t : Nat → Bool} {g : Nat → Nat} (F : qt_F t g) {p o : Nat} (hp : p < 12) (tp : t p = true) (h : qt_R g p o) : ∃ k, k < 12 ∧ qt_it g k p = o := by
  obtain ⟨k, e⟩ := h
  by_cases c : k < 12
  · exact ⟨k, c, e⟩
  · obtain ⟨k0, h0, e0⟩ := qt_reach F hp tp
    have z : qt_it g k p = 0 := by
      rw [show k = k0 + (k - k0) by omega, qt_it_add, e0, qt_it0 F.2.1]
    exact ⟨k0, by omega, e0.trans (z.symm.trans e)⟩
theorem qt_exR {t : Nat → Bool} {g : Nat → Nat} (F : qt_F t g) {p : Nat} (hp : p < 12) (tp : t p = true) (c : Nat → Bool) {n : Nat} (hn : 12 ≤ n) : qt_ex g c n p = true ↔ ∃ q, qt_R g p q ∧ c q = true := by
  rw [qt_ex_iff F.2.1]
  constructor
  · intro ⟨k, _, e⟩; exact ⟨_, ⟨k, rfl⟩, e⟩
  · intro ⟨q, r, e⟩
    obtain ⟨k, hk, ek⟩ := qt_chain F hp tp r
    exact ⟨k, by omega, by rw [ek]; exact e⟩
theorem qt_ub_iff {t : Nat → Bool} {g : Nat → Nat} (F : qt_F t g) {p : Nat} (hp : p < 12) (tp : t p = true) (o : Nat) : qt_ub g p o = true ↔ qt_R g p o := by
  unfold qt_ub
  rw [qt_exR F hp tp (qt_is o) (Nat.le_refl 12)]
  constructor
  · intro ⟨q, r, e⟩
    have e' : q = o := of_decide_eq_true e
    rw [← e']; exact r
  · intro r; exact ⟨o, r, decide_eq_true rfl⟩
theorem qt_ub13 {t : Nat → Bool} {g : Nat → Nat} (F : qt_F t g) {p : Nat} (hp : p < 12) (tp : t p = true) (o : Nat) : qt_ex g (qt_is o) 13 p = qt_ub g p o := by
  apply Bool.eq_iff_iff.mpr
  rw [qt_ub, qt_exR F hp tp (qt_is o) (Nat.le_refl 12), qt_exR F hp tp (qt_is o) (by omega : 12 ≤ 13)]
theorem qt_Rr (g : Nat → Nat) (p : Nat) : qt_R g p p := ⟨0, rfl⟩
theorem qt_Rt {g : Nat → Nat} {p q o : Nat} (h : qt_R g p q) (h' : qt_R g q o) : qt_R g p o := by
  obtain ⟨i, ei⟩ := h
  obtain ⟨j, ej⟩ := h'
  exact ⟨i + j, by rw [qt_it_add, ei, ej]⟩
theorem qt_Rl {g : Nat → Nat} {p q o : Nat} (h : qt_R g p q) (h' : qt_R g p o) : qt_R g q o ∨ qt_R g o q := by
  obtain ⟨i, ei⟩ := h
  obtain ⟨j, ej⟩ := h'
  by_cases c : i ≤ j
  · left
    exact ⟨j - i, by rw [← ei, ← qt_it_add, show i + (j - i) = j by omega, ej]⟩
  · right
    exact ⟨i - j, by rw [← ej, ← qt_it_add, show j + (i - j) = i by omega, ei]⟩
theorem qt_R0 {t : Nat → Bool} {g : Nat → Nat} (F : qt_F t g) {p : Nat} (hp : p < 12) (tp : t p = true) : qt_R g p 0 := by
  obtain ⟨k, _, e⟩ := qt_reach F hp tp
  exact ⟨k, e⟩
theorem qt_Rp {t : Nat → Bool} {g : Nat → Nat} (F : qt_F t g) {p q : Nat} (hp : p < 12) (tp : t p = true) (h : qt_R g p q) : q < 12 ∧ t q = true := by
  obtain ⟨k, e⟩ := h
  rw [← e]; exact qt_ch F hp tp k
end QTA
