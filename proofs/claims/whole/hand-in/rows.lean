section
section QTA
/-! A: the pure state: t owners there, g parents (g 0 = 0), l limits, a used, w waiting, v reservations there, h holders, b left -/
def qt_u {α : Type} (f : Nat → α) (k : Nat) (x : α) : Nat → α := fun j => if j = k then x else f j
theorem qt_us {α : Type} {f : Nat → α} {k : Nat} {x : α} : qt_u f k x k = x := if_pos rfl
theorem qt_un {α : Type} {f : Nat → α} {k j : Nat} {x : α} (h : j ≠ k) : qt_u f k x j = f j := if_neg h
theorem qt_uu {α : Type} {f : Nat → α} {k : Nat} {x y : α} : qt_u (qt_u f k x) k y = qt_u f k y := by
  funext j
  by_cases e : j = k
  · rw [e, qt_us, qt_us]
  · rw [qt_un e, qt_un e, qt_un e]
theorem qt_ue {α : Type} {f : Nat → α} {k : Nat} {x : α} (h : f k = x) : qt_u f k x = f := by
  funext j
  by_cases e : j = k
  · rw [e, qt_us, h]
  · rw [qt_un e]
def qt_N (f : Nat → Nat) : Nat → Int32 := fun p => nI (f p)
def qt_B (t : Nat → Bool) : Nat → Int32 := fun p => if t p = true then 1 else 0
def qt_U (g : Nat → Nat) : Nat → Int32 := fun p => if p = 0 then -1 else nI (g p)
def qt_Z (v : Nat → Bool) (h : Nat → Nat) : Nat → Int32 := fun r => if v r = true then nI (h r + 1) else 0
theorem qt_uN (f : Nat → Nat) (k x : Nat) : upd (qt_N f) k (nI x) = qt_N (qt_u f k x) := by
  funext j
  by_cases e : j = k
  · simp only [upd, qt_N, qt_u, if_pos e]
  · simp only [upd, qt_N, qt_u, if_neg e]
theorem qt_uB1 (t : Nat → Bool) (k : Nat) : upd (qt_B t) k 1 = qt_B (qt_u t k true) := by
  funext j
  by_cases e : j = k
  · simp only [upd, qt_B, qt_u, if_pos e, if_true]
  · simp only [upd, qt_B, qt_u, if_neg e]
theorem qt_uB0 (t : Nat → Bool) (k : Nat) : upd (qt_B t) k 0 = qt_B (qt_u t k false) := by
  funext j
  by_cases e : j = k
  · simp [upd, qt_B, qt_u, e]
  · simp only [upd, qt_B, qt_u, if_neg e]
theorem qt_uU (g : Nat → Nat) {k : Nat} (hk : k ≠ 0) (x : Nat) : upd (qt_U g) k (nI x) = qt_U (qt_u g k x) := by
  funext j
  by_cases e : j = k
  · have z : j ≠ 0 := fun z => hk (e.symm.trans z)
    simp only [upd, qt_U, qt_u, if_pos e, if_neg z]
  · simp only [upd, qt_U, qt_u, if_neg e]
theorem qt_uZ1 (v : Nat → Bool) (h : Nat → Nat) (k x : Nat) : upd (qt_Z v h) k (nI (x + 1)) = qt_Z (qt_u v k true) (qt_u h k x) := by
  funext j
  by_cases e : j = k
  · simp only [upd, qt_Z, qt_u, if_pos e, if_true]
  · simp only [upd, qt_Z, qt_u, if_neg e]
theorem qt_uZ0 (v : Nat → Bool) (h : Nat → Nat) (k : Nat) : upd (qt_Z v h) k 0 = qt_Z (qt_u v k false) h := by
  funext j
  by_cases e : j = k
  · simp [upd, qt_Z, qt_u, e]
  · simp only [upd, qt_Z, qt_u, if_neg e]
/-! B: the way up -/
def qt_it (g : Nat → Nat) : Nat → Nat → Nat
  | 0, p => p
  | k + 1, p => qt_it g k (g p)
def qt_R (g : Nat → Nat) (p o : Nat) : Prop := ∃ k, qt_it g k p = o
def qt_ex (g : Nat → Nat) (c : Nat → Bool) : Nat → Nat → Bool
  | 0, _ => false
  | n + 1, p => if c p = true then true else if p = 0 then false else qt_ex g c n (g p)
def qt_is (o : Nat) : Nat → Bool := fun x => decide (x = o)
def qt_ub (g : Nat → Nat) (p o : Nat) : Bool := qt_ex g (qt_is o) 12 p
def qt_F (t : Nat → Bool) (g : Nat → Nat) : Prop :=
  t 0 = true ∧ g 0 = 0 ∧ (∀ p, p < 12 → t p = true → g p < 12 ∧ t (g p) = true) ∧ ∃ d : Nat → Nat, ∀ p, p < 12 → t p = true → p ≠ 0 → d (g p) < d p
theorem qt_it0 {g : Nat → Nat} (h0 : g 0 = 0) : ∀ k, qt_it g k 0 = 0 := by
  intro k
  induction k with
  | zero => rfl
  | succ k ih => show qt_it g k (g 0) = 0; rw [h0]; exact ih
theorem qt_it_add (g : Nat → Nat) : ∀ i j p, qt_it g (i + j) p = qt_it g j (qt_it g i p) := by
  intro i
  induction i with
  | zero => intro j p; rw [Nat.zero_add]; rfl
  | succ i ih => intro j p; rw [show i + 1 + j = (i + j) + 1 by omega]; exact ih j (g p)
theorem qt_itS (g : Nat → Nat) (k p : Nat) : qt_it g (k + 1) p = g (qt_it g k p) := qt_it_add g k 1 p
theorem qt_ex_iff {g : Nat → Nat} (h0 : g 0 = 0) (c : Nat → Bool) : ∀ n p, qt_ex g c n p = true ↔ ∃ k, k < n ∧ c (qt_it g k p) = true := by
  intro n
  induction n with
  | zero => intro p; exact ⟨fun h => absurd h (by simp [qt_ex]), fun ⟨k, hk, _⟩ => absurd hk (Nat.not_lt_zero k)⟩
  | succ n ih =>
    intro p
    rw [qt_ex]
    by_cases e : c p = true
    · rw [if_pos e]; exact ⟨fun _ => ⟨0, by omega, e⟩, fun _ => rfl⟩
    · rw [if_neg e]
      by_cases z : p = 0
      · rw [if_pos z]
        refine ⟨fun h => absurd h (by decide), fun ⟨k, _, hk⟩ => ?_⟩
        rw [z, qt_it0 h0] at hk
        rw [z] at e
        exact absurd hk e
      · rw [if_neg z, ih]
        constructor
        · intro ⟨k, hk, e2⟩; exact ⟨k + 1, by omega, e2⟩
        · intro ⟨k, hk, e2⟩
          cases k with
          | zero => exact absurd e2 e
          | succ k => exact ⟨k, by omega, e2⟩
theorem qt_pg : ∀ (n : Nat) (f : Nat → Nat), (∀ i, i ≤ n → f i < n) → ∃ i j, i < j ∧ j ≤ n ∧ f i = f j := by
  intro n
  induction n with
  | zero => intro f h; exact absurd (h 0 (Nat.le_refl 0)) (Nat.not_lt_zero _)
  | succ n ih =>
    intro f h
    by_cases c : ∃ i, i ≤ n ∧ f i = f (n + 1)
    · obtain ⟨i, hi, e⟩ := c
      exact ⟨i, n + 1, by omega, Nat.le_refl _, e⟩
    · have c' : ∀ i, i ≤ n → f i ≠ f (n + 1) := fun i hi e => c ⟨i, hi, e⟩
      obtain ⟨i, j, hij, hj, e⟩ := ih (fun i => if f i = n then f (n + 1) else f i) (by
        intro i hi
        have h1 := h i (by omega)
        have h2 := h (n + 1) (by omega)
        have h3 := c' i hi
        show (if f i = n then f (n + 1) else f i) < n
        by_cases z : f i = n
        · rw [if_pos z]; omega
        · rw [if_neg z]; omega)
      have e' : (if f i = n then f (n + 1) else f i) = (if f j = n then f (n + 1) else f j) := e
      have hi' := c' i (by omega)
      have hj' := c' j hj
      refine ⟨i, j, hij, by omega, ?_⟩
      by_cases zi : f i = n
      · by_cases zj : f j = n
        · omega
        · rw [if_pos zi, if_neg zj] at e'; exact absurd e'.symm hj'
      · by_cases zj : f j = n
        · rw [if_neg zi, if_pos zj] at e'; exact absurd e' hi'
        · rw [if_neg zi, if_neg zj] at e'; exact e'
theorem qt_ch {t : Nat → Bool} {g : Nat → Nat} (F : qt_F t g) {p : Nat} (hp : p < 12) (tp : t p = true) : ∀ k, qt_it g k p < 12 ∧ t (qt_it g k p) = true := by
  intro k
  induction k with
  | zero => exact ⟨hp, tp⟩
  | succ k ih => rw [qt_itS]; exact F.2.2.1 _ ih.1 ih.2
theorem qt_reach {t : Nat → Bool} {g : Nat → Nat} (F : qt_F t g) {p : Nat} (hp : p < 12) (tp : t p = true) : ∃ k, k ≤ 11 ∧ qt_it g k p = 0 := by
  apply Classical.byContradiction
  intro hn
  have nz : ∀ k, k ≤ 11 → qt_it g k p ≠ 0 := fun k hk e => hn ⟨k, hk, e⟩
  obtain ⟨d, hd⟩ := F.2.2.2
  have dec : ∀ k, k ≤ 11 → d (qt_it g (k + 1) p) < d (qt_it g k p) := by
    intro k hk
    rw [qt_itS]
    have c := qt_ch F hp tp k
    exact hd _ c.1 c.2 (nz k hk)
  have dlt : ∀ m i, i + m + 1 ≤ 12 → d (qt_it g (i + m + 1) p) < d (qt_it g i p) := by
    intro m
    induction m with
    | zero => intro i hi; exact dec i (by omega)
    | succ m ih => intro i hi; exact Nat.lt_trans (dec (i + m + 1) (by omega)) (ih i (by omega))
  obtain ⟨i, j, hij, hj, e⟩ := qt_pg 11 (fun k => qt_it g k p - 1) (by
    intro k hk
    have c := (qt_ch F hp tp k).1
    have z := nz k hk
    show qt_it g k p - 1 < 11
    omega)
  have e' : qt_it g i p - 1 = qt_it g j p - 1 := e
  have zi := nz i (by omega)
  have zj := nz j hj
  have e2 : qt_it g i p = qt_it g j p := by omega
  have l := dlt (j - i - 1) i (by omega)
  rw [show i + (j - i - 1) + 1 = j by omega, e2] at l
  exact Nat.lt_irrefl _ l
theorem qt_chain {t : Nat → Bool} {g : Nat → Nat} (F : qt_F t g) {p o : Nat} (hp : p < 12) (tp : t p = true) (h : qt_R g p o) : ∃ k, k < 12 ∧ qt_it g k p = o := by
  obtain ⟨k, e⟩ := h
  by_cases c : k < 12
  · exact ⟨k, c, e⟩
  · obtain ⟨k0, h0, e0⟩ := qt_reach F hp tp
    have z : qt_it g k p = 0 := by
      rw [show k = k0 + (k - k0) by omega, qt_it_add, e0, qt_it0 F.2.1]
    exact ⟨k0, by omega, e0.trans (z.symm.trans e)⟩
theorem qt_exR {t : Nat → Bool} {g : Nat → Nat} (F : qt_F t g) {p : Nat} (hp : p < 12) (tp : t p = true) (c : Nat → Bool) {n : Nat} (hn : 12 ≤ n) : qt_ex g c n p = true ↔ ∃ q, qt_R g p q ∧ c q = true := by
  rw [qt_ex_iff F.2.1]
  constructor
  · intro ⟨k, _, e⟩; exact ⟨_, ⟨k, rfl⟩, e⟩
  · intro ⟨q, r, e⟩
    obtain ⟨k, hk, ek⟩ := qt_chain F hp tp r
    exact ⟨k, by omega, by rw [ek]; exact e⟩
theorem qt_ub_iff {t : Nat → Bool} {g : Nat → Nat} (F : qt_F t g) {p : Nat} (hp : p < 12) (tp : t p = true) (o : Nat) : qt_ub g p o = true ↔ qt_R g p o := by
  unfold qt_ub
  rw [qt_exR F hp tp (qt_is o) (Nat.le_refl 12)]
  constructor
  · intro ⟨q, r, e⟩
    have e' : q = o := of_decide_eq_true e
    rw [← e']; exact r
  · intro r; exact ⟨o, r, decide_eq_true rfl⟩
theorem qt_ub13 {t : Nat → Bool} {g : Nat → Nat} (F : qt_F t g) {p : Nat} (hp : p < 12) (tp : t p = true) (o : Nat) : qt_ex g (qt_is o) 13 p = qt_ub g p o := by
  apply Bool.eq_iff_iff.mpr
  rw [qt_ub, qt_exR F hp tp (qt_is o) (Nat.le_refl 12), qt_exR F hp tp (qt_is o) (by omega : 12 ≤ 13)]
theorem qt_Rr (g : Nat → Nat) (p : Nat) : qt_R g p p := ⟨0, rfl⟩
theorem qt_Rt {g : Nat → Nat} {p q o : Nat} (h : qt_R g p q) (h' : qt_R g q o) : qt_R g p o := by
  obtain ⟨i, ei⟩ := h
  obtain ⟨j, ej⟩ := h'
  exact ⟨i + j, by rw [qt_it_add, ei, ej]⟩
theorem qt_Rl {g : Nat → Nat} {p q o : Nat} (h : qt_R g p q) (h' : qt_R g p o) : qt_R g q o ∨ qt_R g o q := by
  obtain ⟨i, ei⟩ := h
  obtain ⟨j, ej⟩ := h'
  by_cases c : i ≤ j
  · left
    exact ⟨j - i, by rw [← ei, ← qt_it_add, show i + (j - i) = j by omega, ej]⟩
  · right
    exact ⟨i - j, by rw [← ej, ← qt_it_add, show j + (i - j) = i by omega, ei]⟩
theorem qt_R0 {t : Nat → Bool} {g : Nat → Nat} (F : qt_F t g) {p : Nat} (hp : p < 12) (tp : t p = true) : qt_R g p 0 := by
  obtain ⟨k, _, e⟩ := qt_reach F hp tp
  exact ⟨k, e⟩
theorem qt_Rp {t : Nat → Bool} {g : Nat → Nat} (F : qt_F t g) {p q : Nat} (hp : p < 12) (tp : t p = true) (h : qt_R g p q) : q < 12 ∧ t q = true := by
  obtain ⟨k, e⟩ := h
  rw [← e]; exact qt_ch F hp tp k
end QTA
end
section
section QTB
/-! C: sums and totals -/
def qt_S (f : Nat → Nat) : Nat → Nat
  | 0 => 0
  | n + 1 => qt_S f n + f n
theorem qt_S_c {f f' : Nat → Nat} : ∀ n, (∀ i, i < n → f i = f' i) → qt_S f n = qt_S f' n := by
  intro n
  induction n with
  | zero => intro _; rfl
  | succ n ih => intro h; show qt_S f n + f n = qt_S f' n + f' n; rw [ih (fun i hi => h i (by omega)), h n (by omega)]
theorem qt_S_le {f f' : Nat → Nat} : ∀ n, (∀ i, i < n → f i ≤ f' i) → qt_S f n ≤ qt_S f' n := by
  intro n
  induction n with
  | zero => intro _; exact Nat.le_refl _
  | succ n ih => intro h; exact Nat.add_le_add (ih (fun i hi => h i (by omega))) (h n (by omega))
theorem qt_S_add (f f' : Nat → Nat) : ∀ n, qt_S (fun i => f i + f' i) n = qt_S f n + qt_S f' n := by
  intro n
  induction n with
  | zero => rfl
  | succ n ih => show qt_S (fun i => f i + f' i) n + (f n + f' n) = qt_S f n + f n + (qt_S f' n + f' n); rw [ih]; omega
theorem qt_S_1 (f : Nat → Nat) : ∀ n i, i < n → f i ≤ qt_S f n := by
  intro n
  induction n with
  | zero => intro i hi; omega
  | succ n ih =>
    intro i hi
    show f i ≤ qt_S f n + f n
    by_cases e : i = n
    · rw [e]; omega
    · have := ih i (by omega); omega
theorem qt_S_u (f : Nat → Nat) (k x : Nat) : ∀ n, k < n → qt_S (qt_u f k x) n + f k = qt_S f n + x := by
  intro n
  induction n with
  | zero => intro h; omega
  | succ n ih =>
    intro h
    show qt_S (qt_u f k x) n + qt_u f k x n + f k = qt_S f n + f n + x
    by_cases e : n = k
    · rw [← e, qt_us, qt_S_c (f := qt_u f n x) (f' := f) n (fun i hi => qt_un (by omega))]; omega
    · have := ih (by omega)
      rw [qt_un e]; omega
def qt_f1 (t : Nat → Bool) (g a w : Nat → Nat) (o : Nat) : Nat → Nat := fun p => if t p = true ∧ qt_ub g p o = true then a p + w p else 0
def qt_f2 (g : Nat → Nat) (v : Nat → Bool) (h b : Nat → Nat) (o : Nat) : Nat → Nat := fun r => if v r = true ∧ qt_ub g (h r) o = true then b r else 0
def qt_tot (t : Nat → Bool) (g a w : Nat → Nat) (v : Nat → Bool) (h b : Nat → Nat) (o : Nat) : Nat := qt_S (qt_f1 t g a w o) 12 + qt_S (qt_f2 g v h b o) 10
def qt_vb (v : Nat → Bool) (b : Nat → Nat) : Nat → Nat := fun r => if v r = true then b r else 0
def qt_all (a w : Nat → Nat) (v : Nat → Bool) (b : Nat → Nat) : Nat := qt_S (fun p => a p + w p) 12 + qt_S (qt_vb v b) 10
def qt_H (t v : Nat → Bool) (h : Nat → Nat) : Prop := ∀ r, r < 10 → v r = true → h r < 12 ∧ t (h r) = true
def qt_I (t : Nat → Bool) (g l a w : Nat → Nat) (v : Nat → Bool) (h b : Nat → Nat) : Prop :=
  qt_F t g ∧ qt_H t v h ∧ (∀ p, p < 12 → t p = false → a p = 0 ∧ w p = 0) ∧ (∀ p, p < 12 → l p ≤ 1000) ∧ qt_all a w v b ≤ 1000
theorem qt_tot_le (t : Nat → Bool) (g a w : Nat → Nat) (v : Nat → Bool) (h b : Nat → Nat) (o : Nat) : qt_tot t g a w v h b o ≤ qt_all a w v b := by
  refine Nat.add_le_add (qt_S_le 12 fun i _ => ?_) (qt_S_le 10 fun i _ => ?_)
  · show (if t i = true ∧ qt_ub g i o = true then a i + w i else 0) ≤ a i + w i
    by_cases c : t i = true ∧ qt_ub g i o = true
    · rw [if_pos c]; exact Nat.le_refl _
    · rw [if_neg c]; exact Nat.zero_le _
  · show (if v i = true ∧ qt_ub g (h i) o = true then b i else 0) ≤ (if v i = true then b i else 0)
    by_cases c : v i = true
    · rw [if_pos c]
      by_cases c' : qt_ub g (h i) o = true
      · rw [if_pos ⟨c, c'⟩]; exact Nat.le_refl _
      · rw [if_neg (fun z => c' z.2)]; exact Nat.zero_le _
    · rw [if_neg (fun z => c z.1)]; exact Nat.zero_le _
theorem qt_tot0 {t : Nat → Bool} {g l a w : Nat → Nat} {v : Nat → Bool} {h b : Nat → Nat} (I : qt_I t g l a w v h b) : qt_tot t g a w v h b 0 = qt_all a w v b := by
  obtain ⟨F, H, Z, _, _⟩ := I
  show qt_S (qt_f1 t g a w 0) 12 + qt_S (qt_f2 g v h b 0) 10 = qt_S (fun p => a p + w p) 12 + qt_S (qt_vb v b) 10
  rw [qt_S_c (f := qt_f1 t g a w 0) (f' := fun p => a p + w p) 12 ?_, qt_S_c (f := qt_f2 g v h b 0) (f' := qt_vb v b) 10 ?_]
  · intro r hr
    show (if v r = true ∧ qt_ub g (h r) 0 = true then b r else 0) = (if v r = true then b r else 0)
    by_cases c : v r = true
    · have c2 := H r hr c
      rw [if_pos c, if_pos ⟨c, (qt_ub_iff F c2.1 c2.2 0).mpr (qt_R0 F c2.1 c2.2)⟩]
    · rw [if_neg c, if_neg (fun z => c z.1)]
  · intro p hp
    show (if t p = true ∧ qt_ub g p 0 = true then a p + w p else 0) = a p + w p
    by_cases c : t p = true
    · rw [if_pos ⟨c, (qt_ub_iff F hp c 0).mpr (qt_R0 F hp c)⟩]
    · have z := Z p hp (Bool.eq_false_iff.mpr c)
      rw [if_neg (fun y => c y.1), z.1, z.2]
/-- an owner's own share of its total -/
theorem qt_tot_own {t : Nat → Bool} {g a w : Nat → Nat} {v : Nat → Bool} {h b : Nat → Nat} {o : Nat} (F : qt_F t g) (ho : o < 12) (to : t o = true) (z : qt_tot t g a w v h b o = 0) : a o = 0 ∧ w o = 0 := by
  have h1 := qt_S_1 (qt_f1 t g a w o) 12 o ho
  have h2 : qt_S (qt_f1 t g a w o) 12 + qt_S (qt_f2 g v h b o) 10 = 0 := z
  have h3 : qt_f1 t g a w o o = a o + w o := if_pos ⟨to, (qt_ub_iff F ho to o).mpr (qt_Rr g o)⟩
  omega
/-! D: a move -/
theorem qt_mv1 {g : Nat → Nat} {o pa : Nat} : ∀ k x, ¬ qt_R g x o → qt_it (qt_u g o pa) k x = qt_it g k x := by
  intro k
  induction k with
  | zero => intro x _; rfl
  | succ k ih =>
    intro x n
    have hx : x ≠ o := fun e => n (by rw [e]; exact qt_Rr g o)
    show qt_it (qt_u g o pa) k (qt_u g o pa x) = qt_it g k (g x)
    rw [qt_un hx]
    exact ih (g x) (fun ⟨j, ej⟩ => n ⟨j + 1, ej⟩)
theorem qt_mv0 {g : Nat → Nat} {o pa q : Nat} (n : ¬ qt_R g pa o) (hq : qt_R g pa q) : qt_R (qt_u g o pa) o q := by
  obtain ⟨m, em⟩ := hq
  refine ⟨m + 1, ?_⟩
  show qt_it (qt_u g o pa) m (qt_u g o pa o) = q
  rw [qt_us, qt_mv1 m pa n, em]
theorem qt_mvs {g : Nat → Nat} {o pa q p : Nat} (hp : p ≠ o) (h : qt_R (qt_u g o pa) (g p) q) : qt_R (qt_u g o pa) p q := by
  obtain ⟨m, em⟩ := h
  refine ⟨m + 1, ?_⟩
  show qt_it (qt_u g o pa) m (qt_u g o pa p) = q
  rw [qt_un hp, em]
theorem qt_mv2 {g : Nat → Nat} {o pa q : Nat} (n : ¬ qt_R g pa o) (hq : qt_R g pa q) : ∀ k p, qt_it g k p = o → qt_R (qt_u g o pa) p q := by
  intro k
  induction k with
  | zero =>
    intro p e
    have e' : p = o := e
    rw [e']; exact qt_mv0 n hq
  | succ k ih =>
    intro p e
    by_cases c : p = o
    · rw [c]; exact qt_mv0 n hq
    · exact qt_mvs c (ih (g p) e)
theorem qt_mv3 {g : Nat → Nat} {o pa q : Nat} (n : ¬ qt_R g pa o) (hq : qt_R g pa q) : ∀ k p, qt_it g k p = q → qt_R (qt_u g o pa) p q := by
  intro k
  induction k with
  | zero => intro p e; exact ⟨0, e⟩
  | succ k ih =>
    intro p e
    by_cases c : p = o
    · rw [c]; exact qt_mv0 n hq
    · exact qt_mvs c (ih (g p) e)
theorem qt_mv4 {g : Nat → Nat} {o pa q : Nat} : ∀ k p, qt_it (qt_u g o pa) k p = q → qt_R g p q ∨ qt_R g p o := by
  intro k
  induction k with
  | zero => intro p e; exact Or.inl ⟨0, e⟩
  | succ k ih =>
    intro p e
    by_cases c : p = o
    · exact Or.inr ⟨0, c⟩
    · have e' : qt_it (qt_u g o pa) k (qt_u g o pa p) = q := e
      rw [qt_un c] at e'
      rcases ih (g p) e' with ⟨m, em⟩ | ⟨m, em⟩
      · exact Or.inl ⟨m + 1, em⟩
      · exact Or.inr ⟨m + 1, em⟩
theorem qt_mv {g : Nat → Nat} {o pa q : Nat} (n : ¬ qt_R g pa o) (hq : qt_R g pa q) (p : Nat) : qt_R (qt_u g o pa) p q ↔ qt_R g p q ∨ qt_R g p o := by
  constructor
  · intro ⟨k, e⟩; exact qt_mv4 k p e
  · intro h
    rcases h with ⟨k, e⟩ | ⟨k, e⟩
    · exact qt_mv3 n hq k p e
    · exact qt_mv2 n hq k p e
theorem qt_mvp {g : Nat → Nat} {o pa : Nat} (n : ¬ qt_R g pa o) (q : Nat) : qt_R (qt_u g o pa) pa q ↔ qt_R g pa q := by
  constructor
  · intro ⟨k, e⟩; rw [qt_mv1 k pa n] at e; exact ⟨k, e⟩
  · intro ⟨k, e⟩; exact ⟨k, by rw [qt_mv1 k pa n]; exact e⟩
theorem qt_F_mv {t : Nat → Bool} {g : Nat → Nat} {o pa : Nat} (F : qt_F t g) (ho : o < 12) (hz : o ≠ 0) (hpa : pa < 12) (tpa : t pa = true) (n : ¬ qt_R g pa o) : qt_F t (qt_u g o pa) := by
  obtain ⟨d, hd⟩ := F.2.2.2
  refine ⟨F.1, ?_, ?_, fun p => if qt_ub g p o = true then d p + d pa + 1 else d p, ?_⟩
  · rw [qt_un (Ne.symm hz)]; exact F.2.1
  · intro p hp tp
    by_cases c : p = o
    · rw [c, qt_us]; exact ⟨hpa, tpa⟩
    · rw [qt_un c]; exact F.2.2.1 p hp tp
  · intro p hp tp pz
    show (if qt_ub g (qt_u g o pa p) o = true then d (qt_u g o pa p) + d pa + 1 else d (qt_u g o pa p)) < (if qt_ub g p o = true then d p + d pa + 1 else d p)
    by_cases c : p = o
    · rw [c, qt_us, if_neg (fun z => n ((qt_ub_iff F hpa tpa o).mp z)), if_pos ((qt_ub_iff F ho (c ▸ tp) o).mpr (qt_Rr g o))]
      omega
    · rw [qt_un c]
      have x := F.2.2.1 p hp tp
      have y := hd p hp tp pz
      by_cases z : qt_R g (g p) o
      · have z' : qt_R g p o := by
          obtain ⟨k, e⟩ := z
          exact ⟨k + 1, e⟩
        rw [if_pos ((qt_ub_iff F x.1 x.2 o).mpr z), if_pos ((qt_ub_iff F hp tp o).mpr z')]
        omega
      · have z' : ¬ qt_R g p o := by
          intro ⟨k, e⟩
          cases k with
          | zero => exact c e
          | succ k => exact z ⟨k, e⟩
        rw [if_neg (fun q => z ((qt_ub_iff F x.1 x.2 o).mp q)), if_neg (fun q => z' ((qt_ub_iff F hp tp o).mp q))]
        exact y
/-- above the new parent: who is below it after the move -/
theorem qt_mvb {t : Nat → Bool} {g : Nat → Nat} {o pa q x : Nat} (F : qt_F t g) (F' : qt_F t (qt_u g o pa)) (n : ¬ qt_R g pa o) (hq : qt_R g pa q) (hx : x < 12) (tx : t x = true) : (qt_ub (qt_u g o pa) x q = true ↔ (qt_ub g x q = true ∨ qt_ub g x o = true)) := by
  rw [qt_ub_iff F' hx tx, qt_ub_iff F hx tx, qt_ub_iff F hx tx]
  exact qt_mv n hq x
theorem qt_c3 {c c1 c2 : Prop} [Decidable c] [Decidable c1] [Decidable c2] {s : Nat} (h : c ↔ (c1 ∨ c2)) (d : ¬ (c1 ∧ c2)) : (if c then s else 0) = (if c1 then s else 0) + (if c2 then s else 0) := by
  by_cases h1 : c1
  · rw [if_pos (h.mpr (Or.inl h1)), if_pos h1, if_neg (fun h2 => d ⟨h1, h2⟩)]; rfl
  · by_cases h2 : c2
    · rw [if_pos (h.mpr (Or.inr h2)), if_neg h1, if_pos h2]; omega
    · rw [if_neg (fun hc => (h.mp hc).elim h1 h2), if_neg h1, if_neg h2]
theorem qt_c2 {c c1 : Prop} [Decidable c] [Decidable c1] {s : Nat} (h : c ↔ c1) : (if c then s else 0) = (if c1 then s else 0) := by
  by_cases h1 : c1
  · rw [if_pos (h.mpr h1), if_pos h1]
  · rw [if_neg (fun hc => h1 (h.mp hc)), if_neg h1]
theorem qt_mvt1 {t : Nat → Bool} {g a w : Nat → Nat} {v : Nat → Bool} {h b : Nat → Nat} {o pa q : Nat} (F : qt_F t g) (F' : qt_F t (qt_u g o pa)) (H : qt_H t v h) (n : ¬ qt_R g pa o) (hq : qt_R g pa q) (r : qt_R g o q) : qt_tot t (qt_u g o pa) a w v h b q = qt_tot t g a w v h b q := by
  have k : ∀ x, x < 12 → t x = true → (qt_ub (qt_u g o pa) x q = true ↔ qt_ub g x q = true) := by
    intro x hx tx
    rw [qt_mvb F F' n hq hx tx, qt_ub_iff F hx tx, qt_ub_iff F hx tx]
    exact ⟨fun z => z.elim id (fun z => qt_Rt z r), Or.inl⟩
  show qt_S _ 12 + qt_S _ 10 = qt_S _ 12 + qt_S _ 10
  rw [qt_S_c (f := qt_f1 t (qt_u g o pa) a w q) (f' := qt_f1 t g a w q) 12 ?_, qt_S_c (f := qt_f2 (qt_u g o pa) v h b q) (f' := qt_f2 g v h b q) 10 ?_]
  · intro i hi
    exact qt_c2 ⟨fun z => ⟨z.1, (k _ (H i hi z.1).1 (H i hi z.1).2).mp z.2⟩, fun z => ⟨z.1, (k _ (H i hi z.1).1 (H i hi z.1).2).mpr z.2⟩⟩
  · intro i hi
    exact qt_c2 ⟨fun z => ⟨z.1, (k i hi z.1).mp z.2⟩, fun z => ⟨z.1, (k i hi z.1).mpr z.2⟩⟩
theorem qt_mvt2 {t : Nat → Bool} {g a w : Nat → Nat} {v : Nat → Bool} {h b : Nat → Nat} {o pa q : Nat} (F : qt_F t g) (F' : qt_F t (qt_u g o pa)) (H : qt_H t v h) (n : ¬ qt_R g pa o) (hq : qt_R g pa q) (r : ¬ qt_R g o q) : qt_tot t (qt_u g o pa) a w v h b q = qt_tot t g a w v h b q + qt_tot t g a w v h b o := by
  have d : ∀ x, x < 12 → t x = true → ¬ (qt_ub g x q = true ∧ qt_ub g x o = true) := by
    intro x hx tx ⟨z1, z2⟩
    rcases qt_Rl ((qt_ub_iff F hx tx q).mp z1) ((qt_ub_iff F hx tx o).mp z2) with y | y
    · exact n (qt_Rt hq y)
    · exact r y
  have e1 : qt_S (qt_f1 t (qt_u g o pa) a w q) 12 = qt_S (qt_f1 t g a w q) 12 + qt_S (qt_f1 t g a w o) 12 := by
    rw [← qt_S_add]
    refine qt_S_c 12 fun i hi => qt_c3 ⟨fun z => ?_, fun z => ?_⟩ (fun z => d i hi z.1.1 ⟨z.1.2, z.2.2⟩)
    · exact ((qt_mvb F F' n hq hi z.1).mp z.2).elim (fun y => Or.inl ⟨z.1, y⟩) (fun y => Or.inr ⟨z.1, y⟩)
    · exact z.elim (fun y => ⟨y.1, (qt_mvb F F' n hq hi y.1).mpr (Or.inl y.2)⟩) (fun y => ⟨y.1, (qt_mvb F F' n hq hi y.1).mpr (Or.inr y.2)⟩)
  have e2 : qt_S (qt_f2 (qt_u g o pa) v h b q) 10 = qt_S (qt_f2 g v h b q) 10 + qt_S (qt_f2 g v h b o) 10 := by
    rw [← qt_S_add]
    refine qt_S_c 10 fun i hi => qt_c3 ⟨fun z => ?_, fun z => ?_⟩ (fun z => d _ (H i hi z.1.1).1 (H i hi z.1.1).2 ⟨z.1.2, z.2.2⟩)
    · exact ((qt_mvb F F' n hq (H i hi z.1).1 (H i hi z.1).2).mp z.2).elim (fun y => Or.inl ⟨z.1, y⟩) (fun y => Or.inr ⟨z.1, y⟩)
    · exact z.elim (fun y => ⟨y.1, (qt_mvb F F' n hq (H i hi y.1).1 (H i hi y.1).2).mpr (Or.inl y.2)⟩) (fun y => ⟨y.1, (qt_mvb F F' n hq (H i hi y.1).1 (H i hi y.1).2).mpr (Or.inr y.2)⟩)
  show qt_S _ 12 + qt_S _ 10 = (qt_S _ 12 + qt_S _ 10) + (qt_S _ 12 + qt_S _ 10)
  rw [e1, e2]; omega
/-- refused: the set of the reference against the way up of the class -/
theorem qt_ref {t : Nat → Bool} {g l a w : Nat → Nat} {v : Nat → Bool} {h b : Nat → Nat} {o pa : Nat} (F : qt_F t g) (F' : qt_F t (qt_u g o pa)) (H : qt_H t v h) (ho : o < 12) (to : t o = true) (hpa : pa < 12) (tpa : t pa = true) (n : ¬ qt_R g pa o) :
    (∃ p, p < 12 ∧ t p = true ∧ qt_ub (qt_u g o pa) pa p = true ∧ l p < qt_tot t (qt_u g o pa) a w v h b p ∧ qt_tot t g a w v h b p < qt_tot t (qt_u g o pa) a w v h b p)
    ↔ (qt_tot t g a w v h b o ≠ 0 ∧ ∃ p, qt_R g pa p ∧ qt_ub g o p = false ∧ l p < qt_tot t g a w v h b p + qt_tot t g a w v h b o) := by
  constructor
  · intro ⟨p, hp, tp, u, c1, c2⟩
    have hq : qt_R g pa p := (qt_mvp n p).mp ((qt_ub_iff F' hpa tpa p).mp u)
    by_cases r : qt_R g o p
    · rw [qt_mvt1 F F' H n hq r] at c2; exact absurd c2 (Nat.lt_irrefl _)
    · rw [qt_mvt2 F F' H n hq r] at c1 c2
      exact ⟨by omega, p, hq, Bool.eq_false_iff.mpr (fun z => r ((qt_ub_iff F ho to p).mp z)), c1⟩
  · intro ⟨m, p, hq, u, c1⟩
    have r : ¬ qt_R g o p := fun z => Bool.eq_false_iff.mp u ((qt_ub_iff F ho to p).mpr z)
    have x := qt_Rp F hpa tpa hq
    refine ⟨p, x.1, x.2, (qt_ub_iff F' hpa tpa p).mpr ((qt_mvp n p).mpr hq), ?_, ?_⟩
    · rw [qt_mvt2 F F' H n hq r]; exact c1
    · rw [qt_mvt2 F F' H n hq r]; omega
end QTB
end
section
section QTC
/-! E: each call keeps the pure invariant -/
theorem qt_bf {x : Bool} (h : ¬ x = true) : x = false := Bool.eq_false_iff.mpr h
theorem qt_I_0 : qt_I (qt_u (fun _ => false) 0 true) (fun _ => 0) (qt_u (fun _ => 0) 0 1000) (fun _ => 0) (fun _ => 0) (fun _ => false) (fun _ => 0) (fun _ => 0) := by
  refine ⟨⟨qt_us, rfl, ?_, fun _ => 0, ?_⟩, ?_, ?_, ?_, ?_⟩
  · intro p _ _; exact ⟨by show 0 < 12; omega, qt_us⟩
  · intro p _ tp pz
    rw [qt_un pz] at tp
    exact absurd tp (by decide)
  · intro r _ z; exact absurd z Bool.false_ne_true
  · intro p _ _; exact ⟨rfl, rfl⟩
  · intro p _
    by_cases c : p = 0
    · rw [c, qt_us]; exact Nat.le_refl _
    · rw [qt_un c]; exact Nat.zero_le _
  · show qt_S _ 12 + qt_S _ 10 ≤ 1000
    decide
theorem qt_I_add {t : Nat → Bool} {g l a w : Nat → Nat} {v : Nat → Bool} {h b : Nat → Nat} {o pa x : Nat} (I : qt_I t g l a w v h b) (ho : o < 12) (to : t o = false) (hp : pa < 12) (tp : t pa = true) (hx : x ≤ 1000) : qt_I (qt_u t o true) (qt_u g o pa) (qt_u l o x) a w v h b := by
  obtain ⟨⟨t0, g0, gs, d, hd⟩, H, Z, L, A⟩ := I
  have oz : (0 : Nat) ≠ o := by
    intro e; rw [← e, t0] at to; exact absurd to (by decide)
  have ne : ∀ q, t q = true → q ≠ o := by
    intro q tq e; rw [e, to] at tq; exact absurd tq (by decide)
  refine ⟨⟨?_, ?_, ?_, qt_u d o (d pa + 1), ?_⟩, ?_, ?_, ?_, A⟩
  · rw [qt_un oz]; exact t0
  · rw [qt_un oz]; exact g0
  · intro p hp' tp'
    by_cases c : p = o
    · rw [c, qt_us, qt_un (ne pa tp)]; exact ⟨hp, tp⟩
    · rw [qt_un c] at tp' ⊢
      have y := gs p hp' tp'
      rw [qt_un (ne _ y.2)]; exact y
  · intro p hp' tp' pz
    by_cases c : p = o
    · rw [c, qt_us, qt_us, qt_un (ne pa tp)]; omega
    · rw [qt_un c] at tp'
      rw [qt_un c, qt_un c, qt_un (ne _ (gs p hp' tp').2)]
      exact hd p hp' tp' pz
  · intro r hr vr
    have y := H r hr vr
    rw [qt_un (ne _ y.2)]; exact y
  · intro p hp' tp'
    by_cases c : p = o
    · rw [c]; exact Z o ho to
    · rw [qt_un c] at tp'; exact Z p hp' tp'
  · intro p hp'
    by_cases c : p = o
    · rw [c, qt_us]; exact hx
    · rw [qt_un c]; exact L p hp'
def qt_dr (v : Nat → Bool) (h : Nat → Nat) (o n : Nat) : Nat → Bool := fun r => if r < n ∧ h r = o then false else v r
theorem qt_dr_t {v : Nat → Bool} {h : Nat → Nat} {o n r : Nat} (z : qt_dr v h o n r = true) : v r = true ∧ ¬ (r < n ∧ h r = o) := by
  have z' : (if r < n ∧ h r = o then false else v r) = true := z
  by_cases c : r < n ∧ h r = o
  · rw [if_pos c] at z'; exact absurd z' (by decide)
  · rw [if_neg c] at z'; exact ⟨z', c⟩
theorem qt_vb_le {v v' : Nat → Bool} {b : Nat → Nat} (k : ∀ r, v' r = true → v r = true) (r : Nat) : qt_vb v' b r ≤ qt_vb v b r := by
  show (if v' r = true then b r else 0) ≤ (if v r = true then b r else 0)
  by_cases c : v' r = true
  · rw [if_pos c, if_pos (k r c)]; exact Nat.le_refl _
  · rw [if_neg c]; exact Nat.zero_le _
/-- fewer reservations -/
theorem qt_I_few {t : Nat → Bool} {g l a w : Nat → Nat} {v v' : Nat → Bool} {h b : Nat → Nat} (I : qt_I t g l a w v h b) (k : ∀ r, v' r = true → v r = true) : qt_I t g l a w v' h b := by
  obtain ⟨F, H, Z, L, A⟩ := I
  refine ⟨F, fun r hr vr => H r hr (k r vr), Z, L, Nat.le_trans (Nat.add_le_add_left (qt_S_le 10 fun r _ => qt_vb_le k r) _) A⟩
theorem qt_I_rem {t : Nat → Bool} {g l a w : Nat → Nat} {v : Nat → Bool} {h b : Nat → Nat} {o : Nat} (I : qt_I t g l a w v h b) (ho : o < 12) (to : t o = true) (oz : o ≠ 0) (al : ∀ p, p < 12 → t p = true → g p ≠ o) (z : qt_tot t g a w v h b o = 0) : qt_I (qt_u t o false) g l a w (qt_dr v h o 10) h b := by
  have own := qt_tot_own I.1 ho to z
  obtain ⟨⟨t0, g0, gs, d, hd⟩, H, Z, L, A⟩ := qt_I_few (v' := qt_dr v h o 10) I (fun r y => (qt_dr_t y).1)
  have tt : ∀ p, qt_u t o false p = true → t p = true ∧ p ≠ o := by
    intro p y
    by_cases c : p = o
    · rw [c, qt_us] at y; exact absurd y (by decide)
    · rw [qt_un c] at y; exact ⟨y, c⟩
  refine ⟨⟨?_, g0, ?_, d, ?_⟩, ?_, ?_, L, A⟩
  · rw [qt_un (Ne.symm oz)]; exact t0
  · intro p hp tp
    have y := tt p tp
    rw [qt_un (al p hp y.1)]
    exact gs p hp y.1
  · intro p hp tp pz; exact hd p hp (tt p tp).1 pz
  · intro r hr vr
    have y := H r hr vr
    rw [qt_un (fun e => (qt_dr_t vr).2 ⟨hr, e⟩)]; exact y
  · intro p hp tp
    by_cases c : p = o
    · rw [c]; exact own
    · rw [qt_un c] at tp; exact Z p hp tp
theorem qt_I_lim {t : Nat → Bool} {g l a w : Nat → Nat} {v : Nat → Bool} {h b : Nat → Nat} {o x : Nat} (I : qt_I t g l a w v h b) (hx : x ≤ 1000) : qt_I t g (qt_u l o x) a w v h b := by
  obtain ⟨F, H, Z, L, A⟩ := I
  refine ⟨F, H, Z, fun p hp => ?_, A⟩
  by_cases c : p = o
  · rw [c, qt_us]; exact hx
  · rw [qt_un c]; exact L p hp
theorem qt_I_mv {t : Nat → Bool} {g l a w : Nat → Nat} {v : Nat → Bool} {h b : Nat → Nat} {o pa : Nat} (I : qt_I t g l a w v h b) (ho : o < 12) (oz : o ≠ 0) (hp : pa < 12) (tp : t pa = true) (n : ¬ qt_R g pa o) : qt_I t (qt_u g o pa) l a w v h b := by
  obtain ⟨F, H, Z, L, A⟩ := I
  exact ⟨qt_F_mv F ho oz hp tp n, H, Z, L, A⟩
theorem qt_I_res {t : Nat → Bool} {g l a w : Nat → Nat} {v : Nat → Bool} {h b : Nat → Nat} {o r n : Nat} (I : qt_I t g l a w v h b) (ho : o < 12) (to : t o = true) (hr : r < 10) (vr : v r = false) (hn : qt_all a w v b + n ≤ 1000) : qt_I t g l a w (qt_u v r true) (qt_u h r o) (qt_u b r n) := by
  obtain ⟨F, H, Z, L, A⟩ := I
  refine ⟨F, ?_, Z, L, ?_⟩
  · intro i hi vi
    by_cases c : i = r
    · rw [c, qt_us]; exact ⟨ho, to⟩
    · rw [qt_un c] at vi ⊢; exact H i hi vi
  · have e : qt_vb (qt_u v r true) (qt_u b r n) = qt_u (qt_vb v b) r n := by
      funext j
      show (if qt_u v r true j = true then qt_u b r n j else 0) = qt_u (qt_vb v b) r n j
      by_cases c : j = r
      · rw [c, qt_us, qt_us, qt_us, if_pos rfl]
      · rw [qt_un c, qt_un c, qt_un c]; rfl
    have s := qt_S_u (qt_vb v b) r n 10 hr
    have z : qt_vb v b r = 0 := if_neg (by rw [vr]; decide)
    have hn' : qt_S (fun p => a p + w p) 12 + qt_S (qt_vb v b) 10 + n ≤ 1000 := hn
    show qt_S (fun p => a p + w p) 12 + qt_S (qt_vb (qt_u v r true) (qt_u b r n)) 10 ≤ 1000
    rw [e]; omega
theorem qt_I_use {t : Nat → Bool} {g l a w : Nat → Nat} {v : Nat → Bool} {h b : Nat → Nat} {r n : Nat} (I : qt_I t g l a w v h b) (hr : r < 10) (vr : v r = true) (hn : n ≤ b r) : qt_I t g l (qt_u a (h r) (a (h r) + n)) w v h (qt_u b r (b r - n)) := by
  obtain ⟨F, H, Z, L, A⟩ := I
  have y := H r hr vr
  refine ⟨F, H, ?_, L, ?_⟩
  · intro p hp tp
    have c : p ≠ h r := by
      intro c; rw [c, y.2] at tp; exact absurd tp (by decide)
    rw [qt_un c]; exact Z p hp tp
  · have e : qt_vb v (qt_u b r (b r - n)) = qt_u (qt_vb v b) r (b r - n) := by
      funext j
      show (if v j = true then qt_u b r (b r - n) j else 0) = qt_u (qt_vb v b) r (b r - n) j
      by_cases c : j = r
      · rw [c, qt_us, qt_us, if_pos vr]
      · rw [qt_un c, qt_un c]; rfl
    have e' : (fun p => qt_u a (h r) (a (h r) + n) p + w p) = qt_u (fun p => a p + w p) (h r) (a (h r) + n + w (h r)) := by
      funext j
      show qt_u a (h r) (a (h r) + n) j + w j = qt_u (fun p => a p + w p) (h r) (a (h r) + n + w (h r)) j
      by_cases c : j = h r
      · rw [c, qt_us, qt_us]
      · rw [qt_un c, qt_un c]
    have s := qt_S_u (qt_vb v b) r (b r - n) 10 hr
    have s' := qt_S_u (fun p => a p + w p) (h r) (a (h r) + n + w (h r)) 12 y.1
    have z : qt_vb v b r = b r := if_pos vr
    have A' : qt_S (fun p => a p + w p) 12 + qt_S (qt_vb v b) 10 ≤ 1000 := A
    show qt_S (fun p => qt_u a (h r) (a (h r) + n) p + w p) 12 + qt_S (qt_vb v (qt_u b r (b r - n))) 10 ≤ 1000
    rw [e, e']
    omega
theorem qt_I_rel {t : Nat → Bool} {g l a w : Nat → Nat} {v : Nat → Bool} {h b : Nat → Nat} {o n : Nat} (I : qt_I t g l a w v h b) (ho : o < 12) (to : t o = true) (hn : n ≤ a o) : qt_I t g l (qt_u a o (a o - n)) (qt_u w o (w o + n)) v h b := by
  obtain ⟨F, H, Z, L, A⟩ := I
  refine ⟨F, H, ?_, L, ?_⟩
  · intro p hp tp
    have c : p ≠ o := by
      intro c; rw [c, to] at tp; exact absurd tp (by decide)
    rw [qt_un c, qt_un c]; exact Z p hp tp
  · have e : (fun p => qt_u a o (a o - n) p + qt_u w o (w o + n) p) = (fun p => a p + w p) := by
      funext j
      show qt_u a o (a o - n) j + qt_u w o (w o + n) j = a j + w j
      by_cases c : j = o
      · rw [c, qt_us, qt_us]; omega
      · rw [qt_un c, qt_un c]
    show qt_S (fun p => qt_u a o (a o - n) p + qt_u w o (w o + n) p) 12 + qt_S (qt_vb v b) 10 ≤ 1000
    rw [e]; exact A
def qt_fr (t : Nat → Bool) (g w : Nat → Nat) (o n : Nat) : Nat → Nat := fun p => if p < n ∧ t p = true ∧ qt_ub g p o = true then 0 else w p
theorem qt_fr_le (t : Nat → Bool) (g w : Nat → Nat) (o n p : Nat) : qt_fr t g w o n p ≤ w p := by
  show (if p < n ∧ t p = true ∧ qt_ub g p o = true then 0 else w p) ≤ w p
  by_cases c : p < n ∧ t p = true ∧ qt_ub g p o = true
  · rw [if_pos c]; exact Nat.zero_le _
  · rw [if_neg c]; exact Nat.le_refl _
theorem qt_I_fr {t : Nat → Bool} {g l a w : Nat → Nat} {v : Nat → Bool} {h b : Nat → Nat} {o n : Nat} (I : qt_I t g l a w v h b) : qt_I t g l a (qt_fr t g w o n) v h b := by
  obtain ⟨F, H, Z, L, A⟩ := I
  refine ⟨F, H, ?_, L, Nat.le_trans (Nat.add_le_add_right (qt_S_le 12 fun p _ => ?_) _) A⟩
  · intro p hp tp
    have y := Z p hp tp
    have q := qt_fr_le t g w o n p
    exact ⟨y.1, by omega⟩
  · exact Nat.add_le_add_left (qt_fr_le t g w o n p) _
/-! F: bounds out of the invariant -/
theorem qt_I_a {t : Nat → Bool} {g l a w : Nat → Nat} {v : Nat → Bool} {h b : Nat → Nat} (I : qt_I t g l a w v h b) {p : Nat} (hp : p < 12) : a p + w p ≤ 1000 := by
  have s := qt_S_1 (fun p => a p + w p) 12 p hp
  have A : qt_S (fun p => a p + w p) 12 + qt_S (qt_vb v b) 10 ≤ 1000 := I.2.2.2.2
  have s' : a p + w p ≤ qt_S (fun p => a p + w p) 12 := s
  omega
theorem qt_I_b {t : Nat → Bool} {g l a w : Nat → Nat} {v : Nat → Bool} {h b : Nat → Nat} (I : qt_I t g l a w v h b) {r : Nat} (hr : r < 10) (vr : v r = true) : b r ≤ 1000 := by
  have s := qt_S_1 (qt_vb v b) 10 r hr
  have A : qt_S (fun p => a p + w p) 12 + qt_S (qt_vb v b) 10 ≤ 1000 := I.2.2.2.2
  have z : qt_vb v b r = b r := if_pos vr
  omega
theorem qt_I_t {t : Nat → Bool} {g l a w : Nat → Nat} {v : Nat → Bool} {h b : Nat → Nat} (I : qt_I t g l a w v h b) (o : Nat) : qt_tot t g a w v h b o ≤ 1000 := Nat.le_trans (qt_tot_le t g a w v h b o) I.2.2.2.2
/-! G: the first on the way up; the least on the way up and over a set -/
def qt_fi (g : Nat → Nat) (c : Nat → Bool) : Nat → Nat → Int32
  | 0, _ => -1
  | n + 1, p => if c p = true then nI p else if p = 0 then -1 else qt_fi g c n (g p)
theorem qt_fi_ex (g : Nat → Nat) (c : Nat → Bool) : ∀ n p, qt_ex g c n p = false → qt_fi g c n p = -1 := by
  intro n
  induction n with
  | zero => intro p _; rfl
  | succ n ih =>
    intro p e
    rw [qt_ex] at e
    rw [qt_fi]
    by_cases z : c p = true
    · rw [if_pos z] at e; exact absurd e (by decide)
    · rw [if_neg z] at e ⊢
      by_cases y : p = 0
      · rw [if_pos y]
      · rw [if_neg y] at e ⊢; exact ih _ e
theorem qt_fi_is {t : Nat → Bool} {g : Nat → Nat} (F : qt_F t g) (c : Nat → Bool) : ∀ n p, p < 12 → t p = true → qt_ex g c n p = true → ∃ q, q < 12 ∧ qt_fi g c n p = nI q := by
  intro n
  induction n with
  | zero => intro p _ _ e; exact absurd e (by simp [qt_ex])
  | succ n ih =>
    intro p hp tp e
    rw [qt_ex] at e
    rw [qt_fi]
    by_cases z : c p = true
    · rw [if_pos z]; exact ⟨p, hp, rfl⟩
    · rw [if_neg z] at e ⊢
      by_cases y : p = 0
      · rw [if_pos y] at e; exact absurd e (by decide)
      · rw [if_neg y] at e ⊢
        have s := F.2.2.1 p hp tp
        exact ih _ s.1 s.2 e
def qt_mn (g : Nat → Nat) (e : Nat → Int32) : Nat → Nat → Int32 → Int32
  | 0, _, m => m
  | n + 1, p, m => if p = 0 then (if e p < m then e p else m) else qt_mn g e n (g p) (if e p < m then e p else m)
def qt_ml (c : Nat → Bool) (e : Nat → Int32) : Nat → Int32
  | 0 => 1000
  | n + 1 => if (if c n = true then e n else 1000) < qt_ml c e n then (if c n = true then e n else 1000) else qt_ml c e n
theorem qt_min {x m : Int32} : ((if x < m then x else m) = m ∨ (if x < m then x else m) = x) ∧ (if x < m then x else m) ≤ m ∧ (if x < m then x else m) ≤ x := by
  by_cases c : x < m
  · rw [if_pos c]; exact ⟨Or.inr rfl, Int32.le_of_lt c, Int32.le_refl _⟩
  · rw [if_neg c]; exact ⟨Or.inl rfl, Int32.le_refl _, Int32.not_lt.mp c⟩
theorem qt_mn_s {g : Nat → Nat} (h0 : g 0 = 0) (e : Nat → Int32) : ∀ n p m, (qt_mn g e n p m = m ∨ ∃ k, k < n ∧ qt_mn g e n p m = e (qt_it g k p)) ∧ qt_mn g e n p m ≤ m ∧ ∀ k, k < n → qt_mn g e n p m ≤ e (qt_it g k p) := by
  intro n
  induction n with
  | zero => intro p m; exact ⟨Or.inl rfl, Int32.le_refl _, fun k hk => absurd hk (Nat.not_lt_zero k)⟩
  | succ n ih =>
    intro p m
    rw [qt_mn]
    have q := qt_min (x := e p) (m := m)
    by_cases z : p = 0
    · rw [if_pos z]
      refine ⟨q.1.elim Or.inl (fun y => Or.inr ⟨0, by omega, y⟩), q.2.1, fun k _ => ?_⟩
      rw [z, qt_it0 h0, ← z]; exact q.2.2
    · rw [if_neg z]
      obtain ⟨s1, s2, s3⟩ := ih (g p) (if e p < m then e p else m)
      refine ⟨?_, Int32.le_trans s2 q.2.1, fun k hk => ?_⟩
      · rcases s1 with s1 | ⟨k, hk, s1⟩
        · rw [s1]; exact q.1.elim Or.inl (fun y => Or.inr ⟨0, by omega, y⟩)
        · exact Or.inr ⟨k + 1, by omega, s1⟩
      · cases k with
        | zero => exact Int32.le_trans s2 q.2.2
        | succ k => exact s3 k (by omega)
theorem qt_ml_s (c : Nat → Bool) (e : Nat → Int32) : ∀ n, (qt_ml c e n = 1000 ∨ ∃ p, p < n ∧ c p = true ∧ qt_ml c e n = e p) ∧ qt_ml c e n ≤ 1000 ∧ ∀ p, p < n → c p = true → qt_ml c e n ≤ e p := by
  intro n
  induction n with
  | zero => exact ⟨Or.inl rfl, Int32.le_refl _, fun p hp => absurd hp (Nat.not_lt_zero p)⟩
  | succ n ih =>
    obtain ⟨s1, s2, s3⟩ := ih
    have q := qt_min (x := if c n = true then e n else 1000) (m := qt_ml c e n)
    rw [qt_ml]
    refine ⟨?_, Int32.le_trans q.2.1 s2, fun p hp cp => ?_⟩
    · rcases q.1 with y | y
      · rw [y]
        rcases s1 with s1 | ⟨p, hp, cp, s1⟩
        · exact Or.inl s1
        · exact Or.inr ⟨p, by omega, cp, s1⟩
      · rw [y]
        by_cases z : c n = true
        · rw [if_pos z]; exact Or.inr ⟨n, by omega, z, rfl⟩
        · rw [if_neg z]; exact Or.inl rfl
    · by_cases z : p = n
      · have y := q.2.2
        rw [z] at cp ⊢
        rw [if_pos cp] at y ⊢
        exact y
      · exact Int32.le_trans q.2.1 (s3 p (by omega) cp)
theorem qt_room {t : Nat → Bool} {g : Nat → Nat} (F : qt_F t g) {o : Nat} (ho : o < 12) (to : t o = true) (e : Nat → Int32) : qt_ml (fun p => t p && qt_ub g o p) e 12 = qt_mn g e 12 o 1000 := by
  obtain ⟨x1, x2, x3⟩ := qt_mn_s F.2.1 e 12 o 1000
  obtain ⟨y1, y2, y3⟩ := qt_ml_s (fun p => t p && qt_ub g o p) e 12
  have c : ∀ k, qt_it g k o < 12 ∧ (t (qt_it g k o) && qt_ub g o (qt_it g k o)) = true := by
    intro k
    have s := qt_ch F ho to k
    exact ⟨s.1, by rw [s.2, (qt_ub_iff F ho to _).mpr ⟨k, rfl⟩]; rfl⟩
  apply Int32.le_antisymm
  · rcases x1 with x1 | ⟨k, _, x1⟩
    · rw [x1]; exact y2
    · rw [x1]; exact y3 _ (c k).1 (c k).2
  · rcases y1 with y1 | ⟨p, hp, cp, y1⟩
    · rw [y1]; exact x2
    · rw [y1]
      have cp' : (t p && qt_ub g o p) = true := cp
      have u : qt_ub g o p = true := by
        rw [Bool.and_eq_true] at cp'; exact cp'.2
      obtain ⟨k, hk, ek⟩ := qt_chain F ho to ((qt_ub_iff F ho to p).mp u)
      rw [← ek]; exact x3 k hk
end QTC
end
section
section QTD
/-! H: tools between the print and the pure state -/
theorem qt_n1 : vp_nar .boolean 1 = 1 := rfl
theorem qt_n0 : vp_nar .boolean 0 = 0 := rfl
theorem qt_ix (x : Int32) {n : Nat} (hn : n < 2 ^ 31) : x < 0 ∨ nI n ≤ x ∨ ∃ j : Nat, j < n ∧ x = nI j := by
  by_cases h : x < 0
  · exact Or.inl h
  · obtain ⟨j, hj, rfl⟩ := nI_of h
    by_cases h2 : j < n
    · exact Or.inr (Or.inr ⟨j, h2, rfl⟩)
    · exact Or.inr (Or.inl (nI_le (by omega) hj))
theorem qt_cN {f : Nat → Nat} {j : Nat} (h : j < 12) : qt_N f (nI j).toNatClampNeg = nI (f j) := by
  rw [nI_clamp (by omega)]; rfl
theorem qt_cB0 {t : Nat → Bool} {j : Nat} (h : j < 12) (e : t j = false) : qt_B t (nI j).toNatClampNeg = 0 := by
  rw [nI_clamp (by omega)]; exact if_neg (by rw [e]; decide)
theorem qt_cB1 {t : Nat → Bool} {j : Nat} (h : j < 12) (e : t j = true) : ¬ qt_B t (nI j).toNatClampNeg = 0 := by
  rw [nI_clamp (by omega)]
  have k : qt_B t j = 1 := if_pos e
  rw [k]; decide
theorem qt_cU0 {g : Nat → Nat} {j : Nat} (h : j < 12) (e : j = 0) : qt_U g (nI j).toNatClampNeg = -1 := by
  rw [nI_clamp (by omega)]; exact if_pos e
theorem qt_cU1 {g : Nat → Nat} {j : Nat} (h : j < 12) (e : ¬ j = 0) : qt_U g (nI j).toNatClampNeg = nI (g j) := by
  rw [nI_clamp (by omega)]; exact if_neg e
theorem qt_cZ0 {v : Nat → Bool} {h : Nat → Nat} {j : Nat} (hj : j < 12) (e : v j = false) : qt_Z v h (nI j).toNatClampNeg = 0 := by
  rw [nI_clamp (by omega)]; exact if_neg (by rw [e]; decide)
theorem qt_cZ1 {v : Nat → Bool} {h : Nat → Nat} {j : Nat} (hj : j < 12) (e : v j = true) : qt_Z v h (nI j).toNatClampNeg = nI (h j + 1) := by
  rw [nI_clamp (by omega)]; exact if_pos e
theorem qt_uc (f : Nat → Int32) {k : Nat} (hk : k < 12) (x : Int32) : upd f (nI k).toNatClampNeg x = upd f k x := by
  rw [nI_clamp (by omega)]
theorem qt_nm {p : Nat} (h : p < 12) : ¬ nI p = -1 := by
  intro e
  have z : ¬ nI p < 0 := nI_pos (by omega)
  rw [e] at z
  exact z (by decide)
theorem qt_np {p : Nat} (h : p < 12) : ¬ nI p < 0 := nI_pos (by omega)
theorem qt_ne {p o : Nat} (hp : p < 12) (ho : o < 12) (n : ¬ p = o) : ¬ nI p = nI o := fun z => n ((nI_eq (by omega) (by omega)).mp z)
theorem qt_12 {s : Nat} (h : s < 12) : ¬ (12 : Int32) ≤ nI s := nI_ge (b := 12) h (by decide)
theorem qt_10 {s : Nat} (h : s < 10) : ¬ (10 : Int32) ≤ nI s := nI_ge (b := 10) h (by decide)
theorem qt_12e : (12 : Int32) ≤ nI 12 := by decide
theorem qt_10e : (10 : Int32) ≤ nI 10 := by decide
theorem qt_i12 {j : Nat} (h : j < 12) : vp_in (nI j) 12 := vp_in_nI h (by decide)
theorem qt_i10 {j : Nat} (h : j < 10) : vp_in (nI j) 10 := vp_in_nI h (by decide)
def qt_b (x : Bool) : Int32 := if x = true then 1 else 0
theorem qt_b0 {x : Bool} (h : x = false) : qt_b x = 0 := if_neg (by rw [h]; decide)
theorem qt_bb {x : Bool} (h : x = true) : qt_b x = 1 := if_pos h
theorem qt_bn {x : Bool} (h : x = true) : ¬ qt_b x = 0 := by rw [qt_bb h]; decide
/-- a branch over a pure Boolean -/
theorem qt_br {x : Bool} {A B : Prop} (f : x = false → A) (k : x = true → B) : (qt_b x = 0 → A) ∧ (¬ qt_b x = 0 → B) := by
  by_cases e : x = true
  · exact br_f (qt_bn e) (k e)
  · exact br_t (qt_b0 (qt_bf e)) (f (qt_bf e))
theorem qt_brB {t : Nat → Bool} {j : Nat} (h : j < 12) {A B : Prop} (f : t j = false → A) (k : t j = true → B) : (qt_B t (nI j).toNatClampNeg = 0 → A) ∧ (¬ qt_B t (nI j).toNatClampNeg = 0 → B) := by
  by_cases e : t j = true
  · exact br_f (qt_cB1 h e) (k e)
  · exact br_t (qt_cB0 h (qt_bf e)) (f (qt_bf e))
theorem qt_brZ {v : Nat → Bool} {h : Nat → Nat} {j : Nat} (hj : j < 12) (hh : v j = true → h j < 12) {A B : Prop} (f : v j = false → A) (k : v j = true → B) : (qt_Z v h (nI j).toNatClampNeg ≤ 0 → A) ∧ (¬ qt_Z v h (nI j).toNatClampNeg ≤ 0 → B) := by
  by_cases e : v j = true
  · refine br_f ?_ (k e)
    rw [qt_cZ1 hj e]; exact nI_nle (by omega) (by have := hh e; omega)
  · refine br_t ?_ (f (qt_bf e))
    rw [qt_cZ0 hj (qt_bf e)]; decide
theorem qt_brZe {v : Nat → Bool} {h : Nat → Nat} {j : Nat} (hj : j < 12) (hh : v j = true → h j < 12) {A B : Prop} (f : v j = false → A) (k : v j = true → B) : (qt_Z v h (nI j).toNatClampNeg = 0 → A) ∧ (¬ qt_Z v h (nI j).toNatClampNeg = 0 → B) := by
  by_cases e : v j = true
  · refine br_f ?_ (k e)
    rw [qt_cZ1 hj e]; exact nI_ne0 (by omega) (by have := hh e; omega)
  · refine br_t ?_ (f (qt_bf e))
    rw [qt_cZ0 hj (qt_bf e)]
theorem qt_brL {x y : Int32} {A B : Prop} {a b : Nat} (hx : x = nI a) (hy : y = nI b) (ha : a < 2 ^ 31) (hb : b < 2 ^ 31) (f : a ≤ b → A) (k : ¬ a ≤ b → B) : (x ≤ y → A) ∧ (¬ x ≤ y → B) := by
  subst hx hy
  rw [nI_leI ha hb]
  exact ⟨f, k⟩
abbrev qt_X (t : Nat → Bool) (g l a w : Nat → Nat) (v : Nat → Bool) (h b : Nat → Nat) : SX := (qt_B t, qt_U g, qt_N l, qt_N a, qt_N w, qt_B v, qt_N h, qt_N b)
abbrev qt_Y (t : Nat → Bool) (g l a w : Nat → Nat) (v : Nat → Bool) (h b : Nat → Nat) (e : Nat → Int32) : SY := (qt_B t, qt_U g, qt_N l, qt_N a, qt_N w, qt_Z v h, qt_N b, e)
def qt_O (t : Nat → Bool) (x : Int32) : Prop := ∃ o, o < 12 ∧ t o = true ∧ x = nI o
def qt_V (v : Nat → Bool) (x : Int32) : Prop := ∃ r, r < 10 ∧ v r = true ∧ x = nI r
def qt_A (x : Int32) : Prop := ∃ n, n ≤ 1000 ∧ x = nI n
theorem qt_An {x : Int32} (h : ¬ qt_A x) : x < 0 ∨ (¬ x < 0 ∧ 1000 < x) := by
  by_cases h0 : x < 0
  · exact Or.inl h0
  · refine Or.inr ⟨h0, ?_⟩
    obtain ⟨j, hj, e⟩ := nI_of h0
    by_cases c : j ≤ 1000
    · exact absurd ⟨j, c, e⟩ h
    · rw [e]; exact nI_lt (a := 1000) (by omega) hj
theorem qt_An' {n : Nat} (h : n ≤ 1000) : ¬ (1000 : Int32) < nI n := nI_nlt (a := 1000) h (by decide)
end QTD
end
section
section QTE
/-! I: the class, method by method, against the pure state -/
variable {A1 A2 A3 A4 A5 A6 A7 A8 : Nat → Int32}
theorem qt_xO {post : Int32 → Prop} {t : Nat → Bool} {o : Nat} (ho : o < 12) (to : t o = true) (h : post 1) : wpX_isOwner post (qt_B t, A2, A3, A4, A5, A6, A7, A8) (nI o) :=
  br_f (qt_np ho) (br_f (qt_12 ho) ⟨qt_i12 ho, br_f (qt_cB1 ho to) h⟩)
theorem qt_xOn {post : Int32 → Prop} {t : Nat → Bool} {x : Int32} (n : ¬ qt_O t x) (h : post 0) : wpX_isOwner post (qt_B t, A2, A3, A4, A5, A6, A7, A8) x := by
  rcases qt_ix x (n := 12) (by decide) with c | c | ⟨j, hj, e⟩
  · exact br_t c h
  · by_cases c0 : x < 0
    · exact br_t c0 h
    · exact br_f c0 (br_t c h)
  · subst e
    have tj : t j = false := qt_bf (fun z => n ⟨j, hj, z, rfl⟩)
    exact br_f (qt_np hj) (br_f (qt_12 hj) ⟨qt_i12 hj, br_t (qt_cB0 hj tj) h⟩)
theorem qt_xV {post : Int32 → Prop} {v : Nat → Bool} {r : Nat} (hr : r < 10) (vr : v r = true) (h : post 1) : wpX_isReservation post (A1, A2, A3, A4, A5, qt_B v, A7, A8) (nI r) :=
  br_f (qt_np (by omega)) (br_f (qt_10 hr) ⟨qt_i10 hr, br_f (qt_cB1 (by omega) vr) h⟩)
theorem qt_xVn {post : Int32 → Prop} {v : Nat → Bool} {x : Int32} (n : ¬ qt_V v x) (h : post 0) : wpX_isReservation post (A1, A2, A3, A4, A5, qt_B v, A7, A8) x := by
  rcases qt_ix x (n := 10) (by decide) with c | c | ⟨j, hj, e⟩
  · exact br_t c h
  · by_cases c0 : x < 0
    · exact br_t c0 h
    · exact br_f c0 (br_t c h)
  · subst e
    have vj : v j = false := qt_bf (fun z => n ⟨j, hj, z, rfl⟩)
    exact br_f (qt_np (by omega)) (br_f (qt_10 hj) ⟨qt_i10 hj, br_t (qt_cB0 (by omega) vj) h⟩)
theorem qt_xA {post : Int32 → Prop} {n : Nat} (hn : n ≤ 1000) (h : post 1) : wpX_isSpace post (nI n) :=
  br_f (nI_pos (by omega)) (br_f (qt_An' hn) h)
theorem qt_xAn {post : Int32 → Prop} {x : Int32} (n : ¬ qt_A x) (h : post 0) : wpX_isSpace post x := by
  rcases qt_An n with c | ⟨c0, c⟩
  · exact br_t c h
  · exact br_f c0 (br_t c h)
/-! at or below -/
theorem qt_xU5 {post : Int32 → Prop} {t : Nat → Bool} {g : Nat → Nat} {o : Nat} (F : qt_F t g) (ho : o < 12) : ∀ n s p, s + n = 12 → p < 12 → t p = true → post (qt_b (qt_ex g (qt_is o) n p)) → wX_isAtOrBelow_5 post (nI o) A1 (qt_U g) A3 A4 A5 A6 A7 A8 (n + 1) (nI p) (nI s) := by
  intro n
  induction n with
  | zero =>
    intro s p hs hp tp h
    have e : s = 12 := by omega
    subst e
    exact br_t qt_12e h
  | succ n ih =>
    intro s p hs hp tp h
    refine br_f (qt_12 (by omega)) (br_f (qt_nm hp) ?_)
    by_cases e : p = o
    · rw [qt_ex, if_pos (show qt_is o p = true from decide_eq_true e)] at h
      exact br_t (by rw [e]) h
    · have e' : ¬ qt_is o p = true := fun z => e (of_decide_eq_true z)
      rw [qt_ex, if_neg e'] at h
      refine br_f (qt_ne hp ho e) ⟨qt_i12 hp, ?_⟩
      by_cases z : p = 0
      · rw [if_pos z] at h
        refine nm_r (qt_cU0 hp z) (nm_r (nI_1 s) ?_)
        exact br_c (fun _ => h) (fun _ => br_t rfl h)
      · rw [if_neg z] at h
        have y := F.2.2.1 p hp tp
        exact nm_r (qt_cU1 hp z) (nm_r (nI_1 s) (ih (s + 1) (g p) (by omega) y.1 y.2 h))
theorem qt_xU {post : Int32 → Prop} {t : Nat → Bool} {g : Nat → Nat} {p o : Nat} (F : qt_F t g) (ho : o < 12) (hp : p < 12) (tp : t p = true) (h : post (qt_b (qt_ub g p o))) : wpX_isAtOrBelow post (A1, qt_U g, A3, A4, A5, A6, A7, A8) (nI p) (nI o) :=
  ⟨13, qt_xU5 F ho 12 0 p rfl hp tp h⟩
/-! the total -/
theorem qt_xT52 {post : Int32 → Prop} {t v : Nat → Bool} {g h b : Nat → Nat} {o c : Nat} (F : qt_F t g) (H : qt_H t v h) (ho : o < 12) (k : post (nI (c + qt_S (qt_f2 g v h b o) 10))) : ∀ d i, i + d = 10 → wX_totalOf_52 post (nI o) A1 (qt_U g) A3 A4 A5 (qt_B v) (qt_N h) (qt_N b) (d + 1) (nI (c + qt_S (qt_f2 g v h b o) i)) (nI i) := by
  intro d
  induction d with
  | zero =>
    intro i hi
    have e : i = 10 := by omega
    subst e
    exact br_t qt_10e k
  | succ d ih =>
    intro i hi
    have next := ih (i + 1) (by omega)
    have hs : qt_S (qt_f2 g v h b o) (i + 1) = qt_S (qt_f2 g v h b o) i + qt_f2 g v h b o i := rfl
    refine br_f (qt_10 (by omega)) ⟨qt_i10 (by omega), qt_brB (by omega) (fun vi => ?_) (fun vi => ⟨qt_i10 (by omega), ?_⟩)⟩
    · have z : qt_f2 g v h b o i = 0 := if_neg (fun y => by rw [vi] at y; exact absurd y.1 (by decide))
      rw [hs, z, Nat.add_zero] at next
      exact nm_r (nI_1 i) next
    · have y := H i (by omega) vi
      rw [qt_cN (f := h) (j := i) (by omega)]
      refine qt_xU F ho y.1 y.2 (qt_br (fun e => ?_) (fun e => ⟨qt_i10 (by omega), ?_⟩))
      · have z : qt_f2 g v h b o i = 0 := if_neg (fun y => by rw [e] at y; exact absurd y.2 (by decide))
        rw [hs, z, Nat.add_zero] at next
        exact nm_r (nI_1 i) next
      · have z : qt_f2 g v h b o i = b i := if_pos ⟨vi, e⟩
        rw [hs, z] at next
        refine nm_r (e' := nI (c + (qt_S (qt_f2 g v h b o) i + b i))) ?_ (nm_r (nI_1 i) next)
        rw [qt_cN (by omega), nI_add, Nat.add_assoc]
theorem qt_xT4 {post : Int32 → Prop} {t v : Nat → Bool} {g a w h b : Nat → Nat} {o : Nat} (F : qt_F t g) (H : qt_H t v h) (ho : o < 12) (k : post (nI (qt_tot t g a w v h b o))) : ∀ d i, i + d = 12 → wX_totalOf_4 post (nI o) (qt_B t) (qt_U g) A3 (qt_N a) (qt_N w) (qt_B v) (qt_N h) (qt_N b) (d + 1) (nI (qt_S (qt_f1 t g a w o) i)) (nI i) := by
  intro d
  induction d with
  | zero =>
    intro i hi
    have e : i = 12 := by omega
    subst e
    exact br_t qt_12e ⟨11, qt_xT52 (c := qt_S (qt_f1 t g a w o) 12) F H ho k 10 0 rfl⟩
  | succ d ih =>
    intro i hi
    have next := ih (i + 1) (by omega)
    have hs : qt_S (qt_f1 t g a w o) (i + 1) = qt_S (qt_f1 t g a w o) i + qt_f1 t g a w o i := rfl
    refine br_f (qt_12 (by omega)) ⟨qt_i12 (by omega), qt_brB (by omega) (fun ti => ?_) (fun ti => ?_)⟩
    · have z : qt_f1 t g a w o i = 0 := if_neg (fun y => by rw [ti] at y; exact absurd y.1 (by decide))
      rw [hs, z, Nat.add_zero] at next
      exact nm_r (nI_1 i) next
    · refine qt_xU F ho (by omega) ti (qt_br (fun e => ?_) (fun e => ⟨qt_i12 (by omega), qt_i12 (by omega), ?_⟩))
      · have z : qt_f1 t g a w o i = 0 := if_neg (fun y => by rw [e] at y; exact absurd y.2 (by decide))
        rw [hs, z, Nat.add_zero] at next
        exact nm_r (nI_1 i) next
      · have z : qt_f1 t g a w o i = a i + w i := if_pos ⟨ti, e⟩
        rw [hs, z] at next
        refine nm_r (e' := nI (qt_S (qt_f1 t g a w o) i + (a i + w i))) ?_ (nm_r (nI_1 i) next)
        rw [qt_cN (by omega), qt_cN (by omega), nI_add, nI_add]
theorem qt_xT {post : Int32 → Prop} {t v : Nat → Bool} {g a w h b : Nat → Nat} {o : Nat} (F : qt_F t g) (H : qt_H t v h) (ho : o < 12) (k : post (nI (qt_tot t g a w v h b o))) : wpX_totalOf post (qt_B t, qt_U g, A3, qt_N a, qt_N w, qt_B v, qt_N h, qt_N b) (nI o) :=
  ⟨13, qt_xT4 F H ho k 12 0 rfl⟩
end QTE
end
section
section QTG
/-! J: the reference, method by method, against the pure state -/
variable {A1 A2 A3 A4 A5 A6 A7 A8 : Nat → Int32}
theorem qt_yO {post : Int32 → Prop} {t : Nat → Bool} {o : Nat} (ho : o < 12) (to : t o = true) (h : post 1) : wpY_is post (qt_B t, A2, A3, A4, A5, A6, A7, A8) (nI o) :=
  br_f (qt_np ho) (br_f (qt_12 ho) ⟨qt_i12 ho, br_f (qt_cB1 ho to) h⟩)
theorem qt_yOn {post : Int32 → Prop} {t : Nat → Bool} {x : Int32} (n : ¬ qt_O t x) (h : post 0) : wpY_is post (qt_B t, A2, A3, A4, A5, A6, A7, A8) x := by
  rcases qt_ix x (n := 12) (by decide) with c | c | ⟨j, hj, e⟩
  · exact br_t c h
  · by_cases c0 : x < 0
    · exact br_t c0 h
    · exact br_f c0 (br_t c h)
  · subst e
    have tj : t j = false := qt_bf (fun z => n ⟨j, hj, z, rfl⟩)
    exact br_f (qt_np hj) (br_f (qt_12 hj) ⟨qt_i12 hj, br_t (qt_cB0 hj tj) h⟩)
theorem qt_yV {post : Int32 → Prop} {t v : Nat → Bool} {h : Nat → Nat} {r : Nat} (H : qt_H t v h) (hr : r < 10) (vr : v r = true) (k : post 1) : wpY_reserved post (A1, A2, A3, A4, A5, qt_Z v h, A7, A8) (nI r) :=
  br_f (qt_np (by omega)) (br_f (qt_10 hr) ⟨qt_i10 hr, qt_brZ (by omega) (fun z => (H r hr z).1) (fun z => absurd (z.symm.trans vr) (by decide)) (fun _ => k)⟩)
theorem qt_yVn {post : Int32 → Prop} {t v : Nat → Bool} {h : Nat → Nat} {x : Int32} (H : qt_H t v h) (n : ¬ qt_V v x) (k : post 0) : wpY_reserved post (A1, A2, A3, A4, A5, qt_Z v h, A7, A8) x := by
  rcases qt_ix x (n := 10) (by decide) with c | c | ⟨j, hj, e⟩
  · exact br_t c k
  · by_cases c0 : x < 0
    · exact br_t c0 k
    · exact br_f c0 (br_t c k)
  · subst e
    exact br_f (qt_np (by omega)) (br_f (qt_10 hj) ⟨qt_i10 hj, qt_brZ (by omega) (fun z => (H j hj z).1) (fun _ => k) (fun z => absurd ⟨j, hj, z, rfl⟩ n)⟩)
theorem qt_yA {post : Int32 → Prop} {n : Nat} (hn : n ≤ 1000) (h : post 1) : wpY_amount post (A1, A2, A3, A4, A5, A6, A7, A8) (nI n) :=
  br_f (nI_pos (by omega)) (br_f (qt_An' hn) h)
theorem qt_yAn {post : Int32 → Prop} {x : Int32} (n : ¬ qt_A x) (h : post 0) : wpY_amount post (A1, A2, A3, A4, A5, A6, A7, A8) x := by
  rcases qt_An n with c | ⟨c0, c⟩
  · exact br_t c h
  · exact br_f c0 (br_t c h)
/-! at or below -/
theorem qt_yU5 {post : Int32 → Prop} {t : Nat → Bool} {g : Nat → Nat} {o : Nat} (F : qt_F t g) (ho : o < 12) : ∀ n s p, s + n = 12 → p < 12 → t p = true → post (qt_b (qt_ex g (qt_is o) (n + 1) p)) → wY_under_5 post (nI o) A1 (qt_U g) A3 A4 A5 A6 A7 A8 (n + 1) (nI p) (nI s) := by
  intro n
  induction n with
  | zero =>
    intro s p hs hp tp h
    have e : s = 12 := by omega
    subst e
    refine br_t qt_12e ?_
    by_cases e : p = o
    · rw [qt_ex, if_pos (show qt_is o p = true from decide_eq_true e)] at h
      exact br_t (by rw [e]) h
    · have e' : ¬ qt_is o p = true := fun z => e (of_decide_eq_true z)
      rw [qt_ex, if_neg e'] at h
      refine br_f (qt_ne hp ho e) ?_
      by_cases z : p = 0
      · rw [if_pos z] at h; exact h
      · rw [if_neg z] at h; exact h
  | succ n ih =>
    intro s p hs hp tp h
    refine br_f (qt_12 (by omega)) (br_f (qt_np hp) ?_)
    by_cases e : p = o
    · rw [qt_ex, if_pos (show qt_is o p = true from decide_eq_true e)] at h
      exact br_t (by rw [e]) (br_t (by rw [e]) h)
    · have e' : ¬ qt_is o p = true := fun z => e (of_decide_eq_true z)
      rw [qt_ex, if_neg e'] at h
      refine br_f (qt_ne hp ho e) ⟨qt_i12 hp, ?_⟩
      by_cases z : p = 0
      · rw [if_pos z] at h
        refine nm_r (qt_cU0 hp z) (nm_r (nI_1 s) ?_)
        have m : ¬ (-1 : Int32) = nI o := fun y => qt_nm ho y.symm
        exact br_c (fun _ => br_f m h) (fun _ => br_t (by decide) (br_f m h))
      · rw [if_neg z] at h
        have y := F.2.2.1 p hp tp
        exact nm_r (qt_cU1 hp z) (nm_r (nI_1 s) (ih (s + 1) (g p) (by omega) y.1 y.2 h))
theorem qt_yU {post : Int32 → Prop} {t : Nat → Bool} {g : Nat → Nat} {p o : Nat} (F : qt_F t g) (ho : o < 12) (hp : p < 12) (tp : t p = true) (h : post (qt_b (qt_ub g p o))) : wpY_under post (A1, qt_U g, A3, A4, A5, A6, A7, A8) (nI p) (nI o) :=
  ⟨13, qt_yU5 F ho 12 0 p rfl hp tp (by rw [qt_ub13 F hp tp o]; exact h)⟩
/-! the total -/
theorem qt_yT56 {post : Int32 → Prop} {t v : Nat → Bool} {g h b : Nat → Nat} {o c : Nat} (F : qt_F t g) (H : qt_H t v h) (ho : o < 12) (k : post (nI (c + qt_S (qt_f2 g v h b o) 10))) : ∀ d i, i + d = 10 → wY_totalOf_56 post (nI o) A1 (qt_U g) A3 A4 A5 (qt_Z v h) (qt_N b) A8 (d + 1) (nI (c + qt_S (qt_f2 g v h b o) i)) (nI i) := by
  intro d
  induction d with
  | zero =>
    intro i hi
    have e : i = 10 := by omega
    subst e
    exact br_t qt_10e k
  | succ d ih =>
    intro i hi
    have next := ih (i + 1) (by omega)
    have hs : qt_S (qt_f2 g v h b o) (i + 1) = qt_S (qt_f2 g v h b o) i + qt_f2 g v h b o i := rfl
    refine br_f (qt_10 (by omega)) ⟨qt_i10 (by omega), qt_brZ (by omega) (fun z => (H i (by omega) z).1) (fun vi => ?_) (fun vi => ⟨qt_i10 (by omega), ?_⟩)⟩
    · have z : qt_f2 g v h b o i = 0 := if_neg (fun y => by rw [vi] at y; exact absurd y.1 (by decide))
      rw [hs, z, Nat.add_zero] at next
      exact nm_r (nI_1 i) next
    · have y := H i (by omega) vi
      rw [qt_cZ1 (by omega) vi, nI_pred]
      refine qt_yU F ho y.1 y.2 (qt_br (fun e => ?_) (fun e => ⟨qt_i10 (by omega), ?_⟩))
      · have z : qt_f2 g v h b o i = 0 := if_neg (fun y => by rw [e] at y; exact absurd y.2 (by decide))
        rw [hs, z, Nat.add_zero] at next
        exact nm_r (nI_1 i) next
      · have z : qt_f2 g v h b o i = b i := if_pos ⟨vi, e⟩
        rw [hs, z] at next
        refine nm_r (e' := nI (c + (qt_S (qt_f2 g v h b o) i + b i))) ?_ (nm_r (nI_1 i) next)
        rw [qt_cN (by omega), nI_add, Nat.add_assoc]
theorem qt_yT4 {post : Int32 → Prop} {t v : Nat → Bool} {g a w h b : Nat → Nat} {o : Nat} (F : qt_F t g) (H : qt_H t v h) (ho : o < 12) (k : post (nI (qt_tot t g a w v h b o))) : ∀ d i, i + d = 12 → wY_totalOf_4 post (nI o) (qt_B t) (qt_U g) A3 (qt_N a) (qt_N w) (qt_Z v h) (qt_N b) A8 (d + 1) (nI (qt_S (qt_f1 t g a w o) i)) (nI i) := by
  intro d
  induction d with
  | zero =>
    intro i hi
    have e : i = 12 := by omega
    subst e
    exact br_t qt_12e ⟨11, qt_yT56 (c := qt_S (qt_f1 t g a w o) 12) F H ho k 10 0 rfl⟩
  | succ d ih =>
    intro i hi
    have next := ih (i + 1) (by omega)
    have hs : qt_S (qt_f1 t g a w o) (i + 1) = qt_S (qt_f1 t g a w o) i + qt_f1 t g a w o i := rfl
    refine br_f (qt_12 (by omega)) ⟨qt_i12 (by omega), qt_brB (by omega) (fun ti => ?_) (fun ti => ?_)⟩
    · have z : qt_f1 t g a w o i = 0 := if_neg (fun y => by rw [ti] at y; exact absurd y.1 (by decide))
      rw [hs, z, Nat.add_zero] at next
      exact nm_r (nI_1 i) next
    · refine qt_yU F ho (by omega) ti (qt_br (fun e => ?_) (fun e => ⟨qt_i12 (by omega), qt_i12 (by omega), ?_⟩))
      · have z : qt_f1 t g a w o i = 0 := if_neg (fun y => by rw [e] at y; exact absurd y.2 (by decide))
        rw [hs, z, Nat.add_zero] at next
        exact nm_r (nI_1 i) next
      · have z : qt_f1 t g a w o i = a i + w i := if_pos ⟨ti, e⟩
        rw [hs, z] at next
        refine nm_r (e' := nI (qt_S (qt_f1 t g a w o) i + (a i + w i))) ?_ (nm_r (nI_1 i) next)
        rw [qt_cN (by omega), qt_cN (by omega), nI_add, nI_add, Nat.add_assoc]
theorem qt_yT {post : Int32 → Prop} {t v : Nat → Bool} {g a w h b : Nat → Nat} {o : Nat} (F : qt_F t g) (H : qt_H t v h) (ho : o < 12) (k : post (nI (qt_tot t g a w v h b o))) : wpY_totalOf post (qt_B t, qt_U g, A3, qt_N a, qt_N w, qt_Z v h, qt_N b, A8) (nI o) :=
  ⟨13, qt_yT4 F H ho k 12 0 rfl⟩
end QTG
end
section
section QTJ
/-! K: the class's other own methods -/
variable {A1 A2 A3 A4 A5 A6 A7 A8 : Nat → Int32}
/-- the least number from i on that isn't there, below m -/
def qt_lf (t : Nat → Bool) (m : Nat) : Nat → Nat → Nat
  | 0, _ => m
  | d + 1, i => if t i = true then qt_lf t m d (i + 1) else i
theorem qt_lf_s (t : Nat → Bool) (m : Nat) : ∀ d i, i + d = m → (qt_lf t m d i = m ∨ (qt_lf t m d i < m ∧ t (qt_lf t m d i) = false)) := by
  intro d
  induction d with
  | zero => intro i _; exact Or.inl rfl
  | succ d ih =>
    intro i hi
    rw [qt_lf]
    by_cases e : t i = true
    · rw [if_pos e]; exact ih (i + 1) (by omega)
    · rw [if_neg e]; exact Or.inr ⟨by omega, qt_bf e⟩
theorem qt_xL2 {post : Int32 → Prop} {t : Nat → Bool} : ∀ d i, i + d = 12 → (qt_lf t 12 d i = 12 → post (-1)) → (qt_lf t 12 d i < 12 → post (nI (qt_lf t 12 d i))) → wX_leastFreeOwner_2 post (qt_B t) A2 A3 A4 A5 A6 A7 A8 (d + 1) (nI i) := by
  intro d
  induction d with
  | zero =>
    intro i hi k _
    have e : i = 12 := by omega
    subst e
    exact br_t qt_12e (k rfl)
  | succ d ih =>
    intro i hi k k'
    rw [qt_lf] at k k'
    refine br_f (qt_12 (by omega)) ⟨qt_i12 (by omega), qt_brB (by omega) (fun e => ?_) (fun e => ?_)⟩
    · have e' : ¬ t i = true := by rw [e]; decide
      rw [if_neg e'] at k'
      exact k' (by omega)
    · rw [if_pos e] at k k'
      exact nm_r (nI_1 i) (ih (i + 1) (by omega) k k')
theorem qt_xL {post : Int32 → Prop} {t : Nat → Bool} (k : qt_lf t 12 12 0 = 12 → post (-1)) (k' : qt_lf t 12 12 0 < 12 → post (nI (qt_lf t 12 12 0))) : wpX_leastFreeOwner post (qt_B t, A2, A3, A4, A5, A6, A7, A8) :=
  ⟨13, qt_xL2 12 0 rfl k k'⟩
theorem qt_xR2 {post : Int32 → Prop} {v : Nat → Bool} : ∀ d i, i + d = 10 → post (nI (qt_lf v 10 d i)) → wX_leastFreeReservation_2 post A1 A2 A3 A4 A5 (qt_B v) A7 A8 (d + 1) (nI i) := by
  intro d
  induction d with
  | zero =>
    intro i hi k
    have e : i = 10 := by omega
    subst e
    exact br_t qt_10e k
  | succ d ih =>
    intro i hi k
    rw [qt_lf] at k
    refine br_f (qt_10 (by omega)) ⟨qt_i10 (by omega), qt_brB (by omega) (fun e => ?_) (fun e => ?_)⟩
    · have e' : ¬ v i = true := by rw [e]; decide
      rw [if_neg e'] at k
      exact k
    · rw [if_pos e] at k
      exact nm_r (nI_1 i) (ih (i + 1) (by omega) k)
theorem qt_xR {post : Int32 → Prop} {v : Nat → Bool} (k : post (nI (qt_lf v 10 10 0))) : wpX_leastFreeReservation post (A1, A2, A3, A4, A5, qt_B v, A7, A8) :=
  ⟨11, qt_xR2 10 0 rfl k⟩
/-! children -/
def qt_hc (t : Nat → Bool) (g : Nat → Nat) (o : Nat) : Nat → Bool
  | 0 => false
  | n + 1 => if t n = true ∧ n ≠ 0 ∧ g n = o then true else qt_hc t g o n
theorem qt_hc_iff (t : Nat → Bool) (g : Nat → Nat) (o : Nat) : ∀ n, qt_hc t g o n = true ↔ ∃ p, p < n ∧ t p = true ∧ p ≠ 0 ∧ g p = o := by
  intro n
  induction n with
  | zero => exact ⟨fun z => absurd z Bool.false_ne_true, fun ⟨p, hp, _⟩ => absurd hp (Nat.not_lt_zero p)⟩
  | succ n ih =>
    rw [qt_hc]
    by_cases c : t n = true ∧ n ≠ 0 ∧ g n = o
    · rw [if_pos c]; exact ⟨fun _ => ⟨n, by omega, c⟩, fun _ => rfl⟩
    · rw [if_neg c, ih]
      constructor
      · intro ⟨p, hp, q⟩; exact ⟨p, by omega, q⟩
      · intro ⟨p, hp, q⟩
        by_cases e : p = n
        · rw [e] at q; exact absurd q c
        · exact ⟨p, by omega, q⟩
theorem qt_cU {t : Nat → Bool} {g : Nat → Nat} {i o : Nat} (F : qt_F t g) (hi : i < 12) (ti : t i = true) (ho : o < 12) : qt_U g (nI i).toNatClampNeg = nI o ↔ (i ≠ 0 ∧ g i = o) := by
  by_cases z : i = 0
  · rw [qt_cU0 hi z]
    exact ⟨fun y => absurd y.symm (qt_nm ho), fun y => absurd z y.1⟩
  · rw [qt_cU1 hi z, nI_eq (by have := (F.2.2.1 i hi ti).1; omega) (by omega)]
    exact ⟨fun y => ⟨z, y⟩, fun y => y.2⟩
theorem qt_xH2 {post : Int32 → Prop} {t : Nat → Bool} {g : Nat → Nat} {o : Nat} (F : qt_F t g) (ho : o < 12) (k1 : (∃ p, p < 12 ∧ t p = true ∧ p ≠ 0 ∧ g p = o) → post 1) (k0 : (∀ p, p < 12 → t p = true → p ≠ 0 → g p ≠ o) → post 0) : ∀ d i, i + d = 12 → (∀ p, p < i → t p = true → p ≠ 0 → g p ≠ o) → wX_hasChild_2 post (nI o) (qt_B t) (qt_U g) A3 A4 A5 A6 A7 A8 (d + 1) (nI i) := by
  intro d
  induction d with
  | zero =>
    intro i hi q
    have e : i = 12 := by omega
    subst e
    exact br_t qt_12e (k0 q)
  | succ d ih =>
    intro i hi q
    have nx : ¬ (t i = true ∧ i ≠ 0 ∧ g i = o) → ∀ p, p < i + 1 → t p = true → p ≠ 0 → g p ≠ o := by
      intro c p hp tp pz e
      by_cases y : p = i
      · rw [y] at tp pz e; exact c ⟨tp, pz, e⟩
      · exact q p (by omega) tp pz e
    refine br_f (qt_12 (by omega)) ⟨qt_i12 (by omega), qt_brB (by omega) (fun e => ?_) (fun e => ⟨qt_i12 (by omega), ?_⟩)⟩
    · exact nm_r (nI_1 i) (ih (i + 1) (by omega) (nx (fun y => by rw [e] at y; exact absurd y.1 (by decide))))
    · have c := qt_cU F (i := i) (by omega) e ho
      refine br_c (fun y => ?_) (fun y => ?_)
      · exact k1 ⟨i, by omega, e, c.mp y⟩
      · exact nm_r (nI_1 i) (ih (i + 1) (by omega) (nx (fun x => y (c.mpr x.2))))
theorem qt_xH {post : Int32 → Prop} {t : Nat → Bool} {g : Nat → Nat} {o : Nat} (F : qt_F t g) (ho : o < 12) (k1 : (∃ p, p < 12 ∧ t p = true ∧ p ≠ 0 ∧ g p = o) → post 1) (k0 : (∀ p, p < 12 → t p = true → p ≠ 0 → g p ≠ o) → post 0) : wpX_hasChild post (qt_B t, qt_U g, A3, A4, A5, A6, A7, A8) (nI o) :=
  ⟨13, qt_xH2 F ho k1 k0 12 0 rfl (fun p hp => absurd hp (Nat.not_lt_zero p))⟩
/-! the reservations of an owner -/
theorem qt_dr_0 (v : Nat → Bool) (h : Nat → Nat) (o : Nat) : qt_dr v h o 0 = v := by
  funext r; exact if_neg (fun z => Nat.not_lt_zero r z.1)
theorem qt_dr_n {v : Nat → Bool} {h : Nat → Nat} {o i : Nat} (e : v i = false ∨ h i ≠ o) : qt_dr v h o (i + 1) = qt_dr v h o i := by
  funext r
  show (if r < i + 1 ∧ h r = o then false else v r) = (if r < i ∧ h r = o then false else v r)
  by_cases c : r < i ∧ h r = o
  · rw [if_pos c, if_pos ⟨by omega, c.2⟩]
  · rw [if_neg c]
    by_cases y : r < i + 1 ∧ h r = o
    · have q : r = i := by
        have y2 := y.2
        have : ¬ r < i := fun z => c ⟨z, y2⟩
        have := y.1
        omega
      rw [if_pos y, q]
      rcases e with e | e
      · exact e.symm
      · rw [q] at y; exact absurd y.2 e
    · rw [if_neg y]
theorem qt_dr_u {v : Nat → Bool} {h : Nat → Nat} {o i : Nat} (e : v i = false ∨ h i = o) : qt_u (qt_dr v h o i) i false = qt_dr v h o (i + 1) := by
  funext r
  by_cases c : r = i
  · rw [c, qt_us]
    show false = (if i < i + 1 ∧ h i = o then false else v i)
    by_cases y : i < i + 1 ∧ h i = o
    · rw [if_pos y]
    · rw [if_neg y]
      rcases e with e | e
      · exact e.symm
      · exact absurd ⟨by omega, e⟩ y
  · rw [qt_un c]
    show (if r < i ∧ h r = o then false else v r) = (if r < i + 1 ∧ h r = o then false else v r)
    by_cases y : r < i ∧ h r = o
    · rw [if_pos y, if_pos ⟨by omega, y.2⟩]
    · rw [if_neg y, if_neg (fun z => y ⟨by have := z.1; omega, z.2⟩)]
theorem qt_xD2 {post : SX → Prop} {t v : Nat → Bool} {h : Nat → Nat} {o : Nat} (H : qt_H t v h) (ho : o < 12) (k : post (A1, A2, A3, A4, A5, qt_B (qt_dr v h o 10), qt_N h, A8)) : ∀ d i, i + d = 10 → wX_dropReservationsOf_2 post (nI o) (d + 1) (nI i) A1 A2 A3 A4 A5 (qt_B (qt_dr v h o i)) (qt_N h) A8 := by
  intro d
  induction d with
  | zero =>
    intro i hi
    have e : i = 10 := by omega
    subst e
    exact br_t qt_10e k
  | succ d ih =>
    intro i hi
    have next := ih (i + 1) (by omega)
    have q : v i = false ∨ (v i = true ∧ h i < 12) := by
      by_cases e : v i = true
      · exact Or.inr ⟨e, (H i (by omega) e).1⟩
      · exact Or.inl (qt_bf e)
    refine br_f (qt_10 (by omega)) ⟨qt_i10 (by omega), br_c (fun e => ⟨qt_i10 (by omega), ?_⟩) (fun e => ?_)⟩
    · rw [qt_cN (by omega)] at e
      have x : v i = false ∨ h i = o := by
        rcases q with q | ⟨_, q⟩
        · exact Or.inl q
        · exact Or.inr ((nI_eq (by omega) (by omega)).mp e)
      rw [← qt_dr_u x, ← qt_uB0] at next
      exact nm_r (by rw [qt_uc _ (by omega), qt_n0]) (nm_r (nI_1 i) next)
    · rw [qt_cN (by omega)] at e
      have x : v i = false ∨ h i ≠ o := by
        rcases q with q | ⟨_, q⟩
        · exact Or.inl q
        · exact Or.inr (fun y => e (by rw [y]))
      rw [qt_dr_n x] at next
      exact nm_r (nI_1 i) next
theorem qt_xD {post : SX → Prop} {t v : Nat → Bool} {h : Nat → Nat} {o : Nat} (H : qt_H t v h) (ho : o < 12) (k : post (A1, A2, A3, A4, A5, qt_B (qt_dr v h o 10), qt_N h, A8)) : wpX_dropReservationsOf post (A1, A2, A3, A4, A5, qt_B v, qt_N h, A8) (nI o) := by
  have r := qt_xD2 H ho k 10 0 rfl
  rw [qt_dr_0] at r
  exact ⟨11, r⟩
/-! the way up with totals -/
def qt_bl (t : Nat → Bool) (g l a w : Nat → Nat) (v : Nat → Bool) (h b : Nat → Nat) (n : Nat) : Nat → Bool := fun p => decide (l p < qt_tot t g a w v h b p + n)
theorem qt_xN5 {post : Int32 → Prop} {t v : Nat → Bool} {g l a w h b : Nat → Nat} {m : Nat} (I : qt_I t g l a w v h b) (hm : m ≤ 1000) : ∀ n s p, s + n = 12 → p < 12 → t p = true → post (qt_fi g (qt_bl t g l a w v h b m) n p) → wX_nearestBlocker_5 post (nI m) (qt_B t) (qt_U g) (qt_N l) (qt_N a) (qt_N w) (qt_B v) (qt_N h) (qt_N b) (n + 1) (nI p) (nI s) := by
  intro n
  induction n with
  | zero =>
    intro s p hs hp tp k
    have e : s = 12 := by omega
    subst e
    exact br_t qt_12e k
  | succ n ih =>
    intro s p hs hp tp k
    refine br_f (qt_12 (by omega)) (br_f (qt_nm hp) (qt_xT I.1 I.2.1 hp ⟨qt_i12 hp, qt_brL (nI_add _ _) (qt_cN hp) ?_ ?_ (fun e => ⟨qt_i12 hp, ?_⟩) (fun e => ?_)⟩))
    · have := qt_I_t I p; omega
    · have := I.2.2.2.1 p hp; omega
    · have c : ¬ qt_bl t g l a w v h b m p = true := fun z => by have := of_decide_eq_true z; omega
      rw [qt_fi, if_neg c] at k
      by_cases z : p = 0
      · rw [if_pos z] at k
        refine nm_r (qt_cU0 hp z) (nm_r (nI_1 s) ?_)
        exact br_c (fun _ => k) (fun _ => br_t rfl k)
      · rw [if_neg z] at k
        have y := I.1.2.2.1 p hp tp
        exact nm_r (qt_cU1 hp z) (nm_r (nI_1 s) (ih (s + 1) (g p) (by omega) y.1 y.2 k))
    · have c : qt_bl t g l a w v h b m p = true := decide_eq_true (by omega)
      rw [qt_fi, if_pos c] at k
      exact k
theorem qt_xN {post : Int32 → Prop} {t v : Nat → Bool} {g l a w h b : Nat → Nat} {m p : Nat} (I : qt_I t g l a w v h b) (hm : m ≤ 1000) (hp : p < 12) (tp : t p = true) (k : post (qt_fi g (qt_bl t g l a w v h b m) 12 p)) : wpX_nearestBlocker post (qt_X t g l a w v h b) (nI p) (nI m) :=
  ⟨13, qt_xN5 I hm 12 0 p rfl hp tp k⟩
def qt_rf (t : Nat → Bool) (g l a w : Nat → Nat) (v : Nat → Bool) (h b : Nat → Nat) (o : Nat) : Nat → Bool := fun p => decide (qt_ub g o p = false ∧ l p < qt_tot t g a w v h b p + qt_tot t g a w v h b o)
theorem qt_xM18 {post : Int32 → Prop} {t v : Nat → Bool} {g l a w h b : Nat → Nat} {o : Nat} (I : qt_I t g l a w v h b) (ho : o < 12) (to : t o = true) : ∀ n s p, s + n = 12 → p < 12 → t p = true → post (qt_b (qt_ex g (qt_rf t g l a w v h b o) n p)) → wX_moveIsRefused_18 post (nI o) (nI (qt_tot t g a w v h b o)) (qt_B t) (qt_U g) (qt_N l) (qt_N a) (qt_N w) (qt_B v) (qt_N h) (qt_N b) (n + 1) (nI p) (nI s) := by
  intro n
  induction n with
  | zero =>
    intro s p hs hp tp k
    have e : s = 12 := by omega
    subst e
    exact br_t qt_12e k
  | succ n ih =>
    intro s p hs hp tp k
    have up : ¬ qt_rf t g l a w v h b o p = true → ∀ x3, x3 = qt_U g (nI p).toNatClampNeg → ∀ x4, x4 = nI s + 1 → wX_moveIsRefused_18 post (nI o) (nI (qt_tot t g a w v h b o)) (qt_B t) (qt_U g) (qt_N l) (qt_N a) (qt_N w) (qt_B v) (qt_N h) (qt_N b) (n + 1) x3 x4 := by
      intro c
      rw [qt_ex, if_neg c] at k
      by_cases z : p = 0
      · rw [if_pos z] at k
        refine nm_r (qt_cU0 hp z) (nm_r (nI_1 s) ?_)
        exact br_c (fun _ => k) (fun _ => br_t rfl k)
      · rw [if_neg z] at k
        have y := I.1.2.2.1 p hp tp
        exact nm_r (qt_cU1 hp z) (nm_r (nI_1 s) (ih (s + 1) (g p) (by omega) y.1 y.2 k))
    refine br_f (qt_12 (by omega)) (br_f (qt_nm hp) (qt_xU I.1 hp ho to (qt_br (fun ub => ?_) (fun ub => ⟨qt_i12 hp, ?_⟩))))
    · refine qt_xT I.1 I.2.1 hp ⟨qt_i12 hp, qt_brL (nI_add _ _) (qt_cN hp) ?_ ?_ (fun e => ⟨qt_i12 hp, ?_⟩) (fun e => ?_)⟩
      · have := qt_I_t I p; have := qt_I_t I o; omega
      · have := I.2.2.2.1 p hp; omega
      · exact up (fun z => by have := (of_decide_eq_true z).2; omega)
      · have c : qt_rf t g l a w v h b o p = true := decide_eq_true ⟨ub, by omega⟩
        rw [qt_ex, if_pos c] at k
        exact k
    · exact up (fun z => by have := (of_decide_eq_true z).1; rw [ub] at this; exact absurd this (by decide))
theorem qt_xM {post : Int32 → Prop} {t v : Nat → Bool} {g l a w h b : Nat → Nat} {o pa : Nat} (I : qt_I t g l a w v h b) (ho : o < 12) (to : t o = true) (hp : pa < 12) (tp : t pa = true) (k0 : ¬ (qt_tot t g a w v h b o ≠ 0 ∧ qt_ex g (qt_rf t g l a w v h b o) 12 pa = true) → post 0) (k1 : (qt_tot t g a w v h b o ≠ 0 ∧ qt_ex g (qt_rf t g l a w v h b o) 12 pa = true) → post 1) : wpX_moveIsRefused post (qt_X t g l a w v h b) (nI o) (nI pa) := by
  refine qt_xT I.1 I.2.1 ho ?_
  have q := qt_I_t I o
  by_cases z : qt_tot t g a w v h b o = 0
  · refine br_t (by rw [z]; rfl) (k0 (fun y => y.1 z))
  · refine br_f (nI_ne0 (by omega) (by omega)) ⟨13, qt_xM18 I ho to 12 0 pa rfl hp tp ?_⟩
    by_cases y : qt_ex g (qt_rf t g l a w v h b o) 12 pa = true
    · rw [qt_bb y]; exact k1 ⟨z, y⟩
    · rw [qt_b0 (qt_bf y)]; exact k0 (fun x => y x.2)
/-! room -/
def qt_e (t : Nat → Bool) (g l a w : Nat → Nat) (v : Nat → Bool) (h b : Nat → Nat) : Nat → Int32 := fun p => nI (l p) - nI (qt_tot t g a w v h b p)
theorem qt_xW19 {post : Int32 → Prop} {t v : Nat → Bool} {g l a w h b : Nat → Nat} (I : qt_I t g l a w v h b) : ∀ n s p m, s + n = 12 → p < 12 → t p = true → wX_room_67 post (qt_mn g (qt_e t g l a w v h b) n p m) (qt_B t) (qt_U g) (qt_N l) (qt_N a) (qt_N w) (qt_B v) (qt_N h) (qt_N b) → wX_room_19 post (qt_B t) (qt_U g) (qt_N l) (qt_N a) (qt_N w) (qt_B v) (qt_N h) (qt_N b) (n + 1) m (nI p) (nI s) := by
  intro n
  induction n with
  | zero =>
    intro s p m hs hp tp k
    have e : s = 12 := by omega
    subst e
    exact br_t qt_12e k
  | succ n ih =>
    intro s p m hs hp tp k
    have up : ∀ x2, x2 = (if qt_e t g l a w v h b p < m then qt_e t g l a w v h b p else m) → ∀ x3, x3 = qt_U g (nI p).toNatClampNeg → ∀ x4, x4 = nI s + 1 → wX_room_19 post (qt_B t) (qt_U g) (qt_N l) (qt_N a) (qt_N w) (qt_B v) (qt_N h) (qt_N b) (n + 1) x2 x3 x4 := by
      intro x2 e2
      rw [qt_mn, ← e2] at k
      by_cases z : p = 0
      · rw [if_pos z] at k
        refine nm_r (qt_cU0 hp z) (nm_r (nI_1 s) ?_)
        exact br_c (fun _ => k) (fun _ => br_t rfl k)
      · rw [if_neg z] at k
        have y := I.1.2.2.1 p hp tp
        exact nm_r (qt_cU1 hp z) (nm_r (nI_1 s) (ih (s + 1) (g p) x2 (by omega) y.1 y.2 k))
    refine br_f (qt_12 (by omega)) (br_f (qt_nm hp) ⟨qt_i12 hp, qt_xT I.1 I.2.1 hp ?_⟩)
    refine nm_r (e' := qt_e t g l a w v h b p) (by rw [qt_cN hp]; rfl) (br_c (fun c => ⟨qt_i12 hp, ?_⟩) (fun c => ⟨qt_i12 hp, ?_⟩))
    · exact up m (if_neg (Int32.not_lt.mpr c)).symm
    · exact up _ (if_pos (Int32.not_le.mp c)).symm
end QTJ
end
section
section QTK
/-! L: the reference's other methods -/
variable {A1 A2 A3 A4 A5 A6 A7 A8 : Nat → Int32}
theorem qt_lf_1 {t : Nat → Bool} (t0 : t 0 = true) : qt_lf t 12 12 0 = qt_lf t 12 11 1 := if_pos t0
theorem qt_yL20 {post : Int32 → SY → Prop} {t : Nat → Bool} {x1 x2 : Int32} : ∀ d i, i + d = 12 → (qt_lf t 12 d i = 12 → post (-2) (qt_B t, A2, A3, A4, A5, A6, A7, A8)) → (∀ j, j = qt_lf t 12 d i → j < 12 → post (nI j) (upd (qt_B t) j 1, upd A2 j x1, upd A3 j x2, upd A4 j 0, upd A5 j 0, A6, A7, A8)) → wY_add_20 post x1 x2 (qt_B t) A2 A3 A4 A5 A6 A7 A8 (d + 1) (nI i) := by
  intro d
  induction d with
  | zero =>
    intro i hi k _
    have e : i = 12 := by omega
    subst e
    exact br_t qt_12e (k rfl)
  | succ d ih =>
    intro i hi k k'
    rw [qt_lf] at k k'
    have h12 : i < 12 := by omega
    have vi := qt_i12 h12
    refine br_f (qt_12 h12) ⟨vi, qt_brB h12 (fun e => ?_) (fun e => ?_)⟩
    · have e' : ¬ t i = true := by rw [e]; decide
      rw [if_neg e'] at k'
      refine ⟨vi, nm_r (by rw [qt_uc _ h12, qt_n1]) ⟨vi, nm_r (qt_uc _ h12 _) ⟨vi, nm_r (qt_uc _ h12 _) ⟨vi, nm_r (qt_uc _ h12 _) ⟨vi, nm_r (qt_uc _ h12 _) ?_⟩⟩⟩⟩⟩
      exact k' i rfl h12
    · rw [if_pos e] at k k'
      exact nm_r (nI_1 i) (ih (i + 1) (by omega) k k')
/-! children -/
theorem qt_ya0 {post : Int32 → Prop} {x1 : Int32} (k : post 0) : ∀ d i, i + d = 12 → wY_alone_4 post x1 A1 A2 A3 A4 A5 A6 A7 A8 (d + 1) 0 (nI i) := by
  intro d
  induction d with
  | zero =>
    intro i hi
    have e : i = 12 := by omega
    subst e
    exact br_t qt_12e ⟨rfl, k⟩
  | succ d ih =>
    intro i hi
    exact br_f (qt_12 (by omega)) (br_t rfl (nm_r (nI_1 i) (ih (i + 1) (by omega))))
theorem qt_ya1 {post : Int32 → Prop} {t : Nat → Bool} {g : Nat → Nat} {o : Nat} (F : qt_F t g) (ho : o < 12) (k1 : (∃ p, p < 12 ∧ t p = true ∧ p ≠ 0 ∧ g p = o) → post 0) (k0 : (∀ p, p < 12 → t p = true → p ≠ 0 → g p ≠ o) → post 1) : ∀ d i, i + d = 12 → (∀ p, p < i → t p = true → p ≠ 0 → g p ≠ o) → wY_alone_4 post (nI o) (qt_B t) (qt_U g) A3 A4 A5 A6 A7 A8 (d + 1) 1 (nI i) := by
  intro d
  induction d with
  | zero =>
    intro i hi q
    have e : i = 12 := by omega
    subst e
    exact br_t qt_12e ⟨rfl, k0 q⟩
  | succ d ih =>
    intro i hi q
    have nx : ¬ (t i = true ∧ i ≠ 0 ∧ g i = o) → ∀ p, p < i + 1 → t p = true → p ≠ 0 → g p ≠ o := by
      intro c p hp tp pz e
      by_cases y : p = i
      · rw [y] at tp pz e; exact c ⟨tp, pz, e⟩
      · exact q p (by omega) tp pz e
    have h12 : i < 12 := by omega
    have n1 : ¬ (1 : Int32) = 0 := by decide
    refine br_f (qt_12 h12) (br_f n1 ⟨qt_i12 h12, qt_brB h12 (fun e => ?_) (fun e => ⟨qt_i12 h12, ?_⟩)⟩)
    · exact nm_r (nI_1 i) (ih (i + 1) (by omega) (nx (fun y => by rw [e] at y; exact absurd y.1 (by decide))))
    · have c := qt_cU F (i := i) h12 e ho
      refine br_c (fun y => ?_) (fun y => ?_)
      · exact nm_r (nI_1 i) (qt_ya0 (k1 ⟨i, h12, e, c.mp y⟩) d (i + 1) (by omega))
      · exact nm_r (nI_1 i) (ih (i + 1) (by omega) (nx (fun x => y (c.mpr x.2))))
theorem qt_ya {post : Int32 → Prop} {t : Nat → Bool} {g : Nat → Nat} {o : Nat} (F : qt_F t g) (ho : o < 12) (k1 : (∃ p, p < 12 ∧ t p = true ∧ p ≠ 0 ∧ g p = o) → post 0) (k0 : (∀ p, p < 12 → t p = true → p ≠ 0 → g p ≠ o) → post 1) : wpY_alone post (qt_B t, qt_U g, A3, A4, A5, A6, A7, A8) (nI o) :=
  ⟨13, qt_ya1 F ho k1 k0 12 0 rfl (fun p hp => absurd hp (Nat.not_lt_zero p))⟩
/-! the reservations of an owner -/
theorem qt_ups (f : Nat → Int32) (k : Nat) : upd f k (f k) = f := by
  funext j
  by_cases e : j = k
  · rw [e]; exact if_pos rfl
  · exact if_neg e
theorem qt_yD39 {post : Int32 → SY → Prop} {t v : Nat → Bool} {h : Nat → Nat} {o : Nat} (H : qt_H t v h) (ho : o < 12) (k : post 1 (A1, A2, A3, A4, A5, qt_Z (qt_dr v h o 10) h, A7, A8)) : ∀ d i, i + d = 10 → wY_remove_39 post (nI o) (d + 1) (nI i) A1 A2 A3 A4 A5 (qt_Z (qt_dr v h o i) h) A7 A8 := by
  intro d
  induction d with
  | zero =>
    intro i hi
    have e : i = 10 := by omega
    subst e
    exact br_t qt_10e k
  | succ d ih =>
    intro i hi
    have next := ih (i + 1) (by omega)
    have h12 : i < 12 := by omega
    have vi := qt_i10 (j := i) (by omega)
    have s : qt_dr v h o i i = v i := if_neg (fun z => Nat.lt_irrefl i z.1)
    have n1 : nI o + 1 = nI (o + 1) := nI_1 o
    refine br_f (qt_10 (by omega)) ⟨vi, br_c (fun e => ⟨vi, ?_⟩) (fun e => ⟨vi, vi, ?_⟩)⟩
    · have x : v i = true ∧ h i = o := by
        by_cases c : v i = true
        · rw [qt_cZ1 h12 (s.trans c), n1, nI_eq (by have := (H i (by omega) c).1; omega) (by omega)] at e
          exact ⟨c, by omega⟩
        · rw [qt_cZ0 h12 (s.trans (qt_bf c)), n1] at e
          exact absurd e.symm (nI_ne0 (by omega) (by omega))
      rw [← qt_dr_u (Or.inr x.2), ← qt_uZ0] at next
      exact nm_r (qt_uc _ h12 _) (nm_r (nI_1 i) next)
    · have x : v i = false ∨ h i ≠ o := by
        by_cases c : v i = true
        · refine Or.inr (fun y => e ?_)
          rw [qt_cZ1 h12 (s.trans c), n1, y]
        · exact Or.inl (qt_bf c)
      rw [qt_dr_n x] at next
      exact nm_r (qt_ups _ _) (nm_r (nI_1 i) next)
/-! the way up with totals -/
theorem qt_yN5 {post : Int32 → Prop} {t v : Nat → Bool} {g l a w h b : Nat → Nat} {m : Nat} (I : qt_I t g l a w v h b) (hm : m ≤ 1000) : ∀ n s p, s + n = 12 → p < 12 → t p = true → post (qt_fi g (qt_bl t g l a w v h b m) n p) → wY_first_5 post (nI m) (qt_B t) (qt_U g) (qt_N l) (qt_N a) (qt_N w) (qt_Z v h) (qt_N b) A8 (n + 1) (nI p) (nI s) := by
  intro n
  induction n with
  | zero =>
    intro s p hs hp tp k
    have e : s = 12 := by omega
    subst e
    exact br_t qt_12e k
  | succ n ih =>
    intro s p hs hp tp k
    refine br_f (qt_12 (by omega)) (br_f (qt_np hp) (qt_yT I.1 I.2.1 hp ⟨qt_i12 hp, qt_brL (nI_add _ _) (qt_cN hp) ?_ ?_ (fun e => ⟨qt_i12 hp, ?_⟩) (fun e => ?_)⟩))
    · have := qt_I_t I p; omega
    · have := I.2.2.2.1 p hp; omega
    · have c : ¬ qt_bl t g l a w v h b m p = true := fun z => by have := of_decide_eq_true z; omega
      rw [qt_fi, if_neg c] at k
      by_cases z : p = 0
      · rw [if_pos z] at k
        refine nm_r (qt_cU0 hp z) (nm_r (nI_1 s) ?_)
        exact br_c (fun _ => k) (fun _ => br_t (by decide) k)
      · rw [if_neg z] at k
        have y := I.1.2.2.1 p hp tp
        exact nm_r (qt_cU1 hp z) (nm_r (nI_1 s) (ih (s + 1) (g p) (by omega) y.1 y.2 k))
    · have c : qt_bl t g l a w v h b m p = true := decide_eq_true (by omega)
      rw [qt_fi, if_pos c] at k
      exact k
theorem qt_yN {post : Int32 → Prop} {t v : Nat → Bool} {g l a w h b : Nat → Nat} {m p : Nat} (I : qt_I t g l a w v h b) (hm : m ≤ 1000) (hp : p < 12) (tp : t p = true) (k : post (qt_fi g (qt_bl t g l a w v h b m) 12 p)) : wpY_first post (qt_Y t g l a w v h b A8) (nI p) (nI m) :=
  ⟨13, qt_yN5 I hm 12 0 p rfl hp tp k⟩
/-! reserve -/
theorem qt_yR20 {post : Int32 → SY → Prop} {t v : Nat → Bool} {g l a w h b : Nat → Nat} {o m : Nat} (I : qt_I t g l a w v h b) (ho : o < 12) (to : t o = true) (hm : m ≤ 1000) : ∀ d i, i + d = 10 → (qt_lf v 10 d i = 10 → post (-2) (qt_Y t g l a w v h b A8)) → (qt_lf v 10 d i < 10 → 0 < m → qt_ex g (qt_bl t g l a w v h b m) 12 o = true → post (-3) (qt_Y t g l a w v h b A8)) → (∀ j, j = qt_lf v 10 d i → j < 10 → (m = 0 ∨ qt_ex g (qt_bl t g l a w v h b m) 12 o = false) → post (nI j) (qt_Y t g l a w (qt_u v j true) (qt_u h j o) (qt_u b j m) A8)) → wY_reserve_20 post (nI o) (nI m) (qt_B t) (qt_U g) (qt_N l) (qt_N a) (qt_N w) (qt_Z v h) (qt_N b) A8 (d + 1) (nI i) := by
  intro d
  induction d with
  | zero =>
    intro i hi k _ _
    have e : i = 10 := by omega
    subst e
    exact br_t qt_10e (k rfl)
  | succ d ih =>
    intro i hi k kR kD
    rw [qt_lf] at k kR kD
    have h12 : i < 12 := by omega
    have vi := qt_i10 (j := i) (by omega)
    refine br_f (qt_10 (by omega)) ⟨vi, qt_brZe h12 (fun z => (I.2.1 i (by omega) z).1) (fun e => ?_) (fun e => ?_)⟩
    · have e' : ¬ v i = true := by rw [e]; decide
      rw [if_neg e'] at kR kD
      have fin : (m = 0 ∨ qt_ex g (qt_bl t g l a w v h b m) 12 o = false) → wY_reserve_51 post (nI o) (nI m) (nI i) (qt_B t) (qt_U g) (qt_N l) (qt_N a) (qt_N w) (qt_Z v h) (qt_N b) A8 := by
        intro c
        have r := kD i rfl (by omega) c
        refine ⟨vi, nm_r (e' := qt_Z (qt_u v i true) (qt_u h i o)) (by rw [qt_uc _ h12, nI_1, qt_uZ1]) ⟨vi, nm_r (e' := qt_N (qt_u b i m)) (by rw [qt_uc _ h12, qt_uN]) r⟩⟩
      by_cases z : m = 0
      · exact br_t (by rw [z]; decide) (fin (Or.inl z))
      · refine br_f (nI_nle (by omega) (by omega)) (qt_yN I hm ho to ?_)
        by_cases y : qt_ex g (qt_bl t g l a w v h b m) 12 o = true
        · obtain ⟨q, hq, eq⟩ := qt_fi_is I.1 _ 12 o ho to y
          rw [eq]
          exact br_f (qt_np hq) (kR (by omega) (by omega) y)
        · rw [qt_fi_ex _ _ 12 o (qt_bf y)]
          exact br_t (by decide) (fin (Or.inr (qt_bf y)))
    · rw [if_pos e] at k kR kD
      exact nm_r (nI_1 i) (ih (i + 1) (by omega) k kR kD)
/-! room -/
theorem qt_yW16 {post : Int32 → Prop} {t v : Nat → Bool} {g l a w h b : Nat → Nat} {o : Nat} (I : qt_I t g l a w v h b) (ho : o < 12) (to : t o = true) (k : wX_room_67 post (qt_ml (fun p => t p && qt_ub g o p) (qt_e t g l a w v h b) 12) A1 A2 A3 A4 A5 A6 A7 A8) : ∀ d i, i + d = 12 → wY_room_16 post (nI o) (qt_B t) (qt_U g) (qt_N l) (qt_N a) (qt_N w) (qt_Z v h) (qt_N b) A8 (d + 1) (qt_ml (fun p => t p && qt_ub g o p) (qt_e t g l a w v h b) i) (nI i) := by
  intro d
  induction d with
  | zero =>
    intro i hi
    have e : i = 12 := by omega
    subst e
    refine br_t qt_12e (br_c (fun c => ?_) (fun c => ?_))
    · by_cases z : 0 ≤ qt_ml (fun p => t p && qt_ub g o p) (qt_e t g l a w v h b) 12
      · have e : qt_ml (fun p => t p && qt_ub g o p) (qt_e t g l a w v h b) 12 = 0 := Int32.le_antisymm c z
        have r := k.1 z
        rw [e] at r; exact r
      · exact k.2 z
    · exact k.1 (Int32.le_of_lt (Int32.not_le.mp c))
  | succ d ih =>
    intro i hi
    have next := ih (i + 1) (by omega)
    have h12 : i < 12 := by omega
    have go : ∀ z0, z0 = (if (t i && qt_ub g o i) = true then qt_e t g l a w v h b i else 1000) → wY_room_58 post (wY_room_16 post (nI o) (qt_B t) (qt_U g) (qt_N l) (qt_N a) (qt_N w) (qt_Z v h) (qt_N b) A8 (d + 1)) (nI o) (qt_ml (fun p => t p && qt_ub g o p) (qt_e t g l a w v h b) i) (nI i) z0 (qt_B t) (qt_U g) (qt_N l) (qt_N a) (qt_N w) (qt_Z v h) (qt_N b) A8 := by
      intro z0 ez
      rw [qt_ml] at next
      rw [← ez] at next
      refine br_c (fun c => ?_) (fun c => ?_)
      · rw [if_neg (Int32.not_lt.mpr c)] at next
        exact nm_r (nI_1 i) next
      · rw [if_pos (Int32.not_le.mp c)] at next
        exact nm_r (nI_1 i) next
    refine br_f (qt_12 h12) ⟨qt_i12 h12, qt_brB h12 (fun e => ?_) (fun e => ?_)⟩
    · exact go 1000 (if_neg (by rw [e, Bool.false_and]; decide)).symm
    · refine qt_yU I.1 h12 ho to (qt_br (fun u => ?_) (fun u => ⟨qt_i12 h12, ?_⟩))
      · exact go 1000 (if_neg (by rw [u, Bool.and_false]; decide)).symm
      · refine qt_yT I.1 I.2.1 h12 (go _ ?_)
        rw [if_pos (by rw [e, u]; rfl), qt_cN h12]; rfl
end QTK
end
section
section QTL
/-! M: the loops that both sides share: free, recover, over, below; the reference's move -/
variable {A1 A2 A3 A4 A5 A6 A7 A8 : Nat → Int32}
/-! free -/
def qt_fw (t : Nat → Bool) (g w : Nat → Nat) (o : Nat) : Nat → Nat := fun p => if t p = true ∧ qt_ub g p o = true then w p else 0
theorem qt_fr_0 (t : Nat → Bool) (g w : Nat → Nat) (o : Nat) : qt_fr t g w o 0 = w := by
  funext r; exact if_neg (fun z => Nat.not_lt_zero r z.1)
theorem qt_fr_n {t : Nat → Bool} {g w : Nat → Nat} {o i : Nat} (e : ¬ (t i = true ∧ qt_ub g i o = true)) : qt_fr t g w o (i + 1) = qt_fr t g w o i := by
  funext r
  show (if r < i + 1 ∧ t r = true ∧ qt_ub g r o = true then 0 else w r) = (if r < i ∧ t r = true ∧ qt_ub g r o = true then 0 else w r)
  by_cases c : r < i ∧ t r = true ∧ qt_ub g r o = true
  · rw [if_pos c, if_pos ⟨by omega, c.2⟩]
  · rw [if_neg c]
    refine if_neg (fun y => ?_)
    by_cases q : r = i
    · rw [q] at y; exact e y.2
    · exact c ⟨by have := y.1; omega, y.2⟩
theorem qt_fr_u {t : Nat → Bool} {g w : Nat → Nat} {o i : Nat} (e : t i = true ∧ qt_ub g i o = true) : qt_u (qt_fr t g w o i) i 0 = qt_fr t g w o (i + 1) := by
  funext r
  by_cases c : r = i
  · rw [c, qt_us]
    exact (if_pos ⟨by omega, e⟩).symm
  · rw [qt_un c]
    show (if r < i ∧ t r = true ∧ qt_ub g r o = true then 0 else w r) = (if r < i + 1 ∧ t r = true ∧ qt_ub g r o = true then 0 else w r)
    by_cases y : r < i ∧ t r = true ∧ qt_ub g r o = true
    · rw [if_pos y, if_pos ⟨by omega, y.2⟩]
    · rw [if_neg y, if_neg (fun z => y ⟨by have := z.1; omega, z.2⟩)]
theorem qt_fr_i (t : Nat → Bool) (g w : Nat → Nat) (o i : Nat) : qt_fr t g w o i i = w i := if_neg (fun z => Nat.lt_irrefl i z.1)
theorem qt_xF14 {post : Int32 → SX → Prop} {t : Nat → Bool} {g w : Nat → Nat} {o : Nat} (F : qt_F t g) (ho : o < 12) (k : post (nI (qt_S (qt_fw t g w o) 12)) (qt_B t, qt_U g, A3, A4, qt_N (qt_fr t g w o 12), A6, A7, A8)) : ∀ d i, i + d = 12 → wX_free_14 post (nI o) (d + 1) (nI (qt_S (qt_fw t g w o) i)) (nI i) (qt_B t) (qt_U g) A3 A4 (qt_N (qt_fr t g w o i)) A6 A7 A8 := by
  intro d
  induction d with
  | zero =>
    intro i hi
    have e : i = 12 := by omega
    subst e
    exact br_t qt_12e k
  | succ d ih =>
    intro i hi
    have next := ih (i + 1) (by omega)
    have h12 : i < 12 := by omega
    have hs : qt_S (qt_fw t g w o) (i + 1) = qt_S (qt_fw t g w o) i + qt_fw t g w o i := rfl
    refine br_f (qt_12 h12) ⟨qt_i12 h12, qt_brB h12 (fun ti => ?_) (fun ti => qt_xU F ho h12 ti (qt_br (fun e => ?_) (fun e => ⟨qt_i12 h12, ?_⟩)))⟩
    · have c : ¬ (t i = true ∧ qt_ub g i o = true) := fun y => by rw [ti] at y; exact absurd y.1 (by decide)
      have z : qt_fw t g w o i = 0 := if_neg c
      rw [hs, z, Nat.add_zero, qt_fr_n c] at next
      exact nm_r (nI_1 i) next
    · have c : ¬ (t i = true ∧ qt_ub g i o = true) := fun y => by rw [e] at y; exact absurd y.2 (by decide)
      have z : qt_fw t g w o i = 0 := if_neg c
      rw [hs, z, Nat.add_zero, qt_fr_n c] at next
      exact nm_r (nI_1 i) next
    · have z : qt_fw t g w o i = w i := if_pos ⟨ti, e⟩
      rw [hs, z, ← qt_fr_u ⟨ti, e⟩, ← qt_uN] at next
      refine nm_r (e' := nI (qt_S (qt_fw t g w o) i + w i)) ?_ ⟨qt_i12 h12, nm_r (qt_uc _ h12 _) (nm_r (nI_1 i) next)⟩
      rw [qt_cN h12, qt_fr_i, nI_add]
theorem qt_yF14 {post : Int32 → SY → Prop} {t : Nat → Bool} {g w : Nat → Nat} {o : Nat} (F : qt_F t g) (ho : o < 12) (k : post (nI (qt_S (qt_fw t g w o) 12)) (qt_B t, qt_U g, A3, A4, qt_N (qt_fr t g w o 12), A6, A7, A8)) : ∀ d i, i + d = 12 → wY_free_14 post (nI o) (d + 1) (nI (qt_S (qt_fw t g w o) i)) (nI i) (qt_B t) (qt_U g) A3 A4 (qt_N (qt_fr t g w o i)) A6 A7 A8 := by
  intro d
  induction d with
  | zero =>
    intro i hi
    have e : i = 12 := by omega
    subst e
    exact br_t qt_12e k
  | succ d ih =>
    intro i hi
    have next := ih (i + 1) (by omega)
    have h12 : i < 12 := by omega
    have hs : qt_S (qt_fw t g w o) (i + 1) = qt_S (qt_fw t g w o) i + qt_fw t g w o i := rfl
    refine br_f (qt_12 h12) ⟨qt_i12 h12, qt_brB h12 (fun ti => ?_) (fun ti => qt_yU F ho h12 ti (qt_br (fun e => ?_) (fun e => ⟨qt_i12 h12, ?_⟩)))⟩
    · have c : ¬ (t i = true ∧ qt_ub g i o = true) := fun y => by rw [ti] at y; exact absurd y.1 (by decide)
      have z : qt_fw t g w o i = 0 := if_neg c
      rw [hs, z, Nat.add_zero, qt_fr_n c] at next
      exact nm_r (nI_1 i) next
    · have c : ¬ (t i = true ∧ qt_ub g i o = true) := fun y => by rw [e] at y; exact absurd y.2 (by decide)
      have z : qt_fw t g w o i = 0 := if_neg c
      rw [hs, z, Nat.add_zero, qt_fr_n c] at next
      exact nm_r (nI_1 i) next
    · have z : qt_fw t g w o i = w i := if_pos ⟨ti, e⟩
      rw [hs, z, ← qt_fr_u ⟨ti, e⟩, ← qt_uN] at next
      refine nm_r (e' := nI (qt_S (qt_fw t g w o) i + w i)) ?_ ⟨qt_i12 h12, nm_r (qt_uc _ h12 _) (nm_r (nI_1 i) next)⟩
      rw [qt_cN h12, qt_fr_i, nI_add]
/-! recover -/
def qt_cl (v : Nat → Bool) (n : Nat) : Nat → Bool := fun r => if r < n then false else v r
def qt_c1 (v : Nat → Bool) : Nat → Nat := fun r => if v r = true then 1 else 0
theorem qt_cl_0 (v : Nat → Bool) : qt_cl v 0 = v := by
  funext r; exact if_neg (Nat.not_lt_zero r)
theorem qt_cl_t {v : Nat → Bool} {n r : Nat} (z : qt_cl v n r = true) : v r = true := by
  have z' : (if r < n then false else v r) = true := z
  by_cases c : r < n
  · rw [if_pos c] at z'; exact absurd z' (by decide)
  · rw [if_neg c] at z'; exact z'
theorem qt_cl_i (v : Nat → Bool) (i : Nat) : qt_cl v i i = v i := if_neg (Nat.lt_irrefl i)
theorem qt_cl_u (v : Nat → Bool) (i : Nat) : qt_u (qt_cl v i) i false = qt_cl v (i + 1) := by
  funext r
  by_cases c : r = i
  · rw [c, qt_us]; exact (if_pos (by omega)).symm
  · rw [qt_un c]
    show (if r < i then false else v r) = (if r < i + 1 then false else v r)
    by_cases y : r < i
    · rw [if_pos y, if_pos (by omega)]
    · rw [if_neg y, if_neg (by omega)]
theorem qt_cl_n {v : Nat → Bool} {i : Nat} (e : v i = false) : qt_cl v (i + 1) = qt_cl v i := by
  rw [← qt_cl_u]; exact qt_ue ((qt_cl_i v i).trans e)
theorem qt_xC4 {post : Int32 → SX → Prop} {v : Nat → Bool} (k : post (nI (qt_S (qt_c1 v) 10)) (A1, A2, A3, A4, A5, qt_B (qt_cl v 10), A7, A8)) : ∀ d i, i + d = 10 → wX_recover_4 post (d + 1) (nI (qt_S (qt_c1 v) i)) (nI i) A1 A2 A3 A4 A5 (qt_B (qt_cl v i)) A7 A8 := by
  intro d
  induction d with
  | zero =>
    intro i hi
    have e : i = 10 := by omega
    subst e
    exact br_t qt_10e k
  | succ d ih =>
    intro i hi
    have next := ih (i + 1) (by omega)
    have h12 : i < 12 := by omega
    have vi := qt_i10 (j := i) (by omega)
    have hs : qt_S (qt_c1 v) (i + 1) = qt_S (qt_c1 v) i + qt_c1 v i := rfl
    refine br_f (qt_10 (by omega)) ⟨vi, qt_brB h12 (fun e => ?_) (fun e => ⟨vi, ?_⟩)⟩
    · rw [qt_cl_i] at e
      have z : qt_c1 v i = 0 := if_neg (by rw [e]; decide)
      rw [hs, z, Nat.add_zero, qt_cl_n e] at next
      exact nm_r (nI_1 i) next
    · rw [qt_cl_i] at e
      have z : qt_c1 v i = 1 := if_pos e
      rw [hs, z, ← qt_cl_u, ← qt_uB0] at next
      exact nm_r (by rw [qt_uc _ h12, qt_n0]) (nm_r (nI_1 _) (nm_r (nI_1 i) next))
theorem qt_yC4 {post : Int32 → SY → Prop} {t v : Nat → Bool} {h : Nat → Nat} (H : qt_H t v h) (k : post (nI (qt_S (qt_c1 v) 10)) (A1, A2, A3, A4, A5, qt_Z (qt_cl v 10) h, A7, A8)) : ∀ d i, i + d = 10 → wY_recover_4 post (d + 1) (nI (qt_S (qt_c1 v) i)) (nI i) A1 A2 A3 A4 A5 (qt_Z (qt_cl v i) h) A7 A8 := by
  intro d
  induction d with
  | zero =>
    intro i hi
    have e : i = 10 := by omega
    subst e
    exact br_t qt_10e k
  | succ d ih =>
    intro i hi
    have next := ih (i + 1) (by omega)
    have h12 : i < 12 := by omega
    have vi := qt_i10 (j := i) (by omega)
    have hs : qt_S (qt_c1 v) (i + 1) = qt_S (qt_c1 v) i + qt_c1 v i := rfl
    refine br_f (qt_10 (by omega)) ⟨vi, qt_brZ h12 (fun z => (H i (by omega) (qt_cl_t z)).1) (fun e => ⟨vi, ?_⟩) (fun e => ⟨vi, ?_⟩)⟩
    · rw [qt_cl_i] at e
      have z : qt_c1 v i = 0 := if_neg (by rw [e]; decide)
      rw [hs, z, Nat.add_zero, ← qt_cl_u, ← qt_uZ0] at next
      exact nm_r (qt_uc _ h12 _) (nm_r (nI_1 i) next)
    · rw [qt_cl_i] at e
      have z : qt_c1 v i = 1 := if_pos e
      rw [hs, z, ← qt_cl_u, ← qt_uZ0, ← nI_1] at next
      exact nm_r (qt_uc _ h12 _) (nm_r (nI_1 i) next)
/-! sets as bits -/
def qt_mk (c : Nat → Bool) : Nat → Int32
  | 0 => 0
  | n + 1 => if c n = true then qt_mk c n ||| ((1 : Int32) <<< (nI n &&& 31)) else qt_mk c n
def qt_ov (t : Nat → Bool) (g l a w : Nat → Nat) (v : Nat → Bool) (h b : Nat → Nat) : Nat → Bool := fun p => decide (t p = true ∧ l p < qt_tot t g a w v h b p)
def qt_be (t : Nat → Bool) (g : Nat → Nat) (o : Nat) : Nat → Bool := fun p => decide (t p = true ∧ qt_ub g p o = true)
theorem qt_mk_n {c : Nat → Bool} {i : Nat} (h : ¬ c i = true) : qt_mk c (i + 1) = qt_mk c i := if_neg h
theorem qt_mk_u {c : Nat → Bool} {i : Nat} (h : c i = true) : qt_mk c (i + 1) = (qt_mk c i ||| ((1 : Int32) <<< (nI i &&& 31))) := if_pos h
theorem qt_xB14 {post : Int32 → Prop} {t : Nat → Bool} {g : Nat → Nat} {o : Nat} (F : qt_F t g) (ho : o < 12) (k : post (qt_mk (qt_be t g o) 12)) : ∀ d i, i + d = 12 → wX_below_14 post (nI o) (qt_B t) (qt_U g) A3 A4 A5 A6 A7 A8 (d + 1) (qt_mk (qt_be t g o) i) (nI i) := by
  intro d
  induction d with
  | zero =>
    intro i hi
    have e : i = 12 := by omega
    subst e
    exact br_t qt_12e k
  | succ d ih =>
    intro i hi
    have next := ih (i + 1) (by omega)
    have h12 : i < 12 := by omega
    refine br_f (qt_12 h12) ⟨qt_i12 h12, qt_brB h12 (fun ti => ?_) (fun ti => qt_xU F ho h12 ti (qt_br (fun e => ?_) (fun e => ?_)))⟩
    · rw [qt_mk_n (fun z => by have := (of_decide_eq_true z).1; rw [ti] at this; exact absurd this (by decide))] at next
      exact nm_r (nI_1 i) next
    · rw [qt_mk_n (fun z => by have := (of_decide_eq_true z).2; rw [e] at this; exact absurd this (by decide))] at next
      exact nm_r (nI_1 i) next
    · rw [qt_mk_u (decide_eq_true ⟨ti, e⟩)] at next
      exact nm_e (nm_r (nI_1 i) next)
theorem qt_yB4 {post : Int32 → Prop} {t : Nat → Bool} {g : Nat → Nat} {o : Nat} (F : qt_F t g) (ho : o < 12) (to : t o = true) (k : post (qt_mk (qt_be t g o) 12)) : ∀ d i, i + d = 12 → wY_below_4 post (nI o) (qt_B t) (qt_U g) A3 A4 A5 A6 A7 A8 (d + 1) (qt_mk (qt_be t g o) i) (nI i) := by
  intro d
  induction d with
  | zero =>
    intro i hi
    have e : i = 12 := by omega
    subst e
    exact br_t qt_12e k
  | succ d ih =>
    intro i hi
    have next := ih (i + 1) (by omega)
    have h12 : i < 12 := by omega
    have n1 : ¬ (1 : Int32) = 0 := by decide
    refine br_f (qt_12 h12) (qt_yO ho to (br_f n1 ⟨qt_i12 h12, qt_brB h12 (fun ti => ?_) (fun ti => qt_yU F ho h12 ti (qt_br (fun e => ?_) (fun e => ?_)))⟩))
    · rw [qt_mk_n (fun z => by have := (of_decide_eq_true z).1; rw [ti] at this; exact absurd this (by decide))] at next
      exact nm_r (nI_1 i) next
    · rw [qt_mk_n (fun z => by have := (of_decide_eq_true z).2; rw [e] at this; exact absurd this (by decide))] at next
      exact nm_r (nI_1 i) next
    · rw [qt_mk_u (decide_eq_true ⟨ti, e⟩)] at next
      exact nm_e (nm_r (nI_1 i) next)
theorem qt_xV4 {post : Int32 → Prop} {t v : Nat → Bool} {g l a w h b : Nat → Nat} (I : qt_I t g l a w v h b) (k : post (qt_mk (qt_ov t g l a w v h b) 12)) : ∀ d i, i + d = 12 → wX_over_4 post (qt_B t) (qt_U g) (qt_N l) (qt_N a) (qt_N w) (qt_B v) (qt_N h) (qt_N b) (d + 1) (qt_mk (qt_ov t g l a w v h b) i) (nI i) := by
  intro d
  induction d with
  | zero =>
    intro i hi
    have e : i = 12 := by omega
    subst e
    exact br_t qt_12e k
  | succ d ih =>
    intro i hi
    have next := ih (i + 1) (by omega)
    have h12 : i < 12 := by omega
    refine br_f (qt_12 h12) ⟨qt_i12 h12, qt_brB h12 (fun ti => ?_) (fun ti => qt_xT I.1 I.2.1 h12 ⟨qt_i12 h12, qt_brL rfl (qt_cN h12) ?_ ?_ (fun e => ?_) (fun e => ?_)⟩)⟩
    · rw [qt_mk_n (fun z => by have := (of_decide_eq_true z).1; rw [ti] at this; exact absurd this (by decide))] at next
      exact nm_r (nI_1 i) next
    · have := qt_I_t I i; omega
    · have := I.2.2.2.1 i h12; omega
    · rw [qt_mk_n (fun z => by have := (of_decide_eq_true z).2; omega)] at next
      exact nm_r (nI_1 i) next
    · rw [qt_mk_u (decide_eq_true ⟨ti, by omega⟩)] at next
      exact nm_e (nm_r (nI_1 i) next)
theorem qt_yV4 {post : Int32 → Prop} {t v : Nat → Bool} {g l a w h b : Nat → Nat} (I : qt_I t g l a w v h b) (k : post (qt_mk (qt_ov t g l a w v h b) 12)) : ∀ d i, i + d = 12 → wY_over_4 post (qt_B t) (qt_U g) (qt_N l) (qt_N a) (qt_N w) (qt_Z v h) (qt_N b) A8 (d + 1) (qt_mk (qt_ov t g l a w v h b) i) (nI i) := by
  intro d
  induction d with
  | zero =>
    intro i hi
    have e : i = 12 := by omega
    subst e
    exact br_t qt_12e k
  | succ d ih =>
    intro i hi
    have next := ih (i + 1) (by omega)
    have h12 : i < 12 := by omega
    refine br_f (qt_12 h12) ⟨qt_i12 h12, qt_brB h12 (fun ti => ?_) (fun ti => qt_yT I.1 I.2.1 h12 ⟨qt_i12 h12, qt_brL rfl (qt_cN h12) ?_ ?_ (fun e => ?_) (fun e => ?_)⟩)⟩
    · rw [qt_mk_n (fun z => by have := (of_decide_eq_true z).1; rw [ti] at this; exact absurd this (by decide))] at next
      exact nm_r (nI_1 i) next
    · have := qt_I_t I i; omega
    · have := I.2.2.2.1 i h12; omega
    · rw [qt_mk_n (fun z => by have := (of_decide_eq_true z).2; omega)] at next
      exact nm_r (nI_1 i) next
    · rw [qt_mk_u (decide_eq_true ⟨ti, by omega⟩)] at next
      exact nm_e (nm_r (nI_1 i) next)
/-! the reference's move -/
def qt_bad (t : Nat → Bool) (g l a w : Nat → Nat) (v : Nat → Bool) (h b : Nat → Nat) (o pa p : Nat) : Prop := t p = true ∧ qt_ub (qt_u g o pa) pa p = true ∧ l p < qt_tot t (qt_u g o pa) a w v h b p ∧ qt_tot t g a w v h b p < qt_tot t (qt_u g o pa) a w v h b p
theorem qt_yM0 {post : Int32 → SY → Prop} {t : Nat → Bool} {g : Nat → Nat} {pa : Nat} {x1 x3 : Int32} (F : qt_F t g) (hp : pa < 12) (tp : t pa = true) (k : wY_move_193 post (nI pa) 0 x3 x1 (qt_B t) (qt_U g) A3 A4 A5 A6 A7 A8) : ∀ d i, i + d = 12 → wY_move_89 post x1 (nI pa) x3 (qt_B t) (qt_U g) A3 A4 A5 A6 A7 A8 (d + 1) 0 (nI i) := by
  intro d
  induction d with
  | zero =>
    intro i hi
    have e : i = 12 := by omega
    subst e
    exact br_t qt_12e (br_t rfl k)
  | succ d ih =>
    intro i hi
    have next := ih (i + 1) (by omega)
    have h12 : i < 12 := by omega
    refine br_f (qt_12 h12) ⟨qt_i12 h12, qt_brB h12 (fun ti => ?_) (fun ti => qt_yU F h12 hp tp (qt_br (fun e => ?_) (fun e => ?_)))⟩
    · exact br_t rfl (nm_r (nI_1 i) next)
    · exact br_t rfl (nm_r (nI_1 i) next)
    · exact br_t rfl (nm_r (nI_1 i) next)
theorem qt_yM1 {post : Int32 → SY → Prop} {t v : Nat → Bool} {g l a w h b : Nat → Nat} {o pa : Nat} {x1 x3 : Int32} {E : Nat → Int32} (I : qt_I t g l a w v h b) (I' : qt_I t (qt_u g o pa) l a w v h b) (hp : pa < 12) (tp : t pa = true) (hE : ∀ p, p < 12 → t p = true → E p = nI (qt_tot t g a w v h b p))
    (k0 : (∃ p, p < 12 ∧ qt_bad t g l a w v h b o pa p) → wY_move_193 post (nI pa) 0 x3 x1 (qt_B t) (qt_U (qt_u g o pa)) (qt_N l) (qt_N a) (qt_N w) (qt_Z v h) (qt_N b) E)
    (k1 : (∀ p, p < 12 → ¬ qt_bad t g l a w v h b o pa p) → wY_move_193 post (nI pa) 1 (nI pa) x1 (qt_B t) (qt_U (qt_u g o pa)) (qt_N l) (qt_N a) (qt_N w) (qt_Z v h) (qt_N b) E) : ∀ d i, i + d = 12 → (∀ p, p < i → ¬ qt_bad t g l a w v h b o pa p) → wY_move_89 post x1 (nI pa) x3 (qt_B t) (qt_U (qt_u g o pa)) (qt_N l) (qt_N a) (qt_N w) (qt_Z v h) (qt_N b) E (d + 1) 1 (nI i) := by
  have n1 : ¬ (1 : Int32) = 0 := by decide
  intro d
  induction d with
  | zero =>
    intro i hi q
    have e : i = 12 := by omega
    subst e
    exact br_t qt_12e (br_f n1 (k1 q))
  | succ d ih =>
    intro i hi q
    have h12 : i < 12 := by omega
    have next : ¬ qt_bad t g l a w v h b o pa i → wY_move_89 post x1 (nI pa) x3 (qt_B t) (qt_U (qt_u g o pa)) (qt_N l) (qt_N a) (qt_N w) (qt_Z v h) (qt_N b) E (d + 1) 1 (nI (i + 1)) := by
      intro c
      refine ih (i + 1) (by omega) (fun p hp' => ?_)
      by_cases y : p = i
      · rw [y]; exact c
      · exact q p (by omega)
    have b1 := qt_I_t I i
    have b2 := qt_I_t I' i
    have b3 := I.2.2.2.1 i h12
    refine br_f (qt_12 h12) ⟨qt_i12 h12, qt_brB h12 (fun ti => ?_) (fun ti => qt_yU I'.1 h12 hp tp (qt_br (fun e => ?_) (fun e => ?_)))⟩
    · exact br_f n1 (br_t rfl (nm_r (nI_1 i) (next (fun y => by have := y.1; rw [ti] at this; exact absurd this (by decide)))))
    · exact br_f n1 (br_t rfl (nm_r (nI_1 i) (next (fun y => by have := y.2.1; rw [e] at this; exact absurd this (by decide)))))
    · refine br_f n1 (br_f n1 (qt_yT I'.1 I'.2.1 h12 ⟨qt_i12 h12, qt_brL rfl (qt_cN h12) (by omega) (by omega) (fun c => ?_) (fun c => qt_yT I'.1 I'.2.1 h12 ⟨qt_i12 h12, ?_⟩)⟩))
      · exact nm_r (nI_1 i) (next (fun y => by have := y.2.2.1; omega))
      · rw [nI_clamp (by omega), hE i h12 ti, nI_ltI (by omega) (by omega)]
        refine br_c (fun z => ?_) (fun z => ?_)
        · exact nm_r (nI_1 i) (qt_yM0 I'.1 hp tp (k0 ⟨i, h12, ti, e, by omega, z⟩) d (i + 1) (by omega))
        · exact nm_r (nI_1 i) (next (fun y => z y.2.2.2))
theorem qt_yM33 {post : Int32 → SY → Prop} {t v : Nat → Bool} {g l a w h b : Nat → Nat} {o pa : Nat} (I : qt_I t g l a w v h b) (ho : o < 12) (oz : o ≠ 0)
    (k : ∀ E, (∀ p, p < 12 → t p = true → E p = nI (qt_tot t g a w v h b p)) → wY_move_89 post (nI o) (nI pa) (nI (g o)) (qt_B t) (qt_U (qt_u g o pa)) (qt_N l) (qt_N a) (qt_N w) (qt_Z v h) (qt_N b) E 13 1 0) : ∀ d i E, i + d = 12 → (∀ p, p < i → t p = true → E p = nI (qt_tot t g a w v h b p)) → wY_move_33 post (nI o) (nI pa) (d + 1) (nI i) (qt_B t) (qt_U g) (qt_N l) (qt_N a) (qt_N w) (qt_Z v h) (qt_N b) E := by
  intro d
  induction d with
  | zero =>
    intro i E hi q
    have e : i = 12 := by omega
    subst e
    refine br_t qt_12e ⟨qt_i12 ho, nm_r (qt_cU1 ho oz) ⟨qt_i12 ho, nm_r (by rw [qt_uc _ ho, qt_uU g oz]) ⟨13, k E q⟩⟩⟩
  | succ d ih =>
    intro i E hi q
    have h12 : i < 12 := by omega
    have us : ∀ x, upd E i x i = x := fun x => if_pos rfl
    have un : ∀ x p, p ≠ i → upd E i x p = E p := fun x p hp => if_neg hp
    refine br_f (qt_12 h12) ⟨qt_i12 h12, qt_brB h12 (fun ti => ⟨qt_i12 h12, ?_⟩) (fun ti => qt_yT I.1 I.2.1 h12 ⟨qt_i12 h12, ?_⟩)⟩
    · refine nm_r (qt_uc _ h12 _) (nm_r (nI_1 i) (ih (i + 1) _ (by omega) (fun p hp tp => ?_)))
      by_cases y : p = i
      · rw [y, ti] at tp; exact absurd tp (by decide)
      · rw [un _ p y]; exact q p (by omega) tp
    · refine nm_r (qt_uc _ h12 _) (nm_r (nI_1 i) (ih (i + 1) _ (by omega) (fun p hp tp => ?_)))
      by_cases y : p = i
      · rw [y]; exact us _
      · rw [un _ p y]; exact q p (by omega) tp
end QTL
end
section
section QTM
/-! N: the calls, outcome by outcome -/
variable {t v : Nat → Bool} {g l a w h b : Nat → Nat} {e : Nat → Int32}
theorem qt_1n : ¬ (1 : Int32) = 0 := by decide
theorem qt_sub {a b : Nat} (h : b ≤ a) : nI a - nI b = nI (a - b) := by
  obtain ⟨c, rfl⟩ : ∃ c, a = c + b := ⟨a - b, by omega⟩
  rw [← nI_add, Int32.add_sub_cancel, Nat.add_sub_cancel]
/-! add -/
theorem qt_xadd0 {post : Int32 → SX → Prop} {x y : Int32} (n : ¬ (qt_O t x ∧ qt_A y)) (k : post (-1) (qt_X t g l a w v h b)) : wpX_add post (qt_X t g l a w v h b) x y := by
  unfold wpX_add
  dsimp only [qt_X]
  by_cases O : qt_O t x
  · have n' : ¬ qt_A y := fun z => n ⟨O, z⟩
    obtain ⟨o, ho, to, rfl⟩ := O
    exact qt_xO ho to (br_f qt_1n (qt_xAn n' (br_t rfl k)))
  · exact qt_xOn O (br_t rfl k)
theorem qt_yadd0 {post : Int32 → SY → Prop} {x y : Int32} (n : ¬ (qt_O t x ∧ qt_A y)) (k : post (-1) (qt_Y t g l a w v h b e)) : wpY_add post (qt_Y t g l a w v h b e) x y := by
  unfold wpY_add
  dsimp only [qt_Y]
  by_cases O : qt_O t x
  · have n' : ¬ qt_A y := fun z => n ⟨O, z⟩
    obtain ⟨o, ho, to, rfl⟩ := O
    exact qt_yO ho to (br_f qt_1n (qt_yAn n' (br_t rfl k)))
  · exact qt_yOn O (br_t rfl k)
theorem qt_xadd1 {post : Int32 → SX → Prop} {pa m : Nat} (hp : pa < 12) (tp : t pa = true) (hm : m ≤ 1000) (f : qt_lf t 12 12 0 = 12) (k : post (-2) (qt_X t g l a w v h b)) : wpX_add post (qt_X t g l a w v h b) (nI pa) (nI m) := by
  unfold wpX_add
  dsimp only [qt_X]
  exact qt_xO hp tp (br_f qt_1n (qt_xA hm (br_f qt_1n (qt_xL (fun _ => br_t rfl k) (fun z => absurd f (by omega))))))
theorem qt_yadd1 {post : Int32 → SY → Prop} {pa m : Nat} (t0 : t 0 = true) (hp : pa < 12) (tp : t pa = true) (hm : m ≤ 1000) (f : qt_lf t 12 12 0 = 12) (k : post (-2) (qt_Y t g l a w v h b e)) : wpY_add post (qt_Y t g l a w v h b e) (nI pa) (nI m) := by
  rw [qt_lf_1 t0] at f
  unfold wpY_add
  dsimp only [qt_Y]
  exact qt_yO hp tp (br_f qt_1n (qt_yA hm (br_f qt_1n ⟨12, qt_yL20 11 1 rfl (fun _ => k) (fun j ej hj => absurd f (by omega))⟩)))
theorem qt_xadd2 {post : Int32 → SX → Prop} {pa m j : Nat} (hp : pa < 12) (tp : t pa = true) (hm : m ≤ 1000) (f : qt_lf t 12 12 0 = j) (hj : j < 12) (jz : j ≠ 0) (k : post (nI j) (qt_X (qt_u t j true) (qt_u g j pa) (qt_u l j m) a w v h b)) : wpX_add post (qt_X t g l a w v h b) (nI pa) (nI m) := by
  unfold wpX_add
  dsimp only [qt_X]
  refine qt_xO hp tp (br_f qt_1n (qt_xA hm (br_f qt_1n (qt_xL (fun z => absurd z (by omega)) (fun _ => ?_)))))
  rw [f]
  exact br_f (qt_nm hj) ⟨qt_i12 hj, nm_r (by rw [qt_uc _ hj, qt_n1, qt_uB1]) ⟨qt_i12 hj, nm_r (by rw [qt_uc _ hj, qt_uU g jz]) ⟨qt_i12 hj, nm_r (by rw [qt_uc _ hj, qt_uN]) k⟩⟩⟩
theorem qt_yadd2 {post : Int32 → SY → Prop} {pa m j : Nat} (t0 : t 0 = true) (hp : pa < 12) (tp : t pa = true) (hm : m ≤ 1000) (f : qt_lf t 12 12 0 = j) (hj : j < 12) (jz : j ≠ 0) (aj : a j = 0) (wj : w j = 0) (k : post (nI j) (qt_Y (qt_u t j true) (qt_u g j pa) (qt_u l j m) a w v h b e)) : wpY_add post (qt_Y t g l a w v h b e) (nI pa) (nI m) := by
  rw [qt_lf_1 t0] at f
  unfold wpY_add
  dsimp only [qt_Y]
  refine qt_yO hp tp (br_f qt_1n (qt_yA hm (br_f qt_1n ⟨12, qt_yL20 11 1 rfl (fun z => absurd z (by omega)) (fun i ei hi => ?_)⟩)))
  have ij : i = j := ei.trans f
  subst ij
  have ea : upd (qt_N a) i 0 = qt_N a := by
    rw [← nI_0, qt_uN, qt_ue aj]
  have ew : upd (qt_N w) i 0 = qt_N w := by
    rw [← nI_0, qt_uN, qt_ue wj]
  rw [ea, ew, qt_uB1, qt_uU g jz, qt_uN]
  exact k
/-! remove -/
def qt_rm (t : Nat → Bool) (g a w : Nat → Nat) (v : Nat → Bool) (h b : Nat → Nat) (o : Nat) : Prop := o < 12 ∧ t o = true ∧ o ≠ 0 ∧ (∀ p, p < 12 → t p = true → p ≠ 0 → g p ≠ o) ∧ qt_tot t g a w v h b o = 0
theorem qt_xrem0 {post : Int32 → SX → Prop} {x : Int32} (I : qt_I t g l a w v h b) (n : ∀ o, qt_rm t g a w v h b o → x ≠ nI o) (k : post 0 (qt_X t g l a w v h b)) : wpX_remove post (qt_X t g l a w v h b) x := by
  unfold wpX_remove
  dsimp only [qt_X]
  refine br_c (fun _ => k) (fun z => ?_)
  by_cases O : qt_O t x
  · obtain ⟨o, ho, to, rfl⟩ := O
    have oz : o ≠ 0 := fun y => z (by rw [y]; rfl)
    refine qt_xO ho to (br_f qt_1n (qt_xH I.1 ho (fun _ => br_f qt_1n k) (fun c => br_t rfl (qt_xT I.1 I.2.1 ho ?_))))
    have y : qt_tot t g a w v h b o ≠ 0 := fun y => n o ⟨ho, to, oz, c, y⟩ rfl
    have := qt_I_t I o
    exact br_f (nI_ne0 (by omega) (by omega)) k
  · exact qt_xOn O (br_t rfl k)
theorem qt_yrem0 {post : Int32 → SY → Prop} {x : Int32} (I : qt_I t g l a w v h b) (n : ∀ o, qt_rm t g a w v h b o → x ≠ nI o) (k : post 0 (qt_Y t g l a w v h b e)) : wpY_remove post (qt_Y t g l a w v h b e) x := by
  unfold wpY_remove
  dsimp only [qt_Y]
  refine br_c (fun _ => k) (fun z => ?_)
  by_cases O : qt_O t x
  · obtain ⟨o, ho, to, rfl⟩ := O
    have oz : o ≠ 0 := fun y => z (by rw [y]; rfl)
    refine qt_yO ho to (br_f qt_1n (qt_yT I.1 I.2.1 ho ?_))
    have bd := qt_I_t I o
    by_cases y : qt_tot t g a w v h b o = 0
    · refine br_t (by rw [y]; rfl) (qt_ya I.1 ho (fun _ => br_t rfl k) (fun c => absurd rfl (n o ⟨ho, to, oz, c, y⟩)))
    · exact br_f (nI_ne0 (by omega) (by omega)) k
  · exact qt_yOn O (br_t rfl k)
theorem qt_xrem1 {post : Int32 → SX → Prop} {o : Nat} (I : qt_I t g l a w v h b) (r : qt_rm t g a w v h b o) (k : post 1 (qt_X (qt_u t o false) g l a w (qt_dr v h o 10) h b)) : wpX_remove post (qt_X t g l a w v h b) (nI o) := by
  obtain ⟨ho, to, oz, c, z⟩ := r
  unfold wpX_remove
  dsimp only [qt_X]
  refine br_f (nI_ne0 (by omega) (by omega)) (qt_xO ho to (br_f qt_1n (qt_xH I.1 ho (fun ⟨p, hp, tp, pz, q⟩ => absurd q (c p hp tp pz)) (fun _ => br_t rfl (qt_xT I.1 I.2.1 ho (br_t (by rw [z]; rfl) ?_))))))
  refine qt_xD I.2.1 ho ⟨qt_i12 ho, nm_r (by rw [qt_uc _ ho, qt_n0, qt_uB0]) k⟩
theorem qt_yrem1 {post : Int32 → SY → Prop} {o : Nat} (I : qt_I t g l a w v h b) (r : qt_rm t g a w v h b o) (k : post 1 (qt_Y (qt_u t o false) g l a w (qt_dr v h o 10) h b e)) : wpY_remove post (qt_Y t g l a w v h b e) (nI o) := by
  obtain ⟨ho, to, oz, c, z⟩ := r
  unfold wpY_remove
  dsimp only [qt_Y]
  refine br_f (nI_ne0 (by omega) (by omega)) (qt_yO ho to (br_f qt_1n (qt_yT I.1 I.2.1 ho (br_t (by rw [z]; rfl) (qt_ya I.1 ho (fun ⟨p, hp, tp, pz, q⟩ => absurd q (c p hp tp pz)) (fun _ => br_f qt_1n ⟨qt_i12 ho, nm_r (by rw [qt_uc _ ho, qt_n0, qt_uB0]) ⟨11, ?_⟩⟩))))))
  have q := qt_yD39 I.2.1 ho k 10 0 rfl
  rw [qt_dr_0] at q
  exact q
/-! setLimit -/
theorem qt_xlim0 {post : Int32 → SX → Prop} {x y : Int32} (n : ¬ (qt_O t x ∧ qt_A y)) (k : post 0 (qt_X t g l a w v h b)) : wpX_setLimit post (qt_X t g l a w v h b) x y := by
  unfold wpX_setLimit
  dsimp only [qt_X]
  by_cases O : qt_O t x
  · have n' : ¬ qt_A y := fun z => n ⟨O, z⟩
    obtain ⟨o, ho, to, rfl⟩ := O
    exact qt_xO ho to (br_f qt_1n (qt_xAn n' (br_t rfl k)))
  · exact qt_xOn O (br_t rfl k)
theorem qt_ylim0 {post : Int32 → SY → Prop} {x y : Int32} (n : ¬ (qt_O t x ∧ qt_A y)) (k : post 0 (qt_Y t g l a w v h b e)) : wpY_setLimit post (qt_Y t g l a w v h b e) x y := by
  unfold wpY_setLimit
  dsimp only [qt_Y]
  by_cases O : qt_O t x
  · have n' : ¬ qt_A y := fun z => n ⟨O, z⟩
    obtain ⟨o, ho, to, rfl⟩ := O
    exact qt_yO ho to (br_f qt_1n (qt_yAn n' (br_t rfl k)))
  · exact qt_yOn O (br_t rfl k)
theorem qt_xlim1 {post : Int32 → SX → Prop} {o m : Nat} (ho : o < 12) (to : t o = true) (hm : m ≤ 1000) (k : post 1 (qt_X t g (qt_u l o m) a w v h b)) : wpX_setLimit post (qt_X t g l a w v h b) (nI o) (nI m) := by
  unfold wpX_setLimit
  dsimp only [qt_X]
  exact qt_xO ho to (br_f qt_1n (qt_xA hm (br_f qt_1n ⟨qt_i12 ho, nm_r (by rw [qt_uc _ ho, qt_uN]) k⟩)))
theorem qt_ylim1 {post : Int32 → SY → Prop} {o m : Nat} (ho : o < 12) (to : t o = true) (hm : m ≤ 1000) (k : post 1 (qt_Y t g (qt_u l o m) a w v h b e)) : wpY_setLimit post (qt_Y t g l a w v h b e) (nI o) (nI m) := by
  unfold wpY_setLimit
  dsimp only [qt_Y]
  exact qt_yO ho to (br_f qt_1n (qt_yA hm (br_f qt_1n ⟨qt_i12 ho, nm_r (by rw [qt_uc _ ho, qt_uN]) k⟩)))
/-! move -/
def qt_mo (t : Nat → Bool) (g : Nat → Nat) (o pa : Nat) : Prop := o < 12 ∧ t o = true ∧ o ≠ 0 ∧ pa < 12 ∧ t pa = true ∧ qt_ub g pa o = false
theorem qt_xmov0 {post : Int32 → SX → Prop} {x y : Int32} (I : qt_I t g l a w v h b) (n : ∀ o pa, qt_mo t g o pa → x = nI o → y ≠ nI pa) (k : post (-1) (qt_X t g l a w v h b)) : wpX_move post (qt_X t g l a w v h b) x y := by
  unfold wpX_move
  dsimp only [qt_X]
  refine br_c (fun _ => k) (fun z => ?_)
  by_cases O : qt_O t x
  · obtain ⟨o, ho, to, rfl⟩ := O
    have oz : o ≠ 0 := fun y => z (by rw [y]; rfl)
    refine qt_xO ho to (br_f qt_1n ?_)
    by_cases P : qt_O t y
    · obtain ⟨pa, hp, tp, rfl⟩ := P
      refine qt_xO hp tp (br_f qt_1n (qt_xU I.1 ho hp tp (qt_br (fun u => ?_) (fun _ => k))))
      exact absurd rfl (n o pa ⟨ho, to, oz, hp, tp, u⟩ rfl)
    · exact qt_xOn P (br_t rfl k)
  · exact qt_xOn O (br_t rfl k)
theorem qt_ymov0 {post : Int32 → SY → Prop} {x y : Int32} (I : qt_I t g l a w v h b) (n : ∀ o pa, qt_mo t g o pa → x = nI o → y ≠ nI pa) (k : post (-1) (qt_Y t g l a w v h b e)) : wpY_move post (qt_Y t g l a w v h b e) x y := by
  unfold wpY_move
  dsimp only [qt_Y]
  refine br_c (fun _ => k) (fun z => ?_)
  by_cases O : qt_O t x
  · obtain ⟨o, ho, to, rfl⟩ := O
    have oz : o ≠ 0 := fun y => z (by rw [y]; rfl)
    refine qt_yO ho to (br_f qt_1n ?_)
    by_cases P : qt_O t y
    · obtain ⟨pa, hp, tp, rfl⟩ := P
      refine qt_yO hp tp (br_f qt_1n (qt_yU I.1 ho hp tp (qt_br (fun u => ?_) (fun _ => k))))
      exact absurd rfl (n o pa ⟨ho, to, oz, hp, tp, u⟩ rfl)
    · exact qt_yOn P (br_t rfl k)
  · exact qt_yOn O (br_t rfl k)
theorem qt_mo_n (I : qt_I t g l a w v h b) {o pa : Nat} (M : qt_mo t g o pa) : ¬ qt_R g pa o := by
  obtain ⟨ho, to, oz, hp, tp, u⟩ := M
  intro z
  rw [(qt_ub_iff I.1 hp tp o).mpr z] at u
  exact absurd u (by decide)
theorem qt_mo_r (I : qt_I t g l a w v h b) {o pa : Nat} (M : qt_mo t g o pa) : (∃ p, p < 12 ∧ qt_bad t g l a w v h b o pa p) ↔ (qt_tot t g a w v h b o ≠ 0 ∧ qt_ex g (qt_rf t g l a w v h b o) 12 pa = true) := by
  have n := qt_mo_n I M
  obtain ⟨ho, to, oz, hp, tp, u⟩ := M
  rw [qt_exR I.1 hp tp _ (Nat.le_refl 12)]
  refine Iff.trans (qt_ref I.1 (qt_F_mv I.1 ho oz hp tp n) I.2.1 ho to hp tp n) ⟨fun ⟨m, p, r, c⟩ => ⟨m, p, r, decide_eq_true c⟩, fun ⟨m, p, r, c⟩ => ⟨m, p, r, of_decide_eq_true c⟩⟩
theorem qt_xmov1 {post : Int32 → SX → Prop} {o pa : Nat} (I : qt_I t g l a w v h b) (M : qt_mo t g o pa) (k0 : (∃ p, p < 12 ∧ qt_bad t g l a w v h b o pa p) → post (-3) (qt_X t g l a w v h b)) (k1 : (¬ ∃ p, p < 12 ∧ qt_bad t g l a w v h b o pa p) → post (nI pa) (qt_X t (qt_u g o pa) l a w v h b)) : wpX_move post (qt_X t g l a w v h b) (nI o) (nI pa) := by
  rw [qt_mo_r I M] at k0 k1
  obtain ⟨ho, to, oz, hp, tp, u⟩ := M
  unfold wpX_move
  dsimp only [qt_X]
  refine br_f (nI_ne0 (by omega) (by omega)) (qt_xO ho to (br_f qt_1n (qt_xO hp tp (br_f qt_1n (qt_xU I.1 ho hp tp (br_t (qt_b0 u) ?_))))))
  exact qt_xM I ho to hp tp (fun c => br_t rfl ⟨qt_i12 ho, nm_r (by rw [qt_uc _ ho, qt_uU g oz]) (k1 c)⟩) (fun c => br_f qt_1n (k0 c))
theorem qt_ymov1 {post : Int32 → SY → Prop} {o pa : Nat} (I : qt_I t g l a w v h b) (M : qt_mo t g o pa) (k0 : ∀ E, (∃ p, p < 12 ∧ qt_bad t g l a w v h b o pa p) → post (-3) (qt_Y t g l a w v h b E)) (k1 : ∀ E, (¬ ∃ p, p < 12 ∧ qt_bad t g l a w v h b o pa p) → post (nI pa) (qt_Y t (qt_u g o pa) l a w v h b E)) : wpY_move post (qt_Y t g l a w v h b e) (nI o) (nI pa) := by
  have n := qt_mo_n I M
  obtain ⟨ho, to, oz, hp, tp, u⟩ := M
  unfold wpY_move
  dsimp only [qt_Y]
  refine br_f (nI_ne0 (by omega) (by omega)) (qt_yO ho to (br_f qt_1n (qt_yO hp tp (br_f qt_1n (qt_yU I.1 ho hp tp (br_t (qt_b0 u) ⟨13, ?_⟩))))))
  refine qt_yM33 I ho oz (fun E hE => ?_) 12 0 e rfl (fun p hp' => absurd hp' (Nat.not_lt_zero p))
  refine qt_yM1 I (qt_I_mv I ho oz hp tp n) hp tp hE (fun c => ⟨qt_i12 ho, ?_⟩) (fun c => ⟨qt_i12 ho, ?_⟩) 12 0 rfl (fun p hp' => absurd hp' (Nat.not_lt_zero p))
  · exact nm_r (e' := qt_U g) (by rw [qt_uc _ ho, qt_uU _ oz, qt_uu, qt_ue rfl]) (br_t rfl (k0 E c))
  · exact nm_r (e' := qt_U (qt_u g o pa)) (by rw [qt_uc _ ho, qt_uU _ oz, qt_uu]) (br_f qt_1n (k1 E (fun ⟨p, hp', y⟩ => c p hp' y)))
end QTM
end
section
section QTN
/-! O: the calls, outcome by outcome, from reserve on -/
variable {t v : Nat → Bool} {g l a w h b : Nat → Nat} {e : Nat → Int32}
/-! reserve -/
theorem qt_xres0 {post : Int32 → SX → Prop} {x y : Int32} (n : ¬ (qt_O t x ∧ qt_A y)) (k : post (-1) (qt_X t g l a w v h b)) : wpX_reserve post (qt_X t g l a w v h b) x y := by
  unfold wpX_reserve
  dsimp only [qt_X]
  by_cases O : qt_O t x
  · have n' : ¬ qt_A y := fun z => n ⟨O, z⟩
    obtain ⟨o, ho, to, rfl⟩ := O
    exact qt_xO ho to (br_f qt_1n (qt_xAn n' (br_t rfl k)))
  · exact qt_xOn O (br_t rfl k)
theorem qt_yres0 {post : Int32 → SY → Prop} {x y : Int32} (n : ¬ (qt_O t x ∧ qt_A y)) (k : post (-1) (qt_Y t g l a w v h b e)) : wpY_reserve post (qt_Y t g l a w v h b e) x y := by
  unfold wpY_reserve
  dsimp only [qt_Y]
  by_cases O : qt_O t x
  · have n' : ¬ qt_A y := fun z => n ⟨O, z⟩
    obtain ⟨o, ho, to, rfl⟩ := O
    exact qt_yO ho to (br_f qt_1n (qt_yAn n' (br_t rfl k)))
  · exact qt_yOn O (br_t rfl k)
theorem qt_xres1 {post : Int32 → SX → Prop} {o m : Nat} (I : qt_I t g l a w v h b) (ho : o < 12) (to : t o = true) (hm : m ≤ 1000) (k : qt_lf v 10 10 0 = 10 → post (-2) (qt_X t g l a w v h b)) (kR : qt_lf v 10 10 0 < 10 → 0 < m → qt_ex g (qt_bl t g l a w v h b m) 12 o = true → post (-3) (qt_X t g l a w v h b)) (kD : ∀ j, j = qt_lf v 10 10 0 → j < 10 → (m = 0 ∨ qt_ex g (qt_bl t g l a w v h b m) 12 o = false) → post (nI j) (qt_X t g l a w (qt_u v j true) (qt_u h j o) (qt_u b j m))) : wpX_reserve post (qt_X t g l a w v h b) (nI o) (nI m) := by
  unfold wpX_reserve
  dsimp only [qt_X]
  refine qt_xO ho to (br_f qt_1n (qt_xA hm (br_f qt_1n (qt_xR ?_))))
  rcases qt_lf_s v 10 10 0 rfl with f | ⟨f, _⟩
  · exact br_t (by rw [f]; rfl) (k f)
  · have kD' := kD _ rfl f
    have kR' := kR f
    generalize qt_lf v 10 10 0 = j at f kD' kR'
    have h12 : j < 12 := by omega
    have vi := qt_i10 f
    have fin : (m = 0 ∨ qt_ex g (qt_bl t g l a w v h b m) 12 o = false) → wX_reserve_48 post (nI o) (nI m) (nI j) (qt_B t) (qt_U g) (qt_N l) (qt_N a) (qt_N w) (qt_B v) (qt_N h) (qt_N b) := by
      intro c
      exact ⟨vi, nm_r (e' := qt_B (qt_u v j true)) (by rw [qt_uc _ h12, qt_n1, qt_uB1]) ⟨vi, nm_r (e' := qt_N (qt_u h j o)) (by rw [qt_uc _ h12, qt_uN]) ⟨vi, nm_r (e' := qt_N (qt_u b j m)) (by rw [qt_uc _ h12, qt_uN]) (kD' c)⟩⟩⟩
    refine br_f (qt_ne (o := 10) h12 (by omega) (by omega)) ?_
    by_cases z : m = 0
    · exact br_t (by rw [z]; decide) (fin (Or.inl z))
    · refine br_f (nI_nle (by omega) (by omega)) (qt_xN I hm ho to ?_)
      by_cases y : qt_ex g (qt_bl t g l a w v h b m) 12 o = true
      · obtain ⟨q, hq, eq⟩ := qt_fi_is I.1 _ 12 o ho to y
        rw [eq]
        exact br_f (qt_nm hq) (kR' (by omega) y)
      · rw [qt_fi_ex _ _ 12 o (qt_bf y)]
        exact br_t rfl (fin (Or.inr (qt_bf y)))
theorem qt_yres1 {post : Int32 → SY → Prop} {o m : Nat} (I : qt_I t g l a w v h b) (ho : o < 12) (to : t o = true) (hm : m ≤ 1000) (k : qt_lf v 10 10 0 = 10 → post (-2) (qt_Y t g l a w v h b e)) (kR : qt_lf v 10 10 0 < 10 → 0 < m → qt_ex g (qt_bl t g l a w v h b m) 12 o = true → post (-3) (qt_Y t g l a w v h b e)) (kD : ∀ j, j = qt_lf v 10 10 0 → j < 10 → (m = 0 ∨ qt_ex g (qt_bl t g l a w v h b m) 12 o = false) → post (nI j) (qt_Y t g l a w (qt_u v j true) (qt_u h j o) (qt_u b j m) e)) : wpY_reserve post (qt_Y t g l a w v h b e) (nI o) (nI m) := by
  unfold wpY_reserve
  dsimp only [qt_Y]
  exact qt_yO ho to (br_f qt_1n (qt_yA hm (br_f qt_1n ⟨11, qt_yR20 I ho to hm 10 0 rfl k kR kD⟩)))
/-- a reservation that isn't refused keeps the sum -/
theorem qt_res_all {o m : Nat} (I : qt_I t g l a w v h b) (ho : o < 12) (to : t o = true) (c : m = 0 ∨ qt_ex g (qt_bl t g l a w v h b m) 12 o = false) : qt_all a w v b + m ≤ 1000 := by
  rcases c with c | c
  · have := I.2.2.2.2; omega
  · have z : ¬ qt_bl t g l a w v h b m 0 = true := by
      intro z
      rw [(qt_exR I.1 ho to _ (Nat.le_refl 12)).mpr ⟨0, qt_R0 I.1 ho to, z⟩] at c
      exact absurd c (by decide)
    have y : ¬ l 0 < qt_tot t g a w v h b 0 + m := fun y => z (decide_eq_true y)
    rw [qt_tot0 I] at y
    have := I.2.2.2.1 0 (by omega)
    omega
/-! use -/
theorem qt_xuse0 {post : Int32 → SX → Prop} {x y : Int32} (I : qt_I t g l a w v h b) (n : ∀ r m, r < 10 → v r = true → m ≤ b r → x = nI r → y ≠ nI m) (k : post (-1) (qt_X t g l a w v h b)) : wpX_use post (qt_X t g l a w v h b) x y := by
  unfold wpX_use
  dsimp only [qt_X]
  by_cases R : qt_V v x
  · obtain ⟨r, hr, vr, rfl⟩ := R
    refine qt_xV hr vr (br_f qt_1n (br_c (fun _ => k) (fun c => ⟨qt_i10 hr, ?_⟩)))
    obtain ⟨j, hj, rfl⟩ := nI_of c
    have q := qt_I_b I hr vr
    exact qt_brL rfl (qt_cN (by omega)) hj (by omega) (fun z => absurd rfl (n r j hr vr z rfl)) (fun _ => k)
  · exact qt_xVn R (br_t rfl k)
theorem qt_yuse0 {post : Int32 → SY → Prop} {x y : Int32} (I : qt_I t g l a w v h b) (n : ∀ r m, r < 10 → v r = true → m ≤ b r → x = nI r → y ≠ nI m) (k : post (-1) (qt_Y t g l a w v h b e)) : wpY_use post (qt_Y t g l a w v h b e) x y := by
  unfold wpY_use
  dsimp only [qt_Y]
  by_cases R : qt_V v x
  · obtain ⟨r, hr, vr, rfl⟩ := R
    refine qt_yV I.2.1 hr vr (br_f qt_1n (br_c (fun _ => k) (fun c => ⟨qt_i10 hr, ?_⟩)))
    obtain ⟨j, hj, rfl⟩ := nI_of c
    have q := qt_I_b I hr vr
    exact qt_brL rfl (qt_cN (by omega)) hj (by omega) (fun z => absurd rfl (n r j hr vr z rfl)) (fun _ => k)
  · exact qt_yVn I.2.1 R (br_t rfl k)
theorem qt_xuse1 {post : Int32 → SX → Prop} {r m : Nat} (I : qt_I t g l a w v h b) (hr : r < 10) (vr : v r = true) (hm : m ≤ b r) (k : post (nI (b r - m)) (qt_X t g l (qt_u a (h r) (a (h r) + m)) w v h (qt_u b r (b r - m)))) : wpX_use post (qt_X t g l a w v h b) (nI r) (nI m) := by
  have q := qt_I_b I hr vr
  have hh := (I.2.1 r hr vr).1
  have h12 : r < 12 := by omega
  have eh : qt_N h (nI r).toNatClampNeg = nI (h r) := qt_cN h12
  unfold wpX_use
  dsimp only [qt_X]
  refine qt_xV hr vr (br_f qt_1n (br_f (nI_pos (by omega)) ⟨qt_i10 hr, br_t ?_ ⟨qt_i10 hr, qt_i10 hr, nm_r (e' := qt_N (qt_u b r (b r - m))) ?_ ⟨qt_i10 hr, by rw [eh]; exact qt_i12 hh, by rw [eh]; exact qt_i12 hh, nm_r (e' := qt_N (qt_u a (h r) (a (h r) + m))) ?_ ⟨qt_i10 hr, ?_⟩⟩⟩⟩))
  · rw [qt_cN h12]; exact nI_le hm (by omega)
  · rw [qt_uc _ h12, qt_cN h12, qt_sub hm, qt_uN]
  · rw [eh, qt_uc _ hh, qt_cN hh, nI_add, qt_uN]
  · rw [qt_cN h12, qt_us]; exact k
theorem qt_yuse1 {post : Int32 → SY → Prop} {r m : Nat} (I : qt_I t g l a w v h b) (hr : r < 10) (vr : v r = true) (hm : m ≤ b r) (k : post (nI (b r - m)) (qt_Y t g l (qt_u a (h r) (a (h r) + m)) w v h (qt_u b r (b r - m)) e)) : wpY_use post (qt_Y t g l a w v h b e) (nI r) (nI m) := by
  have q := qt_I_b I hr vr
  have hh := (I.2.1 r hr vr).1
  have h12 : r < 12 := by omega
  have eh : qt_Z v h (nI r).toNatClampNeg - 1 = nI (h r) := by rw [qt_cZ1 h12 vr, nI_pred]
  unfold wpY_use
  dsimp only [qt_Y]
  refine qt_yV I.2.1 hr vr (br_f qt_1n (br_f (nI_pos (by omega)) ⟨qt_i10 hr, br_t ?_ ⟨qt_i10 hr, qt_i10 hr, nm_r (e' := qt_N (qt_u b r (b r - m))) ?_ ⟨qt_i10 hr, qt_i10 hr, by rw [eh]; exact qt_i12 hh, by rw [eh]; exact qt_i12 hh, nm_r (e' := qt_N (qt_u a (h r) (a (h r) + m))) ?_ ⟨qt_i10 hr, ?_⟩⟩⟩⟩))
  · rw [qt_cN h12]; exact nI_le hm (by omega)
  · rw [qt_uc _ h12, qt_cN h12, qt_sub hm, qt_uN]
  · rw [eh, qt_uc _ hh, qt_cN hh, nI_add, qt_uN]
  · rw [qt_cN h12, qt_us]; exact k
/-! giveBack -/
theorem qt_xgiv0 {post : Int32 → SX → Prop} {x : Int32} (n : ¬ qt_V v x) (k : post (-1) (qt_X t g l a w v h b)) : wpX_giveBack post (qt_X t g l a w v h b) x := by
  unfold wpX_giveBack
  dsimp only [qt_X]
  exact qt_xVn n (br_t rfl k)
theorem qt_ygiv0 {post : Int32 → SY → Prop} {x : Int32} (I : qt_I t g l a w v h b) (n : ¬ qt_V v x) (k : post (-1) (qt_Y t g l a w v h b e)) : wpY_giveBack post (qt_Y t g l a w v h b e) x := by
  unfold wpY_giveBack
  dsimp only [qt_Y]
  exact qt_yVn I.2.1 n (br_t rfl k)
theorem qt_xgiv1 {post : Int32 → SX → Prop} {r : Nat} (hr : r < 10) (vr : v r = true) (k : post (nI (b r)) (qt_X t g l a w (qt_u v r false) h b)) : wpX_giveBack post (qt_X t g l a w v h b) (nI r) := by
  unfold wpX_giveBack
  dsimp only [qt_X]
  refine qt_xV hr vr (br_f qt_1n ⟨qt_i10 hr, nm_r (e' := qt_B (qt_u v r false)) (by rw [qt_uc _ (by omega), qt_n0, qt_uB0]) ⟨qt_i10 hr, ?_⟩⟩)
  rw [qt_cN (by omega)]; exact k
theorem qt_ygiv1 {post : Int32 → SY → Prop} {r : Nat} (I : qt_I t g l a w v h b) (hr : r < 10) (vr : v r = true) (k : post (nI (b r)) (qt_Y t g l a w (qt_u v r false) h b e)) : wpY_giveBack post (qt_Y t g l a w v h b e) (nI r) := by
  unfold wpY_giveBack
  dsimp only [qt_Y]
  refine qt_yV I.2.1 hr vr (br_f qt_1n ⟨qt_i10 hr, nm_r (e' := qt_Z (qt_u v r false) h) (by rw [qt_uc _ (by omega), qt_uZ0]) ⟨qt_i10 hr, ?_⟩⟩)
  rw [qt_cN (by omega)]; exact k
/-! release -/
theorem qt_xrel0 {post : Int32 → SX → Prop} {x y : Int32} (I : qt_I t g l a w v h b) (n : ∀ o m, o < 12 → t o = true → m ≤ a o → x = nI o → y ≠ nI m) (k : post (-1) (qt_X t g l a w v h b)) : wpX_release post (qt_X t g l a w v h b) x y := by
  unfold wpX_release
  dsimp only [qt_X]
  by_cases O : qt_O t x
  · obtain ⟨o, ho, to, rfl⟩ := O
    refine qt_xO ho to (br_f qt_1n (br_c (fun _ => k) (fun c => ⟨qt_i12 ho, ?_⟩)))
    obtain ⟨j, hj, rfl⟩ := nI_of c
    have q := qt_I_a I ho
    exact qt_brL rfl (qt_cN ho) hj (by omega) (fun z => absurd rfl (n o j ho to z rfl)) (fun _ => k)
  · exact qt_xOn O (br_t rfl k)
theorem qt_yrel0 {post : Int32 → SY → Prop} {x y : Int32} (I : qt_I t g l a w v h b) (n : ∀ o m, o < 12 → t o = true → m ≤ a o → x = nI o → y ≠ nI m) (k : post (-1) (qt_Y t g l a w v h b e)) : wpY_release post (qt_Y t g l a w v h b e) x y := by
  unfold wpY_release
  dsimp only [qt_Y]
  by_cases O : qt_O t x
  · obtain ⟨o, ho, to, rfl⟩ := O
    refine qt_yO ho to (br_f qt_1n (br_c (fun _ => k) (fun c => ⟨qt_i12 ho, ?_⟩)))
    obtain ⟨j, hj, rfl⟩ := nI_of c
    have q := qt_I_a I ho
    exact qt_brL rfl (qt_cN ho) hj (by omega) (fun z => absurd rfl (n o j ho to z rfl)) (fun _ => k)
  · exact qt_yOn O (br_t rfl k)
theorem qt_xrel1 {post : Int32 → SX → Prop} {o m : Nat} (I : qt_I t g l a w v h b) (ho : o < 12) (to : t o = true) (hm : m ≤ a o) (k : post (nI (a o - m)) (qt_X t g l (qt_u a o (a o - m)) (qt_u w o (w o + m)) v h b)) : wpX_release post (qt_X t g l a w v h b) (nI o) (nI m) := by
  have q := qt_I_a I ho
  unfold wpX_release
  dsimp only [qt_X]
  refine qt_xO ho to (br_f qt_1n (br_f (nI_pos (by omega)) ⟨qt_i12 ho, br_t ?_ ⟨qt_i12 ho, qt_i12 ho, nm_r (e' := qt_N (qt_u a o (a o - m))) ?_ ⟨qt_i12 ho, qt_i12 ho, nm_r (e' := qt_N (qt_u w o (w o + m))) ?_ ⟨qt_i12 ho, ?_⟩⟩⟩⟩))
  · rw [qt_cN ho]; exact nI_le hm (by omega)
  · rw [qt_uc _ ho, qt_cN ho, qt_sub hm, qt_uN]
  · rw [qt_uc _ ho, qt_cN ho, nI_add, qt_uN]
  · rw [qt_cN ho, qt_us]; exact k
theorem qt_yrel1 {post : Int32 → SY → Prop} {o m : Nat} (I : qt_I t g l a w v h b) (ho : o < 12) (to : t o = true) (hm : m ≤ a o) (k : post (nI (a o - m)) (qt_Y t g l (qt_u a o (a o - m)) (qt_u w o (w o + m)) v h b e)) : wpY_release post (qt_Y t g l a w v h b e) (nI o) (nI m) := by
  have q := qt_I_a I ho
  unfold wpY_release
  dsimp only [qt_Y]
  refine qt_yO ho to (br_f qt_1n (br_f (nI_pos (by omega)) ⟨qt_i12 ho, br_t ?_ ⟨qt_i12 ho, qt_i12 ho, nm_r (e' := qt_N (qt_u a o (a o - m))) ?_ ⟨qt_i12 ho, qt_i12 ho, nm_r (e' := qt_N (qt_u w o (w o + m))) ?_ ⟨qt_i12 ho, ?_⟩⟩⟩⟩))
  · rw [qt_cN ho]; exact nI_le hm (by omega)
  · rw [qt_uc _ ho, qt_cN ho, qt_sub hm, qt_uN]
  · rw [qt_uc _ ho, qt_cN ho, nI_add, qt_uN]
  · rw [qt_cN ho, qt_us]; exact k
/-! free -/
theorem qt_xfre1 {post : Int32 → SX → Prop} {o : Nat} (I : qt_I t g l a w v h b) (ho : o < 12) (to : t o = true) (k : post (nI (qt_S (qt_fw t g w o) 12)) (qt_X t g l a (qt_fr t g w o 12) v h b)) : wpX_free post (qt_X t g l a w v h b) (nI o) := by
  unfold wpX_free
  dsimp only [qt_X]
  refine qt_xO ho to (br_f qt_1n ⟨13, ?_⟩)
  have q := qt_xF14 I.1 ho k 12 0 rfl
  rw [qt_fr_0] at q
  exact q
theorem qt_yfre1 {post : Int32 → SY → Prop} {o : Nat} (I : qt_I t g l a w v h b) (ho : o < 12) (to : t o = true) (k : post (nI (qt_S (qt_fw t g w o) 12)) (qt_Y t g l a (qt_fr t g w o 12) v h b e)) : wpY_free post (qt_Y t g l a w v h b e) (nI o) := by
  unfold wpY_free
  dsimp only [qt_Y]
  refine qt_yO ho to (br_f qt_1n ⟨13, ?_⟩)
  have q := qt_yF14 I.1 ho k 12 0 rfl
  rw [qt_fr_0] at q
  exact q
theorem qt_xfre0 {post : Int32 → SX → Prop} {x : Int32} (n : ¬ qt_O t x) (k : post (-1) (qt_X t g l a w v h b)) : wpX_free post (qt_X t g l a w v h b) x := by
  unfold wpX_free
  dsimp only [qt_X]
  exact qt_xOn n (br_t rfl k)
theorem qt_yfre0 {post : Int32 → SY → Prop} {x : Int32} (n : ¬ qt_O t x) (k : post (-1) (qt_Y t g l a w v h b e)) : wpY_free post (qt_Y t g l a w v h b e) x := by
  unfold wpY_free
  dsimp only [qt_Y]
  exact qt_yOn n (br_t rfl k)
/-! recover -/
theorem qt_xrec {post : Int32 → SX → Prop} (k : post (nI (qt_S (qt_c1 v) 10)) (qt_X t g l a w (qt_cl v 10) h b)) : wpX_recover post (qt_X t g l a w v h b) := by
  have q := qt_xC4 k 10 0 rfl
  rw [qt_cl_0] at q
  exact ⟨11, q⟩
theorem qt_yrec {post : Int32 → SY → Prop} (I : qt_I t g l a w v h b) (k : post (nI (qt_S (qt_c1 v) 10)) (qt_Y t g l a w (qt_cl v 10) h b e)) : wpY_recover post (qt_Y t g l a w v h b e) := by
  have q := qt_yC4 I.2.1 k 10 0 rfl
  rw [qt_cl_0] at q
  exact ⟨11, q⟩
/-! what only reads -/
theorem qt_xtot1 {post : Int32 → Prop} {o : Nat} (I : qt_I t g l a w v h b) (ho : o < 12) (to : t o = true) (k : post (nI (qt_tot t g a w v h b o))) : wpX_total post (qt_X t g l a w v h b) (nI o) := by
  unfold wpX_total
  dsimp only [qt_X]
  exact qt_xO ho to (br_f qt_1n (qt_xT I.1 I.2.1 ho k))
theorem qt_ytot1 {post : Int32 → Prop} {o : Nat} (I : qt_I t g l a w v h b) (ho : o < 12) (to : t o = true) (k : post (nI (qt_tot t g a w v h b o))) : wpY_total post (qt_Y t g l a w v h b e) (nI o) := by
  unfold wpY_total
  dsimp only [qt_Y]
  exact qt_yO ho to (br_f qt_1n (qt_yT I.1 I.2.1 ho k))
theorem qt_xtot0 {post : Int32 → Prop} {x : Int32} (n : ¬ qt_O t x) (k : post (-1)) : wpX_total post (qt_X t g l a w v h b) x := by
  unfold wpX_total
  dsimp only [qt_X]
  exact qt_xOn n (br_t rfl k)
theorem qt_ytot0 {post : Int32 → Prop} {x : Int32} (n : ¬ qt_O t x) (k : post (-1)) : wpY_total post (qt_Y t g l a w v h b e) x := by
  unfold wpY_total
  dsimp only [qt_Y]
  exact qt_yOn n (br_t rfl k)
def qt_rr (x : Int32) : Int32 := if 0 ≤ x then x else 0
theorem qt_rr_67 {A1 A2 A3 A4 A5 A6 A7 A8 : Nat → Int32} {post : Int32 → Prop} {x : Int32} (k : post (qt_rr x)) : wX_room_67 post x A1 A2 A3 A4 A5 A6 A7 A8 := by
  unfold qt_rr at k
  by_cases c : 0 ≤ x
  · rw [if_pos c] at k; exact br_t c k
  · rw [if_neg c] at k; exact br_f c k
theorem qt_xroo1 {post : Int32 → Prop} {o : Nat} (I : qt_I t g l a w v h b) (ho : o < 12) (to : t o = true) (k : post (qt_rr (qt_mn g (qt_e t g l a w v h b) 12 o 1000))) : wpX_room post (qt_X t g l a w v h b) (nI o) := by
  unfold wpX_room
  dsimp only [qt_X]
  exact qt_xO ho to (br_f qt_1n ⟨13, qt_xW19 I 12 0 o 1000 rfl ho to (qt_rr_67 k)⟩)
theorem qt_yroo1 {post : Int32 → Prop} {o : Nat} (I : qt_I t g l a w v h b) (ho : o < 12) (to : t o = true) (k : post (qt_rr (qt_mn g (qt_e t g l a w v h b) 12 o 1000))) : wpY_room post (qt_Y t g l a w v h b e) (nI o) := by
  rw [← qt_room I.1 ho to] at k
  unfold wpY_room
  dsimp only [qt_Y]
  exact qt_yO ho to (br_f qt_1n ⟨13, qt_yW16 (A1 := e) (A2 := e) (A3 := e) (A4 := e) (A5 := e) (A6 := e) (A7 := e) (A8 := e) I ho to (qt_rr_67 k) 12 0 rfl⟩)
theorem qt_xroo0 {post : Int32 → Prop} {x : Int32} (n : ¬ qt_O t x) (k : post (-1)) : wpX_room post (qt_X t g l a w v h b) x := by
  unfold wpX_room
  dsimp only [qt_X]
  exact qt_xOn n (br_t rfl k)
theorem qt_yroo0 {post : Int32 → Prop} {x : Int32} (n : ¬ qt_O t x) (k : post (-1)) : wpY_room post (qt_Y t g l a w v h b e) x := by
  unfold wpY_room
  dsimp only [qt_Y]
  exact qt_yOn n (br_t rfl k)
theorem qt_xblo0 {post : Int32 → Prop} {x y : Int32} (n : ¬ (qt_O t x ∧ qt_A y)) (k : post (-1)) : wpX_blocker post (qt_X t g l a w v h b) x y := by
  unfold wpX_blocker
  dsimp only [qt_X]
  by_cases O : qt_O t x
  · have n' : ¬ qt_A y := fun z => n ⟨O, z⟩
    obtain ⟨o, ho, to, rfl⟩ := O
    exact qt_xO ho to (br_f qt_1n (qt_xAn n' (br_t rfl k)))
  · exact qt_xOn O (br_t rfl k)
theorem qt_yblo0 {post : Int32 → Prop} {x y : Int32} (n : ¬ (qt_O t x ∧ qt_A y)) (k : post (-1)) : wpY_blocker post (qt_Y t g l a w v h b e) x y := by
  unfold wpY_blocker
  dsimp only [qt_Y]
  by_cases O : qt_O t x
  · have n' : ¬ qt_A y := fun z => n ⟨O, z⟩
    obtain ⟨o, ho, to, rfl⟩ := O
    exact qt_yO ho to (br_f qt_1n (qt_yAn n' (br_t rfl k)))
  · exact qt_yOn O (br_t rfl k)
theorem qt_xblo1 {post : Int32 → Prop} {o m : Nat} (I : qt_I t g l a w v h b) (ho : o < 12) (to : t o = true) (hm : m ≤ 1000) (k : post (qt_fi g (qt_bl t g l a w v h b m) 12 o)) : wpX_blocker post (qt_X t g l a w v h b) (nI o) (nI m) := by
  unfold wpX_blocker
  dsimp only [qt_X]
  exact qt_xO ho to (br_f qt_1n (qt_xA hm (br_f qt_1n (qt_xN I hm ho to (br_c (fun z => by rw [z] at k; exact k) (fun _ => k))))))
theorem qt_yblo1 {post : Int32 → Prop} {o m : Nat} (I : qt_I t g l a w v h b) (ho : o < 12) (to : t o = true) (hm : m ≤ 1000) (k : post (qt_fi g (qt_bl t g l a w v h b m) 12 o)) : wpY_blocker post (qt_Y t g l a w v h b e) (nI o) (nI m) := by
  unfold wpY_blocker
  dsimp only [qt_Y]
  exact qt_yO ho to (br_f qt_1n (qt_yA hm (br_f qt_1n (qt_yN I hm ho to k))))
theorem qt_xove {post : Int32 → Prop} (I : qt_I t g l a w v h b) (k : post (qt_mk (qt_ov t g l a w v h b) 12)) : wpX_over post (qt_X t g l a w v h b) := ⟨13, qt_xV4 I k 12 0 rfl⟩
theorem qt_yove {post : Int32 → Prop} (I : qt_I t g l a w v h b) (k : post (qt_mk (qt_ov t g l a w v h b) 12)) : wpY_over post (qt_Y t g l a w v h b e) := ⟨13, qt_yV4 I k 12 0 rfl⟩
theorem qt_xbel0 {post : Int32 → Prop} {x : Int32} (n : ¬ qt_O t x) (k : post 0) : wpX_below post (qt_X t g l a w v h b) x := by
  unfold wpX_below
  dsimp only [qt_X]
  exact qt_xOn n (br_t rfl k)
theorem qt_ybel0 {post : Int32 → Prop} {x : Int32} (n : ¬ qt_O t x) (k : post 0) : wpY_below post (qt_Y t g l a w v h b e) x :=
  ⟨1, br_f (qt_12 (s := 0) (by omega)) (qt_yOn n (br_t rfl k))⟩
theorem qt_xbel1 {post : Int32 → Prop} {o : Nat} (I : qt_I t g l a w v h b) (ho : o < 12) (to : t o = true) (k : post (qt_mk (qt_be t g o) 12)) : wpX_below post (qt_X t g l a w v h b) (nI o) := by
  unfold wpX_below
  dsimp only [qt_X]
  exact qt_xO ho to (br_f qt_1n ⟨13, qt_xB14 I.1 ho k 12 0 rfl⟩)
theorem qt_ybel1 {post : Int32 → Prop} {o : Nat} (I : qt_I t g l a w v h b) (ho : o < 12) (to : t o = true) (k : post (qt_mk (qt_be t g o) 12)) : wpY_below post (qt_Y t g l a w v h b e) (nI o) :=
  ⟨13, qt_yB4 I.1 ho to k 12 0 rfl⟩
end QTN
end
section
/-- one pure state behind both: the reference's before is free -/
def i_Rel (_ : Nat) (u : SX) (v : SY) : Prop := ∃ (t : Nat → Bool) (g l a w : Nat → Nat) (z : Nat → Bool) (h b : Nat → Nat) (e : Nat → Int32), u = qt_X t g l a w z h b ∧ v = qt_Y t g l a w z h b e ∧ qt_I t g l a w z h b
theorem qt_rel {k : Nat} {t z : Nat → Bool} {g l a w h b : Nat → Nat} {e : Nat → Int32} (I : qt_I t g l a w z h b) : i_Rel k (qt_X t g l a w z h b) (qt_Y t g l a w z h b e) := ⟨t, g, l, a, w, z, h, b, e, rfl, rfl, I⟩
theorem i_up {k : Nat} {u : SX} {v : SY} (h : i_Rel k u v) : i_Rel (k + 3) u v := h
theorem qt_z1 : upd (fun _ => 0) 0 (vp_nar .boolean 1) = qt_B (qt_u (fun _ => false) 0 true) := by
  rw [qt_n1, ← qt_uB1]; rfl
theorem qt_z2 : upd (fun _ => 0) 0 (-1) = qt_U (fun _ => 0) := by
  funext j
  by_cases c : j = 0
  · exact (if_pos c).trans (if_pos c).symm
  · exact (if_neg c).trans (if_neg c).symm
theorem qt_z3 : upd (fun _ => 0) 0 1000 = qt_N (qt_u (fun _ => 0) 0 1000) := by
  rw [← qt_uN]; rfl
theorem i_vc0 : wpX_init (fun u => wpY_init (fun v => i_Rel 0 u v)) := by
  refine nm_r qt_z1 (nm_r qt_z2 (nm_r qt_z3 (nm_r qt_z1 (nm_r qt_z2 (nm_r qt_z3 ?_)))))
  exact ⟨qt_u (fun _ => false) 0 true, fun _ => 0, qt_u (fun _ => 0) 0 1000, fun _ => 0, fun _ => 0, fun _ => false, fun _ => 0, fun _ => 0, fun _ => 0, rfl, rfl, qt_I_0⟩
theorem i_vc_add {k : Nat} {u : SX} {v : SY} (I : i_Rel k u v) (hk : k + 3 ≤ 1536) (v1 : Int32) (v2 : Int32) : wpX_add (fun r u' => wpY_add (fun r' v' => r' = r ∧ i_Rel (k + 3) u' v') v v1 v2) u v1 v2 := by
  obtain ⟨t, g, l, a, w, z, h, b, e, rfl, rfl, I⟩ := I
  by_cases c : qt_O t v1 ∧ qt_A v2
  · obtain ⟨⟨o, ho, to, rfl⟩, m, hm, rfl⟩ := c
    rcases qt_lf_s t 12 12 0 rfl with f | ⟨f, fj⟩
    · exact qt_xadd1 ho to hm f (qt_yadd1 I.1.1 ho to hm f ⟨rfl, qt_rel I⟩)
    · have jz : qt_lf t 12 12 0 ≠ 0 := by
        intro y
        rw [y, I.1.1] at fj
        exact absurd fj (by decide)
      have y := I.2.2.1 _ f fj
      exact qt_xadd2 ho to hm rfl f jz (qt_yadd2 I.1.1 ho to hm rfl f jz y.1 y.2 ⟨rfl, qt_rel (qt_I_add I f fj ho to hm)⟩)
  · exact qt_xadd0 c (qt_yadd0 c ⟨rfl, qt_rel I⟩)
theorem i_vc_remove {k : Nat} {u : SX} {v : SY} (I : i_Rel k u v) (hk : k + 3 ≤ 1536) (v1 : Int32) : wpX_remove (fun r u' => wpY_remove (fun r' v' => r' = r ∧ i_Rel (k + 3) u' v') v v1) u v1 := by
  obtain ⟨t, g, l, a, w, z, h, b, e, rfl, rfl, I⟩ := I
  by_cases c : ∃ o, qt_rm t g a w z h b o ∧ v1 = nI o
  · obtain ⟨o, r, rfl⟩ := c
    have al : ∀ p, p < 12 → t p = true → g p ≠ o := by
      intro p hp tp
      by_cases pz : p = 0
      · rw [pz, I.1.2.1]; exact fun y => r.2.2.1 y.symm
      · exact r.2.2.2.1 p hp tp pz
    exact qt_xrem1 I r (qt_yrem1 I r ⟨rfl, qt_rel (qt_I_rem I r.1 r.2.1 r.2.2.1 al r.2.2.2.2)⟩)
  · have n : ∀ o, qt_rm t g a w z h b o → v1 ≠ nI o := fun o r y => c ⟨o, r, y⟩
    exact qt_xrem0 I n (qt_yrem0 I n ⟨rfl, qt_rel I⟩)
theorem i_vc_setLimit {k : Nat} {u : SX} {v : SY} (I : i_Rel k u v) (hk : k + 3 ≤ 1536) (v1 : Int32) (v2 : Int32) : wpX_setLimit (fun r u' => wpY_setLimit (fun r' v' => r' = r ∧ i_Rel (k + 3) u' v') v v1 v2) u v1 v2 := by
  obtain ⟨t, g, l, a, w, z, h, b, e, rfl, rfl, I⟩ := I
  by_cases c : qt_O t v1 ∧ qt_A v2
  · obtain ⟨⟨o, ho, to, rfl⟩, m, hm, rfl⟩ := c
    exact qt_xlim1 ho to hm (qt_ylim1 ho to hm ⟨rfl, qt_rel (qt_I_lim I hm)⟩)
  · exact qt_xlim0 c (qt_ylim0 c ⟨rfl, qt_rel I⟩)
theorem i_vc_move {k : Nat} {u : SX} {v : SY} (I : i_Rel k u v) (hk : k + 3 ≤ 1536) (v1 : Int32) (v2 : Int32) : wpX_move (fun r u' => wpY_move (fun r' v' => r' = r ∧ i_Rel (k + 3) u' v') v v1 v2) u v1 v2 := by
  obtain ⟨t, g, l, a, w, z, h, b, e, rfl, rfl, I⟩ := I
  by_cases c : ∃ o pa, qt_mo t g o pa ∧ v1 = nI o ∧ v2 = nI pa
  · obtain ⟨o, pa, M, rfl, rfl⟩ := c
    exact qt_xmov1 I M (fun y => qt_ymov1 I M (fun E _ => ⟨rfl, qt_rel I⟩) (fun E n => absurd y n)) (fun n => qt_ymov1 I M (fun E y => absurd y n) (fun E _ => ⟨rfl, qt_rel (qt_I_mv I M.1 M.2.2.1 M.2.2.2.1 M.2.2.2.2.1 (qt_mo_n I M))⟩))
  · have n : ∀ o pa, qt_mo t g o pa → v1 = nI o → v2 ≠ nI pa := fun o pa M y y' => c ⟨o, pa, M, y, y'⟩
    exact qt_xmov0 I n (qt_ymov0 I n ⟨rfl, qt_rel I⟩)
theorem i_vc_reserve {k : Nat} {u : SX} {v : SY} (I : i_Rel k u v) (hk : k + 3 ≤ 1536) (v1 : Int32) (v2 : Int32) : wpX_reserve (fun r u' => wpY_reserve (fun r' v' => r' = r ∧ i_Rel (k + 3) u' v') v v1 v2) u v1 v2 := by
  obtain ⟨t, g, l, a, w, z, h, b, e, rfl, rfl, I⟩ := I
  by_cases c : qt_O t v1 ∧ qt_A v2
  · obtain ⟨⟨o, ho, to, rfl⟩, m, hm, rfl⟩ := c
    refine qt_xres1 I ho to hm (fun f => ?_) (fun f p x => ?_) (fun j ej hj x => ?_)
    · exact qt_yres1 I ho to hm (fun _ => ⟨rfl, qt_rel I⟩) (fun f' => absurd f (by omega)) (fun j ej hj => absurd f (by omega))
    · refine qt_yres1 I ho to hm (fun f' => absurd f' (by omega)) (fun _ _ _ => ⟨rfl, qt_rel I⟩) (fun j ej hj y => ?_)
      rcases y with y | y
      · exact absurd y (by omega)
      · rw [x] at y; exact absurd y (by decide)
    · refine qt_yres1 I ho to hm (fun f' => absurd f' (by omega)) (fun _ p y => ?_) (fun i ei hi _ => ?_)
      · rcases x with x | x
        · exact absurd x (by omega)
        · rw [y] at x; exact absurd x (by decide)
      · have ij : i = j := ei.trans ej.symm
        subst ij
        have zj : z i = false := by
          rcases qt_lf_s z 10 10 0 rfl with f | ⟨_, f⟩
          · exact absurd f (by omega)
          · rw [ej]; exact f
        exact ⟨rfl, qt_rel (qt_I_res I ho to hi zj (qt_res_all I ho to x))⟩
  · exact qt_xres0 c (qt_yres0 c ⟨rfl, qt_rel I⟩)
theorem i_vc_use {k : Nat} {u : SX} {v : SY} (I : i_Rel k u v) (hk : k + 3 ≤ 1536) (v1 : Int32) (v2 : Int32) : wpX_use (fun r u' => wpY_use (fun r' v' => r' = r ∧ i_Rel (k + 3) u' v') v v1 v2) u v1 v2 := by
  obtain ⟨t, g, l, a, w, z, h, b, e, rfl, rfl, I⟩ := I
  by_cases c : ∃ r m, r < 10 ∧ z r = true ∧ m ≤ b r ∧ v1 = nI r ∧ v2 = nI m
  · obtain ⟨r, m, hr, vr, hm, rfl, rfl⟩ := c
    exact qt_xuse1 I hr vr hm (qt_yuse1 I hr vr hm ⟨rfl, qt_rel (qt_I_use I hr vr hm)⟩)
  · have n : ∀ r m, r < 10 → z r = true → m ≤ b r → v1 = nI r → v2 ≠ nI m := fun r m hr vr hm y y' => c ⟨r, m, hr, vr, hm, y, y'⟩
    exact qt_xuse0 I n (qt_yuse0 I n ⟨rfl, qt_rel I⟩)
theorem i_vc_giveBack {k : Nat} {u : SX} {v : SY} (I : i_Rel k u v) (hk : k + 3 ≤ 1536) (v1 : Int32) : wpX_giveBack (fun r u' => wpY_giveBack (fun r' v' => r' = r ∧ i_Rel (k + 3) u' v') v v1) u v1 := by
  obtain ⟨t, g, l, a, w, z, h, b, e, rfl, rfl, I⟩ := I
  by_cases c : qt_V z v1
  · obtain ⟨r, hr, vr, rfl⟩ := c
    refine qt_xgiv1 hr vr (qt_ygiv1 I hr vr ⟨rfl, qt_rel (qt_I_few I (fun i y => ?_))⟩)
    by_cases q : i = r
    · rw [q]; exact vr
    · rw [qt_un q] at y; exact y
  · exact qt_xgiv0 c (qt_ygiv0 I c ⟨rfl, qt_rel I⟩)
theorem i_vc_release {k : Nat} {u : SX} {v : SY} (I : i_Rel k u v) (hk : k + 3 ≤ 1536) (v1 : Int32) (v2 : Int32) : wpX_release (fun r u' => wpY_release (fun r' v' => r' = r ∧ i_Rel (k + 3) u' v') v v1 v2) u v1 v2 := by
  obtain ⟨t, g, l, a, w, z, h, b, e, rfl, rfl, I⟩ := I
  by_cases c : ∃ o m, o < 12 ∧ t o = true ∧ m ≤ a o ∧ v1 = nI o ∧ v2 = nI m
  · obtain ⟨o, m, ho, to, hm, rfl, rfl⟩ := c
    exact qt_xrel1 I ho to hm (qt_yrel1 I ho to hm ⟨rfl, qt_rel (qt_I_rel I ho to hm)⟩)
  · have n : ∀ o m, o < 12 → t o = true → m ≤ a o → v1 = nI o → v2 ≠ nI m := fun o m ho to hm y y' => c ⟨o, m, ho, to, hm, y, y'⟩
    exact qt_xrel0 I n (qt_yrel0 I n ⟨rfl, qt_rel I⟩)
theorem i_vc_free {k : Nat} {u : SX} {v : SY} (I : i_Rel k u v) (hk : k + 3 ≤ 1536) (v1 : Int32) : wpX_free (fun r u' => wpY_free (fun r' v' => r' = r ∧ i_Rel (k + 3) u' v') v v1) u v1 := by
  obtain ⟨t, g, l, a, w, z, h, b, e, rfl, rfl, I⟩ := I
  by_cases c : qt_O t v1
  · obtain ⟨o, ho, to, rfl⟩ := c
    exact qt_xfre1 I ho to (qt_yfre1 I ho to ⟨rfl, qt_rel (qt_I_fr I)⟩)
  · exact qt_xfre0 c (qt_yfre0 c ⟨rfl, qt_rel I⟩)
theorem i_vc_recover {k : Nat} {u : SX} {v : SY} (I : i_Rel k u v) (hk : k + 3 ≤ 1536) : wpX_recover (fun r u' => wpY_recover (fun r' v' => r' = r ∧ i_Rel (k + 3) u' v') v) u := by
  obtain ⟨t, g, l, a, w, z, h, b, e, rfl, rfl, I⟩ := I
  exact qt_xrec (qt_yrec I ⟨rfl, qt_rel (qt_I_few I (fun i y => qt_cl_t y))⟩)
theorem i_vc_total {k : Nat} {u : SX} {v : SY} (I : i_Rel k u v) (hk : k + 3 ≤ 1536) (v1 : Int32) : wpX_total (fun r => wpY_total (fun r' => r' = r ∧ i_Rel (k + 3) u v) v v1) u v1 := by
  obtain ⟨t, g, l, a, w, z, h, b, e, rfl, rfl, I⟩ := I
  by_cases c : qt_O t v1
  · obtain ⟨o, ho, to, rfl⟩ := c
    exact qt_xtot1 I ho to (qt_ytot1 I ho to ⟨rfl, qt_rel I⟩)
  · exact qt_xtot0 c (qt_ytot0 c ⟨rfl, qt_rel I⟩)
theorem i_vc_room {k : Nat} {u : SX} {v : SY} (I : i_Rel k u v) (hk : k + 3 ≤ 1536) (v1 : Int32) : wpX_room (fun r => wpY_room (fun r' => r' = r ∧ i_Rel (k + 3) u v) v v1) u v1 := by
  obtain ⟨t, g, l, a, w, z, h, b, e, rfl, rfl, I⟩ := I
  by_cases c : qt_O t v1
  · obtain ⟨o, ho, to, rfl⟩ := c
    exact qt_xroo1 I ho to (qt_yroo1 I ho to ⟨rfl, qt_rel I⟩)
  · exact qt_xroo0 c (qt_yroo0 c ⟨rfl, qt_rel I⟩)
theorem i_vc_blocker {k : Nat} {u : SX} {v : SY} (I : i_Rel k u v) (hk : k + 3 ≤ 1536) (v1 : Int32) (v2 : Int32) : wpX_blocker (fun r => wpY_blocker (fun r' => r' = r ∧ i_Rel (k + 3) u v) v v1 v2) u v1 v2 := by
  obtain ⟨t, g, l, a, w, z, h, b, e, rfl, rfl, I⟩ := I
  by_cases c : qt_O t v1 ∧ qt_A v2
  · obtain ⟨⟨o, ho, to, rfl⟩, m, hm, rfl⟩ := c
    exact qt_xblo1 I ho to hm (qt_yblo1 I ho to hm ⟨rfl, qt_rel I⟩)
  · exact qt_xblo0 c (qt_yblo0 c ⟨rfl, qt_rel I⟩)
theorem i_vc_over {k : Nat} {u : SX} {v : SY} (I : i_Rel k u v) (hk : k + 3 ≤ 1536) : wpX_over (fun r => wpY_over (fun r' => r' = r ∧ i_Rel (k + 3) u v) v) u := by
  obtain ⟨t, g, l, a, w, z, h, b, e, rfl, rfl, I⟩ := I
  exact qt_xove I (qt_yove I ⟨rfl, qt_rel I⟩)
theorem i_vc_below {k : Nat} {u : SX} {v : SY} (I : i_Rel k u v) (hk : k + 3 ≤ 1536) (v1 : Int32) : wpX_below (fun r => wpY_below (fun r' => r' = r ∧ i_Rel (k + 3) u v) v v1) u v1 := by
  obtain ⟨t, g, l, a, w, z, h, b, e, rfl, rfl, I⟩ := I
  by_cases c : qt_O t v1
  · obtain ⟨o, ho, to, rfl⟩ := c
    exact qt_xbel1 I ho to (qt_ybel1 I ho to ⟨rfl, qt_rel I⟩)
  · exact qt_xbel0 c (qt_ybel0 c ⟨rfl, qt_rel I⟩)
end
