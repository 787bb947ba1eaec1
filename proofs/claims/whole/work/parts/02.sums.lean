section QTB
/-! C: sums and totals -/
def qt_S (f : Nat → Nat) : Nat → Nat
  | 0 => 0
  | n + 1 => qt_S f n + f n
theorem qt_S_c {f f' : Nat → Nat} : ∀ n, (∀ i, i < n → f i = f' i) → qt_S f n = qt_S f' n := by
  intro n
  induction n with
  | zero => intro _; rfl
  | succ n ih => intro h; show qt_S f n + f n = qt_S f' n + f' n; rw [ih (fun i hi => h i (by omega)), h n (by omega)]
theorem qt_S_le {f f' : Nat → Nat} : ∀ n, (∀ i, i < n → f i ≤ f' i) → qt_S f n ≤ qt_S f' n := by
  intro n
  induction n with
  | zero => intro _; exact Nat.le_refl _
  | succ n ih => intro h; exact Nat.add_le_add (ih (fun i hi => h i (by omega))) (h n (by omega))
theorem qt_S_add (f f' : Nat → Nat) : ∀ n, qt_S (fun i => f i + f' i) n = qt_S f n + qt_S f' n := by
  intro n
  induction n with
  | zero => rfl
  | succ n ih => show qt_S (fun i => f i + f' i) n + (f n + f' n) = qt_S f n + f n + (qt_S f' n + f' n); rw [ih]; omega
theorem qt_S_1 (f : Nat → Nat) : ∀ n i, i < n → f i ≤ qt_S f n := by
  intro n
  induction n with
  | zero => intro i hi; omega
  | succ n ih =>
    intro i hi
    show f i ≤ qt_S f n + f n
    by_cases e : i = n
    · rw [e]; omega
    · have := ih i (by omega); omega
theorem qt_S_u (f : Nat → Nat) (k x : Nat) : ∀ n, k < n → qt_S (qt_u f k x) n + f k = qt_S f n + x := by
  intro n
  induction n with
  | zero => intro h; omega
  | succ n ih =>
    intro h
    show qt_S (qt_u f k x) n + qt_u f k x n + f k = qt_S f n + f n + x
    by_cases e : n = k
    · rw [← e, qt_us, qt_S_c (f := qt_u f n x) (f' := f) n (fun i hi => qt_un (by omega))]; omega
    · have := ih (by omega)
      rw [qt_un e]; omega
def qt_f1 (t : Nat → Bool) (g a w : Nat → Nat) (o : Nat) : Nat → Nat := fun p => if t p = true ∧ qt_ub g p o = true then a p + w p else 0
def qt_f2 (g : Nat → Nat) (v : Nat → Bool) (h b : Nat → Nat) (o : Nat) : Nat → Nat := fun r => if v r = true ∧ qt_ub g (h r) o = true then b r else 0
def qt_tot (t : Nat → Bool) (g a w : Nat → Nat) (v : Nat → Bool) (h b : Nat → Nat) (o : Nat) : Nat := qt_S (qt_f1 t g a w o) 12 + qt_S (qt_f2 g v h b o) 10
def qt_vb (v : Nat → Bool) (b : Nat → Nat) : Nat → Nat := fun r => if v r = true then b r else 0
def qt_all (a w : Nat → Nat) (v : Nat → Bool) (b : Nat → Nat) : Nat := qt_S (fun p => a p + w p) 12 + qt_S (qt_vb v b) 10
def qt_H (t v : Nat → Bool) (h : Nat → Nat) : Prop := ∀ r, r < 10 → v r = true → h r < 12 ∧ t (h r) = true
def qt_I (t : Nat → Bool) (g l a w : Nat → Nat) (v : Nat → Bool) (h b : Nat → Nat) : Prop :=
  qt_F t g ∧ qt_H t v h ∧ (∀ p, p < 12 → t p = false → a p = 0 ∧ w p = 0) ∧ (∀ p, p < 12 → l p ≤ 1000) ∧ qt_all a w v b ≤ 1000
theorem qt_tot_le (t : Nat → Bool) (g a w : Nat → Nat) (v : Nat → Bool) (h b : Nat → Nat) (o : Nat) : qt_tot t g a w v h b o ≤ qt_all a w v b := by
  refine Nat.add_le_add (qt_S_le 12 fun i _ => ?_) (qt_S_le 10 fun i _ => ?_)
  · show (if t i = true ∧ qt_ub g i o = true then a i + w i else 0) ≤ a i + w i
    by_cases c : t i = true ∧ qt_ub g i o = true
    · rw [if_pos c]; exact Nat.le_refl _
    · rw [if_neg c]; exact Nat.zero_le _
  · show (if v i = true ∧ qt_ub g (h i) o = true then b i else 0) ≤ (if v i = true then b i else 0)
    by_cases c : v i = true
    · rw [if_pos c]
      by_cases c' : qt_ub g (h i) o = true
      · rw [if_pos ⟨c, c'⟩]; exact Nat.le_refl _
      · rw [if_neg (fun z => c' z.2)]; exact Nat.zero_le _
    · rw [if_neg (fun z => c z.1)]; exact Nat.zero_le _
theorem qt_tot0 {t : Nat → Bool} {g l a w : Nat → Nat} {v : Nat → Bool} {h b : Nat → Nat} (I : qt_I t g l a w v h b) : qt_tot t g a w v h b 0 = qt_all a w v b := by
  obtain ⟨F, H, Z, _, _⟩ := I
  show qt_S (qt_f1 t g a w 0) 12 + qt_S (qt_f2 g v h b 0) 10 = qt_S (fun p => a p + w p) 12 + qt_S (qt_vb v b) 10
  rw [qt_S_c (f := qt_f1 t g a w 0) (f' := fun p => a p + w p) 12 ?_, qt_S_c (f := qt_f2 g v h b 0) (f' := qt_vb v b) 10 ?_]
  · intro r hr
    show (if v r = true ∧ qt_ub g (h r) 0 = true then b r else 0) = (if v r = true then b r else 0)
    by_cases c : v r = true
    · have c2 := H r hr c
      rw [if_pos c, if_pos ⟨c, (qt_ub_iff F c2.1 c2.2 0).mpr (qt_R0 F c2.1 c2.2)⟩]
    · rw [if_neg c, if_neg (fun z => c z.1)]
  · intro p hp
    show (if t p = true ∧ qt_ub g p 0 = true then a p + w p else 0) = a p + w p
    by_cases c : t p = true
    · rw [if_pos ⟨c, (qt_ub_iff F hp c 0).mpr (qt_R0 F hp c)⟩]
    · have z := Z p hp (Bool.eq_false_iff.mpr c)
      rw [if_neg (fun y => c y.1), z.1, z.2]
/-- an owner's own share of its total -/
theorem qt_tot_own {t : Nat → Bool} {g a w : Nat → Nat} {v : Nat → Bool} {h b : Nat → Nat} {o : Nat} (F : qt_F t g) (ho : o < 12) (to : t o = true) (z : qt_tot t g a w v h b o = 0) : a o = 0 ∧ w o = 0 := by
  have h1 := qt_S_1 (qt_f1 t g a w o) 12 o ho
  have h2 : qt_S (qt_f1 t g a w o) 12 + qt_S (qt_f2 g v h b o) 10 = 0 := z
  have h3 : qt_f1 t g a w o o = a o + w o := if_pos ⟨to, (qt_ub_iff F ho to o).mpr (qt_Rr g o)⟩
  omega
/-! D: a move -/
theorem qt_mv1 {g : Nat → Nat} {o pa : Nat} : ∀ k x, ¬ qt_R g x o → qt_it (qt_u g o pa) k x = qt_it g k x := by
  intro k
  induction k with
  | zero => intro x _; rfl
  | succ k ih =>
    intro x n
    have hx : x ≠ o := fun e => n (by rw [e]; exact qt_Rr g o)
    show qt_it (qt_u g o pa) k (qt_u g o pa x) = qt_it g k (g x)
    rw [qt_un hx]
    exact ih (g x) (fun ⟨j, ej⟩ => n ⟨j + 1, ej⟩)
theorem qt_mv0 {g : Nat → Nat} {o pa q : Nat} (n : ¬ qt_R g pa o) (hq : qt_R g pa q) : qt_R (qt_u g o pa) o q := by
  obtain ⟨m, em⟩ := hq
  refine ⟨m + 1, ?_⟩
  show qt_it (qt_u g o pa) m (qt_u g o pa o) = q
  rw [qt_us, qt_mv1 m pa n, em]
theorem qt_mvs {g : Nat → Nat} {o pa q p : Nat} (hp : p ≠ o) (h : qt_R (qt_u g o pa) (g p) q) : qt_R (qt_u g o pa) p q := by
  obtain ⟨m, em⟩ := h
  refine ⟨m + 1, ?_⟩
  show qt_it (qt_u g o pa) m (qt_u g o pa p) = q
  rw [qt_un hp, em]
theorem qt_mv2 {g : Nat → Nat} {o pa q : Nat} (n : ¬ qt_R g pa o) (hq : qt_R g pa q) : ∀ k p, qt_it g k p = o → qt_R (qt_u g o pa) p q := by
  intro k
  induction k with
  | zero =>
    intro p e
    have e' : p = o := e
    rw [e']; exact qt_mv0 n hq
  | succ k ih =>
    intro p e
    by_cases c : p = o
    · rw [c]; exact qt_mv0 n hq
    · exact qt_mvs c (ih (g p) e)
theorem qt_mv3 {g : Nat → Nat} {o pa q : Nat} (n : ¬ qt_R g pa o) (hq : qt_R g pa q) : ∀ k p, qt_it g k p = q → qt_R (qt_u g o pa) p q := by
  intro k
  induction k with
  | zero => intro p e; exact ⟨0, e⟩
  | succ k ih =>
    intro p e
    by_cases c : p = o
    · rw [c]; exact qt_mv0 n hq
    · exact qt_mvs c (ih (g p) e)
theorem qt_mv4 {g : Nat → Nat} {o pa q : Nat} : ∀ k p, qt_it (qt_u g o pa) k p = q → qt_R g p q ∨ qt_R g p o := by
  intro k
  induction k with
  | zero => intro p e; exact Or.inl ⟨0, e⟩
  | succ k ih =>
    intro p e
    by_cases c : p = o
    · exact Or.inr ⟨0, c⟩
    · have e' : qt_it (qt_u g o pa) k (qt_u g o pa p) = q := e
      rw [qt_un c] at e'
      rcases ih (g p) e' with ⟨m, em⟩ | ⟨m, em⟩
      · exact Or.inl ⟨m + 1, em⟩
      · exact Or.inr ⟨m + 1, em⟩
theorem qt_mv {g : Nat → Nat} {o pa q : Nat} (n : ¬ qt_R g pa o) (hq : qt_R g pa q) (p : Nat) : qt_R (qt_u g o pa) p q ↔ qt_R g p q ∨ qt_R g p o := by
  constructor
  · intro ⟨k, e⟩; exact qt_mv4 k p e
  · intro h
    rcases h with ⟨k, e⟩ | ⟨k, e⟩
    · exact qt_mv3 n hq k p e
    · exact qt_mv2 n hq k p e
theorem qt_mvp {g : Nat → Nat} {o pa : Nat} (n : ¬ qt_R g pa o) (q : Nat) : qt_R (qt_u g o pa) pa q ↔ qt_R g pa q := by
  constructor
  · intro ⟨k, e⟩; rw [qt_mv1 k pa n] at e; exact ⟨k, e⟩
  · intro ⟨k, e⟩; exact ⟨k, by rw [qt_mv1 k pa n]; exact e⟩
theorem qt_F_mv {t : Nat → Bool} {g : Nat → Nat} {o pa : Nat} (F : qt_F t g) (ho : o < 12) (hz : o ≠ 0) (hpa : pa < 12) (tpa : t pa = true) (n : ¬ qt_R g pa o) : qt_F t (qt_u g o pa) := by
  obtain ⟨d, hd⟩ := F.2.2.2
  refine ⟨F.1, ?_, ?_, fun p => if qt_ub g p o = true then d p + d pa + 1 else d p, ?_⟩
  · rw [qt_un (Ne.symm hz)]; exact F.2.1
  · intro p hp tp
    by_cases c : p = o
    · rw [c, qt_us]; exact ⟨hpa, tpa⟩
    · rw [qt_un c]; exact F.2.2.1 p hp tp
  · intro p hp tp pz
    show (if qt_ub g (qt_u g o pa p) o = true then d (qt_u g o pa p) + d pa + 1 else d (qt_u g o pa p)) < (if qt_ub g p o = true then d p + d pa + 1 else d p)
    by_cases c : p = o
    · rw [c, qt_us, if_neg (fun z => n ((qt_ub_iff F hpa tpa o).mp z)), if_pos ((qt_ub_iff F ho (c ▸ tp) o).mpr (qt_Rr g o))]
      omega
    · rw [qt_un c]
      have x := F.2.2.1 p hp tp
      have y := hd p hp tp pz
      by_cases z : qt_R g (g p) o
      · have z' : qt_R g p o := by
          obtain ⟨k, e⟩ := z
          exact ⟨k + 1, e⟩
        rw [if_pos ((qt_ub_iff F x.1 x.2 o).mpr z), if_pos ((qt_ub_iff F hp tp o).mpr z')]
        omega
      · have z' : ¬ qt_R g p o := by
          intro ⟨k, e⟩
          cases k with
          | zero => exact c e
          | succ k => exact z ⟨k, e⟩
        rw [if_neg (fun q => z ((qt_ub_iff F x.1 x.2 o).mp q)), if_neg (fun q => z' ((qt_ub_iff F hp tp o).mp q))]
        exact y
/-- above the new parent: who is below it after the move -/
theorem qt_mvb {t : Nat → Bool} {g : Nat → Nat} {o pa q x : Nat} (F : qt_F t g) (F' : qt_F t (qt_u g o pa)) (n : ¬ qt_R g pa o) (hq : qt_R g pa q) (hx : x < 12) (tx : t x = true) : (qt_ub (qt_u g o pa) x q = true ↔ (qt_ub g x q = true ∨ qt_ub g x o = true)) := by
  rw [qt_ub_iff F' hx tx, qt_ub_iff F hx tx, qt_ub_iff F hx tx]
  exact qt_mv n hq x
theorem qt_c3 {c c1 c2 : Prop} [Decidable c] [Decidable c1] [Decidable c2] {s : Nat} (h : c ↔ (c1 ∨ c2)) (d : ¬ (c1 ∧ c2)) : (if c then s else 0) = (if c1 then s else 0) + (if c2 then s else 0) := by
  by_cases h1 : c1
  · rw [if_pos (h.mpr (Or.inl h1)), if_pos h1, if_neg (fun h2 => d ⟨h1, h2⟩)]; rfl
  · by_cases h2 : c2
    · rw [if_pos (h.mpr (Or.inr h2)), if_neg h1, if_pos h2]; omega
    · rw [if_neg (fun hc => (h.mp hc).elim h1 h2), if_neg h1, if_neg h2]
theorem qt_c2 {c c1 : Prop} [Decidable c] [Decidable c1] {s : Nat} (h : c ↔ c1) : (if c then s else 0) = (if c1 then s else 0) := by
  by_cases h1 : c1
  · rw [if_pos (h.mpr h1), if_pos h1]
  · rw [if_neg (fun hc => h1 (h.mp hc)), if_neg h1]
theorem qt_mvt1 {t : Nat → Bool} {g a w : Nat → Nat} {v : Nat → Bool} {h b : Nat → Nat} {o pa q : Nat} (F : qt_F t g) (F' : qt_F t (qt_u g o pa)) (H : qt_H t v h) (n : ¬ qt_R g pa o) (hq : qt_R g pa q) (r : qt_R g o q) : qt_tot t (qt_u g o pa) a w v h b q = qt_tot t g a w v h b q := by
  have k : ∀ x, x < 12 → t x = true → (qt_ub (qt_u g o pa) x q = true ↔ qt_ub g x q = true) := by
    intro x hx tx
    rw [qt_mvb F F' n hq hx tx, qt_ub_iff F hx tx, qt_ub_iff F hx tx]
    exact ⟨fun z => z.elim id (fun z => qt_Rt z r), Or.inl⟩
  show qt_S _ 12 + qt_S _ 10 = qt_S _ 12 + qt_S _ 10
  rw [qt_S_c (f := qt_f1 t (qt_u g o pa) a w q) (f' := qt_f1 t g a w q) 12 ?_, qt_S_c (f := qt_f2 (qt_u g o pa) v h b q) (f' := qt_f2 g v h b q) 10 ?_]
  · intro i hi
    exact qt_c2 ⟨fun z => ⟨z.1, (k _ (H i hi z.1).1 (H i hi z.1).2).mp z.2⟩, fun z => ⟨z.1, (k _ (H i hi z.1).1 (H i hi z.1).2).mpr z.2⟩⟩
  · intro i hi
    exact qt_c2 ⟨fun z => ⟨z.1, (k i hi z.1).mp z.2⟩, fun z => ⟨z.1, (k i hi z.1).mpr z.2⟩⟩
theorem qt_mvt2 {t : Nat → Bool} {g a w : Nat → Nat} {v : Nat → Bool} {h b : Nat → Nat} {o pa q : Nat} (F : qt_F t g) (F' : qt_F t (qt_u g o pa)) (H : qt_H t v h) (n : ¬ qt_R g pa o) (hq : qt_R g pa q) (r : ¬ qt_R g o q) : qt_tot t (qt_u g o pa) a w v h b q = qt_tot t g a w v h b q + qt_tot t g a w v h b o := by
  have d : ∀ x, x < 12 → t x = true → ¬ (qt_ub g x q = true ∧ qt_ub g x o = true) := by
    intro x hx tx ⟨z1, z2⟩
    rcases qt_Rl ((qt_ub_iff F hx tx q).mp z1) ((qt_ub_iff F hx tx o).mp z2) with y | y
    · exact n (qt_Rt hq y)
    · exact r y
  have e1 : qt_S (qt_f1 t (qt_u g o pa) a w q) 12 = qt_S (qt_f1 t g a w q) 12 + qt_S (qt_f1 t g a w o) 12 := by
    rw [← qt_S_add]
    refine qt_S_c 12 fun i hi => qt_c3 ⟨fun z => ?_, fun z => ?_⟩ (fun z => d i hi z.1.1 ⟨z.1.2, z.2.2⟩)
    · exact ((qt_mvb F F' n hq hi z.1).mp z.2).elim (fun y => Or.inl ⟨z.1, y⟩) (fun y => Or.inr ⟨z.1, y⟩)
    · exact z.elim (fun y => ⟨y.1, (qt_mvb F F' n hq hi y.1).mpr (Or.inl y.2)⟩) (fun y => ⟨y.1, (qt_mvb F F' n hq hi y.1).mpr (Or.inr y.2)⟩)
  have e2 : qt_S (qt_f2 (qt_u g o pa) v h b q) 10 = qt_S (qt_f2 g v h b q) 10 + qt_S (qt_f2 g v h b o) 10 := by
    rw [← qt_S_add]
    refine qt_S_c 10 fun i hi => qt_c3 ⟨fun z => ?_, fun z => ?_⟩ (fun z => d _ (H i hi z.1.1).1 (H i hi z.1.1).2 ⟨z.1.2, z.2.2⟩)
    · exact ((qt_mvb F F' n hq (H i hi z.1).1 (H i hi z.1).2).mp z.2).elim (fun y => Or.inl ⟨z.1, y⟩) (fun y => Or.inr ⟨z.1, y⟩)
    · exact z.elim (fun y => ⟨y.1, (qt_mvb F F' n hq (H i hi y.1).1 (H i hi y.1).2).mpr (Or.inl y.2)⟩) (fun y => ⟨y.1, (qt_mvb F F' n hq (H i hi y.1).1 (H i hi y.1).2).mpr (Or.inr y.2)⟩)
  show qt_S _ 12 + qt_S _ 10 = (qt_S _ 12 + qt_S _ 10) + (qt_S _ 12 + qt_S _ 10)
  rw [e1, e2]; omega
/-- refused: the set of the reference against the way up of the class -/
theorem qt_ref {t : Nat → Bool} {g l a w : Nat → Nat} {v : Nat → Bool} {h b : Nat → Nat} {o pa : Nat} (F : qt_F t g) (F' : qt_F t (qt_u g o pa)) (H : qt_H t v h) (ho : o < 12) (to : t o = true) (hpa : pa < 12) (tpa : t pa = true) (n : ¬ qt_R g pa o) :
    (∃ p, p < 12 ∧ t p = true ∧ qt_ub (qt_u g o pa) pa p = true ∧ l p < qt_tot t (qt_u g o pa) a w v h b p ∧ qt_tot t g a w v h b p < qt_tot t (qt_u g o pa) a w v h b p)
    ↔ (qt_tot t g a w v h b o ≠ 0 ∧ ∃ p, qt_R g pa p ∧ qt_ub g o p = false ∧ l p < qt_tot t g a w v h b p + qt_tot t g a w v h b o) := by
  constructor
  · intro ⟨p, hp, tp, u, c1, c2⟩
    have hq : qt_R g pa p := (qt_mvp n p).mp ((qt_ub_iff F' hpa tpa p).mp u)
    by_cases r : qt_R g o p
    · rw [qt_mvt1 F F' H n hq r] at c2; exact absurd c2 (Nat.lt_irrefl _)
    · rw [qt_mvt2 F F' H n hq r] at c1 c2
      exact ⟨by omega, p, hq, Bool.eq_false_iff.mpr (fun z => r ((qt_ub_iff F ho to p).mp z)), c1⟩
  · intro ⟨m, p, hq, u, c1⟩
    have r : ¬ qt_R g o p := fun z => Bool.eq_false_iff.mp u ((qt_ub_iff F ho to p).mpr z)
    have x := qt_Rp F hpa tpa hq
    refine ⟨p, x.1, x.2, (qt_ub_iff F' hpa tpa p).mpr ((qt_mvp n p).mpr hq), ?_, ?_⟩
    · rw [qt_mvt2 F F' H n hq r]; exact c1
    · rw [qt_mvt2 F F' H n hq r]; omega
end QTB
