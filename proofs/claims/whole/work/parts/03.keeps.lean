section QTC
/-! E: each call keeps the pure invariant -/
theorem qt_bf {x : Bool} (h : ¬ x = true) : x = false := Bool.eq_false_iff.mpr h
theorem qt_I_0 : qt_I (qt_u (fun _ => false) 0 true) (fun _ => 0) (qt_u (fun _ => 0) 0 1000) (fun _ => 0) (fun _ => 0) (fun _ => false) (fun _ => 0) (fun _ => 0) := by
  refine ⟨⟨qt_us, rfl, ?_, fun _ => 0, ?_⟩, ?_, ?_, ?_, ?_⟩
  · intro p _ _; exact ⟨by show 0 < 12; omega, qt_us⟩
  · intro p _ tp pz
    rw [qt_un pz] at tp
    exact absurd tp (by decide)
  · intro r _ z; exact absurd z Bool.false_ne_true
  · intro p _ _; exact ⟨rfl, rfl⟩
  · intro p _
    by_cases c : p = 0
    · rw [c, qt_us]; exact Nat.le_refl _
    · rw [qt_un c]; exact Nat.zero_le _
  · show qt_S _ 12 + qt_S _ 10 ≤ 1000
    decide
theorem qt_I_add {t : Nat → Bool} {g l a w : Nat → Nat} {v : Nat → Bool} {h b : Nat → Nat} {o pa x : Nat} (I : qt_I t g l a w v h b) (ho : o < 12) (to : t o = false) (hp : pa < 12) (tp : t pa = true) (hx : x ≤ 1000) : qt_I (qt_u t o true) (qt_u g o pa) (qt_u l o x) a w v h b := by
  obtain ⟨⟨t0, g0, gs, d, hd⟩, H, Z, L, A⟩ := I
  have oz : (0 : Nat) ≠ o := by
    intro e; rw [← e, t0] at to; exact absurd to (by decide)
  have ne : ∀ q, t q = true → q ≠ o := by
    intro q tq e; rw [e, to] at tq; exact absurd tq (by decide)
  refine ⟨⟨?_, ?_, ?_, qt_u d o (d pa + 1), ?_⟩, ?_, ?_, ?_, A⟩
  · rw [qt_un oz]; exact t0
  · rw [qt_un oz]; exact g0
  · intro p hp' tp'
    by_cases c : p = o
    · rw [c, qt_us, qt_un (ne pa tp)]; exact ⟨hp, tp⟩
    · rw [qt_un c] at tp' ⊢
      have y := gs p hp' tp'
      rw [qt_un (ne _ y.2)]; exact y
  · intro p hp' tp' pz
    by_cases c : p = o
    · rw [c, qt_us, qt_us, qt_un (ne pa tp)]; omega
    · rw [qt_un c] at tp'
      rw [qt_un c, qt_un c, qt_un (ne _ (gs p hp' tp').2)]
      exact hd p hp' tp' pz
  · intro r hr vr
    have y := H r hr vr
    rw [qt_un (ne _ y.2)]; exact y
  · intro p hp' tp'
    by_cases c : p = o
    · rw [c]; exact Z o ho to
    · rw [qt_un c] at tp'; exact Z p hp' tp'
  · intro p hp'
    by_cases c : p = o
    · rw [c, qt_us]; exact hx
    · rw [qt_un c]; exact L p hp'
def qt_dr (v : Nat → Bool) (h : Nat → Nat) (o n : Nat) : Nat → Bool := fun r => if r < n ∧ h r = o then false else v r
theorem qt_dr_t {v : Nat → Bool} {h : Nat → Nat} {o n r : Nat} (z : qt_dr v h o n r = true) : v r = true ∧ ¬ (r < n ∧ h r = o) := by
  have z' : (if r < n ∧ h r = o then false else v r) = true := z
  by_cases c : r < n ∧ h r = o
  · rw [if_pos c] at z'; exact absurd z' (by decide)
  · rw [if_neg c] at z'; exact ⟨z', c⟩
theorem qt_vb_le {v v' : Nat → Bool} {b : Nat → Nat} (k : ∀ r, v' r = true → v r = true) (r : Nat) : qt_vb v' b r ≤ qt_vb v b r := by
  show (if v' r = true then b r else 0) ≤ (if v r = true then b r else 0)
  by_cases c : v' r = true
  · rw [if_pos c, if_pos (k r c)]; exact Nat.le_refl _
  · rw [if_neg c]; exact Nat.zero_le _
/-- fewer reservations -/
theorem qt_I_few {t : Nat → Bool} {g l a w : Nat → Nat} {v v' : Nat → Bool} {h b : Nat → Nat} (I : qt_I t g l a w v h b) (k : ∀ r, v' r = true → v r = true) : qt_I t g l a w v' h b := by
  obtain ⟨F, H, Z, L, A⟩ := I
  refine ⟨F, fun r hr vr => H r hr (k r vr), Z, L, Nat.le_trans (Nat.add_le_add_left (qt_S_le 10 fun r _ => qt_vb_le k r) _) A⟩
theorem qt_I_rem {t : Nat → Bool} {g l a w : Nat → Nat} {v : Nat → Bool} {h b : Nat → Nat} {o : Nat} (I : qt_I t g l a w v h b) (ho : o < 12) (to : t o = true) (oz : o ≠ 0) (al : ∀ p, p < 12 → t p = true → g p ≠ o) (z : qt_tot t g a w v h b o = 0) : qt_I (qt_u t o false) g l a w (qt_dr v h o 10) h b := by
  have own := qt_tot_own I.1 ho to z
  obtain ⟨⟨t0, g0, gs, d, hd⟩, H, Z, L, A⟩ := qt_I_few (v' := qt_dr v h o 10) I (fun r y => (qt_dr_t y).1)
  have tt : ∀ p, qt_u t o false p = true → t p = true ∧ p ≠ o := by
    intro p y
    by_cases c : p = o
    · rw [c, qt_us] at y; exact absurd y (by decide)
    · rw [qt_un c] at y; exact ⟨y, c⟩
  refine ⟨⟨?_, g0, ?_, d, ?_⟩, ?_, ?_, L, A⟩
  · rw [qt_un (Ne.symm oz)]; exact t0
  · intro p hp tp
    have y := tt p tp
    rw [qt_un (al p hp y.1)]
    exact gs p hp y.1
  · intro p hp tp pz; exact hd p hp (tt p tp).1 pz
  · intro r hr vr
    have y := H r hr vr
    rw [qt_un (fun e => (qt_dr_t vr).2 ⟨hr, e⟩)]; exact y
  · intro p hp tp
    by_cases c : p = o
    · rw [c]; exact own
    · rw [qt_un c] at tp; exact Z p hp tp
theorem qt_I_lim {t : Nat → Bool} {g l a w : Nat → Nat} {v : Nat → Bool} {h b : Nat → Nat} {o x : Nat} (I : qt_I t g l a w v h b) (hx : x ≤ 1000) : qt_I t g (qt_u l o x) a w v h b := by
  obtain ⟨F, H, Z, L, A⟩ := I
  refine ⟨F, H, Z, fun p hp => ?_, A⟩
  by_cases c : p = o
  · rw [c, qt_us]; exact hx
  · rw [qt_un c]; exact L p hp
theorem qt_I_mv {t : Nat → Bool} {g l a w : Nat → Nat} {v : Nat → Bool} {h b : Nat → Nat} {o pa : Nat} (I : qt_I t g l a w v h b) (ho : o < 12) (oz : o ≠ 0) (hp : pa < 12) (tp : t pa = true) (n : ¬ qt_R g pa o) : qt_I t (qt_u g o pa) l a w v h b := by
  obtain ⟨F, H, Z, L, A⟩ := I
  exact ⟨qt_F_mv F ho oz hp tp n, H, Z, L, A⟩
theorem qt_I_res {t : Nat → Bool} {g l a w : Nat → Nat} {v : Nat → Bool} {h b : Nat → Nat} {o r n : Nat} (I : qt_I t g l a w v h b) (ho : o < 12) (to : t o = true) (hr : r < 10) (vr : v r = false) (hn : qt_all a w v b + n ≤ 1000) : qt_I t g l a w (qt_u v r true) (qt_u h r o) (qt_u b r n) := by
  obtain ⟨F, H, Z, L, A⟩ := I
  refine ⟨F, ?_, Z, L, ?_⟩
  · intro i hi vi
    by_cases c : i = r
    · rw [c, qt_us]; exact ⟨ho, to⟩
    · rw [qt_un c] at vi ⊢; exact H i hi vi
  · have e : qt_vb (qt_u v r true) (qt_u b r n) = qt_u (qt_vb v b) r n := by
      funext j
      show (if qt_u v r true j = true then qt_u b r n j else 0) = qt_u (qt_vb v b) r n j
      by_cases c : j = r
      · rw [c, qt_us, qt_us, qt_us, if_pos rfl]
      · rw [qt_un c, qt_un c, qt_un c]; rfl
    have s := qt_S_u (qt_vb v b) r n 10 hr
    have z : qt_vb v b r = 0 := if_neg (by rw [vr]; decide)
    have hn' : qt_S (fun p => a p + w p) 12 + qt_S (qt_vb v b) 10 + n ≤ 1000 := hn
    show qt_S (fun p => a p + w p) 12 + qt_S (qt_vb (qt_u v r true) (qt_u b r n)) 10 ≤ 1000
    rw [e]; omega
theorem qt_I_use {t : Nat → Bool} {g l a w : Nat → Nat} {v : Nat → Bool} {h b : Nat → Nat} {r n : Nat} (I : qt_I t g l a w v h b) (hr : r < 10) (vr : v r = true) (hn : n ≤ b r) : qt_I t g l (qt_u a (h r) (a (h r) + n)) w v h (qt_u b r (b r - n)) := by
  obtain ⟨F, H, Z, L, A⟩ := I
  have y := H r hr vr
  refine ⟨F, H, ?_, L, ?_⟩
  · intro p hp tp
    have c : p ≠ h r := by
      intro c; rw [c, y.2] at tp; exact absurd tp (by decide)
    rw [qt_un c]; exact Z p hp tp
  · have e : qt_vb v (qt_u b r (b r - n)) = qt_u (qt_vb v b) r (b r - n) := by
      funext j
      show (if v j = true then qt_u b r (b r - n) j else 0) = qt_u (qt_vb v b) r (b r - n) j
      by_cases c : j = r
      · rw [c, qt_us, qt_us, if_pos vr]
      · rw [qt_un c, qt_un c]; rfl
    have e' : (fun p => qt_u a (h r) (a (h r) + n) p + w p) = qt_u (fun p => a p + w p) (h r) (a (h r) + n + w (h r)) := by
      funext j
      show qt_u a (h r) (a (h r) + n) j + w j = qt_u (fun p => a p + w p) (h r) (a (h r) + n + w (h r)) j
      by_cases c : j = h r
      · rw [c, qt_us, qt_us]
      · rw [qt_un c, qt_un c]
    have s := qt_S_u (qt_vb v b) r (b r - n) 10 hr
    have s' := qt_S_u (fun p => a p + w p) (h r) (a (h r) + n + w (h r)) 12 y.1
    have z : qt_vb v b r = b r := if_pos vr
    have A' : qt_S (fun p => a p + w p) 12 + qt_S (qt_vb v b) 10 ≤ 1000 := A
    show qt_S (fun p => qt_u a (h r) (a (h r) + n) p + w p) 12 + qt_S (qt_vb v (qt_u b r (b r - n))) 10 ≤ 1000
    rw [e, e']
    omega
theorem qt_I_rel {t : Nat → Bool} {g l a w : Nat → Nat} {v : Nat → Bool} {h b : Nat → Nat} {o n : Nat} (I : qt_I t g l a w v h b) (ho : o < 12) (to : t o = true) (hn : n ≤ a o) : qt_I t g l (qt_u a o (a o - n)) (qt_u w o (w o + n)) v h b := by
  obtain ⟨F, H, Z, L, A⟩ := I
  refine ⟨F, H, ?_, L, ?_⟩
  · intro p hp tp
    have c : p ≠ o := by
      intro c; rw [c, to] at tp; exact absurd tp (by decide)
    rw [qt_un c, qt_un c]; exact Z p hp tp
  · have e : (fun p => qt_u a o (a o - n) p + qt_u w o (w o + n) p) = (fun p => a p + w p) := by
      funext j
      show qt_u a o (a o - n) j + qt_u w o (w o + n) j = a j + w j
      by_cases c : j = o
      · rw [c, qt_us, qt_us]; omega
      · rw [qt_un c, qt_un c]
    show qt_S (fun p => qt_u a o (a o - n) p + qt_u w o (w o + n) p) 12 + qt_S (qt_vb v b) 10 ≤ 1000
    rw [e]; exact A
def qt_fr (t : Nat → Bool) (g w : Nat → Nat) (o n : Nat) : Nat → Nat := fun p => if p < n ∧ t p = true ∧ qt_ub g p o = true then 0 else w p
theorem qt_fr_le (t : Nat → Bool) (g w : Nat → Nat) (o n p : Nat) : qt_fr t g w o n p ≤ w p := by
  show (if p < n ∧ t p = true ∧ qt_ub g p o = true then 0 else w p) ≤ w p
  by_cases c : p < n ∧ t p = true ∧ qt_ub g p o = true
  · rw [if_pos c]; exact Nat.zero_le _
  · rw [if_neg c]; exact Nat.le_refl _
theorem qt_I_fr {t : Nat → Bool} {g l a w : Nat → Nat} {v : Nat → Bool} {h b : Nat → Nat} {o n : Nat} (I : qt_I t g l a w v h b) : qt_I t g l a (qt_fr t g w o n) v h b := by
  obtain ⟨F, H, Z, L, A⟩ := I
  refine ⟨F, H, ?_, L, Nat.le_trans (Nat.add_le_add_right (qt_S_le 12 fun p _ => ?_) _) A⟩
  · intro p hp tp
    have y := Z p hp tp
    have q := qt_fr_le t g w o n p
    exact ⟨y.1, by omega⟩
  · exact Nat.add_le_add_left (qt_fr_le t g w o n p) _
/-! F: bounds out of the invariant -/
theorem qt_I_a {t : Nat → Bool} {g l a w : Nat → Nat} {v : Nat → Bool} {h b : Nat → Nat} (I : qt_I t g l a w v h b) {p : Nat} (hp : p < 12) : a p + w p ≤ 1000 := by
  have s := qt_S_1 (fun p => a p + w p) 12 p hp
  have A : qt_S (fun p => a p + w p) 12 + qt_S (qt_vb v b) 10 ≤ 1000 := I.2.2.2.2
  have s' : a p + w p ≤ qt_S (fun p => a p + w p) 12 := s
  omega
theorem qt_I_b {t : Nat → Bool} {g l a w : Nat → Nat} {v : Nat → Bool} {h b : Nat → Nat} (I : qt_I t g l a w v h b) {r : Nat} (hr : r < 10) (vr : v r = true) : b r ≤ 1000 := by
  have s := qt_S_1 (qt_vb v b) 10 r hr
  have A : qt_S (fun p => a p + w p) 12 + qt_S (qt_vb v b) 10 ≤ 1000 := I.2.2.2.2
  have z : qt_vb v b r = b r := if_pos vr
  omega
theorem qt_I_t {t : Nat → Bool} {g l a w : Nat → Nat} {v : Nat → Bool} {h b : Nat → Nat} (I : qt_I t g l a w v h b) (o : Nat) : qt_tot t g a w v h b o ≤ 1000 := Nat.le_trans (qt_tot_le t g a w v h b o) I.2.2.2.2
/-! G: the first on the way up; the least on the way up and over a set -/
def qt_fi (g : Nat → Nat) (c : Nat → Bool) : Nat → Nat → Int32
  | 0, _ => -1
  | n + 1, p => if c p = true then nI p else if p = 0 then -1 else qt_fi g c n (g p)
theorem qt_fi_ex (g : Nat → Nat) (c : Nat → Bool) : ∀ n p, qt_ex g c n p = false → qt_fi g c n p = -1 := by
  intro n
  induction n with
  | zero => intro p _; rfl
  | succ n ih =>
    intro p e
    rw [qt_ex] at e
    rw [qt_fi]
    by_cases z : c p = true
    · rw [if_pos z] at e; exact absurd e (by decide)
    · rw [if_neg z] at e ⊢
      by_cases y : p = 0
      · rw [if_pos y]
      · rw [if_neg y] at e ⊢; exact ih _ e
theorem qt_fi_is {t : Nat → Bool} {g : Nat → Nat} (F : qt_F t g) (c : Nat → Bool) : ∀ n p, p < 12 → t p = true → qt_ex g c n p = true → ∃ q, q < 12 ∧ qt_fi g c n p = nI q := by
  intro n
  induction n with
  | zero => intro p _ _ e; exact absurd e (by simp [qt_ex])
  | succ n ih =>
    intro p hp tp e
    rw [qt_ex] at e
    rw [qt_fi]
    by_cases z : c p = true
    · rw [if_pos z]; exact ⟨p, hp, rfl⟩
    · rw [if_neg z] at e ⊢
      by_cases y : p = 0
      · rw [if_pos y] at e; exact absurd e (by decide)
      · rw [if_neg y] at e ⊢
        have s := F.2.2.1 p hp tp
        exact ih _ s.1 s.2 e
def qt_mn (g : Nat → Nat) (e : Nat → Int32) : Nat → Nat → Int32 → Int32
  | 0, _, m => m
  | n + 1, p, m => if p = 0 then (if e p < m then e p else m) else qt_mn g e n (g p) (if e p < m then e p else m)
def qt_ml (c : Nat → Bool) (e : Nat → Int32) : Nat → Int32
  | 0 => 1000
  | n + 1 => if (if c n = true then e n else 1000) < qt_ml c e n then (if c n = true then e n else 1000) else qt_ml c e n
theorem qt_min {x m : Int32} : ((if x < m then x else m) = m ∨ (if x < m then x else m) = x) ∧ (if x < m then x else m) ≤ m ∧ (if x < m then x else m) ≤ x := by
  by_cases c : x < m
  · rw [if_pos c]; exact ⟨Or.inr rfl, Int32.le_of_lt c, Int32.le_refl _⟩
  · rw [if_neg c]; exact ⟨Or.inl rfl, Int32.le_refl _, Int32.not_lt.mp c⟩
theorem qt_mn_s {g : Nat → Nat} (h0 : g 0 = 0) (e : Nat → Int32) : ∀ n p m, (qt_mn g e n p m = m ∨ ∃ k, k < n ∧ qt_mn g e n p m = e (qt_it g k p)) ∧ qt_mn g e n p m ≤ m ∧ ∀ k, k < n → qt_mn g e n p m ≤ e (qt_it g k p) := by
  intro n
  induction n with
  | zero => intro p m; exact ⟨Or.inl rfl, Int32.le_refl _, fun k hk => absurd hk (Nat.not_lt_zero k)⟩
  | succ n ih =>
    intro p m
    rw [qt_mn]
    have q := qt_min (x := e p) (m := m)
    by_cases z : p = 0
    · rw [if_pos z]
      refine ⟨q.1.elim Or.inl (fun y => Or.inr ⟨0, by omega, y⟩), q.2.1, fun k _ => ?_⟩
      rw [z, qt_it0 h0, ← z]; exact q.2.2
    · rw [if_neg z]
      obtain ⟨s1, s2, s3⟩ := ih (g p) (if e p < m then e p else m)
      refine ⟨?_, Int32.le_trans s2 q.2.1, fun k hk => ?_⟩
      · rcases s1 with s1 | ⟨k, hk, s1⟩
        · rw [s1]; exact q.1.elim Or.inl (fun y => Or.inr ⟨0, by omega, y⟩)
        · exact Or.inr ⟨k + 1, by omega, s1⟩
      · cases k with
        | zero => exact Int32.le_trans s2 q.2.2
        | succ k => exact s3 k (by omega)
theorem qt_ml_s (c : Nat → Bool) (e : Nat → Int32) : ∀ n, (qt_ml c e n = 1000 ∨ ∃ p, p < n ∧ c p = true ∧ qt_ml c e n = e p) ∧ qt_ml c e n ≤ 1000 ∧ ∀ p, p < n → c p = true → qt_ml c e n ≤ e p := by
  intro n
  induction n with
  | zero => exact ⟨Or.inl rfl, Int32.le_refl _, fun p hp => absurd hp (Nat.not_lt_zero p)⟩
  | succ n ih =>
    obtain ⟨s1, s2, s3⟩ := ih
    have q := qt_min (x := if c n = true then e n else 1000) (m := qt_ml c e n)
    rw [qt_ml]
    refine ⟨?_, Int32.le_trans q.2.1 s2, fun p hp cp => ?_⟩
    · rcases q.1 with y | y
      · rw [y]
        rcases s1 with s1 | ⟨p, hp, cp, s1⟩
        · exact Or.inl s1
        · exact Or.inr ⟨p, by omega, cp, s1⟩
      · rw [y]
        by_cases z : c n = true
        · rw [if_pos z]; exact Or.inr ⟨n, by omega, z, rfl⟩
        · rw [if_neg z]; exact Or.inl rfl
    · by_cases z : p = n
      · have y := q.2.2
        rw [z] at cp ⊢
        rw [if_pos cp] at y ⊢
        exact y
      · exact Int32.le_trans q.2.1 (s3 p (by omega) cp)
theorem qt_room {t : Nat → Bool} {g : Nat → Nat} (F : qt_F t g) {o : Nat} (ho : o < 12) (to : t o = true) (e : Nat → Int32) : qt_ml (fun p => t p && qt_ub g o p) e 12 = qt_mn g e 12 o 1000 := by
  obtain ⟨x1, x2, x3⟩ := qt_mn_s F.2.1 e 12 o 1000
  obtain ⟨y1, y2, y3⟩ := qt_ml_s (fun p => t p && qt_ub g o p) e 12
  have c : ∀ k, qt_it g k o < 12 ∧ (t (qt_it g k o) && qt_ub g o (qt_it g k o)) = true := by
    intro k
    have s := qt_ch F ho to k
    exact ⟨s.1, by rw [s.2, (qt_ub_iff F ho to _).mpr ⟨k, rfl⟩]; rfl⟩
  apply Int32.le_antisymm
  · rcases x1 with x1 | ⟨k, _, x1⟩
    · rw [x1]; exact y2
    · rw [x1]; exact y3 _ (c k).1 (c k).2
  · rcases y1 with y1 | ⟨p, hp, cp, y1⟩
    · rw [y1]; exact x2
    · rw [y1]
      have cp' : (t p && qt_ub g o p) = true := cp
      have u : qt_ub g o p = true := by
        rw [Bool.and_eq_true] at cp'; exact cp'.2
      obtain ⟨k, hk, ek⟩ := qt_chain F ho to ((qt_ub_iff F ho to p).mp u)
      rw [← ek]; exact x3 k hk
end QTC
