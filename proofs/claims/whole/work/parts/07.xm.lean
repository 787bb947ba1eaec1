section QTJ
/-! K: the class's other own methods -/
variable {A1 A2 A3 A4 A5 A6 A7 A8 : Nat → Int32}
/-- the least number from i on that isn't there, below m -/
def qt_lf (t : Nat → Bool) (m : Nat) : Nat → Nat → Nat
  | 0, _ => m
  | d + 1, i => if t i = true then qt_lf t m d (i + 1) else i
theorem qt_lf_s (t : Nat → Bool) (m : Nat) : ∀ d i, i + d = m → (qt_lf t m d i = m ∨ (qt_lf t m d i < m ∧ t (qt_lf t m d i) = false)) := by
  intro d
  induction d with
  | zero => intro i _; exact Or.inl rfl
  | succ d ih =>
    intro i hi
    rw [qt_lf]
    by_cases e : t i = true
    · rw [if_pos e]; exact ih (i + 1) (by omega)
    · rw [if_neg e]; exact Or.inr ⟨by omega, qt_bf e⟩
theorem qt_xL2 {post : Int32 → Prop} {t : Nat → Bool} : ∀ d i, i + d = 12 → (qt_lf t 12 d i = 12 → post (-1)) → (qt_lf t 12 d i < 12 → post (nI (qt_lf t 12 d i))) → wX_leastFreeOwner_2 post (qt_B t) A2 A3 A4 A5 A6 A7 A8 (d + 1) (nI i) := by
  intro d
  induction d with
  | zero =>
    intro i hi k _
    have e : i = 12 := by omega
    subst e
    exact br_t qt_12e (k rfl)
  | succ d ih =>
    intro i hi k k'
    rw [qt_lf] at k k'
    refine br_f (qt_12 (by omega)) ⟨qt_i12 (by omega), qt_brB (by omega) (fun e => ?_) (fun e => ?_)⟩
    · have e' : ¬ t i = true := by rw [e]; decide
      rw [if_neg e'] at k'
      exact k' (by omega)
    · rw [if_pos e] at k k'
      exact nm_r (nI_1 i) (ih (i + 1) (by omega) k k')
theorem qt_xL {post : Int32 → Prop} {t : Nat → Bool} (k : qt_lf t 12 12 0 = 12 → post (-1)) (k' : qt_lf t 12 12 0 < 12 → post (nI (qt_lf t 12 12 0))) : wpX_leastFreeOwner post (qt_B t, A2, A3, A4, A5, A6, A7, A8) :=
  ⟨13, qt_xL2 12 0 rfl k k'⟩
theorem qt_xR2 {post : Int32 → Prop} {v : Nat → Bool} : ∀ d i, i + d = 10 → post (nI (qt_lf v 10 d i)) → wX_leastFreeReservation_2 post A1 A2 A3 A4 A5 (qt_B v) A7 A8 (d + 1) (nI i) := by
  intro d
  induction d with
  | zero =>
    intro i hi k
    have e : i = 10 := by omega
    subst e
    exact br_t qt_10e k
  | succ d ih =>
    intro i hi k
    rw [qt_lf] at k
    refine br_f (qt_10 (by omega)) ⟨qt_i10 (by omega), qt_brB (by omega) (fun e => ?_) (fun e => ?_)⟩
    · have e' : ¬ v i = true := by rw [e]; decide
      rw [if_neg e'] at k
      exact k
    · rw [if_pos e] at k
      exact nm_r (nI_1 i) (ih (i + 1) (by omega) k)
theorem qt_xR {post : Int32 → Prop} {v : Nat → Bool} (k : post (nI (qt_lf v 10 10 0))) : wpX_leastFreeReservation post (A1, A2, A3, A4, A5, qt_B v, A7, A8) :=
  ⟨11, qt_xR2 10 0 rfl k⟩
/-! children -/
def qt_hc (t : Nat → Bool) (g : Nat → Nat) (o : Nat) : Nat → Bool
  | 0 => false
  | n + 1 => if t n = true ∧ n ≠ 0 ∧ g n = o then true else qt_hc t g o n
theorem qt_hc_iff (t : Nat → Bool) (g : Nat → Nat) (o : Nat) : ∀ n, qt_hc t g o n = true ↔ ∃ p, p < n ∧ t p = true ∧ p ≠ 0 ∧ g p = o := by
  intro n
  induction n with
  | zero => exact ⟨fun z => absurd z Bool.false_ne_true, fun ⟨p, hp, _⟩ => absurd hp (Nat.not_lt_zero p)⟩
  | succ n ih =>
    rw [qt_hc]
    by_cases c : t n = true ∧ n ≠ 0 ∧ g n = o
    · rw [if_pos c]; exact ⟨fun _ => ⟨n, by omega, c⟩, fun _ => rfl⟩
    · rw [if_neg c, ih]
      constructor
      · intro ⟨p, hp, q⟩; exact ⟨p, by omega, q⟩
      · intro ⟨p, hp, q⟩
        by_cases e : p = n
        · rw [e] at q; exact absurd q c
        · exact ⟨p, by omega, q⟩
theorem qt_cU {t : Nat → Bool} {g : Nat → Nat} {i o : Nat} (F : qt_F t g) (hi : i < 12) (ti : t i = true) (ho : o < 12) : qt_U g (nI i).toNatClampNeg = nI o ↔ (i ≠ 0 ∧ g i = o) := by
  by_cases z : i = 0
  · rw [qt_cU0 hi z]
    exact ⟨fun y => absurd y.symm (qt_nm ho), fun y => absurd z y.1⟩
  · rw [qt_cU1 hi z, nI_eq (by have := (F.2.2.1 i hi ti).1; omega) (by omega)]
    exact ⟨fun y => ⟨z, y⟩, fun y => y.2⟩
theorem qt_xH2 {post : Int32 → Prop} {t : Nat → Bool} {g : Nat → Nat} {o : Nat} (F : qt_F t g) (ho : o < 12) (k1 : (∃ p, p < 12 ∧ t p = true ∧ p ≠ 0 ∧ g p = o) → post 1) (k0 : (∀ p, p < 12 → t p = true → p ≠ 0 → g p ≠ o) → post 0) : ∀ d i, i + d = 12 → (∀ p, p < i → t p = true → p ≠ 0 → g p ≠ o) → wX_hasChild_2 post (nI o) (qt_B t) (qt_U g) A3 A4 A5 A6 A7 A8 (d + 1) (nI i) := by
  intro d
  induction d with
  | zero =>
    intro i hi q
    have e : i = 12 := by omega
    subst e
    exact br_t qt_12e (k0 q)
  | succ d ih =>
    intro i hi q
    have nx : ¬ (t i = true ∧ i ≠ 0 ∧ g i = o) → ∀ p, p < i + 1 → t p = true → p ≠ 0 → g p ≠ o := by
      intro c p hp tp pz e
      by_cases y : p = i
      · rw [y] at tp pz e; exact c ⟨tp, pz, e⟩
      · exact q p (by omega) tp pz e
    refine br_f (qt_12 (by omega)) ⟨qt_i12 (by omega), qt_brB (by omega) (fun e => ?_) (fun e => ⟨qt_i12 (by omega), ?_⟩)⟩
    · exact nm_r (nI_1 i) (ih (i + 1) (by omega) (nx (fun y => by rw [e] at y; exact absurd y.1 (by decide))))
    · have c := qt_cU F (i := i) (by omega) e ho
      refine br_c (fun y => ?_) (fun y => ?_)
      · exact k1 ⟨i, by omega, e, c.mp y⟩
      · exact nm_r (nI_1 i) (ih (i + 1) (by omega) (nx (fun x => y (c.mpr x.2))))
theorem qt_xH {post : Int32 → Prop} {t : Nat → Bool} {g : Nat → Nat} {o : Nat} (F : qt_F t g) (ho : o < 12) (k1 : (∃ p, p < 12 ∧ t p = true ∧ p ≠ 0 ∧ g p = o) → post 1) (k0 : (∀ p, p < 12 → t p = true → p ≠ 0 → g p ≠ o) → post 0) : wpX_hasChild post (qt_B t, qt_U g, A3, A4, A5, A6, A7, A8) (nI o) :=
  ⟨13, qt_xH2 F ho k1 k0 12 0 rfl (fun p hp => absurd hp (Nat.not_lt_zero p))⟩
/-! the reservations of an owner -/
theorem qt_dr_0 (v : Nat → Bool) (h : Nat → Nat) (o : Nat) : qt_dr v h o 0 = v := by
  funext r; exact if_neg (fun z => Nat.not_lt_zero r z.1)
theorem qt_dr_n {v : Nat → Bool} {h : Nat → Nat} {o i : Nat} (e : v i = false ∨ h i ≠ o) : qt_dr v h o (i + 1) = qt_dr v h o i := by
  funext r
  show (if r < i + 1 ∧ h r = o then false else v r) = (if r < i ∧ h r = o then false else v r)
  by_cases c : r < i ∧ h r = o
  · rw [if_pos c, if_pos ⟨by omega, c.2⟩]
  · rw [if_neg c]
    by_cases y : r < i + 1 ∧ h r = o
    · have q : r = i := by
        have y2 := y.2
        have : ¬ r < i := fun z => c ⟨z, y2⟩
        have := y.1
        omega
      rw [if_pos y, q]
      rcases e with e | e
      · exact e.symm
      · rw [q] at y; exact absurd y.2 e
    · rw [if_neg y]
theorem qt_dr_u {v : Nat → Bool} {h : Nat → Nat} {o i : Nat} (e : v i = false ∨ h i = o) : qt_u (qt_dr v h o i) i false = qt_dr v h o (i + 1) := by
  funext r
  by_cases c : r = i
  · rw [c, qt_us]
    show false = (if i < i + 1 ∧ h i = o then false else v i)
    by_cases y : i < i + 1 ∧ h i = o
    · rw [if_pos y]
    · rw [if_neg y]
      rcases e with e | e
      · exact e.symm
      · exact absurd ⟨by omega, e⟩ y
  · rw [qt_un c]
    show (if r < i ∧ h r = o then false else v r) = (if r < i + 1 ∧ h r = o then false else v r)
    by_cases y : r < i ∧ h r = o
    · rw [if_pos y, if_pos ⟨by omega, y.2⟩]
    · rw [if_neg y, if_neg (fun z => y ⟨by have := z.1; omega, z.2⟩)]
theorem qt_xD2 {post : SX → Prop} {t v : Nat → Bool} {h : Nat → Nat} {o : Nat} (H : qt_H t v h) (ho : o < 12) (k : post (A1, A2, A3, A4, A5, qt_B (qt_dr v h o 10), qt_N h, A8)) : ∀ d i, i + d = 10 → wX_dropReservationsOf_2 post (nI o) (d + 1) (nI i) A1 A2 A3 A4 A5 (qt_B (qt_dr v h o i)) (qt_N h) A8 := by
  intro d
  induction d with
  | zero =>
    intro i hi
    have e : i = 10 := by omega
    subst e
    exact br_t qt_10e k
  | succ d ih =>
    intro i hi
    have next := ih (i + 1) (by omega)
    have q : v i = false ∨ (v i = true ∧ h i < 12) := by
      by_cases e : v i = true
      · exact Or.inr ⟨e, (H i (by omega) e).1⟩
      · exact Or.inl (qt_bf e)
    refine br_f (qt_10 (by omega)) ⟨qt_i10 (by omega), br_c (fun e => ⟨qt_i10 (by omega), ?_⟩) (fun e => ?_)⟩
    · rw [qt_cN (by omega)] at e
      have x : v i = false ∨ h i = o := by
        rcases q with q | ⟨_, q⟩
        · exact Or.inl q
        · exact Or.inr ((nI_eq (by omega) (by omega)).mp e)
      rw [← qt_dr_u x, ← qt_uB0] at next
      exact nm_r (by rw [qt_uc _ (by omega), qt_n0]) (nm_r (nI_1 i) next)
    · rw [qt_cN (by omega)] at e
      have x : v i = false ∨ h i ≠ o := by
        rcases q with q | ⟨_, q⟩
        · exact Or.inl q
        · exact Or.inr (fun y => e (by rw [y]))
      rw [qt_dr_n x] at next
      exact nm_r (nI_1 i) next
theorem qt_xD {post : SX → Prop} {t v : Nat → Bool} {h : Nat → Nat} {o : Nat} (H : qt_H t v h) (ho : o < 12) (k : post (A1, A2, A3, A4, A5, qt_B (qt_dr v h o 10), qt_N h, A8)) : wpX_dropReservationsOf post (A1, A2, A3, A4, A5, qt_B v, qt_N h, A8) (nI o) := by
  have r := qt_xD2 H ho k 10 0 rfl
  rw [qt_dr_0] at r
  exact ⟨11, r⟩
/-! the way up with totals -/
def qt_bl (t : Nat → Bool) (g l a w : Nat → Nat) (v : Nat → Bool) (h b : Nat → Nat) (n : Nat) : Nat → Bool := fun p => decide (l p < qt_tot t g a w v h b p + n)
theorem qt_xN5 {post : Int32 → Prop} {t v : Nat → Bool} {g l a w h b : Nat → Nat} {m : Nat} (I : qt_I t g l a w v h b) (hm : m ≤ 1000) : ∀ n s p, s + n = 12 → p < 12 → t p = true → post (qt_fi g (qt_bl t g l a w v h b m) n p) → wX_nearestBlocker_5 post (nI m) (qt_B t) (qt_U g) (qt_N l) (qt_N a) (qt_N w) (qt_B v) (qt_N h) (qt_N b) (n + 1) (nI p) (nI s) := by
  intro n
  induction n with
  | zero =>
    intro s p hs hp tp k
    have e : s = 12 := by omega
    subst e
    exact br_t qt_12e k
  | succ n ih =>
    intro s p hs hp tp k
    refine br_f (qt_12 (by omega)) (br_f (qt_nm hp) (qt_xT I.1 I.2.1 hp ⟨qt_i12 hp, qt_brL (nI_add _ _) (qt_cN hp) ?_ ?_ (fun e => ⟨qt_i12 hp, ?_⟩) (fun e => ?_)⟩))
    · have := qt_I_t I p; omega
    · have := I.2.2.2.1 p hp; omega
    · have c : ¬ qt_bl t g l a w v h b m p = true := fun z => by have := of_decide_eq_true z; omega
      rw [qt_fi, if_neg c] at k
      by_cases z : p = 0
      · rw [if_pos z] at k
        refine nm_r (qt_cU0 hp z) (nm_r (nI_1 s) ?_)
        exact br_c (fun _ => k) (fun _ => br_t rfl k)
      · rw [if_neg z] at k
        have y := I.1.2.2.1 p hp tp
        exact nm_r (qt_cU1 hp z) (nm_r (nI_1 s) (ih (s + 1) (g p) (by omega) y.1 y.2 k))
    · have c : qt_bl t g l a w v h b m p = true := decide_eq_true (by omega)
      rw [qt_fi, if_pos c] at k
      exact k
theorem qt_xN {post : Int32 → Prop} {t v : Nat → Bool} {g l a w h b : Nat → Nat} {m p : Nat} (I : qt_I t g l a w v h b) (hm : m ≤ 1000) (hp : p < 12) (tp : t p = true) (k : post (qt_fi g (qt_bl t g l a w v h b m) 12 p)) : wpX_nearestBlocker post (qt_X t g l a w v h b) (nI p) (nI m) :=
  ⟨13, qt_xN5 I hm 12 0 p rfl hp tp k⟩
def qt_rf (t : Nat → Bool) (g l a w : Nat → Nat) (v : Nat → Bool) (h b : Nat → Nat) (o : Nat) : Nat → Bool := fun p => decide (qt_ub g o p = false ∧ l p < qt_tot t g a w v h b p + qt_tot t g a w v h b o)
theorem qt_xM18 {post : Int32 → Prop} {t v : Nat → Bool} {g l a w h b : Nat → Nat} {o : Nat} (I : qt_I t g l a w v h b) (ho : o < 12) (to : t o = true) : ∀ n s p, s + n = 12 → p < 12 → t p = true → post (qt_b (qt_ex g (qt_rf t g l a w v h b o) n p)) → wX_moveIsRefused_18 post (nI o) (nI (qt_tot t g a w v h b o)) (qt_B t) (qt_U g) (qt_N l) (qt_N a) (qt_N w) (qt_B v) (qt_N h) (qt_N b) (n + 1) (nI p) (nI s) := by
  intro n
  induction n with
  | zero =>
    intro s p hs hp tp k
    have e : s = 12 := by omega
    subst e
    exact br_t qt_12e k
  | succ n ih =>
    intro s p hs hp tp k
    have up : ¬ qt_rf t g l a w v h b o p = true → ∀ x3, x3 = qt_U g (nI p).toNatClampNeg → ∀ x4, x4 = nI s + 1 → wX_moveIsRefused_18 post (nI o) (nI (qt_tot t g a w v h b o)) (qt_B t) (qt_U g) (qt_N l) (qt_N a) (qt_N w) (qt_B v) (qt_N h) (qt_N b) (n + 1) x3 x4 := by
      intro c
      rw [qt_ex, if_neg c] at k
      by_cases z : p = 0
      · rw [if_pos z] at k
        refine nm_r (qt_cU0 hp z) (nm_r (nI_1 s) ?_)
        exact br_c (fun _ => k) (fun _ => br_t rfl k)
      · rw [if_neg z] at k
        have y := I.1.2.2.1 p hp tp
        exact nm_r (qt_cU1 hp z) (nm_r (nI_1 s) (ih (s + 1) (g p) (by omega) y.1 y.2 k))
    refine br_f (qt_12 (by omega)) (br_f (qt_nm hp) (qt_xU I.1 hp ho to (qt_br (fun ub => ?_) (fun ub => ⟨qt_i12 hp, ?_⟩))))
    · refine qt_xT I.1 I.2.1 hp ⟨qt_i12 hp, qt_brL (nI_add _ _) (qt_cN hp) ?_ ?_ (fun e => ⟨qt_i12 hp, ?_⟩) (fun e => ?_)⟩
      · have := qt_I_t I p; have := qt_I_t I o; omega
      · have := I.2.2.2.1 p hp; omega
      · exact up (fun z => by have := (of_decide_eq_true z).2; omega)
      · have c : qt_rf t g l a w v h b o p = true := decide_eq_true ⟨ub, by omega⟩
        rw [qt_ex, if_pos c] at k
        exact k
    · exact up (fun z => by have := (of_decide_eq_true z).1; rw [ub] at this; exact absurd this (by decide))
theorem qt_xM {post : Int32 → Prop} {t v : Nat → Bool} {g l a w h b : Nat → Nat} {o pa : Nat} (I : qt_I t g l a w v h b) (ho : o < 12) (to : t o = true) (hp : pa < 12) (tp : t pa = true) (k0 : ¬ (qt_tot t g a w v h b o ≠ 0 ∧ qt_ex g (qt_rf t g l a w v h b o) 12 pa = true) → post 0) (k1 : (qt_tot t g a w v h b o ≠ 0 ∧ qt_ex g (qt_rf t g l a w v h b o) 12 pa = true) → post 1) : wpX_moveIsRefused post (qt_X t g l a w v h b) (nI o) (nI pa) := by
  refine qt_xT I.1 I.2.1 ho ?_
  have q := qt_I_t I o
  by_cases z : qt_tot t g a w v h b o = 0
  · refine br_t (by rw [z]; rfl) (k0 (fun y => y.1 z))
  · refine br_f (nI_ne0 (by omega) (by omega)) ⟨13, qt_xM18 I ho to 12 0 pa rfl hp tp ?_⟩
    by_cases y : qt_ex g (qt_rf t g l a w v h b o) 12 pa = true
    · rw [qt_bb y]; exact k1 ⟨z, y⟩
    · rw [qt_b0 (qt_bf y)]; exact k0 (fun x => y x.2)
/-! room -/
def qt_e (t : Nat → Bool) (g l a w : Nat → Nat) (v : Nat → Bool) (h b : Nat → Nat) : Nat → Int32 := fun p => nI (l p) - nI (qt_tot t g a w v h b p)
theorem qt_xW19 {post : Int32 → Prop} {t v : Nat → Bool} {g l a w h b : Nat → Nat} (I : qt_I t g l a w v h b) : ∀ n s p m, s + n = 12 → p < 12 → t p = true → wX_room_67 post (qt_mn g (qt_e t g l a w v h b) n p m) (qt_B t) (qt_U g) (qt_N l) (qt_N a) (qt_N w) (qt_B v) (qt_N h) (qt_N b) → wX_room_19 post (qt_B t) (qt_U g) (qt_N l) (qt_N a) (qt_N w) (qt_B v) (qt_N h) (qt_N b) (n + 1) m (nI p) (nI s) := by
  intro n
  induction n with
  | zero =>
    intro s p m hs hp tp k
    have e : s = 12 := by omega
    subst e
    exact br_t qt_12e k
  | succ n ih =>
    intro s p m hs hp tp k
    have up : ∀ x2, x2 = (if qt_e t g l a w v h b p < m then qt_e t g l a w v h b p else m) → ∀ x3, x3 = qt_U g (nI p).toNatClampNeg → ∀ x4, x4 = nI s + 1 → wX_room_19 post (qt_B t) (qt_U g) (qt_N l) (qt_N a) (qt_N w) (qt_B v) (qt_N h) (qt_N b) (n + 1) x2 x3 x4 := by
      intro x2 e2
      rw [qt_mn, ← e2] at k
      by_cases z : p = 0
      · rw [if_pos z] at k
        refine nm_r (qt_cU0 hp z) (nm_r (nI_1 s) ?_)
        exact br_c (fun _ => k) (fun _ => br_t rfl k)
      · rw [if_neg z] at k
        have y := I.1.2.2.1 p hp tp
        exact nm_r (qt_cU1 hp z) (nm_r (nI_1 s) (ih (s + 1) (g p) x2 (by omega) y.1 y.2 k))
    refine br_f (qt_12 (by omega)) (br_f (qt_nm hp) ⟨qt_i12 hp, qt_xT I.1 I.2.1 hp ?_⟩)
    refine nm_r (e' := qt_e t g l a w v h b p) (by rw [qt_cN hp]; rfl) (br_c (fun c => ⟨qt_i12 hp, ?_⟩) (fun c => ⟨qt_i12 hp, ?_⟩))
    · exact up m (if_neg (Int32.not_lt.mpr c)).symm
    · exact up _ (if_pos (Int32.not_le.mp c)).symm
end QTJ
