section QTK
/-! L: the reference's other methods -/
variable {A1 A2 A3 A4 A5 A6 A7 A8 : Nat → Int32}
theorem qt_lf_1 {t : Nat → Bool} (t0 : t 0 = true) : qt_lf t 12 12 0 = qt_lf t 12 11 1 := if_pos t0
theorem qt_yL20 {post : Int32 → SY → Prop} {t : Nat → Bool} {x1 x2 : Int32} : ∀ d i, i + d = 12 → (qt_lf t 12 d i = 12 → post (-2) (qt_B t, A2, A3, A4, A5, A6, A7, A8)) → (∀ j, j = qt_lf t 12 d i → j < 12 → post (nI j) (upd (qt_B t) j 1, upd A2 j x1, upd A3 j x2, upd A4 j 0, upd A5 j 0, A6, A7, A8)) → wY_add_20 post x1 x2 (qt_B t) A2 A3 A4 A5 A6 A7 A8 (d + 1) (nI i) := by
  intro d
  induction d with
  | zero =>
    intro i hi k _
    have e : i = 12 := by omega
    subst e
    exact br_t qt_12e (k rfl)
  | succ d ih =>
    intro i hi k k'
    rw [qt_lf] at k k'
    have h12 : i < 12 := by omega
    have vi := qt_i12 h12
    refine br_f (qt_12 h12) ⟨vi, qt_brB h12 (fun e => ?_) (fun e => ?_)⟩
    · have e' : ¬ t i = true := by rw [e]; decide
      rw [if_neg e'] at k'
      refine ⟨vi, nm_r (by rw [qt_uc _ h12, qt_n1]) ⟨vi, nm_r (qt_uc _ h12 _) ⟨vi, nm_r (qt_uc _ h12 _) ⟨vi, nm_r (qt_uc _ h12 _) ⟨vi, nm_r (qt_uc _ h12 _) ?_⟩⟩⟩⟩⟩
      exact k' i rfl h12
    · rw [if_pos e] at k k'
      exact nm_r (nI_1 i) (ih (i + 1) (by omega) k k')
/-! children -/
theorem qt_ya0 {post : Int32 → Prop} {x1 : Int32} (k : post 0) : ∀ d i, i + d = 12 → wY_alone_4 post x1 A1 A2 A3 A4 A5 A6 A7 A8 (d + 1) 0 (nI i) := by
  intro d
  induction d with
  | zero =>
    intro i hi
    have e : i = 12 := by omega
    subst e
    exact br_t qt_12e ⟨rfl, k⟩
  | succ d ih =>
    intro i hi
    exact br_f (qt_12 (by omega)) (br_t rfl (nm_r (nI_1 i) (ih (i + 1) (by omega))))
theorem qt_ya1 {post : Int32 → Prop} {t : Nat → Bool} {g : Nat → Nat} {o : Nat} (F : qt_F t g) (ho : o < 12) (k1 : (∃ p, p < 12 ∧ t p = true ∧ p ≠ 0 ∧ g p = o) → post 0) (k0 : (∀ p, p < 12 → t p = true → p ≠ 0 → g p ≠ o) → post 1) : ∀ d i, i + d = 12 → (∀ p, p < i → t p = true → p ≠ 0 → g p ≠ o) → wY_alone_4 post (nI o) (qt_B t) (qt_U g) A3 A4 A5 A6 A7 A8 (d + 1) 1 (nI i) := by
  intro d
  induction d with
  | zero =>
    intro i hi q
    have e : i = 12 := by omega
    subst e
    exact br_t qt_12e ⟨rfl, k0 q⟩
  | succ d ih =>
    intro i hi q
    have nx : ¬ (t i = true ∧ i ≠ 0 ∧ g i = o) → ∀ p, p < i + 1 → t p = true → p ≠ 0 → g p ≠ o := by
      intro c p hp tp pz e
      by_cases y : p = i
      · rw [y] at tp pz e; exact c ⟨tp, pz, e⟩
      · exact q p (by omega) tp pz e
    have h12 : i < 12 := by omega
    have n1 : ¬ (1 : Int32) = 0 := by decide
    refine br_f (qt_12 h12) (br_f n1 ⟨qt_i12 h12, qt_brB h12 (fun e => ?_) (fun e => ⟨qt_i12 h12, ?_⟩)⟩)
    · exact nm_r (nI_1 i) (ih (i + 1) (by omega) (nx (fun y => by rw [e] at y; exact absurd y.1 (by decide))))
    · have c := qt_cU F (i := i) h12 e ho
      refine br_c (fun y => ?_) (fun y => ?_)
      · exact nm_r (nI_1 i) (qt_ya0 (k1 ⟨i, h12, e, c.mp y⟩) d (i + 1) (by omega))
      · exact nm_r (nI_1 i) (ih (i + 1) (by omega) (nx (fun x => y (c.mpr x.2))))
theorem qt_ya {post : Int32 → Prop} {t : Nat → Bool} {g : Nat → Nat} {o : Nat} (F : qt_F t g) (ho : o < 12) (k1 : (∃ p, p < 12 ∧ t p = true ∧ p ≠ 0 ∧ g p = o) → post 0) (k0 : (∀ p, p < 12 → t p = true → p ≠ 0 → g p ≠ o) → post 1) : wpY_alone post (qt_B t, qt_U g, A3, A4, A5, A6, A7, A8) (nI o) :=
  ⟨13, qt_ya1 F ho k1 k0 12 0 rfl (fun p hp => absurd hp (Nat.not_lt_zero p))⟩
/-! the reservations of an owner -/
theorem qt_ups (f : Nat → Int32) (k : Nat) : upd f k (f k) = f := by
  funext j
  by_cases e : j = k
  · rw [e]; exact if_pos rfl
  · exact if_neg e
theorem qt_yD39 {post : Int32 → SY → Prop} {t v : Nat → Bool} {h : Nat → Nat} {o : Nat} (H : qt_H t v h) (ho : o < 12) (k : post 1 (A1, A2, A3, A4, A5, qt_Z (qt_dr v h o 10) h, A7, A8)) : ∀ d i, i + d = 10 → wY_remove_39 post (nI o) (d + 1) (nI i) A1 A2 A3 A4 A5 (qt_Z (qt_dr v h o i) h) A7 A8 := by
  intro d
  induction d with
  | zero =>
    intro i hi
    have e : i = 10 := by omega
    subst e
    exact br_t qt_10e k
  | succ d ih =>
    intro i hi
    have next := ih (i + 1) (by omega)
    have h12 : i < 12 := by omega
    have vi := qt_i10 (j := i) (by omega)
    have s : qt_dr v h o i i = v i := if_neg (fun z => Nat.lt_irrefl i z.1)
    have n1 : nI o + 1 = nI (o + 1) := nI_1 o
    refine br_f (qt_10 (by omega)) ⟨vi, br_c (fun e => ⟨vi, ?_⟩) (fun e => ⟨vi, vi, ?_⟩)⟩
    · have x : v i = true ∧ h i = o := by
        by_cases c : v i = true
        · rw [qt_cZ1 h12 (s.trans c), n1, nI_eq (by have := (H i (by omega) c).1; omega) (by omega)] at e
          exact ⟨c, by omega⟩
        · rw [qt_cZ0 h12 (s.trans (qt_bf c)), n1] at e
          exact absurd e.symm (nI_ne0 (by omega) (by omega))
      rw [← qt_dr_u (Or.inr x.2), ← qt_uZ0] at next
      exact nm_r (qt_uc _ h12 _) (nm_r (nI_1 i) next)
    · have x : v i = false ∨ h i ≠ o := by
        by_cases c : v i = true
        · refine Or.inr (fun y => e ?_)
          rw [qt_cZ1 h12 (s.trans c), n1, y]
        · exact Or.inl (qt_bf c)
      rw [qt_dr_n x] at next
      exact nm_r (qt_ups _ _) (nm_r (nI_1 i) next)
/-! the way up with totals -/
theorem qt_yN5 {post : Int32 → Prop} {t v : Nat → Bool} {g l a w h b : Nat → Nat} {m : Nat} (I : qt_I t g l a w v h b) (hm : m ≤ 1000) : ∀ n s p, s + n = 12 → p < 12 → t p = true → post (qt_fi g (qt_bl t g l a w v h b m) n p) → wY_first_5 post (nI m) (qt_B t) (qt_U g) (qt_N l) (qt_N a) (qt_N w) (qt_Z v h) (qt_N b) A8 (n + 1) (nI p) (nI s) := by
  intro n
  induction n with
  | zero =>
    intro s p hs hp tp k
    have e : s = 12 := by omega
    subst e
    exact br_t qt_12e k
  | succ n ih =>
    intro s p hs hp tp k
    refine br_f (qt_12 (by omega)) (br_f (qt_np hp) (qt_yT I.1 I.2.1 hp ⟨qt_i12 hp, qt_brL (nI_add _ _) (qt_cN hp) ?_ ?_ (fun e => ⟨qt_i12 hp, ?_⟩) (fun e => ?_)⟩))
    · have := qt_I_t I p; omega
    · have := I.2.2.2.1 p hp; omega
    · have c : ¬ qt_bl t g l a w v h b m p = true := fun z => by have := of_decide_eq_true z; omega
      rw [qt_fi, if_neg c] at k
      by_cases z : p = 0
      · rw [if_pos z] at k
        refine nm_r (qt_cU0 hp z) (nm_r (nI_1 s) ?_)
        exact br_c (fun _ => k) (fun _ => br_t (by decide) k)
      · rw [if_neg z] at k
        have y := I.1.2.2.1 p hp tp
        exact nm_r (qt_cU1 hp z) (nm_r (nI_1 s) (ih (s + 1) (g p) (by omega) y.1 y.2 k))
    · have c : qt_bl t g l a w v h b m p = true := decide_eq_true (by omega)
      rw [qt_fi, if_pos c] at k
      exact k
theorem qt_yN {post : Int32 → Prop} {t v : Nat → Bool} {g l a w h b : Nat → Nat} {m p : Nat} (I : qt_I t g l a w v h b) (hm : m ≤ 1000) (hp : p < 12) (tp : t p = true) (k : post (qt_fi g (qt_bl t g l a w v h b m) 12 p)) : wpY_first post (qt_Y t g l a w v h b A8) (nI p) (nI m) :=
  ⟨13, qt_yN5 I hm 12 0 p rfl hp tp k⟩
/-! reserve -/
theorem qt_yR20 {post : Int32 → SY → Prop} {t v : Nat → Bool} {g l a w h b : Nat → Nat} {o m : Nat} (I : qt_I t g l a w v h b) (ho : o < 12) (to : t o = true) (hm : m ≤ 1000) : ∀ d i, i + d = 10 → (qt_lf v 10 d i = 10 → post (-2) (qt_Y t g l a w v h b A8)) → (qt_lf v 10 d i < 10 → 0 < m → qt_ex g (qt_bl t g l a w v h b m) 12 o = true → post (-3) (qt_Y t g l a w v h b A8)) → (∀ j, j = qt_lf v 10 d i → j < 10 → (m = 0 ∨ qt_ex g (qt_bl t g l a w v h b m) 12 o = false) → post (nI j) (qt_Y t g l a w (qt_u v j true) (qt_u h j o) (qt_u b j m) A8)) → wY_reserve_20 post (nI o) (nI m) (qt_B t) (qt_U g) (qt_N l) (qt_N a) (qt_N w) (qt_Z v h) (qt_N b) A8 (d + 1) (nI i) := by
  intro d
  induction d with
  | zero =>
    intro i hi k _ _
    have e : i = 10 := by omega
    subst e
    exact br_t qt_10e (k rfl)
  | succ d ih =>
    intro i hi k kR kD
    rw [qt_lf] at k kR kD
    have h12 : i < 12 := by omega
    have vi := qt_i10 (j := i) (by omega)
    refine br_f (qt_10 (by omega)) ⟨vi, qt_brZe h12 (fun z => (I.2.1 i (by omega) z).1) (fun e => ?_) (fun e => ?_)⟩
    · have e' : ¬ v i = true := by rw [e]; decide
      rw [if_neg e'] at kR kD
      have fin : (m = 0 ∨ qt_ex g (qt_bl t g l a w v h b m) 12 o = false) → wY_reserve_51 post (nI o) (nI m) (nI i) (qt_B t) (qt_U g) (qt_N l) (qt_N a) (qt_N w) (qt_Z v h) (qt_N b) A8 := by
        intro c
        have r := kD i rfl (by omega) c
        refine ⟨vi, nm_r (e' := qt_Z (qt_u v i true) (qt_u h i o)) (by rw [qt_uc _ h12, nI_1, qt_uZ1]) ⟨vi, nm_r (e' := qt_N (qt_u b i m)) (by rw [qt_uc _ h12, qt_uN]) r⟩⟩
      by_cases z : m = 0
      · exact br_t (by rw [z]; decide) (fin (Or.inl z))
      · refine br_f (nI_nle (by omega) (by omega)) (qt_yN I hm ho to ?_)
        by_cases y : qt_ex g (qt_bl t g l a w v h b m) 12 o = true
        · obtain ⟨q, hq, eq⟩ := qt_fi_is I.1 _ 12 o ho to y
          rw [eq]
          exact br_f (qt_np hq) (kR (by omega) (by omega) y)
        · rw [qt_fi_ex _ _ 12 o (qt_bf y)]
          exact br_t (by decide) (fin (Or.inr (qt_bf y)))
    · rw [if_pos e] at k kR kD
      exact nm_r (nI_1 i) (ih (i + 1) (by omega) k kR kD)
/-! room -/
theorem qt_yW16 {post : Int32 → Prop} {t v : Nat → Bool} {g l a w h b : Nat → Nat} {o : Nat} (I : qt_I t g l a w v h b) (ho : o < 12) (to : t o = true) (k : wX_room_67 post (qt_ml (fun p => t p && qt_ub g o p) (qt_e t g l a w v h b) 12) A1 A2 A3 A4 A5 A6 A7 A8) : ∀ d i, i + d = 12 → wY_room_16 post (nI o) (qt_B t) (qt_U g) (qt_N l) (qt_N a) (qt_N w) (qt_Z v h) (qt_N b) A8 (d + 1) (qt_ml (fun p => t p && qt_ub g o p) (qt_e t g l a w v h b) i) (nI i) := by
  intro d
  induction d with
  | zero =>
    intro i hi
    have e : i = 12 := by omega
    subst e
    refine br_t qt_12e (br_c (fun c => ?_) (fun c => ?_))
    · by_cases z : 0 ≤ qt_ml (fun p => t p && qt_ub g o p) (qt_e t g l a w v h b) 12
      · have e : qt_ml (fun p => t p && qt_ub g o p) (qt_e t g l a w v h b) 12 = 0 := Int32.le_antisymm c z
        have r := k.1 z
        rw [e] at r; exact r
      · exact k.2 z
    · exact k.1 (Int32.le_of_lt (Int32.not_le.mp c))
  | succ d ih =>
    intro i hi
    have next := ih (i + 1) (by omega)
    have h12 : i < 12 := by omega
    have go : ∀ z0, z0 = (if (t i && qt_ub g o i) = true then qt_e t g l a w v h b i else 1000) → wY_room_58 post (wY_room_16 post (nI o) (qt_B t) (qt_U g) (qt_N l) (qt_N a) (qt_N w) (qt_Z v h) (qt_N b) A8 (d + 1)) (nI o) (qt_ml (fun p => t p && qt_ub g o p) (qt_e t g l a w v h b) i) (nI i) z0 (qt_B t) (qt_U g) (qt_N l) (qt_N a) (qt_N w) (qt_Z v h) (qt_N b) A8 := by
      intro z0 ez
      rw [qt_ml] at next
      rw [← ez] at next
      refine br_c (fun c => ?_) (fun c => ?_)
      · rw [if_neg (Int32.not_lt.mpr c)] at next
        exact nm_r (nI_1 i) next
      · rw [if_pos (Int32.not_le.mp c)] at next
        exact nm_r (nI_1 i) next
    refine br_f (qt_12 h12) ⟨qt_i12 h12, qt_brB h12 (fun e => ?_) (fun e => ?_)⟩
    · exact go 1000 (if_neg (by rw [e, Bool.false_and]; decide)).symm
    · refine qt_yU I.1 h12 ho to (qt_br (fun u => ?_) (fun u => ⟨qt_i12 h12, ?_⟩))
      · exact go 1000 (if_neg (by rw [u, Bool.and_false]; decide)).symm
      · refine qt_yT I.1 I.2.1 h12 (go _ ?_)
        rw [if_pos (by rw [e, u]; rfl), qt_cN h12]; rfl
end QTK
