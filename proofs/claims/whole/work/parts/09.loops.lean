section QTL
/-! M: the loops that both sides share: free, recover, over, below; the reference's move -/
variable {A1 A2 A3 A4 A5 A6 A7 A8 : Nat → Int32}
/-! free -/
def qt_fw (t : Nat → Bool) (g w : Nat → Nat) (o : Nat) : Nat → Nat := fun p => if t p = true ∧ qt_ub g p o = true then w p else 0
theorem qt_fr_0 (t : Nat → Bool) (g w : Nat → Nat) (o : Nat) : qt_fr t g w o 0 = w := by
  funext r; exact if_neg (fun z => Nat.not_lt_zero r z.1)
theorem qt_fr_n {t : Nat → Bool} {g w : Nat → Nat} {o i : Nat} (e : ¬ (t i = true ∧ qt_ub g i o = true)) : qt_fr t g w o (i + 1) = qt_fr t g w o i := by
  funext r
  show (if r < i + 1 ∧ t r = true ∧ qt_ub g r o = true then 0 else w r) = (if r < i ∧ t r = true ∧ qt_ub g r o = true then 0 else w r)
  by_cases c : r < i ∧ t r = true ∧ qt_ub g r o = true
  · rw [if_pos c, if_pos ⟨by omega, c.2⟩]
  · rw [if_neg c]
    refine if_neg (fun y => ?_)
    by_cases q : r = i
    · rw [q] at y; exact e y.2
    · exact c ⟨by have := y.1; omega, y.2⟩
theorem qt_fr_u {t : Nat → Bool} {g w : Nat → Nat} {o i : Nat} (e : t i = true ∧ qt_ub g i o = true) : qt_u (qt_fr t g w o i) i 0 = qt_fr t g w o (i + 1) := by
  funext r
  by_cases c : r = i
  · rw [c, qt_us]
    exact (if_pos ⟨by omega, e⟩).symm
  · rw [qt_un c]
    show (if r < i ∧ t r = true ∧ qt_ub g r o = true then 0 else w r) = (if r < i + 1 ∧ t r = true ∧ qt_ub g r o = true then 0 else w r)
    by_cases y : r < i ∧ t r = true ∧ qt_ub g r o = true
    · rw [if_pos y, if_pos ⟨by omega, y.2⟩]
    · rw [if_neg y, if_neg (fun z => y ⟨by have := z.1; omega, z.2⟩)]
theorem qt_fr_i (t : Nat → Bool) (g w : Nat → Nat) (o i : Nat) : qt_fr t g w o i i = w i := if_neg (fun z => Nat.lt_irrefl i z.1)
theorem qt_xF14 {post : Int32 → SX → Prop} {t : Nat → Bool} {g w : Nat → Nat} {o : Nat} (F : qt_F t g) (ho : o < 12) (k : post (nI (qt_S (qt_fw t g w o) 12)) (qt_B t, qt_U g, A3, A4, qt_N (qt_fr t g w o 12), A6, A7, A8)) : ∀ d i, i + d = 12 → wX_free_14 post (nI o) (d + 1) (nI (qt_S (qt_fw t g w o) i)) (nI i) (qt_B t) (qt_U g) A3 A4 (qt_N (qt_fr t g w o i)) A6 A7 A8 := by
  intro d
  induction d with
  | zero =>
    intro i hi
    have e : i = 12 := by omega
    subst e
    exact br_t qt_12e k
  | succ d ih =>
    intro i hi
    have next := ih (i + 1) (by omega)
    have h12 : i < 12 := by omega
    have hs : qt_S (qt_fw t g w o) (i + 1) = qt_S (qt_fw t g w o) i + qt_fw t g w o i := rfl
    refine br_f (qt_12 h12) ⟨qt_i12 h12, qt_brB h12 (fun ti => ?_) (fun ti => qt_xU F ho h12 ti (qt_br (fun e => ?_) (fun e => ⟨qt_i12 h12, ?_⟩)))⟩
    · have c : ¬ (t i = true ∧ qt_ub g i o = true) := fun y => by rw [ti] at y; exact absurd y.1 (by decide)
      have z : qt_fw t g w o i = 0 := if_neg c
      rw [hs, z, Nat.add_zero, qt_fr_n c] at next
      exact nm_r (nI_1 i) next
    · have c : ¬ (t i = true ∧ qt_ub g i o = true) := fun y => by rw [e] at y; exact absurd y.2 (by decide)
      have z : qt_fw t g w o i = 0 := if_neg c
      rw [hs, z, Nat.add_zero, qt_fr_n c] at next
      exact nm_r (nI_1 i) next
    · have z : qt_fw t g w o i = w i := if_pos ⟨ti, e⟩
      rw [hs, z, ← qt_fr_u ⟨ti, e⟩, ← qt_uN] at next
      refine nm_r (e' := nI (qt_S (qt_fw t g w o) i + w i)) ?_ ⟨qt_i12 h12, nm_r (qt_uc _ h12 _) (nm_r (nI_1 i) next)⟩
      rw [qt_cN h12, qt_fr_i, nI_add]
theorem qt_yF14 {post : Int32 → SY → Prop} {t : Nat → Bool} {g w : Nat → Nat} {o : Nat} (F : qt_F t g) (ho : o < 12) (k : post (nI (qt_S (qt_fw t g w o) 12)) (qt_B t, qt_U g, A3, A4, qt_N (qt_fr t g w o 12), A6, A7, A8)) : ∀ d i, i + d = 12 → wY_free_14 post (nI o) (d + 1) (nI (qt_S (qt_fw t g w o) i)) (nI i) (qt_B t) (qt_U g) A3 A4 (qt_N (qt_fr t g w o i)) A6 A7 A8 := by
  intro d
  induction d with
  | zero =>
    intro i hi
    have e : i = 12 := by omega
    subst e
    exact br_t qt_12e k
  | succ d ih =>
    intro i hi
    have next := ih (i + 1) (by omega)
    have h12 : i < 12 := by omega
    have hs : qt_S (qt_fw t g w o) (i + 1) = qt_S (qt_fw t g w o) i + qt_fw t g w o i := rfl
    refine br_f (qt_12 h12) ⟨qt_i12 h12, qt_brB h12 (fun ti => ?_) (fun ti => qt_yU F ho h12 ti (qt_br (fun e => ?_) (fun e => ⟨qt_i12 h12, ?_⟩)))⟩
    · have c : ¬ (t i = true ∧ qt_ub g i o = true) := fun y => by rw [ti] at y; exact absurd y.1 (by decide)
      have z : qt_fw t g w o i = 0 := if_neg c
      rw [hs, z, Nat.add_zero, qt_fr_n c] at next
      exact nm_r (nI_1 i) next
    · have c : ¬ (t i = true ∧ qt_ub g i o = true) := fun y => by rw [e] at y; exact absurd y.2 (by decide)
      have z : qt_fw t g w o i = 0 := if_neg c
      rw [hs, z, Nat.add_zero, qt_fr_n c] at next
      exact nm_r (nI_1 i) next
    · have z : qt_fw t g w o i = w i := if_pos ⟨ti, e⟩
      rw [hs, z, ← qt_fr_u ⟨ti, e⟩, ← qt_uN] at next
      refine nm_r (e' := nI (qt_S (qt_fw t g w o) i + w i)) ?_ ⟨qt_i12 h12, nm_r (qt_uc _ h12 _) (nm_r (nI_1 i) next)⟩
      rw [qt_cN h12, qt_fr_i, nI_add]
/-! recover -/
def qt_cl (v : Nat → Bool) (n : Nat) : Nat → Bool := fun r => if r < n then false else v r
def qt_c1 (v : Nat → Bool) : Nat → Nat := fun r => if v r = true then 1 else 0
theorem qt_cl_0 (v : Nat → Bool) : qt_cl v 0 = v := by
  funext r; exact if_neg (Nat.not_lt_zero r)
theorem qt_cl_t {v : Nat → Bool} {n r : Nat} (z : qt_cl v n r = true) : v r = true := by
  have z' : (if r < n then false else v r) = true := z
  by_cases c : r < n
  · rw [if_pos c] at z'; exact absurd z' (by decide)
  · rw [if_neg c] at z'; exact z'
theorem qt_cl_i (v : Nat → Bool) (i : Nat) : qt_cl v i i = v i := if_neg (Nat.lt_irrefl i)
theorem qt_cl_u (v : Nat → Bool) (i : Nat) : qt_u (qt_cl v i) i false = qt_cl v (i + 1) := by
  funext r
  by_cases c : r = i
  · rw [c, qt_us]; exact (if_pos (by omega)).symm
  · rw [qt_un c]
    show (if r < i then false else v r) = (if r < i + 1 then false else v r)
    by_cases y : r < i
    · rw [if_pos y, if_pos (by omega)]
    · rw [if_neg y, if_neg (by omega)]
theorem qt_cl_n {v : Nat → Bool} {i : Nat} (e : v i = false) : qt_cl v (i + 1) = qt_cl v i := by
  rw [← qt_cl_u]; exact qt_ue ((qt_cl_i v i).trans e)
theorem qt_xC4 {post : Int32 → SX → Prop} {v : Nat → Bool} (k : post (nI (qt_S (qt_c1 v) 10)) (A1, A2, A3, A4, A5, qt_B (qt_cl v 10), A7, A8)) : ∀ d i, i + d = 10 → wX_recover_4 post (d + 1) (nI (qt_S (qt_c1 v) i)) (nI i) A1 A2 A3 A4 A5 (qt_B (qt_cl v i)) A7 A8 := by
  intro d
  induction d with
  | zero =>
    intro i hi
    have e : i = 10 := by omega
    subst e
    exact br_t qt_10e k
  | succ d ih =>
    intro i hi
    have next := ih (i + 1) (by omega)
    have h12 : i < 12 := by omega
    have vi := qt_i10 (j := i) (by omega)
    have hs : qt_S (qt_c1 v) (i + 1) = qt_S (qt_c1 v) i + qt_c1 v i := rfl
    refine br_f (qt_10 (by omega)) ⟨vi, qt_brB h12 (fun e => ?_) (fun e => ⟨vi, ?_⟩)⟩
    · rw [qt_cl_i] at e
      have z : qt_c1 v i = 0 := if_neg (by rw [e]; decide)
      rw [hs, z, Nat.add_zero, qt_cl_n e] at next
      exact nm_r (nI_1 i) next
    · rw [qt_cl_i] at e
      have z : qt_c1 v i = 1 := if_pos e
      rw [hs, z, ← qt_cl_u, ← qt_uB0] at next
      exact nm_r (by rw [qt_uc _ h12, qt_n0]) (nm_r (nI_1 _) (nm_r (nI_1 i) next))
theorem qt_yC4 {post : Int32 → SY → Prop} {t v : Nat → Bool} {h : Nat → Nat} (H : qt_H t v h) (k : post (nI (qt_S (qt_c1 v) 10)) (A1, A2, A3, A4, A5, qt_Z (qt_cl v 10) h, A7, A8)) : ∀ d i, i + d = 10 → wY_recover_4 post (d + 1) (nI (qt_S (qt_c1 v) i)) (nI i) A1 A2 A3 A4 A5 (qt_Z (qt_cl v i) h) A7 A8 := by
  intro d
  induction d with
  | zero =>
    intro i hi
    have e : i = 10 := by omega
    subst e
    exact br_t qt_10e k
  | succ d ih =>
    intro i hi
    have next := ih (i + 1) (by omega)
    have h12 : i < 12 := by omega
    have vi := qt_i10 (j := i) (by omega)
    have hs : qt_S (qt_c1 v) (i + 1) = qt_S (qt_c1 v) i + qt_c1 v i := rfl
    refine br_f (qt_10 (by omega)) ⟨vi, qt_brZ h12 (fun z => (H i (by omega) (qt_cl_t z)).1) (fun e => ⟨vi, ?_⟩) (fun e => ⟨vi, ?_⟩)⟩
    · rw [qt_cl_i] at e
      have z : qt_c1 v i = 0 := if_neg (by rw [e]; decide)
      rw [hs, z, Nat.add_zero, ← qt_cl_u, ← qt_uZ0] at next
      exact nm_r (qt_uc _ h12 _) (nm_r (nI_1 i) next)
    · rw [qt_cl_i] at e
      have z : qt_c1 v i = 1 := if_pos e
      rw [hs, z, ← qt_cl_u, ← qt_uZ0, ← nI_1] at next
      exact nm_r (qt_uc _ h12 _) (nm_r (nI_1 i) next)
/-! sets as bits -/
def qt_mk (c : Nat → Bool) : Nat → Int32
  | 0 => 0
  | n + 1 => if c n = true then qt_mk c n ||| ((1 : Int32) <<< (nI n &&& 31)) else qt_mk c n
def qt_ov (t : Nat → Bool) (g l a w : Nat → Nat) (v : Nat → Bool) (h b : Nat → Nat) : Nat → Bool := fun p => decide (t p = true ∧ l p < qt_tot t g a w v h b p)
def qt_be (t : Nat → Bool) (g : Nat → Nat) (o : Nat) : Nat → Bool := fun p => decide (t p = true ∧ qt_ub g p o = true)
theorem qt_mk_n {c : Nat → Bool} {i : Nat} (h : ¬ c i = true) : qt_mk c (i + 1) = qt_mk c i := if_neg h
theorem qt_mk_u {c : Nat → Bool} {i : Nat} (h : c i = true) : qt_mk c (i + 1) = (qt_mk c i ||| ((1 : Int32) <<< (nI i &&& 31))) := if_pos h
theorem qt_xB14 {post : Int32 → Prop} {t : Nat → Bool} {g : Nat → Nat} {o : Nat} (F : qt_F t g) (ho : o < 12) (k : post (qt_mk (qt_be t g o) 12)) : ∀ d i, i + d = 12 → wX_below_14 post (nI o) (qt_B t) (qt_U g) A3 A4 A5 A6 A7 A8 (d + 1) (qt_mk (qt_be t g o) i) (nI i) := by
  intro d
  induction d with
  | zero =>
    intro i hi
    have e : i = 12 := by omega
    subst e
    exact br_t qt_12e k
  | succ d ih =>
    intro i hi
    have next := ih (i + 1) (by omega)
    have h12 : i < 12 := by omega
    refine br_f (qt_12 h12) ⟨qt_i12 h12, qt_brB h12 (fun ti => ?_) (fun ti => qt_xU F ho h12 ti (qt_br (fun e => ?_) (fun e => ?_)))⟩
    · rw [qt_mk_n (fun z => by have := (of_decide_eq_true z).1; rw [ti] at this; exact absurd this (by decide))] at next
      exact nm_r (nI_1 i) next
    · rw [qt_mk_n (fun z => by have := (of_decide_eq_true z).2; rw [e] at this; exact absurd this (by decide))] at next
      exact nm_r (nI_1 i) next
    · rw [qt_mk_u (decide_eq_true ⟨ti, e⟩)] at next
      exact nm_e (nm_r (nI_1 i) next)
theorem qt_yB4 {post : Int32 → Prop} {t : Nat → Bool} {g : Nat → Nat} {o : Nat} (F : qt_F t g) (ho : o < 12) (to : t o = true) (k : post (qt_mk (qt_be t g o) 12)) : ∀ d i, i + d = 12 → wY_below_4 post (nI o) (qt_B t) (qt_U g) A3 A4 A5 A6 A7 A8 (d + 1) (qt_mk (qt_be t g o) i) (nI i) := by
  intro d
  induction d with
  | zero =>
    intro i hi
    have e : i = 12 := by omega
    subst e
    exact br_t qt_12e k
  | succ d ih =>
    intro i hi
    have next := ih (i + 1) (by omega)
    have h12 : i < 12 := by omega
    have n1 : ¬ (1 : Int32) = 0 := by decide
    refine br_f (qt_12 h12) (qt_yO ho to (br_f n1 ⟨qt_i12 h12, qt_brB h12 (fun ti => ?_) (fun ti => qt_yU F ho h12 ti (qt_br (fun e => ?_) (fun e => ?_)))⟩))
    · rw [qt_mk_n (fun z => by have := (of_decide_eq_true z).1; rw [ti] at this; exact absurd this (by decide))] at next
      exact nm_r (nI_1 i) next
    · rw [qt_mk_n (fun z => by have := (of_decide_eq_true z).2; rw [e] at this; exact absurd this (by decide))] at next
      exact nm_r (nI_1 i) next
    · rw [qt_mk_u (decide_eq_true ⟨ti, e⟩)] at next
      exact nm_e (nm_r (nI_1 i) next)
theorem qt_xV4 {post : Int32 → Prop} {t v : Nat → Bool} {g l a w h b : Nat → Nat} (I : qt_I t g l a w v h b) (k : post (qt_mk (qt_ov t g l a w v h b) 12)) : ∀ d i, i + d = 12 → wX_over_4 post (qt_B t) (qt_U g) (qt_N l) (qt_N a) (qt_N w) (qt_B v) (qt_N h) (qt_N b) (d + 1) (qt_mk (qt_ov t g l a w v h b) i) (nI i) := by
  intro d
  induction d with
  | zero =>
    intro i hi
    have e : i = 12 := by omega
    subst e
    exact br_t qt_12e k
  | succ d ih =>
    intro i hi
    have next := ih (i + 1) (by omega)
    have h12 : i < 12 := by omega
    refine br_f (qt_12 h12) ⟨qt_i12 h12, qt_brB h12 (fun ti => ?_) (fun ti => qt_xT I.1 I.2.1 h12 ⟨qt_i12 h12, qt_brL rfl (qt_cN h12) ?_ ?_ (fun e => ?_) (fun e => ?_)⟩)⟩
    · rw [qt_mk_n (fun z => by have := (of_decide_eq_true z).1; rw [ti] at this; exact absurd this (by decide))] at next
      exact nm_r (nI_1 i) next
    · have := qt_I_t I i; omega
    · have := I.2.2.2.1 i h12; omega
    · rw [qt_mk_n (fun z => by have := (of_decide_eq_true z).2; omega)] at next
      exact nm_r (nI_1 i) next
    · rw [qt_mk_u (decide_eq_true ⟨ti, by omega⟩)] at next
      exact nm_e (nm_r (nI_1 i) next)
theorem qt_yV4 {post : Int32 → Prop} {t v : Nat → Bool} {g l a w h b : Nat → Nat} (I : qt_I t g l a w v h b) (k : post (qt_mk (qt_ov t g l a w v h b) 12)) : ∀ d i, i + d = 12 → wY_over_4 post (qt_B t) (qt_U g) (qt_N l) (qt_N a) (qt_N w) (qt_Z v h) (qt_N b) A8 (d + 1) (qt_mk (qt_ov t g l a w v h b) i) (nI i) := by
  intro d
  induction d with
  | zero =>
    intro i hi
    have e : i = 12 := by omega
    subst e
    exact br_t qt_12e k
  | succ d ih =>
    intro i hi
    have next := ih (i + 1) (by omega)
    have h12 : i < 12 := by omega
    refine br_f (qt_12 h12) ⟨qt_i12 h12, qt_brB h12 (fun ti => ?_) (fun ti => qt_yT I.1 I.2.1 h12 ⟨qt_i12 h12, qt_brL rfl (qt_cN h12) ?_ ?_ (fun e => ?_) (fun e => ?_)⟩)⟩
    · rw [qt_mk_n (fun z => by have := (of_decide_eq_true z).1; rw [ti] at this; exact absurd this (by decide))] at next
      exact nm_r (nI_1 i) next
    · have := qt_I_t I i; omega
    · have := I.2.2.2.1 i h12; omega
    · rw [qt_mk_n (fun z => by have := (of_decide_eq_true z).2; omega)] at next
      exact nm_r (nI_1 i) next
    · rw [qt_mk_u (decide_eq_true ⟨ti, by omega⟩)] at next
      exact nm_e (nm_r (nI_1 i) next)
/-! the reference's move -/
def qt_bad (t : Nat → Bool) (g l a w : Nat → Nat) (v : Nat → Bool) (h b : Nat → Nat) (o pa p : Nat) : Prop := t p = true ∧ qt_ub (qt_u g o pa) pa p = true ∧ l p < qt_tot t (qt_u g o pa) a w v h b p ∧ qt_tot t g a w v h b p < qt_tot t (qt_u g o pa) a w v h b p
theorem qt_yM0 {post : Int32 → SY → Prop} {t : Nat → Bool} {g : Nat → Nat} {pa : Nat} {x1 x3 : Int32} (F : qt_F t g) (hp : pa < 12) (tp : t pa = true) (k : wY_move_193 post (nI pa) 0 x3 x1 (qt_B t) (qt_U g) A3 A4 A5 A6 A7 A8) : ∀ d i, i + d = 12 → wY_move_89 post x1 (nI pa) x3 (qt_B t) (qt_U g) A3 A4 A5 A6 A7 A8 (d + 1) 0 (nI i) := by
  intro d
  induction d with
  | zero =>
    intro i hi
    have e : i = 12 := by omega
    subst e
    exact br_t qt_12e (br_t rfl k)
  | succ d ih =>
    intro i hi
    have next := ih (i + 1) (by omega)
    have h12 : i < 12 := by omega
    refine br_f (qt_12 h12) ⟨qt_i12 h12, qt_brB h12 (fun ti => ?_) (fun ti => qt_yU F h12 hp tp (qt_br (fun e => ?_) (fun e => ?_)))⟩
    · exact br_t rfl (nm_r (nI_1 i) next)
    · exact br_t rfl (nm_r (nI_1 i) next)
    · exact br_t rfl (nm_r (nI_1 i) next)
theorem qt_yM1 {post : Int32 → SY → Prop} {t v : Nat → Bool} {g l a w h b : Nat → Nat} {o pa : Nat} {x1 x3 : Int32} {E : Nat → Int32} (I : qt_I t g l a w v h b) (I' : qt_I t (qt_u g o pa) l a w v h b) (hp : pa < 12) (tp : t pa = true) (hE : ∀ p, p < 12 → t p = true → E p = nI (qt_tot t g a w v h b p))
    (k0 : (∃ p, p < 12 ∧ qt_bad t g l a w v h b o pa p) → wY_move_193 post (nI pa) 0 x3 x1 (qt_B t) (qt_U (qt_u g o pa)) (qt_N l) (qt_N a) (qt_N w) (qt_Z v h) (qt_N b) E)
    (k1 : (∀ p, p < 12 → ¬ qt_bad t g l a w v h b o pa p) → wY_move_193 post (nI pa) 1 (nI pa) x1 (qt_B t) (qt_U (qt_u g o pa)) (qt_N l) (qt_N a) (qt_N w) (qt_Z v h) (qt_N b) E) : ∀ d i, i + d = 12 → (∀ p, p < i → ¬ qt_bad t g l a w v h b o pa p) → wY_move_89 post x1 (nI pa) x3 (qt_B t) (qt_U (qt_u g o pa)) (qt_N l) (qt_N a) (qt_N w) (qt_Z v h) (qt_N b) E (d + 1) 1 (nI i) := by
  have n1 : ¬ (1 : Int32) = 0 := by decide
  intro d
  induction d with
  | zero =>
    intro i hi q
    have e : i = 12 := by omega
    subst e
    exact br_t qt_12e (br_f n1 (k1 q))
  | succ d ih =>
    intro i hi q
    have h12 : i < 12 := by omega
    have next : ¬ qt_bad t g l a w v h b o pa i → wY_move_89 post x1 (nI pa) x3 (qt_B t) (qt_U (qt_u g o pa)) (qt_N l) (qt_N a) (qt_N w) (qt_Z v h) (qt_N b) E (d + 1) 1 (nI (i + 1)) := by
      intro c
      refine ih (i + 1) (by omega) (fun p hp' => ?_)
      by_cases y : p = i
      · rw [y]; exact c
      · exact q p (by omega)
    have b1 := qt_I_t I i
    have b2 := qt_I_t I' i
    have b3 := I.2.2.2.1 i h12
    refine br_f (qt_12 h12) ⟨qt_i12 h12, qt_brB h12 (fun ti => ?_) (fun ti => qt_yU I'.1 h12 hp tp (qt_br (fun e => ?_) (fun e => ?_)))⟩
    · exact br_f n1 (br_t rfl (nm_r (nI_1 i) (next (fun y => by have := y.1; rw [ti] at this; exact absurd this (by decide)))))
    · exact br_f n1 (br_t rfl (nm_r (nI_1 i) (next (fun y => by have := y.2.1; rw [e] at this; exact absurd this (by decide)))))
    · refine br_f n1 (br_f n1 (qt_yT I'.1 I'.2.1 h12 ⟨qt_i12 h12, qt_brL rfl (qt_cN h12) (by omega) (by omega) (fun c => ?_) (fun c => qt_yT I'.1 I'.2.1 h12 ⟨qt_i12 h12, ?_⟩)⟩))
      · exact nm_r (nI_1 i) (next (fun y => by have := y.2.2.1; omega))
      · rw [nI_clamp (by omega), hE i h12 ti, nI_ltI (by omega) (by omega)]
        refine br_c (fun z => ?_) (fun z => ?_)
        · exact nm_r (nI_1 i) (qt_yM0 I'.1 hp tp (k0 ⟨i, h12, ti, e, by omega, z⟩) d (i + 1) (by omega))
        · exact nm_r (nI_1 i) (next (fun y => z y.2.2.2))
theorem qt_yM33 {post : Int32 → SY → Prop} {t v : Nat → Bool} {g l a w h b : Nat → Nat} {o pa : Nat} (I : qt_I t g l a w v h b) (ho : o < 12) (oz : o ≠ 0)
    (k : ∀ E, (∀ p, p < 12 → t p = true → E p = nI (qt_tot t g a w v h b p)) → wY_move_89 post (nI o) (nI pa) (nI (g o)) (qt_B t) (qt_U (qt_u g o pa)) (qt_N l) (qt_N a) (qt_N w) (qt_Z v h) (qt_N b) E 13 1 0) : ∀ d i E, i + d = 12 → (∀ p, p < i → t p = true → E p = nI (qt_tot t g a w v h b p)) → wY_move_33 post (nI o) (nI pa) (d + 1) (nI i) (qt_B t) (qt_U g) (qt_N l) (qt_N a) (qt_N w) (qt_Z v h) (qt_N b) E := by
  intro d
  induction d with
  | zero =>
    intro i E hi q
    have e : i = 12 := by omega
    subst e
    refine br_t qt_12e ⟨qt_i12 ho, nm_r (qt_cU1 ho oz) ⟨qt_i12 ho, nm_r (by rw [qt_uc _ ho, qt_uU g oz]) ⟨13, k E q⟩⟩⟩
  | succ d ih =>
    intro i E hi q
    have h12 : i < 12 := by omega
    have us : ∀ x, upd E i x i = x := fun x => if_pos rfl
    have un : ∀ x p, p ≠ i → upd E i x p = E p := fun x p hp => if_neg hp
    refine br_f (qt_12 h12) ⟨qt_i12 h12, qt_brB h12 (fun ti => ⟨qt_i12 h12, ?_⟩) (fun ti => qt_yT I.1 I.2.1 h12 ⟨qt_i12 h12, ?_⟩)⟩
    · refine nm_r (qt_uc _ h12 _) (nm_r (nI_1 i) (ih (i + 1) _ (by omega) (fun p hp tp => ?_)))
      by_cases y : p = i
      · rw [y, ti] at tp; exact absurd tp (by decide)
      · rw [un _ p y]; exact q p (by omega) tp
    · refine nm_r (qt_uc _ h12 _) (nm_r (nI_1 i) (ih (i + 1) _ (by omega) (fun p hp tp => ?_)))
      by_cases y : p = i
      · rw [y]; exact us _
      · rw [un _ p y]; exact q p (by omega) tp
end QTL
