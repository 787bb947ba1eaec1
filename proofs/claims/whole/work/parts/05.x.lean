section QTE
/-! I: the class, method by method, against the pure state -/
variable {A1 A2 A3 A4 A5 A6 A7 A8 : Nat → Int32}
theorem qt_xO {post : Int32 → Prop} {t : Nat → Bool} {o : Nat} (ho : o < 12) (to : t o = true) (h : post 1) : wpX_isOwner post (qt_B t, A2, A3, A4, A5, A6, A7, A8) (nI o) :=
  br_f (qt_np ho) (br_f (qt_12 ho) ⟨qt_i12 ho, br_f (qt_cB1 ho to) h⟩)
theorem qt_xOn {post : Int32 → Prop} {t : Nat → Bool} {x : Int32} (n : ¬ qt_O t x) (h : post 0) : wpX_isOwner post (qt_B t, A2, A3, A4, A5, A6, A7, A8) x := by
  rcases qt_ix x (n := 12) (by decide) with c | c | ⟨j, hj, e⟩
  · exact br_t c h
  · by_cases c0 : x < 0
    · exact br_t c0 h
    · exact br_f c0 (br_t c h)
  · subst e
    have tj : t j = false := qt_bf (fun z => n ⟨j, hj, z, rfl⟩)
    exact br_f (qt_np hj) (br_f (qt_12 hj) ⟨qt_i12 hj, br_t (qt_cB0 hj tj) h⟩)
theorem qt_xV {post : Int32 → Prop} {v : Nat → Bool} {r : Nat} (hr : r < 10) (vr : v r = true) (h : post 1) : wpX_isReservation post (A1, A2, A3, A4, A5, qt_B v, A7, A8) (nI r) :=
  br_f (qt_np (by omega)) (br_f (qt_10 hr) ⟨qt_i10 hr, br_f (qt_cB1 (by omega) vr) h⟩)
theorem qt_xVn {post : Int32 → Prop} {v : Nat → Bool} {x : Int32} (n : ¬ qt_V v x) (h : post 0) : wpX_isReservation post (A1, A2, A3, A4, A5, qt_B v, A7, A8) x := by
  rcases qt_ix x (n := 10) (by decide) with c | c | ⟨j, hj, e⟩
  · exact br_t c h
  · by_cases c0 : x < 0
    · exact br_t c0 h
    · exact br_f c0 (br_t c h)
  · subst e
    have vj : v j = false := qt_bf (fun z => n ⟨j, hj, z, rfl⟩)
    exact br_f (qt_np (by omega)) (br_f (qt_10 hj) ⟨qt_i10 hj, br_t (qt_cB0 (by omega) vj) h⟩)
theorem qt_xA {post : Int32 → Prop} {n : Nat} (hn : n ≤ 1000) (h : post 1) : wpX_isSpace post (nI n) :=
  br_f (nI_pos (by omega)) (br_f (qt_An' hn) h)
theorem qt_xAn {post : Int32 → Prop} {x : Int32} (n : ¬ qt_A x) (h : post 0) : wpX_isSpace post x := by
  rcases qt_An n with c | ⟨c0, c⟩
  · exact br_t c h
  · exact br_f c0 (br_t c h)
/-! at or below -/
theorem qt_xU5 {post : Int32 → Prop} {t : Nat → Bool} {g : Nat → Nat} {o : Nat} (F : qt_F t g) (ho : o < 12) : ∀ n s p, s + n = 12 → p < 12 → t p = true → post (qt_b (qt_ex g (qt_is o) n p)) → wX_isAtOrBelow_5 post (nI o) A1 (qt_U g) A3 A4 A5 A6 A7 A8 (n + 1) (nI p) (nI s) := by
  intro n
  induction n with
  | zero =>
    intro s p hs hp tp h
    have e : s = 12 := by omega
    subst e
    exact br_t qt_12e h
  | succ n ih =>
    intro s p hs hp tp h
    refine br_f (qt_12 (by omega)) (br_f (qt_nm hp) ?_)
    by_cases e : p = o
    · rw [qt_ex, if_pos (show qt_is o p = true from decide_eq_true e)] at h
      exact br_t (by rw [e]) h
    · have e' : ¬ qt_is o p = true := fun z => e (of_decide_eq_true z)
      rw [qt_ex, if_neg e'] at h
      refine br_f (qt_ne hp ho e) ⟨qt_i12 hp, ?_⟩
      by_cases z : p = 0
      · rw [if_pos z] at h
        refine nm_r (qt_cU0 hp z) (nm_r (nI_1 s) ?_)
        exact br_c (fun _ => h) (fun _ => br_t rfl h)
      · rw [if_neg z] at h
        have y := F.2.2.1 p hp tp
        exact nm_r (qt_cU1 hp z) (nm_r (nI_1 s) (ih (s + 1) (g p) (by omega) y.1 y.2 h))
theorem qt_xU {post : Int32 → Prop} {t : Nat → Bool} {g : Nat → Nat} {p o : Nat} (F : qt_F t g) (ho : o < 12) (hp : p < 12) (tp : t p = true) (h : post (qt_b (qt_ub g p o))) : wpX_isAtOrBelow post (A1, qt_U g, A3, A4, A5, A6, A7, A8) (nI p) (nI o) :=
  ⟨13, qt_xU5 F ho 12 0 p rfl hp tp h⟩
/-! the total -/
theorem qt_xT52 {post : Int32 → Prop} {t v : Nat → Bool} {g h b : Nat → Nat} {o c : Nat} (F : qt_F t g) (H : qt_H t v h) (ho : o < 12) (k : post (nI (c + qt_S (qt_f2 g v h b o) 10))) : ∀ d i, i + d = 10 → wX_totalOf_52 post (nI o) A1 (qt_U g) A3 A4 A5 (qt_B v) (qt_N h) (qt_N b) (d + 1) (nI (c + qt_S (qt_f2 g v h b o) i)) (nI i) := by
  intro d
  induction d with
  | zero =>
    intro i hi
    have e : i = 10 := by omega
    subst e
    exact br_t qt_10e k
  | succ d ih =>
    intro i hi
    have next := ih (i + 1) (by omega)
    have hs : qt_S (qt_f2 g v h b o) (i + 1) = qt_S (qt_f2 g v h b o) i + qt_f2 g v h b o i := rfl
    refine br_f (qt_10 (by omega)) ⟨qt_i10 (by omega), qt_brB (by omega) (fun vi => ?_) (fun vi => ⟨qt_i10 (by omega), ?_⟩)⟩
    · have z : qt_f2 g v h b o i = 0 := if_neg (fun y => by rw [vi] at y; exact absurd y.1 (by decide))
      rw [hs, z, Nat.add_zero] at next
      exact nm_r (nI_1 i) next
    · have y := H i (by omega) vi
      rw [qt_cN (f := h) (j := i) (by omega)]
      refine qt_xU F ho y.1 y.2 (qt_br (fun e => ?_) (fun e => ⟨qt_i10 (by omega), ?_⟩))
      · have z : qt_f2 g v h b o i = 0 := if_neg (fun y => by rw [e] at y; exact absurd y.2 (by decide))
        rw [hs, z, Nat.add_zero] at next
        exact nm_r (nI_1 i) next
      · have z : qt_f2 g v h b o i = b i := if_pos ⟨vi, e⟩
        rw [hs, z] at next
        refine nm_r (e' := nI (c + (qt_S (qt_f2 g v h b o) i + b i))) ?_ (nm_r (nI_1 i) next)
        rw [qt_cN (by omega), nI_add, Nat.add_assoc]
theorem qt_xT4 {post : Int32 → Prop} {t v : Nat → Bool} {g a w h b : Nat → Nat} {o : Nat} (F : qt_F t g) (H : qt_H t v h) (ho : o < 12) (k : post (nI (qt_tot t g a w v h b o))) : ∀ d i, i + d = 12 → wX_totalOf_4 post (nI o) (qt_B t) (qt_U g) A3 (qt_N a) (qt_N w) (qt_B v) (qt_N h) (qt_N b) (d + 1) (nI (qt_S (qt_f1 t g a w o) i)) (nI i) := by
  intro d
  induction d with
  | zero =>
    intro i hi
    have e : i = 12 := by omega
    subst e
    exact br_t qt_12e ⟨11, qt_xT52 (c := qt_S (qt_f1 t g a w o) 12) F H ho k 10 0 rfl⟩
  | succ d ih =>
    intro i hi
    have next := ih (i + 1) (by omega)
    have hs : qt_S (qt_f1 t g a w o) (i + 1) = qt_S (qt_f1 t g a w o) i + qt_f1 t g a w o i := rfl
    refine br_f (qt_12 (by omega)) ⟨qt_i12 (by omega), qt_brB (by omega) (fun ti => ?_) (fun ti => ?_)⟩
    · have z : qt_f1 t g a w o i = 0 := if_neg (fun y => by rw [ti] at y; exact absurd y.1 (by decide))
      rw [hs, z, Nat.add_zero] at next
      exact nm_r (nI_1 i) next
    · refine qt_xU F ho (by omega) ti (qt_br (fun e => ?_) (fun e => ⟨qt_i12 (by omega), qt_i12 (by omega), ?_⟩))
      · have z : qt_f1 t g a w o i = 0 := if_neg (fun y => by rw [e] at y; exact absurd y.2 (by decide))
        rw [hs, z, Nat.add_zero] at next
        exact nm_r (nI_1 i) next
      · have z : qt_f1 t g a w o i = a i + w i := if_pos ⟨ti, e⟩
        rw [hs, z] at next
        refine nm_r (e' := nI (qt_S (qt_f1 t g a w o) i + (a i + w i))) ?_ (nm_r (nI_1 i) next)
        rw [qt_cN (by omega), qt_cN (by omega), nI_add, nI_add]
theorem qt_xT {post : Int32 → Prop} {t v : Nat → Bool} {g a w h b : Nat → Nat} {o : Nat} (F : qt_F t g) (H : qt_H t v h) (ho : o < 12) (k : post (nI (qt_tot t g a w v h b o))) : wpX_totalOf post (qt_B t, qt_U g, A3, qt_N a, qt_N w, qt_B v, qt_N h, qt_N b) (nI o) :=
  ⟨13, qt_xT4 F H ho k 12 0 rfl⟩
end QTE
