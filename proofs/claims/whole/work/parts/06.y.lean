section QTG
/-! J: the reference, method by method, against the pure state -/
variable {A1 A2 A3 A4 A5 A6 A7 A8 : Nat → Int32}
theorem qt_yO {post : Int32 → Prop} {t : Nat → Bool} {o : Nat} (ho : o < 12) (to : t o = true) (h : post 1) : wpY_is post (qt_B t, A2, A3, A4, A5, A6, A7, A8) (nI o) :=
  br_f (qt_np ho) (br_f (qt_12 ho) ⟨qt_i12 ho, br_f (qt_cB1 ho to) h⟩)
theorem qt_yOn {post : Int32 → Prop} {t : Nat → Bool} {x : Int32} (n : ¬ qt_O t x) (h : post 0) : wpY_is post (qt_B t, A2, A3, A4, A5, A6, A7, A8) x := by
  rcases qt_ix x (n := 12) (by decide) with c | c | ⟨j, hj, e⟩
  · exact br_t c h
  · by_cases c0 : x < 0
    · exact br_t c0 h
    · exact br_f c0 (br_t c h)
  · subst e
    have tj : t j = false := qt_bf (fun z => n ⟨j, hj, z, rfl⟩)
    exact br_f (qt_np hj) (br_f (qt_12 hj) ⟨qt_i12 hj, br_t (qt_cB0 hj tj) h⟩)
theorem qt_yV {post : Int32 → Prop} {t v : Nat → Bool} {h : Nat → Nat} {r : Nat} (H : qt_H t v h) (hr : r < 10) (vr : v r = true) (k : post 1) : wpY_reserved post (A1, A2, A3, A4, A5, qt_Z v h, A7, A8) (nI r) :=
  br_f (qt_np (by omega)) (br_f (qt_10 hr) ⟨qt_i10 hr, qt_brZ (by omega) (fun z => (H r hr z).1) (fun z => absurd (z.symm.trans vr) (by decide)) (fun _ => k)⟩)
theorem qt_yVn {post : Int32 → Prop} {t v : Nat → Bool} {h : Nat → Nat} {x : Int32} (H : qt_H t v h) (n : ¬ qt_V v x) (k : post 0) : wpY_reserved post (A1, A2, A3, A4, A5, qt_Z v h, A7, A8) x := by
  rcases qt_ix x (n := 10) (by decide) with c | c | ⟨j, hj, e⟩
  · exact br_t c k
  · by_cases c0 : x < 0
    · exact br_t c0 k
    · exact br_f c0 (br_t c k)
  · subst e
    exact br_f (qt_np (by omega)) (br_f (qt_10 hj) ⟨qt_i10 hj, qt_brZ (by omega) (fun z => (H j hj z).1) (fun _ => k) (fun z => absurd ⟨j, hj, z, rfl⟩ n)⟩)
theorem qt_yA {post : Int32 → Prop} {n : Nat} (hn : n ≤ 1000) (h : post 1) : wpY_amount post (A1, A2, A3, A4, A5, A6, A7, A8) (nI n) :=
  br_f (nI_pos (by omega)) (br_f (qt_An' hn) h)
theorem qt_yAn {post : Int32 → Prop} {x : Int32} (n : ¬ qt_A x) (h : post 0) : wpY_amount post (A1, A2, A3, A4, A5, A6, A7, A8) x := by
  rcases qt_An n with c | ⟨c0, c⟩
  · exact br_t c h
  · exact br_f c0 (br_t c h)
/-! at or below -/
theorem qt_yU5 {post : Int32 → Prop} {t : Nat → Bool} {g : Nat → Nat} {o : Nat} (F : qt_F t g) (ho : o < 12) : ∀ n s p, s + n = 12 → p < 12 → t p = true → post (qt_b (qt_ex g (qt_is o) (n + 1) p)) → wY_under_5 post (nI o) A1 (qt_U g) A3 A4 A5 A6 A7 A8 (n + 1) (nI p) (nI s) := by
  intro n
  induction n with
  | zero =>
    intro s p hs hp tp h
    have e : s = 12 := by omega
    subst e
    refine br_t qt_12e ?_
    by_cases e : p = o
    · rw [qt_ex, if_pos (show qt_is o p = true from decide_eq_true e)] at h
      exact br_t (by rw [e]) h
    · have e' : ¬ qt_is o p = true := fun z => e (of_decide_eq_true z)
      rw [qt_ex, if_neg e'] at h
      refine br_f (qt_ne hp ho e) ?_
      by_cases z : p = 0
      · rw [if_pos z] at h; exact h
      · rw [if_neg z] at h; exact h
  | succ n ih =>
    intro s p hs hp tp h
    refine br_f (qt_12 (by omega)) (br_f (qt_np hp) ?_)
    by_cases e : p = o
    · rw [qt_ex, if_pos (show qt_is o p = true from decide_eq_true e)] at h
      exact br_t (by rw [e]) (br_t (by rw [e]) h)
    · have e' : ¬ qt_is o p = true := fun z => e (of_decide_eq_true z)
      rw [qt_ex, if_neg e'] at h
      refine br_f (qt_ne hp ho e) ⟨qt_i12 hp, ?_⟩
      by_cases z : p = 0
      · rw [if_pos z] at h
        refine nm_r (qt_cU0 hp z) (nm_r (nI_1 s) ?_)
        have m : ¬ (-1 : Int32) = nI o := fun y => qt_nm ho y.symm
        exact br_c (fun _ => br_f m h) (fun _ => br_t (by decide) (br_f m h))
      · rw [if_neg z] at h
        have y := F.2.2.1 p hp tp
        exact nm_r (qt_cU1 hp z) (nm_r (nI_1 s) (ih (s + 1) (g p) (by omega) y.1 y.2 h))
theorem qt_yU {post : Int32 → Prop} {t : Nat → Bool} {g : Nat → Nat} {p o : Nat} (F : qt_F t g) (ho : o < 12) (hp : p < 12) (tp : t p = true) (h : post (qt_b (qt_ub g p o))) : wpY_under post (A1, qt_U g, A3, A4, A5, A6, A7, A8) (nI p) (nI o) :=
  ⟨13, qt_yU5 F ho 12 0 p rfl hp tp (by rw [qt_ub13 F hp tp o]; exact h)⟩
/-! the total -/
theorem qt_yT56 {post : Int32 → Prop} {t v : Nat → Bool} {g h b : Nat → Nat} {o c : Nat} (F : qt_F t g) (H : qt_H t v h) (ho : o < 12) (k : post (nI (c + qt_S (qt_f2 g v h b o) 10))) : ∀ d i, i + d = 10 → wY_totalOf_56 post (nI o) A1 (qt_U g) A3 A4 A5 (qt_Z v h) (qt_N b) A8 (d + 1) (nI (c + qt_S (qt_f2 g v h b o) i)) (nI i) := by
  intro d
  induction d with
  | zero =>
    intro i hi
    have e : i = 10 := by omega
    subst e
    exact br_t qt_10e k
  | succ d ih =>
    intro i hi
    have next := ih (i + 1) (by omega)
    have hs : qt_S (qt_f2 g v h b o) (i + 1) = qt_S (qt_f2 g v h b o) i + qt_f2 g v h b o i := rfl
    refine br_f (qt_10 (by omega)) ⟨qt_i10 (by omega), qt_brZ (by omega) (fun z => (H i (by omega) z).1) (fun vi => ?_) (fun vi => ⟨qt_i10 (by omega), ?_⟩)⟩
    · have z : qt_f2 g v h b o i = 0 := if_neg (fun y => by rw [vi] at y; exact absurd y.1 (by decide))
      rw [hs, z, Nat.add_zero] at next
      exact nm_r (nI_1 i) next
    · have y := H i (by omega) vi
      rw [qt_cZ1 (by omega) vi, nI_pred]
      refine qt_yU F ho y.1 y.2 (qt_br (fun e => ?_) (fun e => ⟨qt_i10 (by omega), ?_⟩))
      · have z : qt_f2 g v h b o i = 0 := if_neg (fun y => by rw [e] at y; exact absurd y.2 (by decide))
        rw [hs, z, Nat.add_zero] at next
        exact nm_r (nI_1 i) next
      · have z : qt_f2 g v h b o i = b i := if_pos ⟨vi, e⟩
        rw [hs, z] at next
        refine nm_r (e' := nI (c + (qt_S (qt_f2 g v h b o) i + b i))) ?_ (nm_r (nI_1 i) next)
        rw [qt_cN (by omega), nI_add, Nat.add_assoc]
theorem qt_yT4 {post : Int32 → Prop} {t v : Nat → Bool} {g a w h b : Nat → Nat} {o : Nat} (F : qt_F t g) (H : qt_H t v h) (ho : o < 12) (k : post (nI (qt_tot t g a w v h b o))) : ∀ d i, i + d = 12 → wY_totalOf_4 post (nI o) (qt_B t) (qt_U g) A3 (qt_N a) (qt_N w) (qt_Z v h) (qt_N b) A8 (d + 1) (nI (qt_S (qt_f1 t g a w o) i)) (nI i) := by
  intro d
  induction d with
  | zero =>
    intro i hi
    have e : i = 12 := by omega
    subst e
    exact br_t qt_12e ⟨11, qt_yT56 (c := qt_S (qt_f1 t g a w o) 12) F H ho k 10 0 rfl⟩
  | succ d ih =>
    intro i hi
    have next := ih (i + 1) (by omega)
    have hs : qt_S (qt_f1 t g a w o) (i + 1) = qt_S (qt_f1 t g a w o) i + qt_f1 t g a w o i := rfl
    refine br_f (qt_12 (by omega)) ⟨qt_i12 (by omega), qt_brB (by omega) (fun ti => ?_) (fun ti => ?_)⟩
    · have z : qt_f1 t g a w o i = 0 := if_neg (fun y => by rw [ti] at y; exact absurd y.1 (by decide))
      rw [hs, z, Nat.add_zero] at next
      exact nm_r (nI_1 i) next
    · refine qt_yU F ho (by omega) ti (qt_br (fun e => ?_) (fun e => ⟨qt_i12 (by omega), qt_i12 (by omega), ?_⟩))
      · have z : qt_f1 t g a w o i = 0 := if_neg (fun y => by rw [e] at y; exact absurd y.2 (by decide))
        rw [hs, z, Nat.add_zero] at next
        exact nm_r (nI_1 i) next
      · have z : qt_f1 t g a w o i = a i + w i := if_pos ⟨ti, e⟩
        rw [hs, z] at next
        refine nm_r (e' := nI (qt_S (qt_f1 t g a w o) i + (a i + w i))) ?_ (nm_r (nI_1 i) next)
        rw [qt_cN (by omega), qt_cN (by omega), nI_add, nI_add, Nat.add_assoc]
theorem qt_yT {post : Int32 → Prop} {t v : Nat → Bool} {g a w h b : Nat → Nat} {o : Nat} (F : qt_F t g) (H : qt_H t v h) (ho : o < 12) (k : post (nI (qt_tot t g a w v h b o))) : wpY_totalOf post (qt_B t, qt_U g, A3, qt_N a, qt_N w, qt_Z v h, qt_N b, A8) (nI o) :=
  ⟨13, qt_yT4 F H ho k 12 0 rfl⟩
end QTG
