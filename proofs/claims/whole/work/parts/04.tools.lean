section QTD
/-! H: tools between the print and the pure state -/
theorem qt_n1 : vp_nar .boolean 1 = 1 := rfl
theorem qt_n0 : vp_nar .boolean 0 = 0 := rfl
theorem qt_ix (x : Int32) {n : Nat} (hn : n < 2 ^ 31) : x < 0 ∨ nI n ≤ x ∨ ∃ j : Nat, j < n ∧ x = nI j := by
  by_cases h : x < 0
  · exact Or.inl h
  · obtain ⟨j, hj, rfl⟩ := nI_of h
    by_cases h2 : j < n
    · exact Or.inr (Or.inr ⟨j, h2, rfl⟩)
    · exact Or.inr (Or.inl (nI_le (by omega) hj))
theorem qt_cN {f : Nat → Nat} {j : Nat} (h : j < 12) : qt_N f (nI j).toNatClampNeg = nI (f j) := by
  rw [nI_clamp (by omega)]; rfl
theorem qt_cB0 {t : Nat → Bool} {j : Nat} (h : j < 12) (e : t j = false) : qt_B t (nI j).toNatClampNeg = 0 := by
  rw [nI_clamp (by omega)]; exact if_neg (by rw [e]; decide)
theorem qt_cB1 {t : Nat → Bool} {j : Nat} (h : j < 12) (e : t j = true) : ¬ qt_B t (nI j).toNatClampNeg = 0 := by
  rw [nI_clamp (by omega)]
  have k : qt_B t j = 1 := if_pos e
  rw [k]; decide
theorem qt_cU0 {g : Nat → Nat} {j : Nat} (h : j < 12) (e : j = 0) : qt_U g (nI j).toNatClampNeg = -1 := by
  rw [nI_clamp (by omega)]; exact if_pos e
theorem qt_cU1 {g : Nat → Nat} {j : Nat} (h : j < 12) (e : ¬ j = 0) : qt_U g (nI j).toNatClampNeg = nI (g j) := by
  rw [nI_clamp (by omega)]; exact if_neg e
theorem qt_cZ0 {v : Nat → Bool} {h : Nat → Nat} {j : Nat} (hj : j < 12) (e : v j = false) : qt_Z v h (nI j).toNatClampNeg = 0 := by
  rw [nI_clamp (by omega)]; exact if_neg (by rw [e]; decide)
theorem qt_cZ1 {v : Nat → Bool} {h : Nat → Nat} {j : Nat} (hj : j < 12) (e : v j = true) : qt_Z v h (nI j).toNatClampNeg = nI (h j + 1) := by
  rw [nI_clamp (by omega)]; exact if_pos e
theorem qt_uc (f : Nat → Int32) {k : Nat} (hk : k < 12) (x : Int32) : upd f (nI k).toNatClampNeg x = upd f k x := by
  rw [nI_clamp (by omega)]
theorem qt_nm {p : Nat} (h : p < 12) : ¬ nI p = -1 := by
  intro e
  have z : ¬ nI p < 0 := nI_pos (by omega)
  rw [e] at z
  exact z (by decide)
theorem qt_np {p : Nat} (h : p < 12) : ¬ nI p < 0 := nI_pos (by omega)
theorem qt_ne {p o : Nat} (hp : p < 12) (ho : o < 12) (n : ¬ p = o) : ¬ nI p = nI o := fun z => n ((nI_eq (by omega) (by omega)).mp z)
theorem qt_12 {s : Nat} (h : s < 12) : ¬ (12 : Int32) ≤ nI s := nI_ge (b := 12) h (by decide)
theorem qt_10 {s : Nat} (h : s < 10) : ¬ (10 : Int32) ≤ nI s := nI_ge (b := 10) h (by decide)
theorem qt_12e : (12 : Int32) ≤ nI 12 := by decide
theorem qt_10e : (10 : Int32) ≤ nI 10 := by decide
theorem qt_i12 {j : Nat} (h : j < 12) : vp_in (nI j) 12 := vp_in_nI h (by decide)
theorem qt_i10 {j : Nat} (h : j < 10) : vp_in (nI j) 10 := vp_in_nI h (by decide)
def qt_b (x : Bool) : Int32 := if x = true then 1 else 0
theorem qt_b0 {x : Bool} (h : x = false) : qt_b x = 0 := if_neg (by rw [h]; decide)
theorem qt_bb {x : Bool} (h : x = true) : qt_b x = 1 := if_pos h
theorem qt_bn {x : Bool} (h : x = true) : ¬ qt_b x = 0 := by rw [qt_bb h]; decide
/-- a branch over a pure Boolean -/
theorem qt_br {x : Bool} {A B : Prop} (f : x = false → A) (k : x = true → B) : (qt_b x = 0 → A) ∧ (¬ qt_b x = 0 → B) := by
  by_cases e : x = true
  · exact br_f (qt_bn e) (k e)
  · exact br_t (qt_b0 (qt_bf e)) (f (qt_bf e))
theorem qt_brB {t : Nat → Bool} {j : Nat} (h : j < 12) {A B : Prop} (f : t j = false → A) (k : t j = true → B) : (qt_B t (nI j).toNatClampNeg = 0 → A) ∧ (¬ qt_B t (nI j).toNatClampNeg = 0 → B) := by
  by_cases e : t j = true
  · exact br_f (qt_cB1 h e) (k e)
  · exact br_t (qt_cB0 h (qt_bf e)) (f (qt_bf e))
theorem qt_brZ {v : Nat → Bool} {h : Nat → Nat} {j : Nat} (hj : j < 12) (hh : v j = true → h j < 12) {A B : Prop} (f : v j = false → A) (k : v j = true → B) : (qt_Z v h (nI j).toNatClampNeg ≤ 0 → A) ∧ (¬ qt_Z v h (nI j).toNatClampNeg ≤ 0 → B) := by
  by_cases e : v j = true
  · refine br_f ?_ (k e)
    rw [qt_cZ1 hj e]; exact nI_nle (by omega) (by have := hh e; omega)
  · refine br_t ?_ (f (qt_bf e))
    rw [qt_cZ0 hj (qt_bf e)]; decide
theorem qt_brZe {v : Nat → Bool} {h : Nat → Nat} {j : Nat} (hj : j < 12) (hh : v j = true → h j < 12) {A B : Prop} (f : v j = false → A) (k : v j = true → B) : (qt_Z v h (nI j).toNatClampNeg = 0 → A) ∧ (¬ qt_Z v h (nI j).toNatClampNeg = 0 → B) := by
  by_cases e : v j = true
  · refine br_f ?_ (k e)
    rw [qt_cZ1 hj e]; exact nI_ne0 (by omega) (by have := hh e; omega)
  · refine br_t ?_ (f (qt_bf e))
    rw [qt_cZ0 hj (qt_bf e)]
theorem qt_brL {x y : Int32} {A B : Prop} {a b : Nat} (hx : x = nI a) (hy : y = nI b) (ha : a < 2 ^ 31) (hb : b < 2 ^ 31) (f : a ≤ b → A) (k : ¬ a ≤ b → B) : (x ≤ y → A) ∧ (¬ x ≤ y → B) := by
  subst hx hy
  rw [nI_leI ha hb]
  exact ⟨f, k⟩
abbrev qt_X (t : Nat → Bool) (g l a w : Nat → Nat) (v : Nat → Bool) (h b : Nat → Nat) : SX := (qt_B t, qt_U g, qt_N l, qt_N a, qt_N w, qt_B v, qt_N h, qt_N b)
abbrev qt_Y (t : Nat → Bool) (g l a w : Nat → Nat) (v : Nat → Bool) (h b : Nat → Nat) (e : Nat → Int32) : SY := (qt_B t, qt_U g, qt_N l, qt_N a, qt_N w, qt_Z v h, qt_N b, e)
def qt_O (t : Nat → Bool) (x : Int32) : Prop := ∃ o, o < 12 ∧ t o = true ∧ x = nI o
def qt_V (v : Nat → Bool) (x : Int32) : Prop := ∃ r, r < 10 ∧ v r = true ∧ x = nI r
def qt_A (x : Int32) : Prop := ∃ n, n ≤ 1000 ∧ x = nI n
theorem qt_An {x : Int32} (h : ¬ qt_A x) : x < 0 ∨ (¬ x < 0 ∧ 1000 < x) := by
  by_cases h0 : x < 0
  · exact Or.inl h0
  · refine Or.inr ⟨h0, ?_⟩
    obtain ⟨j, hj, e⟩ := nI_of h0
    by_cases c : j ≤ 1000
    · exact absurd ⟨j, c, e⟩ h
    · rw [e]; exact nI_lt (a := 1000) (by omega) hj
theorem qt_An' {n : Nat} (h : n ≤ 1000) : ¬ (1000 : Int32) < nI n := nI_nlt (a := 1000) h (by decide)
end QTD
