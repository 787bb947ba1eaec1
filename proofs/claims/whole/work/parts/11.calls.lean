section QTN
/-! O: the calls, outcome by outcome, from reserve on -/
variable {t v : Nat → Bool} {g l a w h b : Nat → Nat} {e : Nat → Int32}
/-! reserve -/
theorem qt_xres0 {post : Int32 → SX → Prop} {x y : Int32} (n : ¬ (qt_O t x ∧ qt_A y)) (k : post (-1) (qt_X t g l a w v h b)) : wpX_reserve post (qt_X t g l a w v h b) x y := by
  unfold wpX_reserve
  dsimp only [qt_X]
  by_cases O : qt_O t x
  · have n' : ¬ qt_A y := fun z => n ⟨O, z⟩
    obtain ⟨o, ho, to, rfl⟩ := O
    exact qt_xO ho to (br_f qt_1n (qt_xAn n' (br_t rfl k)))
  · exact qt_xOn O (br_t rfl k)
theorem qt_yres0 {post : Int32 → SY → Prop} {x y : Int32} (n : ¬ (qt_O t x ∧ qt_A y)) (k : post (-1) (qt_Y t g l a w v h b e)) : wpY_reserve post (qt_Y t g l a w v h b e) x y := by
  unfold wpY_reserve
  dsimp only [qt_Y]
  by_cases O : qt_O t x
  · have n' : ¬ qt_A y := fun z => n ⟨O, z⟩
    obtain ⟨o, ho, to, rfl⟩ := O
    exact qt_yO ho to (br_f qt_1n (qt_yAn n' (br_t rfl k)))
  · exact qt_yOn O (br_t rfl k)
theorem qt_xres1 {post : Int32 → SX → Prop} {o m : Nat} (I : qt_I t g l a w v h b) (ho : o < 12) (to : t o = true) (hm : m ≤ 1000) (k : qt_lf v 10 10 0 = 10 → post (-2) (qt_X t g l a w v h b)) (kR : qt_lf v 10 10 0 < 10 → 0 < m → qt_ex g (qt_bl t g l a w v h b m) 12 o = true → post (-3) (qt_X t g l a w v h b)) (kD : ∀ j, j = qt_lf v 10 10 0 → j < 10 → (m = 0 ∨ qt_ex g (qt_bl t g l a w v h b m) 12 o = false) → post (nI j) (qt_X t g l a w (qt_u v j true) (qt_u h j o) (qt_u b j m))) : wpX_reserve post (qt_X t g l a w v h b) (nI o) (nI m) := by
  unfold wpX_reserve
  dsimp only [qt_X]
  refine qt_xO ho to (br_f qt_1n (qt_xA hm (br_f qt_1n (qt_xR ?_))))
  rcases qt_lf_s v 10 10 0 rfl with f | ⟨f, _⟩
  · exact br_t (by rw [f]; rfl) (k f)
  · have kD' := kD _ rfl f
    have kR' := kR f
    generalize qt_lf v 10 10 0 = j at f kD' kR'
    have h12 : j < 12 := by omega
    have vi := qt_i10 f
    have fin : (m = 0 ∨ qt_ex g (qt_bl t g l a w v h b m) 12 o = false) → wX_reserve_48 post (nI o) (nI m) (nI j) (qt_B t) (qt_U g) (qt_N l) (qt_N a) (qt_N w) (qt_B v) (qt_N h) (qt_N b) := by
      intro c
      exact ⟨vi, nm_r (e' := qt_B (qt_u v j true)) (by rw [qt_uc _ h12, qt_n1, qt_uB1]) ⟨vi, nm_r (e' := qt_N (qt_u h j o)) (by rw [qt_uc _ h12, qt_uN]) ⟨vi, nm_r (e' := qt_N (qt_u b j m)) (by rw [qt_uc _ h12, qt_uN]) (kD' c)⟩⟩⟩
    refine br_f (qt_ne (o := 10) h12 (by omega) (by omega)) ?_
    by_cases z : m = 0
    · exact br_t (by rw [z]; decide) (fin (Or.inl z))
    · refine br_f (nI_nle (by omega) (by omega)) (qt_xN I hm ho to ?_)
      by_cases y : qt_ex g (qt_bl t g l a w v h b m) 12 o = true
      · obtain ⟨q, hq, eq⟩ := qt_fi_is I.1 _ 12 o ho to y
        rw [eq]
        exact br_f (qt_nm hq) (kR' (by omega) y)
      · rw [qt_fi_ex _ _ 12 o (qt_bf y)]
        exact br_t rfl (fin (Or.inr (qt_bf y)))
theorem qt_yres1 {post : Int32 → SY → Prop} {o m : Nat} (I : qt_I t g l a w v h b) (ho : o < 12) (to : t o = true) (hm : m ≤ 1000) (k : qt_lf v 10 10 0 = 10 → post (-2) (qt_Y t g l a w v h b e)) (kR : qt_lf v 10 10 0 < 10 → 0 < m → qt_ex g (qt_bl t g l a w v h b m) 12 o = true → post (-3) (qt_Y t g l a w v h b e)) (kD : ∀ j, j = qt_lf v 10 10 0 → j < 10 → (m = 0 ∨ qt_ex g (qt_bl t g l a w v h b m) 12 o = false) → post (nI j) (qt_Y t g l a w (qt_u v j true) (qt_u h j o) (qt_u b j m) e)) : wpY_reserve post (qt_Y t g l a w v h b e) (nI o) (nI m) := by
  unfold wpY_reserve
  dsimp only [qt_Y]
  exact qt_yO ho to (br_f qt_1n (qt_yA hm (br_f qt_1n ⟨11, qt_yR20 I ho to hm 10 0 rfl k kR kD⟩)))
/-- a reservation that isn't refused keeps the sum -/
theorem qt_res_all {o m : Nat} (I : qt_I t g l a w v h b) (ho : o < 12) (to : t o = true) (c : m = 0 ∨ qt_ex g (qt_bl t g l a w v h b m) 12 o = false) : qt_all a w v b + m ≤ 1000 := by
  rcases c with c | c
  · have := I.2.2.2.2; omega
  · have z : ¬ qt_bl t g l a w v h b m 0 = true := by
      intro z
      rw [(qt_exR I.1 ho to _ (Nat.le_refl 12)).mpr ⟨0, qt_R0 I.1 ho to, z⟩] at c
      exact absurd c (by decide)
    have y : ¬ l 0 < qt_tot t g a w v h b 0 + m := fun y => z (decide_eq_true y)
    rw [qt_tot0 I] at y
    have := I.2.2.2.1 0 (by omega)
    omega
/-! use -/
theorem qt_xuse0 {post : Int32 → SX → Prop} {x y : Int32} (I : qt_I t g l a w v h b) (n : ∀ r m, r < 10 → v r = true → m ≤ b r → x = nI r → y ≠ nI m) (k : post (-1) (qt_X t g l a w v h b)) : wpX_use post (qt_X t g l a w v h b) x y := by
  unfold wpX_use
  dsimp only [qt_X]
  by_cases R : qt_V v x
  · obtain ⟨r, hr, vr, rfl⟩ := R
    refine qt_xV hr vr (br_f qt_1n (br_c (fun _ => k) (fun c => ⟨qt_i10 hr, ?_⟩)))
    obtain ⟨j, hj, rfl⟩ := nI_of c
    have q := qt_I_b I hr vr
    exact qt_brL rfl (qt_cN (by omega)) hj (by omega) (fun z => absurd rfl (n r j hr vr z rfl)) (fun _ => k)
  · exact qt_xVn R (br_t rfl k)
theorem qt_yuse0 {post : Int32 → SY → Prop} {x y : Int32} (I : qt_I t g l a w v h b) (n : ∀ r m, r < 10 → v r = true → m ≤ b r → x = nI r → y ≠ nI m) (k : post (-1) (qt_Y t g l a w v h b e)) : wpY_use post (qt_Y t g l a w v h b e) x y := by
  unfold wpY_use
  dsimp only [qt_Y]
  by_cases R : qt_V v x
  · obtain ⟨r, hr, vr, rfl⟩ := R
    refine qt_yV I.2.1 hr vr (br_f qt_1n (br_c (fun _ => k) (fun c => ⟨qt_i10 hr, ?_⟩)))
    obtain ⟨j, hj, rfl⟩ := nI_of c
    have q := qt_I_b I hr vr
    exact qt_brL rfl (qt_cN (by omega)) hj (by omega) (fun z => absurd rfl (n r j hr vr z rfl)) (fun _ => k)
  · exact qt_yVn I.2.1 R (br_t rfl k)
theorem qt_xuse1 {post : Int32 → SX → Prop} {r m : Nat} (I : qt_I t g l a w v h b) (hr : r < 10) (vr : v r = true) (hm : m ≤ b r) (k : post (nI (b r - m)) (qt_X t g l (qt_u a (h r) (a (h r) + m)) w v h (qt_u b r (b r - m)))) : wpX_use post (qt_X t g l a w v h b) (nI r) (nI m) := by
  have q := qt_I_b I hr vr
  have hh := (I.2.1 r hr vr).1
  have h12 : r < 12 := by omega
  have eh : qt_N h (nI r).toNatClampNeg = nI (h r) := qt_cN h12
  unfold wpX_use
  dsimp only [qt_X]
  refine qt_xV hr vr (br_f qt_1n (br_f (nI_pos (by omega)) ⟨qt_i10 hr, br_t ?_ ⟨qt_i10 hr, qt_i10 hr, nm_r (e' := qt_N (qt_u b r (b r - m))) ?_ ⟨qt_i10 hr, by rw [eh]; exact qt_i12 hh, by rw [eh]; exact qt_i12 hh, nm_r (e' := qt_N (qt_u a (h r) (a (h r) + m))) ?_ ⟨qt_i10 hr, ?_⟩⟩⟩⟩))
  · rw [qt_cN h12]; exact nI_le hm (by omega)
  · rw [qt_uc _ h12, qt_cN h12, qt_sub hm, qt_uN]
  · rw [eh, qt_uc _ hh, qt_cN hh, nI_add, qt_uN]
  · rw [qt_cN h12, qt_us]; exact k
theorem qt_yuse1 {post : Int32 → SY → Prop} {r m : Nat} (I : qt_I t g l a w v h b) (hr : r < 10) (vr : v r = true) (hm : m ≤ b r) (k : post (nI (b r - m)) (qt_Y t g l (qt_u a (h r) (a (h r) + m)) w v h (qt_u b r (b r - m)) e)) : wpY_use post (qt_Y t g l a w v h b e) (nI r) (nI m) := by
  have q := qt_I_b I hr vr
  have hh := (I.2.1 r hr vr).1
  have h12 : r < 12 := by omega
  have eh : qt_Z v h (nI r).toNatClampNeg - 1 = nI (h r) := by rw [qt_cZ1 h12 vr, nI_pred]
  unfold wpY_use
  dsimp only [qt_Y]
  refine qt_yV I.2.1 hr vr (br_f qt_1n (br_f (nI_pos (by omega)) ⟨qt_i10 hr, br_t ?_ ⟨qt_i10 hr, qt_i10 hr, nm_r (e' := qt_N (qt_u b r (b r - m))) ?_ ⟨qt_i10 hr, qt_i10 hr, by rw [eh]; exact qt_i12 hh, by rw [eh]; exact qt_i12 hh, nm_r (e' := qt_N (qt_u a (h r) (a (h r) + m))) ?_ ⟨qt_i10 hr, ?_⟩⟩⟩⟩))
  · rw [qt_cN h12]; exact nI_le hm (by omega)
  · rw [qt_uc _ h12, qt_cN h12, qt_sub hm, qt_uN]
  · rw [eh, qt_uc _ hh, qt_cN hh, nI_add, qt_uN]
  · rw [qt_cN h12, qt_us]; exact k
/-! giveBack -/
theorem qt_xgiv0 {post : Int32 → SX → Prop} {x : Int32} (n : ¬ qt_V v x) (k : post (-1) (qt_X t g l a w v h b)) : wpX_giveBack post (qt_X t g l a w v h b) x := by
  unfold wpX_giveBack
  dsimp only [qt_X]
  exact qt_xVn n (br_t rfl k)
theorem qt_ygiv0 {post : Int32 → SY → Prop} {x : Int32} (I : qt_I t g l a w v h b) (n : ¬ qt_V v x) (k : post (-1) (qt_Y t g l a w v h b e)) : wpY_giveBack post (qt_Y t g l a w v h b e) x := by
  unfold wpY_giveBack
  dsimp only [qt_Y]
  exact qt_yVn I.2.1 n (br_t rfl k)
theorem qt_xgiv1 {post : Int32 → SX → Prop} {r : Nat} (hr : r < 10) (vr : v r = true) (k : post (nI (b r)) (qt_X t g l a w (qt_u v r false) h b)) : wpX_giveBack post (qt_X t g l a w v h b) (nI r) := by
  unfold wpX_giveBack
  dsimp only [qt_X]
  refine qt_xV hr vr (br_f qt_1n ⟨qt_i10 hr, nm_r (e' := qt_B (qt_u v r false)) (by rw [qt_uc _ (by omega), qt_n0, qt_uB0]) ⟨qt_i10 hr, ?_⟩⟩)
  rw [qt_cN (by omega)]; exact k
theorem qt_ygiv1 {post : Int32 → SY → Prop} {r : Nat} (I : qt_I t g l a w v h b) (hr : r < 10) (vr : v r = true) (k : post (nI (b r)) (qt_Y t g l a w (qt_u v r false) h b e)) : wpY_giveBack post (qt_Y t g l a w v h b e) (nI r) := by
  unfold wpY_giveBack
  dsimp only [qt_Y]
  refine qt_yV I.2.1 hr vr (br_f qt_1n ⟨qt_i10 hr, nm_r (e' := qt_Z (qt_u v r false) h) (by rw [qt_uc _ (by omega), qt_uZ0]) ⟨qt_i10 hr, ?_⟩⟩)
  rw [qt_cN (by omega)]; exact k
/-! release -/
theorem qt_xrel0 {post : Int32 → SX → Prop} {x y : Int32} (I : qt_I t g l a w v h b) (n : ∀ o m, o < 12 → t o = true → m ≤ a o → x = nI o → y ≠ nI m) (k : post (-1) (qt_X t g l a w v h b)) : wpX_release post (qt_X t g l a w v h b) x y := by
  unfold wpX_release
  dsimp only [qt_X]
  by_cases O : qt_O t x
  · obtain ⟨o, ho, to, rfl⟩ := O
    refine qt_xO ho to (br_f qt_1n (br_c (fun _ => k) (fun c => ⟨qt_i12 ho, ?_⟩)))
    obtain ⟨j, hj, rfl⟩ := nI_of c
    have q := qt_I_a I ho
    exact qt_brL rfl (qt_cN ho) hj (by omega) (fun z => absurd rfl (n o j ho to z rfl)) (fun _ => k)
  · exact qt_xOn O (br_t rfl k)
theorem qt_yrel0 {post : Int32 → SY → Prop} {x y : Int32} (I : qt_I t g l a w v h b) (n : ∀ o m, o < 12 → t o = true → m ≤ a o → x = nI o → y ≠ nI m) (k : post (-1) (qt_Y t g l a w v h b e)) : wpY_release post (qt_Y t g l a w v h b e) x y := by
  unfold wpY_release
  dsimp only [qt_Y]
  by_cases O : qt_O t x
  · obtain ⟨o, ho, to, rfl⟩ := O
    refine qt_yO ho to (br_f qt_1n (br_c (fun _ => k) (fun c => ⟨qt_i12 ho, ?_⟩)))
    obtain ⟨j, hj, rfl⟩ := nI_of c
    have q := qt_I_a I ho
    exact qt_brL rfl (qt_cN ho) hj (by omega) (fun z => absurd rfl (n o j ho to z rfl)) (fun _ => k)
  · exact qt_yOn O (br_t rfl k)
theorem qt_xrel1 {post : Int32 → SX → Prop} {o m : Nat} (I : qt_I t g l a w v h b) (ho : o < 12) (to : t o = true) (hm : m ≤ a o) (k : post (nI (a o - m)) (qt_X t g l (qt_u a o (a o - m)) (qt_u w o (w o + m)) v h b)) : wpX_release post (qt_X t g l a w v h b) (nI o) (nI m) := by
  have q := qt_I_a I ho
  unfold wpX_release
  dsimp only [qt_X]
  refine qt_xO ho to (br_f qt_1n (br_f (nI_pos (by omega)) ⟨qt_i12 ho, br_t ?_ ⟨qt_i12 ho, qt_i12 ho, nm_r (e' := qt_N (qt_u a o (a o - m))) ?_ ⟨qt_i12 ho, qt_i12 ho, nm_r (e' := qt_N (qt_u w o (w o + m))) ?_ ⟨qt_i12 ho, ?_⟩⟩⟩⟩))
  · rw [qt_cN ho]; exact nI_le hm (by omega)
  · rw [qt_uc _ ho, qt_cN ho, qt_sub hm, qt_uN]
  · rw [qt_uc _ ho, qt_cN ho, nI_add, qt_uN]
  · rw [qt_cN ho, qt_us]; exact k
theorem qt_yrel1 {post : Int32 → SY → Prop} {o m : Nat} (I : qt_I t g l a w v h b) (ho : o < 12) (to : t o = true) (hm : m ≤ a o) (k : post (nI (a o - m)) (qt_Y t g l (qt_u a o (a o - m)) (qt_u w o (w o + m)) v h b e)) : wpY_release post (qt_Y t g l a w v h b e) (nI o) (nI m) := by
  have q := qt_I_a I ho
  unfold wpY_release
  dsimp only [qt_Y]
  refine qt_yO ho to (br_f qt_1n (br_f (nI_pos (by omega)) ⟨qt_i12 ho, br_t ?_ ⟨qt_i12 ho, qt_i12 ho, nm_r (e' := qt_N (qt_u a o (a o - m))) ?_ ⟨qt_i12 ho, qt_i12 ho, nm_r (e' := qt_N (qt_u w o (w o + m))) ?_ ⟨qt_i12 ho, ?_⟩⟩⟩⟩))
  · rw [qt_cN ho]; exact nI_le hm (by omega)
  · rw [qt_uc _ ho, qt_cN ho, qt_sub hm, qt_uN]
  · rw [qt_uc _ ho, qt_cN ho, nI_add, qt_uN]
  · rw [qt_cN ho, qt_us]; exact k
/-! free -/
theorem qt_xfre1 {post : Int32 → SX → Prop} {o : Nat} (I : qt_I t g l a w v h b) (ho : o < 12) (to : t o = true) (k : post (nI (qt_S (qt_fw t g w o) 12)) (qt_X t g l a (qt_fr t g w o 12) v h b)) : wpX_free post (qt_X t g l a w v h b) (nI o) := by
  unfold wpX_free
  dsimp only [qt_X]
  refine qt_xO ho to (br_f qt_1n ⟨13, ?_⟩)
  have q := qt_xF14 I.1 ho k 12 0 rfl
  rw [qt_fr_0] at q
  exact q
theorem qt_yfre1 {post : Int32 → SY → Prop} {o : Nat} (I : qt_I t g l a w v h b) (ho : o < 12) (to : t o = true) (k : post (nI (qt_S (qt_fw t g w o) 12)) (qt_Y t g l a (qt_fr t g w o 12) v h b e)) : wpY_free post (qt_Y t g l a w v h b e) (nI o) := by
  unfold wpY_free
  dsimp only [qt_Y]
  refine qt_yO ho to (br_f qt_1n ⟨13, ?_⟩)
  have q := qt_yF14 I.1 ho k 12 0 rfl
  rw [qt_fr_0] at q
  exact q
theorem qt_xfre0 {post : Int32 → SX → Prop} {x : Int32} (n : ¬ qt_O t x) (k : post (-1) (qt_X t g l a w v h b)) : wpX_free post (qt_X t g l a w v h b) x := by
  unfold wpX_free
  dsimp only [qt_X]
  exact qt_xOn n (br_t rfl k)
theorem qt_yfre0 {post : Int32 → SY → Prop} {x : Int32} (n : ¬ qt_O t x) (k : post (-1) (qt_Y t g l a w v h b e)) : wpY_free post (qt_Y t g l a w v h b e) x := by
  unfold wpY_free
  dsimp only [qt_Y]
  exact qt_yOn n (br_t rfl k)
/-! recover -/
theorem qt_xrec {post : Int32 → SX → Prop} (k : post (nI (qt_S (qt_c1 v) 10)) (qt_X t g l a w (qt_cl v 10) h b)) : wpX_recover post (qt_X t g l a w v h b) := by
  have q := qt_xC4 k 10 0 rfl
  rw [qt_cl_0] at q
  exact ⟨11, q⟩
theorem qt_yrec {post : Int32 → SY → Prop} (I : qt_I t g l a w v h b) (k : post (nI (qt_S (qt_c1 v) 10)) (qt_Y t g l a w (qt_cl v 10) h b e)) : wpY_recover post (qt_Y t g l a w v h b e) := by
  have q := qt_yC4 I.2.1 k 10 0 rfl
  rw [qt_cl_0] at q
  exact ⟨11, q⟩
/-! what only reads -/
theorem qt_xtot1 {post : Int32 → Prop} {o : Nat} (I : qt_I t g l a w v h b) (ho : o < 12) (to : t o = true) (k : post (nI (qt_tot t g a w v h b o))) : wpX_total post (qt_X t g l a w v h b) (nI o) := by
  unfold wpX_total
  dsimp only [qt_X]
  exact qt_xO ho to (br_f qt_1n (qt_xT I.1 I.2.1 ho k))
theorem qt_ytot1 {post : Int32 → Prop} {o : Nat} (I : qt_I t g l a w v h b) (ho : o < 12) (to : t o = true) (k : post (nI (qt_tot t g a w v h b o))) : wpY_total post (qt_Y t g l a w v h b e) (nI o) := by
  unfold wpY_total
  dsimp only [qt_Y]
  exact qt_yO ho to (br_f qt_1n (qt_yT I.1 I.2.1 ho k))
theorem qt_xtot0 {post : Int32 → Prop} {x : Int32} (n : ¬ qt_O t x) (k : post (-1)) : wpX_total post (qt_X t g l a w v h b) x := by
  unfold wpX_total
  dsimp only [qt_X]
  exact qt_xOn n (br_t rfl k)
theorem qt_ytot0 {post : Int32 → Prop} {x : Int32} (n : ¬ qt_O t x) (k : post (-1)) : wpY_total post (qt_Y t g l a w v h b e) x := by
  unfold wpY_total
  dsimp only [qt_Y]
  exact qt_yOn n (br_t rfl k)
def qt_rr (x : Int32) : Int32 := if 0 ≤ x then x else 0
theorem qt_rr_67 {A1 A2 A3 A4 A5 A6 A7 A8 : Nat → Int32} {post : Int32 → Prop} {x : Int32} (k : post (qt_rr x)) : wX_room_67 post x A1 A2 A3 A4 A5 A6 A7 A8 := by
  unfold qt_rr at k
  by_cases c : 0 ≤ x
  · rw [if_pos c] at k; exact br_t c k
  · rw [if_neg c] at k; exact br_f c k
theorem qt_xroo1 {post : Int32 → Prop} {o : Nat} (I : qt_I t g l a w v h b) (ho : o < 12) (to : t o = true) (k : post (qt_rr (qt_mn g (qt_e t g l a w v h b) 12 o 1000))) : wpX_room post (qt_X t g l a w v h b) (nI o) := by
  unfold wpX_room
  dsimp only [qt_X]
  exact qt_xO ho to (br_f qt_1n ⟨13, qt_xW19 I 12 0 o 1000 rfl ho to (qt_rr_67 k)⟩)
theorem qt_yroo1 {post : Int32 → Prop} {o : Nat} (I : qt_I t g l a w v h b) (ho : o < 12) (to : t o = true) (k : post (qt_rr (qt_mn g (qt_e t g l a w v h b) 12 o 1000))) : wpY_room post (qt_Y t g l a w v h b e) (nI o) := by
  rw [← qt_room I.1 ho to] at k
  unfold wpY_room
  dsimp only [qt_Y]
  exact qt_yO ho to (br_f qt_1n ⟨13, qt_yW16 (A1 := e) (A2 := e) (A3 := e) (A4 := e) (A5 := e) (A6 := e) (A7 := e) (A8 := e) I ho to (qt_rr_67 k) 12 0 rfl⟩)
theorem qt_xroo0 {post : Int32 → Prop} {x : Int32} (n : ¬ qt_O t x) (k : post (-1)) : wpX_room post (qt_X t g l a w v h b) x := by
  unfold wpX_room
  dsimp only [qt_X]
  exact qt_xOn n (br_t rfl k)
theorem qt_yroo0 {post : Int32 → Prop} {x : Int32} (n : ¬ qt_O t x) (k : post (-1)) : wpY_room post (qt_Y t g l a w v h b e) x := by
  unfold wpY_room
  dsimp only [qt_Y]
  exact qt_yOn n (br_t rfl k)
theorem qt_xblo0 {post : Int32 → Prop} {x y : Int32} (n : ¬ (qt_O t x ∧ qt_A y)) (k : post (-1)) : wpX_blocker post (qt_X t g l a w v h b) x y := by
  unfold wpX_blocker
  dsimp only [qt_X]
  by_cases O : qt_O t x
  · have n' : ¬ qt_A y := fun z => n ⟨O, z⟩
    obtain ⟨o, ho, to, rfl⟩ := O
    exact qt_xO ho to (br_f qt_1n (qt_xAn n' (br_t rfl k)))
  · exact qt_xOn O (br_t rfl k)
theorem qt_yblo0 {post : Int32 → Prop} {x y : Int32} (n : ¬ (qt_O t x ∧ qt_A y)) (k : post (-1)) : wpY_blocker post (qt_Y t g l a w v h b e) x y := by
  unfold wpY_blocker
  dsimp only [qt_Y]
  by_cases O : qt_O t x
  · have n' : ¬ qt_A y := fun z => n ⟨O, z⟩
    obtain ⟨o, ho, to, rfl⟩ := O
    exact qt_yO ho to (br_f qt_1n (qt_yAn n' (br_t rfl k)))
  · exact qt_yOn O (br_t rfl k)
theorem qt_xblo1 {post : Int32 → Prop} {o m : Nat} (I : qt_I t g l a w v h b) (ho : o < 12) (to : t o = true) (hm : m ≤ 1000) (k : post (qt_fi g (qt_bl t g l a w v h b m) 12 o)) : wpX_blocker post (qt_X t g l a w v h b) (nI o) (nI m) := by
  unfold wpX_blocker
  dsimp only [qt_X]
  exact qt_xO ho to (br_f qt_1n (qt_xA hm (br_f qt_1n (qt_xN I hm ho to (br_c (fun z => by rw [z] at k; exact k) (fun _ => k))))))
theorem qt_yblo1 {post : Int32 → Prop} {o m : Nat} (I : qt_I t g l a w v h b) (ho : o < 12) (to : t o = true) (hm : m ≤ 1000) (k : post (qt_fi g (qt_bl t g l a w v h b m) 12 o)) : wpY_blocker post (qt_Y t g l a w v h b e) (nI o) (nI m) := by
  unfold wpY_blocker
  dsimp only [qt_Y]
  exact qt_yO ho to (br_f qt_1n (qt_yA hm (br_f qt_1n (qt_yN I hm ho to k))))
theorem qt_xove {post : Int32 → Prop} (I : qt_I t g l a w v h b) (k : post (qt_mk (qt_ov t g l a w v h b) 12)) : wpX_over post (qt_X t g l a w v h b) := ⟨13, qt_xV4 I k 12 0 rfl⟩
theorem qt_yove {post : Int32 → Prop} (I : qt_I t g l a w v h b) (k : post (qt_mk (qt_ov t g l a w v h b) 12)) : wpY_over post (qt_Y t g l a w v h b e) := ⟨13, qt_yV4 I k 12 0 rfl⟩
theorem qt_xbel0 {post : Int32 → Prop} {x : Int32} (n : ¬ qt_O t x) (k : post 0) : wpX_below post (qt_X t g l a w v h b) x := by
  unfold wpX_below
  dsimp only [qt_X]
  exact qt_xOn n (br_t rfl k)
theorem qt_ybel0 {post : Int32 → Prop} {x : Int32} (n : ¬ qt_O t x) (k : post 0) : wpY_below post (qt_Y t g l a w v h b e) x :=
  ⟨1, br_f (qt_12 (s := 0) (by omega)) (qt_yOn n (br_t rfl k))⟩
theorem qt_xbel1 {post : Int32 → Prop} {o : Nat} (I : qt_I t g l a w v h b) (ho : o < 12) (to : t o = true) (k : post (qt_mk (qt_be t g o) 12)) : wpX_below post (qt_X t g l a w v h b) (nI o) := by
  unfold wpX_below
  dsimp only [qt_X]
  exact qt_xO ho to (br_f qt_1n ⟨13, qt_xB14 I.1 ho k 12 0 rfl⟩)
theorem qt_ybel1 {post : Int32 → Prop} {o : Nat} (I : qt_I t g l a w v h b) (ho : o < 12) (to : t o = true) (k : post (qt_mk (qt_be t g o) 12)) : wpY_below post (qt_Y t g l a w v h b e) (nI o) :=
  ⟨13, qt_yB4 I.1 ho to k 12 0 rfl⟩
end QTN
