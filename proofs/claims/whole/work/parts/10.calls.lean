section QTM
/-! N: the calls, outcome by outcome -/
variable {t v : Nat → Bool} {g l a w h b : Nat → Nat} {e : Nat → Int32}
theorem qt_1n : ¬ (1 : Int32) = 0 := by decide
theorem qt_sub {a b : Nat} (h : b ≤ a) : nI a - nI b = nI (a - b) := by
  obtain ⟨c, rfl⟩ : ∃ c, a = c + b := ⟨a - b, by omega⟩
  rw [← nI_add, Int32.add_sub_cancel, Nat.add_sub_cancel]
/-! add -/
theorem qt_xadd0 {post : Int32 → SX → Prop} {x y : Int32} (n : ¬ (qt_O t x ∧ qt_A y)) (k : post (-1) (qt_X t g l a w v h b)) : wpX_add post (qt_X t g l a w v h b) x y := by
  unfold wpX_add
  dsimp only [qt_X]
  by_cases O : qt_O t x
  · have n' : ¬ qt_A y := fun z => n ⟨O, z⟩
    obtain ⟨o, ho, to, rfl⟩ := O
    exact qt_xO ho to (br_f qt_1n (qt_xAn n' (br_t rfl k)))
  · exact qt_xOn O (br_t rfl k)
theorem qt_yadd0 {post : Int32 → SY → Prop} {x y : Int32} (n : ¬ (qt_O t x ∧ qt_A y)) (k : post (-1) (qt_Y t g l a w v h b e)) : wpY_add post (qt_Y t g l a w v h b e) x y := by
  unfold wpY_add
  dsimp only [qt_Y]
  by_cases O : qt_O t x
  · have n' : ¬ qt_A y := fun z => n ⟨O, z⟩
    obtain ⟨o, ho, to, rfl⟩ := O
    exact qt_yO ho to (br_f qt_1n (qt_yAn n' (br_t rfl k)))
  · exact qt_yOn O (br_t rfl k)
theorem qt_xadd1 {post : Int32 → SX → Prop} {pa m : Nat} (hp : pa < 12) (tp : t pa = true) (hm : m ≤ 1000) (f : qt_lf t 12 12 0 = 12) (k : post (-2) (qt_X t g l a w v h b)) : wpX_add post (qt_X t g l a w v h b) (nI pa) (nI m) := by
  unfold wpX_add
  dsimp only [qt_X]
  exact qt_xO hp tp (br_f qt_1n (qt_xA hm (br_f qt_1n (qt_xL (fun _ => br_t rfl k) (fun z => absurd f (by omega))))))
theorem qt_yadd1 {post : Int32 → SY → Prop} {pa m : Nat} (t0 : t 0 = true) (hp : pa < 12) (tp : t pa = true) (hm : m ≤ 1000) (f : qt_lf t 12 12 0 = 12) (k : post (-2) (qt_Y t g l a w v h b e)) : wpY_add post (qt_Y t g l a w v h b e) (nI pa) (nI m) := by
  rw [qt_lf_1 t0] at f
  unfold wpY_add
  dsimp only [qt_Y]
  exact qt_yO hp tp (br_f qt_1n (qt_yA hm (br_f qt_1n ⟨12, qt_yL20 11 1 rfl (fun _ => k) (fun j ej hj => absurd f (by omega))⟩)))
theorem qt_xadd2 {post : Int32 → SX → Prop} {pa m j : Nat} (hp : pa < 12) (tp : t pa = true) (hm : m ≤ 1000) (f : qt_lf t 12 12 0 = j) (hj : j < 12) (jz : j ≠ 0) (k : post (nI j) (qt_X (qt_u t j true) (qt_u g j pa) (qt_u l j m) a w v h b)) : wpX_add post (qt_X t g l a w v h b) (nI pa) (nI m) := by
  unfold wpX_add
  dsimp only [qt_X]
  refine qt_xO hp tp (br_f qt_1n (qt_xA hm (br_f qt_1n (qt_xL (fun z => absurd z (by omega)) (fun _ => ?_)))))
  rw [f]
  exact br_f (qt_nm hj) ⟨qt_i12 hj, nm_r (by rw [qt_uc _ hj, qt_n1, qt_uB1]) ⟨qt_i12 hj, nm_r (by rw [qt_uc _ hj, qt_uU g jz]) ⟨qt_i12 hj, nm_r (by rw [qt_uc _ hj, qt_uN]) k⟩⟩⟩
theorem qt_yadd2 {post : Int32 → SY → Prop} {pa m j : Nat} (t0 : t 0 = true) (hp : pa < 12) (tp : t pa = true) (hm : m ≤ 1000) (f : qt_lf t 12 12 0 = j) (hj : j < 12) (jz : j ≠ 0) (aj : a j = 0) (wj : w j = 0) (k : post (nI j) (qt_Y (qt_u t j true) (qt_u g j pa) (qt_u l j m) a w v h b e)) : wpY_add post (qt_Y t g l a w v h b e) (nI pa) (nI m) := by
  rw [qt_lf_1 t0] at f
  unfold wpY_add
  dsimp only [qt_Y]
  refine qt_yO hp tp (br_f qt_1n (qt_yA hm (br_f qt_1n ⟨12, qt_yL20 11 1 rfl (fun z => absurd z (by omega)) (fun i ei hi => ?_)⟩)))
  have ij : i = j := ei.trans f
  subst ij
  have ea : upd (qt_N a) i 0 = qt_N a := by
    rw [← nI_0, qt_uN, qt_ue aj]
  have ew : upd (qt_N w) i 0 = qt_N w := by
    rw [← nI_0, qt_uN, qt_ue wj]
  rw [ea, ew, qt_uB1, qt_uU g jz, qt_uN]
  exact k
/-! remove -/
def qt_rm (t : Nat → Bool) (g a w : Nat → Nat) (v : Nat → Bool) (h b : Nat → Nat) (o : Nat) : Prop := o < 12 ∧ t o = true ∧ o ≠ 0 ∧ (∀ p, p < 12 → t p = true → p ≠ 0 → g p ≠ o) ∧ qt_tot t g a w v h b o = 0
theorem qt_xrem0 {post : Int32 → SX → Prop} {x : Int32} (I : qt_I t g l a w v h b) (n : ∀ o, qt_rm t g a w v h b o → x ≠ nI o) (k : post 0 (qt_X t g l a w v h b)) : wpX_remove post (qt_X t g l a w v h b) x := by
  unfold wpX_remove
  dsimp only [qt_X]
  refine br_c (fun _ => k) (fun z => ?_)
  by_cases O : qt_O t x
  · obtain ⟨o, ho, to, rfl⟩ := O
    have oz : o ≠ 0 := fun y => z (by rw [y]; rfl)
    refine qt_xO ho to (br_f qt_1n (qt_xH I.1 ho (fun _ => br_f qt_1n k) (fun c => br_t rfl (qt_xT I.1 I.2.1 ho ?_))))
    have y : qt_tot t g a w v h b o ≠ 0 := fun y => n o ⟨ho, to, oz, c, y⟩ rfl
    have := qt_I_t I o
    exact br_f (nI_ne0 (by omega) (by omega)) k
  · exact qt_xOn O (br_t rfl k)
theorem qt_yrem0 {post : Int32 → SY → Prop} {x : Int32} (I : qt_I t g l a w v h b) (n : ∀ o, qt_rm t g a w v h b o → x ≠ nI o) (k : post 0 (qt_Y t g l a w v h b e)) : wpY_remove post (qt_Y t g l a w v h b e) x := by
  unfold wpY_remove
  dsimp only [qt_Y]
  refine br_c (fun _ => k) (fun z => ?_)
  by_cases O : qt_O t x
  · obtain ⟨o, ho, to, rfl⟩ := O
    have oz : o ≠ 0 := fun y => z (by rw [y]; rfl)
    refine qt_yO ho to (br_f qt_1n (qt_yT I.1 I.2.1 ho ?_))
    have bd := qt_I_t I o
    by_cases y : qt_tot t g a w v h b o = 0
    · refine br_t (by rw [y]; rfl) (qt_ya I.1 ho (fun _ => br_t rfl k) (fun c => absurd rfl (n o ⟨ho, to, oz, c, y⟩)))
    · exact br_f (nI_ne0 (by omega) (by omega)) k
  · exact qt_yOn O (br_t rfl k)
theorem qt_xrem1 {post : Int32 → SX → Prop} {o : Nat} (I : qt_I t g l a w v h b) (r : qt_rm t g a w v h b o) (k : post 1 (qt_X (qt_u t o false) g l a w (qt_dr v h o 10) h b)) : wpX_remove post (qt_X t g l a w v h b) (nI o) := by
  obtain ⟨ho, to, oz, c, z⟩ := r
  unfold wpX_remove
  dsimp only [qt_X]
  refine br_f (nI_ne0 (by omega) (by omega)) (qt_xO ho to (br_f qt_1n (qt_xH I.1 ho (fun ⟨p, hp, tp, pz, q⟩ => absurd q (c p hp tp pz)) (fun _ => br_t rfl (qt_xT I.1 I.2.1 ho (br_t (by rw [z]; rfl) ?_))))))
  refine qt_xD I.2.1 ho ⟨qt_i12 ho, nm_r (by rw [qt_uc _ ho, qt_n0, qt_uB0]) k⟩
theorem qt_yrem1 {post : Int32 → SY → Prop} {o : Nat} (I : qt_I t g l a w v h b) (r : qt_rm t g a w v h b o) (k : post 1 (qt_Y (qt_u t o false) g l a w (qt_dr v h o 10) h b e)) : wpY_remove post (qt_Y t g l a w v h b e) (nI o) := by
  obtain ⟨ho, to, oz, c, z⟩ := r
  unfold wpY_remove
  dsimp only [qt_Y]
  refine br_f (nI_ne0 (by omega) (by omega)) (qt_yO ho to (br_f qt_1n (qt_yT I.1 I.2.1 ho (br_t (by rw [z]; rfl) (qt_ya I.1 ho (fun ⟨p, hp, tp, pz, q⟩ => absurd q (c p hp tp pz)) (fun _ => br_f qt_1n ⟨qt_i12 ho, nm_r (by rw [qt_uc _ ho, qt_n0, qt_uB0]) ⟨11, ?_⟩⟩))))))
  have q := qt_yD39 I.2.1 ho k 10 0 rfl
  rw [qt_dr_0] at q
  exact q
/-! setLimit -/
theorem qt_xlim0 {post : Int32 → SX → Prop} {x y : Int32} (n : ¬ (qt_O t x ∧ qt_A y)) (k : post 0 (qt_X t g l a w v h b)) : wpX_setLimit post (qt_X t g l a w v h b) x y := by
  unfold wpX_setLimit
  dsimp only [qt_X]
  by_cases O : qt_O t x
  · have n' : ¬ qt_A y := fun z => n ⟨O, z⟩
    obtain ⟨o, ho, to, rfl⟩ := O
    exact qt_xO ho to (br_f qt_1n (qt_xAn n' (br_t rfl k)))
  · exact qt_xOn O (br_t rfl k)
theorem qt_ylim0 {post : Int32 → SY → Prop} {x y : Int32} (n : ¬ (qt_O t x ∧ qt_A y)) (k : post 0 (qt_Y t g l a w v h b e)) : wpY_setLimit post (qt_Y t g l a w v h b e) x y := by
  unfold wpY_setLimit
  dsimp only [qt_Y]
  by_cases O : qt_O t x
  · have n' : ¬ qt_A y := fun z => n ⟨O, z⟩
    obtain ⟨o, ho, to, rfl⟩ := O
    exact qt_yO ho to (br_f qt_1n (qt_yAn n' (br_t rfl k)))
  · exact qt_yOn O (br_t rfl k)
theorem qt_xlim1 {post : Int32 → SX → Prop} {o m : Nat} (ho : o < 12) (to : t o = true) (hm : m ≤ 1000) (k : post 1 (qt_X t g (qt_u l o m) a w v h b)) : wpX_setLimit post (qt_X t g l a w v h b) (nI o) (nI m) := by
  unfold wpX_setLimit
  dsimp only [qt_X]
  exact qt_xO ho to (br_f qt_1n (qt_xA hm (br_f qt_1n ⟨qt_i12 ho, nm_r (by rw [qt_uc _ ho, qt_uN]) k⟩)))
theorem qt_ylim1 {post : Int32 → SY → Prop} {o m : Nat} (ho : o < 12) (to : t o = true) (hm : m ≤ 1000) (k : post 1 (qt_Y t g (qt_u l o m) a w v h b e)) : wpY_setLimit post (qt_Y t g l a w v h b e) (nI o) (nI m) := by
  unfold wpY_setLimit
  dsimp only [qt_Y]
  exact qt_yO ho to (br_f qt_1n (qt_yA hm (br_f qt_1n ⟨qt_i12 ho, nm_r (by rw [qt_uc _ ho, qt_uN]) k⟩)))
/-! move -/
def qt_mo (t : Nat → Bool) (g : Nat → Nat) (o pa : Nat) : Prop := o < 12 ∧ t o = true ∧ o ≠ 0 ∧ pa < 12 ∧ t pa = true ∧ qt_ub g pa o = false
theorem qt_xmov0 {post : Int32 → SX → Prop} {x y : Int32} (I : qt_I t g l a w v h b) (n : ∀ o pa, qt_mo t g o pa → x = nI o → y ≠ nI pa) (k : post (-1) (qt_X t g l a w v h b)) : wpX_move post (qt_X t g l a w v h b) x y := by
  unfold wpX_move
  dsimp only [qt_X]
  refine br_c (fun _ => k) (fun z => ?_)
  by_cases O : qt_O t x
  · obtain ⟨o, ho, to, rfl⟩ := O
    have oz : o ≠ 0 := fun y => z (by rw [y]; rfl)
    refine qt_xO ho to (br_f qt_1n ?_)
    by_cases P : qt_O t y
    · obtain ⟨pa, hp, tp, rfl⟩ := P
      refine qt_xO hp tp (br_f qt_1n (qt_xU I.1 ho hp tp (qt_br (fun u => ?_) (fun _ => k))))
      exact absurd rfl (n o pa ⟨ho, to, oz, hp, tp, u⟩ rfl)
    · exact qt_xOn P (br_t rfl k)
  · exact qt_xOn O (br_t rfl k)
theorem qt_ymov0 {post : Int32 → SY → Prop} {x y : Int32} (I : qt_I t g l a w v h b) (n : ∀ o pa, qt_mo t g o pa → x = nI o → y ≠ nI pa) (k : post (-1) (qt_Y t g l a w v h b e)) : wpY_move post (qt_Y t g l a w v h b e) x y := by
  unfold wpY_move
  dsimp only [qt_Y]
  refine br_c (fun _ => k) (fun z => ?_)
  by_cases O : qt_O t x
  · obtain ⟨o, ho, to, rfl⟩ := O
    have oz : o ≠ 0 := fun y => z (by rw [y]; rfl)
    refine qt_yO ho to (br_f qt_1n ?_)
    by_cases P : qt_O t y
    · obtain ⟨pa, hp, tp, rfl⟩ := P
      refine qt_yO hp tp (br_f qt_1n (qt_yU I.1 ho hp tp (qt_br (fun u => ?_) (fun _ => k))))
      exact absurd rfl (n o pa ⟨ho, to, oz, hp, tp, u⟩ rfl)
    · exact qt_yOn P (br_t rfl k)
  · exact qt_yOn O (br_t rfl k)
theorem qt_mo_n (I : qt_I t g l a w v h b) {o pa : Nat} (M : qt_mo t g o pa) : ¬ qt_R g pa o := by
  obtain ⟨ho, to, oz, hp, tp, u⟩ := M
  intro z
  rw [(qt_ub_iff I.1 hp tp o).mpr z] at u
  exact absurd u (by decide)
theorem qt_mo_r (I : qt_I t g l a w v h b) {o pa : Nat} (M : qt_mo t g o pa) : (∃ p, p < 12 ∧ qt_bad t g l a w v h b o pa p) ↔ (qt_tot t g a w v h b o ≠ 0 ∧ qt_ex g (qt_rf t g l a w v h b o) 12 pa = true) := by
  have n := qt_mo_n I M
  obtain ⟨ho, to, oz, hp, tp, u⟩ := M
  rw [qt_exR I.1 hp tp _ (Nat.le_refl 12)]
  refine Iff.trans (qt_ref I.1 (qt_F_mv I.1 ho oz hp tp n) I.2.1 ho to hp tp n) ⟨fun ⟨m, p, r, c⟩ => ⟨m, p, r, decide_eq_true c⟩, fun ⟨m, p, r, c⟩ => ⟨m, p, r, of_decide_eq_true c⟩⟩
theorem qt_xmov1 {post : Int32 → SX → Prop} {o pa : Nat} (I : qt_I t g l a w v h b) (M : qt_mo t g o pa) (k0 : (∃ p, p < 12 ∧ qt_bad t g l a w v h b o pa p) → post (-3) (qt_X t g l a w v h b)) (k1 : (¬ ∃ p, p < 12 ∧ qt_bad t g l a w v h b o pa p) → post (nI pa) (qt_X t (qt_u g o pa) l a w v h b)) : wpX_move post (qt_X t g l a w v h b) (nI o) (nI pa) := by
  rw [qt_mo_r I M] at k0 k1
  obtain ⟨ho, to, oz, hp, tp, u⟩ := M
  unfold wpX_move
  dsimp only [qt_X]
  refine br_f (nI_ne0 (by omega) (by omega)) (qt_xO ho to (br_f qt_1n (qt_xO hp tp (br_f qt_1n (qt_xU I.1 ho hp tp (br_t (qt_b0 u) ?_))))))
  exact qt_xM I ho to hp tp (fun c => br_t rfl ⟨qt_i12 ho, nm_r (by rw [qt_uc _ ho, qt_uU g oz]) (k1 c)⟩) (fun c => br_f qt_1n (k0 c))
theorem qt_ymov1 {post : Int32 → SY → Prop} {o pa : Nat} (I : qt_I t g l a w v h b) (M : qt_mo t g o pa) (k0 : ∀ E, (∃ p, p < 12 ∧ qt_bad t g l a w v h b o pa p) → post (-3) (qt_Y t g l a w v h b E)) (k1 : ∀ E, (¬ ∃ p, p < 12 ∧ qt_bad t g l a w v h b o pa p) → post (nI pa) (qt_Y t (qt_u g o pa) l a w v h b E)) : wpY_move post (qt_Y t g l a w v h b e) (nI o) (nI pa) := by
  have n := qt_mo_n I M
  obtain ⟨ho, to, oz, hp, tp, u⟩ := M
  unfold wpY_move
  dsimp only [qt_Y]
  refine br_f (nI_ne0 (by omega) (by omega)) (qt_yO ho to (br_f qt_1n (qt_yO hp tp (br_f qt_1n (qt_yU I.1 ho hp tp (br_t (qt_b0 u) ⟨13, ?_⟩))))))
  refine qt_yM33 I ho oz (fun E hE => ?_) 12 0 e rfl (fun p hp' => absurd hp' (Nat.not_lt_zero p))
  refine qt_yM1 I (qt_I_mv I ho oz hp tp n) hp tp hE (fun c => ⟨qt_i12 ho, ?_⟩) (fun c => ⟨qt_i12 ho, ?_⟩) 12 0 rfl (fun p hp' => absurd hp' (Nat.not_lt_zero p))
  · exact nm_r (e' := qt_U g) (by rw [qt_uc _ ho, qt_uU _ oz, qt_uu, qt_ue rfl]) (br_t rfl (k0 E c))
  · exact nm_r (e' := qt_U (qt_u g o pa)) (by rw [qt_uc _ ho, qt_uU _ oz, qt_uu]) (br_f qt_1n (k1 E (fun ⟨p, hp', y⟩ => c p hp' y)))
end QTM
