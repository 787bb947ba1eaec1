/-- one pure state behind both: the reference's before is free -/
def i_Rel (_ : Nat) (u : SX) (v : SY) : Prop := ∃ (t : Nat → Bool) (g l a w : Nat → Nat) (z : Nat → Bool) (h b : Nat → Nat) (e : Nat → Int32), u = qt_X t g l a w z h b ∧ v = qt_Y t g l a w z h b e ∧ qt_I t g l a w z h b
theorem qt_rel {k : Nat} {t z : Nat → Bool} {g l a w h b : Nat → Nat} {e : Nat → Int32} (I : qt_I t g l a w z h b) : i_Rel k (qt_X t g l a w z h b) (qt_Y t g l a w z h b e) := ⟨t, g, l, a, w, z, h, b, e, rfl, rfl, I⟩
theorem i_up {k : Nat} {u : SX} {v : SY} (h : i_Rel k u v) : i_Rel (k + 3) u v := h
theorem qt_z1 : upd (fun _ => 0) 0 (vp_nar .boolean 1) = qt_B (qt_u (fun _ => false) 0 true) := by
  rw [qt_n1, ← qt_uB1]; rfl
theorem qt_z2 : upd (fun _ => 0) 0 (-1) = qt_U (fun _ => 0) := by
  funext j
  by_cases c : j = 0
  · exact (if_pos c).trans (if_pos c).symm
  · exact (if_neg c).trans (if_neg c).symm
theorem qt_z3 : upd (fun _ => 0) 0 1000 = qt_N (qt_u (fun _ => 0) 0 1000) := by
  rw [← qt_uN]; rfl
theorem i_vc0 : wpX_init (fun u => wpY_init (fun v => i_Rel 0 u v)) := by
  refine nm_r qt_z1 (nm_r qt_z2 (nm_r qt_z3 (nm_r qt_z1 (nm_r qt_z2 (nm_r qt_z3 ?_)))))
  exact ⟨qt_u (fun _ => false) 0 true, fun _ => 0, qt_u (fun _ => 0) 0 1000, fun _ => 0, fun _ => 0, fun _ => false, fun _ => 0, fun _ => 0, fun _ => 0, rfl, rfl, qt_I_0⟩
theorem i_vc_add {k : Nat} {u : SX} {v : SY} (I : i_Rel k u v) (hk : k + 3 ≤ 1536) (v1 : Int32) (v2 : Int32) : wpX_add (fun r u' => wpY_add (fun r' v' => r' = r ∧ i_Rel (k + 3) u' v') v v1 v2) u v1 v2 := by
  obtain ⟨t, g, l, a, w, z, h, b, e, rfl, rfl, I⟩ := I
  by_cases c : qt_O t v1 ∧ qt_A v2
  · obtain ⟨⟨o, ho, to, rfl⟩, m, hm, rfl⟩ := c
    rcases qt_lf_s t 12 12 0 rfl with f | ⟨f, fj⟩
    · exact qt_xadd1 ho to hm f (qt_yadd1 I.1.1 ho to hm f ⟨rfl, qt_rel I⟩)
    · have jz : qt_lf t 12 12 0 ≠ 0 := by
        intro y
        rw [y, I.1.1] at fj
        exact absurd fj (by decide)
      have y := I.2.2.1 _ f fj
      exact qt_xadd2 ho to hm rfl f jz (qt_yadd2 I.1.1 ho to hm rfl f jz y.1 y.2 ⟨rfl, qt_rel (qt_I_add I f fj ho to hm)⟩)
  · exact qt_xadd0 c (qt_yadd0 c ⟨rfl, qt_rel I⟩)
theorem i_vc_remove {k : Nat} {u : SX} {v : SY} (I : i_Rel k u v) (hk : k + 3 ≤ 1536) (v1 : Int32) : wpX_remove (fun r u' => wpY_remove (fun r' v' => r' = r ∧ i_Rel (k + 3) u' v') v v1) u v1 := by
  obtain ⟨t, g, l, a, w, z, h, b, e, rfl, rfl, I⟩ := I
  by_cases c : ∃ o, qt_rm t g a w z h b o ∧ v1 = nI o
  · obtain ⟨o, r, rfl⟩ := c
    have al : ∀ p, p < 12 → t p = true → g p ≠ o := by
      intro p hp tp
      by_cases pz : p = 0
      · rw [pz, I.1.2.1]; exact fun y => r.2.2.1 y.symm
      · exact r.2.2.2.1 p hp tp pz
    exact qt_xrem1 I r (qt_yrem1 I r ⟨rfl, qt_rel (qt_I_rem I r.1 r.2.1 r.2.2.1 al r.2.2.2.2)⟩)
  · have n : ∀ o, qt_rm t g a w z h b o → v1 ≠ nI o := fun o r y => c ⟨o, r, y⟩
    exact qt_xrem0 I n (qt_yrem0 I n ⟨rfl, qt_rel I⟩)
theorem i_vc_setLimit {k : Nat} {u : SX} {v : SY} (I : i_Rel k u v) (hk : k + 3 ≤ 1536) (v1 : Int32) (v2 : Int32) : wpX_setLimit (fun r u' => wpY_setLimit (fun r' v' => r' = r ∧ i_Rel (k + 3) u' v') v v1 v2) u v1 v2 := by
  obtain ⟨t, g, l, a, w, z, h, b, e, rfl, rfl, I⟩ := I
  by_cases c : qt_O t v1 ∧ qt_A v2
  · obtain ⟨⟨o, ho, to, rfl⟩, m, hm, rfl⟩ := c
    exact qt_xlim1 ho to hm (qt_ylim1 ho to hm ⟨rfl, qt_rel (qt_I_lim I hm)⟩)
  · exact qt_xlim0 c (qt_ylim0 c ⟨rfl, qt_rel I⟩)
theorem i_vc_move {k : Nat} {u : SX} {v : SY} (I : i_Rel k u v) (hk : k + 3 ≤ 1536) (v1 : Int32) (v2 : Int32) : wpX_move (fun r u' => wpY_move (fun r' v' => r' = r ∧ i_Rel (k + 3) u' v') v v1 v2) u v1 v2 := by
  obtain ⟨t, g, l, a, w, z, h, b, e, rfl, rfl, I⟩ := I
  by_cases c : ∃ o pa, qt_mo t g o pa ∧ v1 = nI o ∧ v2 = nI pa
  · obtain ⟨o, pa, M, rfl, rfl⟩ := c
    exact qt_xmov1 I M (fun y => qt_ymov1 I M (fun E _ => ⟨rfl, qt_rel I⟩) (fun E n => absurd y n)) (fun n => qt_ymov1 I M (fun E y => absurd y n) (fun E _ => ⟨rfl, qt_rel (qt_I_mv I M.1 M.2.2.1 M.2.2.2.1 M.2.2.2.2.1 (qt_mo_n I M))⟩))
  · have n : ∀ o pa, qt_mo t g o pa → v1 = nI o → v2 ≠ nI pa := fun o pa M y y' => c ⟨o, pa, M, y, y'⟩
    exact qt_xmov0 I n (qt_ymov0 I n ⟨rfl, qt_rel I⟩)
theorem i_vc_reserve {k : Nat} {u : SX} {v : SY} (I : i_Rel k u v) (hk : k + 3 ≤ 1536) (v1 : Int32) (v2 : Int32) : wpX_reserve (fun r u' => wpY_reserve (fun r' v' => r' = r ∧ i_Rel (k + 3) u' v') v v1 v2) u v1 v2 := by
  obtain ⟨t, g, l, a, w, z, h, b, e, rfl, rfl, I⟩ := I
  by_cases c : qt_O t v1 ∧ qt_A v2
  · obtain ⟨⟨o, ho, to, rfl⟩, m, hm, rfl⟩ := c
    refine qt_xres1 I ho to hm (fun f => ?_) (fun f p x => ?_) (fun j ej hj x => ?_)
    · exact qt_yres1 I ho to hm (fun _ => ⟨rfl, qt_rel I⟩) (fun f' => absurd f (by omega)) (fun j ej hj => absurd f (by omega))
    · refine qt_yres1 I ho to hm (fun f' => absurd f' (by omega)) (fun _ _ _ => ⟨rfl, qt_rel I⟩) (fun j ej hj y => ?_)
      rcases y with y | y
      · exact absurd y (by omega)
      · rw [x] at y; exact absurd y (by decide)
    · refine qt_yres1 I ho to hm (fun f' => absurd f' (by omega)) (fun _ p y => ?_) (fun i ei hi _ => ?_)
      · rcases x with x | x
        · exact absurd x (by omega)
        · rw [y] at x; exact absurd x (by decide)
      · have ij : i = j := ei.trans ej.symm
        subst ij
        have zj : z i = false := by
          rcases qt_lf_s z 10 10 0 rfl with f | ⟨_, f⟩
          · exact absurd f (by omega)
          · rw [ej]; exact f
        exact ⟨rfl, qt_rel (qt_I_res I ho to hi zj (qt_res_all I ho to x))⟩
  · exact qt_xres0 c (qt_yres0 c ⟨rfl, qt_rel I⟩)
theorem i_vc_use {k : Nat} {u : SX} {v : SY} (I : i_Rel k u v) (hk : k + 3 ≤ 1536) (v1 : Int32) (v2 : Int32) : wpX_use (fun r u' => wpY_use (fun r' v' => r' = r ∧ i_Rel (k + 3) u' v') v v1 v2) u v1 v2 := by
  obtain ⟨t, g, l, a, w, z, h, b, e, rfl, rfl, I⟩ := I
  by_cases c : ∃ r m, r < 10 ∧ z r = true ∧ m ≤ b r ∧ v1 = nI r ∧ v2 = nI m
  · obtain ⟨r, m, hr, vr, hm, rfl, rfl⟩ := c
    exact qt_xuse1 I hr vr hm (qt_yuse1 I hr vr hm ⟨rfl, qt_rel (qt_I_use I hr vr hm)⟩)
  · have n : ∀ r m, r < 10 → z r = true → m ≤ b r → v1 = nI r → v2 ≠ nI m := fun r m hr vr hm y y' => c ⟨r, m, hr, vr, hm, y, y'⟩
    exact qt_xuse0 I n (qt_yuse0 I n ⟨rfl, qt_rel I⟩)
theorem i_vc_giveBack {k : Nat} {u : SX} {v : SY} (I : i_Rel k u v) (hk : k + 3 ≤ 1536) (v1 : Int32) : wpX_giveBack (fun r u' => wpY_giveBack (fun r' v' => r' = r ∧ i_Rel (k + 3) u' v') v v1) u v1 := by
  obtain ⟨t, g, l, a, w, z, h, b, e, rfl, rfl, I⟩ := I
  by_cases c : qt_V z v1
  · obtain ⟨r, hr, vr, rfl⟩ := c
    refine qt_xgiv1 hr vr (qt_ygiv1 I hr vr ⟨rfl, qt_rel (qt_I_few I (fun i y => ?_))⟩)
    by_cases q : i = r
    · rw [q]; exact vr
    · rw [qt_un q] at y; exact y
  · exact qt_xgiv0 c (qt_ygiv0 I c ⟨rfl, qt_rel I⟩)
theorem i_vc_release {k : Nat} {u : SX} {v : SY} (I : i_Rel k u v) (hk : k + 3 ≤ 1536) (v1 : Int32) (v2 : Int32) : wpX_release (fun r u' => wpY_release (fun r' v' => r' = r ∧ i_Rel (k + 3) u' v') v v1 v2) u v1 v2 := by
  obtain ⟨t, g, l, a, w, z, h, b, e, rfl, rfl, I⟩ := I
  by_cases c : ∃ o m, o < 12 ∧ t o = true ∧ m ≤ a o ∧ v1 = nI o ∧ v2 = nI m
  · obtain ⟨o, m, ho, to, hm, rfl, rfl⟩ := c
    exact qt_xrel1 I ho to hm (qt_yrel1 I ho to hm ⟨rfl, qt_rel (qt_I_rel I ho to hm)⟩)
  · have n : ∀ o m, o < 12 → t o = true → m ≤ a o → v1 = nI o → v2 ≠ nI m := fun o m ho to hm y y' => c ⟨o, m, ho, to, hm, y, y'⟩
    exact qt_xrel0 I n (qt_yrel0 I n ⟨rfl, qt_rel I⟩)
theorem i_vc_free {k : Nat} {u : SX} {v : SY} (I : i_Rel k u v) (hk : k + 3 ≤ 1536) (v1 : Int32) : wpX_free (fun r u' => wpY_free (fun r' v' => r' = r ∧ i_Rel (k + 3) u' v') v v1) u v1 := by
  obtain ⟨t, g, l, a, w, z, h, b, e, rfl, rfl, I⟩ := I
  by_cases c : qt_O t v1
  · obtain ⟨o, ho, to, rfl⟩ := c
    exact qt_xfre1 I ho to (qt_yfre1 I ho to ⟨rfl, qt_rel (qt_I_fr I)⟩)
  · exact qt_xfre0 c (qt_yfre0 c ⟨rfl, qt_rel I⟩)
theorem i_vc_recover {k : Nat} {u : SX} {v : SY} (I : i_Rel k u v) (hk : k + 3 ≤ 1536) : wpX_recover (fun r u' => wpY_recover (fun r' v' => r' = r ∧ i_Rel (k + 3) u' v') v) u := by
  obtain ⟨t, g, l, a, w, z, h, b, e, rfl, rfl, I⟩ := I
  exact qt_xrec (qt_yrec I ⟨rfl, qt_rel (qt_I_few I (fun i y => qt_cl_t y))⟩)
theorem i_vc_total {k : Nat} {u : SX} {v : SY} (I : i_Rel k u v) (hk : k + 3 ≤ 1536) (v1 : Int32) : wpX_total (fun r => wpY_total (fun r' => r' = r ∧ i_Rel (k + 3) u v) v v1) u v1 := by
  obtain ⟨t, g, l, a, w, z, h, b, e, rfl, rfl, I⟩ := I
  by_cases c : qt_O t v1
  · obtain ⟨o, ho, to, rfl⟩ := c
    exact qt_xtot1 I ho to (qt_ytot1 I ho to ⟨rfl, qt_rel I⟩)
  · exact qt_xtot0 c (qt_ytot0 c ⟨rfl, qt_rel I⟩)
theorem i_vc_room {k : Nat} {u : SX} {v : SY} (I : i_Rel k u v) (hk : k + 3 ≤ 1536) (v1 : Int32) : wpX_room (fun r => wpY_room (fun r' => r' = r ∧ i_Rel (k + 3) u v) v v1) u v1 := by
  obtain ⟨t, g, l, a, w, z, h, b, e, rfl, rfl, I⟩ := I
  by_cases c : qt_O t v1
  · obtain ⟨o, ho, to, rfl⟩ := c
    exact qt_xroo1 I ho to (qt_yroo1 I ho to ⟨rfl, qt_rel I⟩)
  · exact qt_xroo0 c (qt_yroo0 c ⟨rfl, qt_rel I⟩)
theorem i_vc_blocker {k : Nat} {u : SX} {v : SY} (I : i_Rel k u v) (hk : k + 3 ≤ 1536) (v1 : Int32) (v2 : Int32) : wpX_blocker (fun r => wpY_blocker (fun r' => r' = r ∧ i_Rel (k + 3) u v) v v1 v2) u v1 v2 := by
  obtain ⟨t, g, l, a, w, z, h, b, e, rfl, rfl, I⟩ := I
  by_cases c : qt_O t v1 ∧ qt_A v2
  · obtain ⟨⟨o, ho, to, rfl⟩, m, hm, rfl⟩ := c
    exact qt_xblo1 I ho to hm (qt_yblo1 I ho to hm ⟨rfl, qt_rel I⟩)
  · exact qt_xblo0 c (qt_yblo0 c ⟨rfl, qt_rel I⟩)
theorem i_vc_over {k : Nat} {u : SX} {v : SY} (I : i_Rel k u v) (hk : k + 3 ≤ 1536) : wpX_over (fun r => wpY_over (fun r' => r' = r ∧ i_Rel (k + 3) u v) v) u := by
  obtain ⟨t, g, l, a, w, z, h, b, e, rfl, rfl, I⟩ := I
  exact qt_xove I (qt_yove I ⟨rfl, qt_rel I⟩)
theorem i_vc_below {k : Nat} {u : SX} {v : SY} (I : i_Rel k u v) (hk : k + 3 ≤ 1536) (v1 : Int32) : wpX_below (fun r => wpY_below (fun r' => r' = r ∧ i_Rel (k + 3) u v) v v1) u v1 := by
  obtain ⟨t, g, l, a, w, z, h, b, e, rfl, rfl, I⟩ := I
  by_cases c : qt_O t v1
  · obtain ⟨o, ho, to, rfl⟩ := c
    exact qt_xbel1 I ho to (qt_ybel1 I ho to ⟨rfl, qt_rel I⟩)
  · exact qt_xbel0 c (qt_ybel0 c ⟨rfl, qt_rel I⟩)
