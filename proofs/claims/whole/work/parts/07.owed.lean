/-- one count, the same trusts, values that agree wherever there is trust -/
def i_Rel (_ : Nat) (u : SX) (v : SY) : Prop := ∃ (c : Nat) (t a b : Nat → Int32), c ≤ 8 ∧ rq_ok t ∧ rq_ag t a b ∧ u = (nI c, t, a) ∧ v = (nI c, b, t)
theorem i_up {k : Nat} {u : SX} {v : SY} (h : i_Rel k u v) : i_Rel (k + 5) u v := h
theorem i_vc0 : wpX_init (fun u => wpY_init (fun v => i_Rel 0 u v)) :=
  ⟨0, fun _ => 0, fun _ => 0, fun _ => 0, by omega, fun _ _ => ⟨0, by omega, rfl⟩, fun _ _ => Or.inl rfl, rfl, rfl⟩
theorem ro_mk {k c : Nat} {t a b : Nat → Int32} (hc : c ≤ 8) (h1 : rq_ok t) (h2 : rq_ag t a b) : i_Rel k (nI c, t, a) (nI c, b, t) :=
  ⟨c, t, a, b, hc, h1, h2, rfl, rfl⟩
/-- both sides' costs are one function -/
theorem ro_H {c : Nat} {t a b : Nat → Int32} {fo : Int32} (hc : c ≤ 8) (h1 : rq_ok t) (h2 : rq_ag t a b) : rm_H t a c fo (rq_cN t a c fo) ∧ rm_H t b c fo (rq_cN t a c fo) := by
  have h := fun k => rq_cNe (t := t) (v := a) (n := c) (fo := fo) h1 hc k
  refine ⟨⟨fun k => (h k).1, fun k => (h k).2⟩, ⟨fun k => ?_, fun k => (h k).2⟩⟩
  rw [← rq_coE (m := nI k) (m' := nI k) h2 hc (fun _ _ => rfl) 8 (Nat.le_refl 8)]
  exact (h k).1
theorem i_vc_read {k : Nat} {u : SX} {v : SY} (I : i_Rel k u v) (hk : k + 5 ≤ 2560) : wpX_read (fun r u' => wpY_read (fun r' v' => r' = r ∧ i_Rel (k + 5) u' v') v) u := by
  obtain ⟨c, t, a, b, hc, h1, h2, rfl, rfl⟩ := I
  unfold wpX_read
  dsimp only
  refine pk_lt c 8 (fun y => ?_) (fun y => ?_) rfl rfl
  · refine rs_xa y ?_
    refine rs_yr y ?_
    exact ⟨rfl, ro_mk (by omega) (rs_clOk h1 8) (rs_clAg h2 8)⟩
  · have e : c = 8 := by omega
    subst e
    refine rs_yr8 ?_
    exact ⟨rfl, ro_mk (by omega) h1 h2⟩
theorem i_vc_say {k : Nat} {u : SX} {v : SY} (I : i_Rel k u v) (hk : k + 5 ≤ 2560) (v1 : Int32) (v2 : Int32) (v3 : Int32) (v4 : Int32) : wpX_say (fun r u' => wpY_say (fun r' v' => r' = r ∧ i_Rel (k + 5) u' v') v v1 v2 v3 v4) u v1 v2 v3 v4 := by
  obtain ⟨c, t, a, b, hc, h1, h2, rfl, rfl⟩ := I
  have R : i_Rel (k + 5) (nI c, t, a) (nI c, b, t) := ro_mk hc h1 h2
  unfold wpX_say wpY_say
  dsimp only
  rcases (or_assoc.mpr (pk_ix v1 (n := c) (by omega))) with z | ⟨r, hr, rfl⟩
  · refine rl_xr0 z ?_
    refine br_t rfl ?_
    refine rl_yb1 z ?_
    exact br_f (by decide) ⟨rfl, R⟩
  refine rl_xr1 hc hr ?_
  refine br_f (by decide) ?_
  rcases (or_assoc.mpr (pk_ix v2 (n := 8) (by omega))) with z | ⟨s, hs, rfl⟩
  · refine rs_xi0 z ?_
    refine br_t rfl ?_
    refine rl_yb0 hc hr ?_
    refine br_t rfl ?_
    exact rs_yi0 z ⟨rfl, R⟩
  refine rs_xi1 hs ?_
  refine br_f (by decide) ?_
  by_cases g0 : v4 < 0
  · refine br_t g0 ?_
    refine rl_yb0 hc hr ?_
    refine br_t rfl ?_
    exact rs_yi1 hs (br_t g0 ⟨rfl, R⟩)
  refine br_f g0 ?_
  by_cases g9 : v4 ≤ 9
  · have hcl : (nI r * 8 + nI s).toNatClampNeg = r * 8 + s := by rw [rw_ix]; exact nI_clamp (by omega)
    have hin : vp_in (nI r * 8 + nI s) 64 := by rw [rw_ix]; exact vp_in_nI (by omega) (by omega)
    obtain ⟨q, hq, rfl⟩ := nI_of2 (n := 9) (by decide) g0 g9
    refine br_t g9 ?_
    refine nm_e ?_
    refine ⟨hin, nm_e ⟨hin, nm_e ⟨hin, nm_e ?_⟩⟩⟩
    refine rl_yb0 hc hr ?_
    refine br_t rfl ?_
    refine rs_yi1 hs (br_f g0 (br_t g9 ⟨hin, nm_e ⟨hin, nm_e ⟨hin, nm_e ?_⟩⟩⟩))
    exact ⟨rfl, ro_mk hc (rs_okU h1 hq) (rs_agU h2)⟩
  · refine br_f g9 ?_
    refine rl_yb0 hc hr ?_
    refine br_t rfl ?_
    exact rs_yi1 hs (br_f g0 (br_f g9 ⟨rfl, R⟩))
theorem i_vc_stretch {k : Nat} {u : SX} {v : SY} (I : i_Rel k u v) (hk : k + 5 ≤ 2560) (v1 : Int32) (v2 : Int32) (v3 : Int32) : wpX_stretch (fun r u' => wpY_stretch (fun r' v' => r' = r ∧ i_Rel (k + 5) u' v') v v1 v2 v3) u v1 v2 v3 := by
  obtain ⟨c, t, a, b, hc, h1, h2, rfl, rfl⟩ := I
  have R : i_Rel (k + 5) (nI c, t, a) (nI c, b, t) := ro_mk hc h1 h2
  obtain ⟨f, hf, ef⟩ := pk_andE v1 (m := 7) 3 (by decide)
  obtain ⟨n, hn, en⟩ := pk_andE (v1 >>> ((3 : Int32) &&& 31)) (m := 15) 4 (by decide)
  have hf8 : f < 8 := hf
  have hn16 : n < 16 := hn
  unfold wpX_stretch wpY_stretch
  dsimp only
  refine nm_r ef (nm_r en ?_)
  rcases Nat.lt_or_ge n 1 with z1 | z1
  · have l1 : nI n < 1 := nI_lt (b := 1) z1 (by decide)
    exact br_t l1 (nm_r ef (nm_r en (br_t l1 ⟨rfl, R⟩)))
  have l1 : ¬ nI n < 1 := nI_nlt (b := 1) z1 (by omega)
  refine br_f l1 ?_
  rcases Nat.lt_or_ge 8 (f + n) with z2 | z2
  · have l2 : ¬ nI f + nI n ≤ 8 := by rw [nI_add]; exact nI_ge (a := 8) z2 (by omega)
    refine br_f l2 (nm_r ef (nm_r en (br_f l1 ?_)))
    exact br_c (fun _ => ⟨rfl, R⟩) (fun _ => br_f l2 ⟨rfl, R⟩)
  have l2 : nI f + nI n ≤ 8 := by rw [nI_add]; exact nI_le (b := 8) z2 (by decide)
  have l8 : ¬ (8 : Int32) < nI n := nI_nlt (a := 8) (by omega) (by decide)
  refine br_t l2 ?_
  by_cases g1 : v3 < 1
  · exact br_t g1 (nm_r ef (nm_r en (br_f l1 (br_f l8 (br_t l2 (br_t g1 ⟨rfl, R⟩))))))
  refine br_f g1 ?_
  by_cases g9 : v3 ≤ 9
  · refine br_t g9 ?_
    have g0 : ¬ v3 < 0 := fun z => g1 (Int32.lt_trans z (by decide))
    obtain ⟨q, hq, rfl⟩ := nI_of2 (n := 9) (by decide) g0 g9
    refine pk_lt c 8 (fun y => ?_) (fun y => ?_) rfl rfl
    · refine rs_xa y ?_
      refine nm_r (rw_ix c f) ?_
      refine ⟨_, rs_xs_loop (n := n) (by omega) ?_ n 0 (by omega)⟩
      refine nm_r ef (nm_r en (br_f l1 (br_f l8 (br_t l2 (br_f g1 (br_t g9 ?_))))))
      refine rs_yr y ?_
      refine ⟨_, rs_ys_loop (n := n) y z2 ?_ n 0 (by omega)⟩
      exact ⟨rfl, ro_mk (by omega) (rs_wOk (rs_clOk h1 8) hq n) (rs_wAg (rs_clAg h2 8) n)⟩
    · have e : c = 8 := by omega
      subst e
      refine nm_r ef (nm_r en (br_f l1 (br_f l8 (br_t l2 (br_f g1 (br_t g9 ?_))))))
      refine rs_yr8 ?_
      exact ⟨_, rs_yf_loop hn16 ⟨rfl, R⟩ n 0 (by omega)⟩
  · exact br_f g9 (nm_r ef (nm_r en (br_f l1 (br_f l8 (br_t l2 (br_f g1 (br_f g9 ⟨rfl, R⟩)))))))
theorem i_vc_drop {k : Nat} {u : SX} {v : SY} (I : i_Rel k u v) (hk : k + 5 ≤ 2560) : wpX_drop (fun r u' => wpY_drop (fun r' v' => r' = r ∧ i_Rel (k + 5) u' v') v) u := by
  obtain ⟨c, t, a, b, hc, h1, h2, rfl, rfl⟩ := I
  cases c with
  | zero => exact br_t rfl (br_t rfl ⟨rfl, ro_mk hc h1 h2⟩)
  | succ c =>
    have z : ¬ nI (c + 1) = 0 := nI_ne0 (by omega) (by omega)
    exact br_f z (nm_r (nI_pred c) (br_f z (nm_r (nI_pred c) ⟨rfl, ro_mk (by omega) h1 h2⟩)))
theorem i_vc_least {k : Nat} {u : SX} {v : SY} (I : i_Rel k u v) (hk : k + 5 ≤ 2560) : wpX_least (fun r => wpY_least (fun r' => r' = r ∧ i_Rel (k + 5) u v) v) u := by
  obtain ⟨c, t, a, b, hc, h1, h2, rfl, rfl⟩ := I
  obtain ⟨HX, HY⟩ := ro_H (fo := 0) hc h1 h2
  unfold wpX_least wpY_least
  dsimp only
  refine rm_xl hc HX ?_
  refine rm_yb hc HY ?_
  exact ⟨rfl, ro_mk hc h1 h2⟩
theorem i_vc_sorting {k : Nat} {u : SX} {v : SY} (I : i_Rel k u v) (hk : k + 5 ≤ 2560) : wpX_sorting (fun r => wpY_sorting (fun r' => r' = r ∧ i_Rel (k + 5) u v) v) u := by
  obtain ⟨c, t, a, b, hc, h1, h2, rfl, rfl⟩ := I
  obtain ⟨HX, HY⟩ := ro_H (fo := 0) hc h1 h2
  unfold wpX_sorting wpY_sorting
  dsimp only
  refine rm_xf hc HX ?_
  refine rm_yf hc HY ?_
  exact ⟨rfl, ro_mk hc h1 h2⟩
theorem i_vc_ties {k : Nat} {u : SX} {v : SY} (I : i_Rel k u v) (hk : k + 5 ≤ 2560) : wpX_ties (fun r => wpY_ties (fun r' => r' = r ∧ i_Rel (k + 5) u v) v) u := by
  obtain ⟨c, t, a, b, hc, h1, h2, rfl, rfl⟩ := I
  obtain ⟨HX, HY⟩ := ro_H (fo := 0) hc h1 h2
  refine rm_xk hc HX ?_
  refine rm_yk hc HY ?_
  exact ⟨rfl, ro_mk hc h1 h2⟩
theorem i_vc_costOf {k : Nat} {u : SX} {v : SY} (I : i_Rel k u v) (hk : k + 5 ≤ 2560) (v1 : Int32) : wpX_costOf (fun r => wpY_costOf (fun r' => r' = r ∧ i_Rel (k + 5) u v) v v1) u v1 := by
  obtain ⟨c, t, a, b, hc, h1, h2, rfl, rfl⟩ := I
  unfold wpX_costOf wpY_costOf
  dsimp only
  refine rw_xc hc ?_
  refine nm_e ?_
  refine rw_yc hc ?_
  exact ⟨(rq_coE h2 hc (fun r hr => rb_of hc hr) 8 (Nat.le_refl 8)).symm, ro_mk hc h1 h2⟩
theorem i_vc_leastForced {k : Nat} {u : SX} {v : SY} (I : i_Rel k u v) (hk : k + 5 ≤ 2560) : wpX_leastForced (fun r => wpY_leastForced (fun r' => r' = r ∧ i_Rel (k + 5) u v) v) u := by
  obtain ⟨c, t, a, b, hc, h1, h2, rfl, rfl⟩ := I
  obtain ⟨HX, HY⟩ := ro_H (fo := 1) hc h1 h2
  unfold wpX_leastForced wpY_leastForced
  dsimp only
  refine rm_xl hc HX ?_
  refine rm_yb hc HY ?_
  exact ⟨rfl, ro_mk hc h1 h2⟩
theorem i_vc_sortingForced {k : Nat} {u : SX} {v : SY} (I : i_Rel k u v) (hk : k + 5 ≤ 2560) : wpX_sortingForced (fun r => wpY_sortingForced (fun r' => r' = r ∧ i_Rel (k + 5) u v) v) u := by
  obtain ⟨c, t, a, b, hc, h1, h2, rfl, rfl⟩ := I
  obtain ⟨HX, HY⟩ := ro_H (fo := 1) hc h1 h2
  unfold wpX_sortingForced wpY_sortingForced
  dsimp only
  refine rm_xf hc HX ?_
  refine rm_yf hc HY ?_
  exact ⟨rfl, ro_mk hc h1 h2⟩
theorem i_vc_leastWith {k : Nat} {u : SX} {v : SY} (I : i_Rel k u v) (hk : k + 5 ≤ 2560) (v1 : Int32) (v2 : Int32) (v3 : Int32) : wpX_leastWith (fun r => wpY_leastWith (fun r' => r' = r ∧ i_Rel (k + 5) u v) v v1 v2 (lw_bz v3)) u v1 v2 (lw_bz v3) := by
  obtain ⟨c, t, a, b, hc, h1, h2, rfl, rfl⟩ := I
  obtain ⟨HX, HY⟩ := ro_H (fo := 0) hc h1 h2
  have R : i_Rel (k + 5) (nI c, t, a) (nI c, b, t) := ro_mk hc h1 h2
  rcases (or_assoc.mpr (pk_ix v1 (n := c) (by omega))) with z | ⟨x, hx, rfl⟩
  · unfold wpX_leastWith wpY_leastWith
    dsimp only
    refine rl_xr0 z ?_
    refine br_t rfl ?_
    refine rl_yb1 z ?_
    exact br_f (by decide) ⟨rfl, R⟩
  rcases (or_assoc.mpr (pk_ix v2 (n := c) (by omega))) with z | ⟨y, hy, rfl⟩
  · unfold wpX_leastWith wpY_leastWith
    dsimp only
    refine rl_xr1 hc hx ?_
    refine br_f (by decide) ?_
    refine rl_xr0 z ?_
    refine br_t rfl ?_
    refine rl_yb0 hc hx ?_
    refine br_t rfl ?_
    refine rl_yb1 z ?_
    exact br_f (by decide) ⟨rfl, R⟩
  refine rl_x hc hx hy HX ?_
  refine rl_y hc hx hy (lw_bz_01 v3) HY ?_
  exact ⟨rfl, R⟩
theorem i_vc_cover {k : Nat} {u : SX} {v : SY} (I : i_Rel k u v) (hk : k + 5 ≤ 2560) (v1 : Int32) : wpX_cover (fun r => wpY_cover (fun r' => r' = r ∧ i_Rel (k + 5) u v) v v1) u v1 := by
  obtain ⟨c, t, a, b, hc, h1, h2, rfl, rfl⟩ := I
  have R : i_Rel (k + 5) (nI c, t, a) (nI c, b, t) := ro_mk hc h1 h2
  unfold wpX_cover wpY_cover
  dsimp only
  rcases (or_assoc.mpr (pk_ix v1 (n := 8) (by omega))) with z | ⟨s, hs, rfl⟩
  · refine rs_xi0 z ?_
    refine br_t rfl ?_
    exact rs_yi0 z ⟨rfl, R⟩
  refine rs_xi1 hs ?_
  refine br_f (by decide) ?_
  refine ⟨_, rs_xv_loop hs hc ?_ c 0 (by omega)⟩
  refine rs_yi1 hs ?_
  exact ⟨_, rs_yv_loop hs hc ⟨rfl, R⟩ c 0 (by omega)⟩
