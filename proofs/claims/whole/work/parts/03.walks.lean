/-! the walks of trust and cost, X's and Y's, against rq_tr and rq_co; any post -/
theorem rw_ix (r s : Nat) : nI r * 8 + nI s = nI (r * 8 + s) := by
  show nI r * nI 8 + nI s = _
  rw [pk_mul, nI_add]
theorem rw_xt_loop {post : Int32 → Prop} {t v : Nat → Int32} {s c : Nat} {m st val : Int32} (hs : s < 8) (hc : c ≤ 8) (hp : post (rq_tr t v s m st val c)) : ∀ d r, r + d = c → wX_trustAt_6 post (nI s) m st val (nI c) t v (d + 1) (rq_tr t v s m st val r) (nI r) := by
  intro d
  induction d with
  | zero =>
    intro r hr
    have e : r = c := by omega
    subst e
    exact br_t (nI_le (Nat.le_refl _) (by omega)) hp
  | succ d ih =>
    intro r hr
    have hcl : (nI (r * 8 + s)).toNatClampNeg = r * 8 + s := nI_clamp (by omega)
    have hin : vp_in (nI (r * 8 + s)) 64 := vp_in_nI (by omega) (by omega)
    have hn := ih (r + 1) (by omega)
    refine br_f (nI_ge (by omega) (by omega)) (nm_r (rw_ix r s) ?_)
    by_cases h1 : rq_st m r = st
    · by_cases h2 : v (r * 8 + s) = val
      · rw [rq_trT h1 h2] at hn
        refine br_t h1 ⟨hin, br_t (by rw [hcl]; exact h2) ⟨hin, nm_r (by rw [hcl]) (nm_r (nI_1 r) hn)⟩⟩
      · rw [rq_trF (fun k => h2 k.2)] at hn
        refine br_t h1 ⟨hin, br_f (by rw [hcl]; exact h2) (nm_r (nI_1 r) hn)⟩
    · rw [rq_trF (fun k => h1 k.1)] at hn
      exact br_f h1 (nm_r (nI_1 r) hn)
theorem rw_xt {post : Int32 → Prop} {t v : Nat → Int32} {s c : Nat} {m st val : Int32} (hs : s < 8) (hc : c ≤ 8) (hp : post (rq_tr t v s m st val c)) : wpX_trustAt post (nI c, t, v) (nI s) m st val :=
  ⟨c + 1, rw_xt_loop hs hc hp c 0 (by omega)⟩
theorem rw_yt_loop {post : Int32 → Prop} {t v : Nat → Int32} {s c : Nat} {m st val : Int32} (hs : s < 8) (hc : c ≤ 8) (hp : post (rq_tr t v s m st val c)) : ∀ d r, r + d = c → wY_trust_6 post m st (nI s) val (nI c) v t (d + 1) (rq_tr t v s m st val r) (nI r) := by
  intro d
  induction d with
  | zero =>
    intro r hr
    have e : r = c := by omega
    subst e
    exact br_t (nI_le (Nat.le_refl _) (by omega)) hp
  | succ d ih =>
    intro r hr
    have hcl : (nI (r * 8 + s)).toNatClampNeg = r * 8 + s := nI_clamp (by omega)
    have hin : vp_in (nI (r * 8 + s)) 64 := vp_in_nI (by omega) (by omega)
    have hn := ih (r + 1) (by omega)
    refine br_f (nI_ge (by omega) (by omega)) (nm_r (rw_ix r s) ?_)
    by_cases h1 : rq_st m r = st
    · by_cases h2 : v (r * 8 + s) = val
      · rw [rq_trT h1 h2] at hn
        refine br_t h1 ⟨hin, br_t (by rw [hcl]; exact h2) ⟨hin, nm_r (by rw [hcl]) (nm_r (nI_1 r) hn)⟩⟩
      · rw [rq_trF (fun k => h2 k.2)] at hn
        refine br_t h1 ⟨hin, br_f (by rw [hcl]; exact h2) (nm_r (nI_1 r) hn)⟩
    · rw [rq_trF (fun k => h1 k.1)] at hn
      exact br_f h1 (nm_r (nI_1 r) hn)
theorem rw_yt {post : Int32 → Prop} {t v : Nat → Int32} {s c : Nat} {m st val : Int32} (hs : s < 8) (hc : c ≤ 8) (hp : post (rq_tr t v s m st val c)) : wpY_trust post (nI c, v, t) m st (nI s) val :=
  ⟨c + 1, rw_yt_loop hs hc hp c 0 (by omega)⟩
theorem rw_xs {post : Int32 → Prop} {x y : Int32} (hp : post (rq_sm x y)) : wpX_smaller post x y := by
  unfold rq_sm at hp
  unfold wpX_smaller
  by_cases h : y ≤ x
  · rw [if_pos h] at hp; exact br_t h hp
  · rw [if_neg h] at hp; exact br_f h hp
theorem rw_ys {post : Int32 → Prop} {x y a : Int32} {v t : Nat → Int32} (hp : post (rq_sm x y)) : wpY_smaller post (a, v, t) x y := by
  unfold rq_sm at hp
  unfold wpY_smaller
  by_cases h : y ≤ x
  · rw [if_pos h] at hp; exact br_t h hp
  · rw [if_neg h] at hp; exact br_f h hp
theorem rw_8 {k : Nat} (h : k < 8) : ¬ (8 : Int32) ≤ nI k := nI_ge (b := 8) h (by decide)
theorem rw_xc_loop {post : Int32 → Prop} {t v : Nat → Int32} {c : Nat} {m fo : Int32} (hc : c ≤ 8) (hp : post (rq_co t v c m fo 8)) : ∀ d s, s + d = 8 → wX_cost_5 post m fo (nI c) t v (d + 1) (rq_co t v c m fo s) (nI s) := by
  intro d
  induction d with
  | zero =>
    intro s hs
    have e : s = 8 := by omega
    subst e
    exact br_t (nI_le (b := 8) (Nat.le_refl _) (by decide)) hp
  | succ d ih =>
    intro s hs
    have hn := ih (s + 1) (by omega)
    rw [rq_co] at hn
    unfold rq_at at hn
    refine br_f (rw_8 (by omega)) ?_
    refine rw_xt (by omega) hc ?_
    refine rw_xt (by omega) hc ?_
    refine rw_xt (by omega) hc ?_
    refine rw_xt (by omega) hc ?_
    by_cases f : fo = 0
    · rw [if_pos f] at hn
      refine br_t f ?_
      refine rw_xs ?_
      refine rw_xs ?_
      exact nm_e (nm_r (nI_1 s) hn)
    · rw [if_neg f] at hn
      refine br_f f ?_
      refine rw_xs ?_
      exact nm_e (nm_r (nI_1 s) hn)
theorem rw_xc {post : Int32 → Prop} {t v : Nat → Int32} {c : Nat} {m fo : Int32} (hc : c ≤ 8) (hp : post (rq_co t v c m fo 8)) : wpX_cost post (nI c, t, v) m fo :=
  ⟨9, rw_xc_loop hc hp 8 0 rfl⟩
theorem rw_yc_loop {post : Int32 → Prop} {t v : Nat → Int32} {c : Nat} {m fo : Int32} (hc : c ≤ 8) (hp : post (rq_co t v c m fo 8)) : ∀ d s, s + d = 8 → wY_cost_5 post m fo (nI c) v t (d + 1) (rq_co t v c m fo s) (nI s) := by
  intro d
  induction d with
  | zero =>
    intro s hs
    have e : s = 8 := by omega
    subst e
    exact br_t (nI_le (b := 8) (Nat.le_refl _) (by decide)) hp
  | succ d ih =>
    intro s hs
    have hn := ih (s + 1) (by omega)
    rw [rq_co] at hn
    unfold rq_at at hn
    refine br_f (rw_8 (by omega)) ?_
    refine rw_yt (by omega) hc ?_
    refine rw_yt (by omega) hc ?_
    refine rw_yt (by omega) hc ?_
    refine rw_yt (by omega) hc ?_
    by_cases f : fo = 0
    · rw [if_pos f] at hn
      refine br_t f ?_
      refine rw_ys ?_
      refine rw_ys ?_
      exact nm_e (nm_e (nm_r (nI_1 s) hn))
    · rw [if_neg f] at hn
      refine br_f f ?_
      refine rw_ys ?_
      exact nm_e (nm_r (nI_1 s) hn)
theorem rw_yc {post : Int32 → Prop} {t v : Nat → Int32} {c : Nat} {m fo : Int32} (hc : c ≤ 8) (hp : post (rq_co t v c m fo 8)) : wpY_cost post (nI c, v, t) m fo :=
  ⟨9, rw_yc_loop hc hp 8 0 rfl⟩
