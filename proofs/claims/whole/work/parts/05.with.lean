/-! leastWith: the masks that fit two reads' strands -/
theorem rl_xr1 {post : Int32 → Prop} {c a : Nat} {t v : Nat → Int32} (hc : c ≤ 8) (ha : a < c) (hp : post 1) : wpX_isRead post (nI c, t, v) (nI a) :=
  br_f (nI_pos (by omega)) (br_f (nI_ge ha (by omega)) hp)
theorem rl_xr0 {post : Int32 → Prop} {c : Nat} {x : Int32} {t v : Nat → Int32} (h : x < 0 ∨ nI c ≤ x) (hp : post 0) : wpX_isRead post (nI c, t, v) x := by
  unfold wpX_isRead
  by_cases z : x < 0
  · exact br_t z hp
  · exact br_f z (br_t (h.resolve_left z) hp)
theorem rl_yb0 {post : Int32 → Prop} {c a : Nat} {t w : Nat → Int32} (hc : c ≤ 8) (ha : a < c) (hp : post 0) : wpY_bad post (nI c, w, t) (nI a) :=
  br_f (nI_pos (by omega)) (br_t (nI_lt ha (by omega)) hp)
theorem rl_yb1 {post : Int32 → Prop} {c : Nat} {x : Int32} {t w : Nat → Int32} (h : x < 0 ∨ nI c ≤ x) (hp : post 1) : wpY_bad post (nI c, w, t) x := by
  unfold wpY_bad
  by_cases z : x < 0
  · exact br_t z hp
  · exact br_f z (br_f (Int32.not_lt.mpr (h.resolve_left z)) hp)
def rq_D (a b k : Nat) : Int32 := if rq_st (nI k) a = rq_st (nI k) b then 0 else 1
def rq_S2 (E a b : Nat) (p : Int32) (k : Nat) : Bool := decide (k % 2 = 0 ∧ k < E ∧ rq_D a b k = p)
def rq_be (q : Nat) : Int32 := if q = 100000 then -1 else nI q
theorem rl_top (E a b : Nat) (p : Int32) : ∀ m, E ≤ m → rq_S2 E a b p m = false := fun m hm => decide_eq_false (fun z => by omega)
theorem rl_odd {E a b : Nat} {p : Int32} {k : Nat} (h : k % 2 = 0) : rq_S2 E a b p (k + 1) = false := decide_eq_false (fun z => by omega)
theorem rl_m1 {q : Nat} (h : q < 2 ^ 31) : ¬ nI q = -1 := by
  intro z
  have e := congrArg Int32.toInt z
  rw [nI_toInt h] at e
  have e2 : (-1 : Int32).toInt = -1 := by decide
  rw [e2] at e
  omega
theorem rl_x59T {post : Int32 → Prop} {J : Int32 → Int32 → Prop} {x1 x2 x5 p z0 : Int32} {t v : Nat → Int32} {c q k : Nat} {N : Nat → Nat} (hc : c ≤ 8) (H : rm_H t v c 0 N) (hq : q ≤ 100000) (hz : z0 = p) (hJ : J (rq_be (if N k ≤ q then N k else q)) (nI (k + 2))) : wX_leastWith_59 post J x1 x2 p (rq_be q) x5 (nI k) z0 (nI c) t v := by
  have hb := H.2 k
  unfold wX_leastWith_59
  refine br_t hz ?_
  refine rw_xc hc ?_
  rw [H.1 k]
  have hk : rq_be (N k) = nI (N k) := by unfold rq_be; rw [if_neg (by omega)]
  by_cases e : q = 100000
  · subst e
    rw [if_pos (by omega), hk] at hJ
    exact br_t rfl (nm_r (rm_n2 k) hJ)
  · have hqe : rq_be q = nI q := by unfold rq_be; rw [if_neg e]
    rw [hqe]
    refine br_f (rl_m1 (by omega)) ?_
    refine pk_le _ _ (fun y => ?_) (fun y => ?_) rfl rfl
    · have e2 : (if N k ≤ q then N k else q) = q := by split <;> omega
      rw [e2, hqe] at hJ
      exact nm_r (rm_n2 k) hJ
    · rw [if_pos (by omega), hk] at hJ
      exact nm_r (rm_n2 k) hJ
theorem rl_x59 {post : Int32 → Prop} {J : Int32 → Int32 → Prop} {x1 x2 x5 p z0 : Int32} {t v : Nat → Int32} {c E a b k : Nat} {N : Nat → Nat} (hc : c ≤ 8) (H : rm_H t v c 0 N) (h2 : k % 2 = 0) (hk : k < E) (hz : z0 = rq_D a b k) (hJ : J (rq_be (rq_mn (rq_S2 E a b p) N (k + 2))) (nI (k + 2))) : wX_leastWith_59 post J x1 x2 p (rq_be (rq_mn (rq_S2 E a b p) N k)) x5 (nI k) z0 (nI c) t v := by
  rw [show k + 2 = (k + 1) + 1 from rfl, rq_mnF (rl_odd h2)] at hJ
  by_cases e : z0 = p
  · rw [rq_mnT (decide_eq_true ⟨h2, hk, hz ▸ e⟩)] at hJ
    exact rl_x59T hc H (rq_mnL k).1 e hJ
  · rw [rq_mnF (decide_eq_false (fun z => e (hz.trans z.2.2)))] at hJ
    exact br_f e (nm_r (rm_n2 k) hJ)
theorem rl_x_loop {post : Int32 → Prop} {t v : Nat → Int32} {c E a b : Nat} {p : Int32} {N : Nat → Nat} (hc : c ≤ 8) (hE : E ≤ 256) (H : rm_H t v c 0 N) (hp : post (rq_be (rq_mn (rq_S2 E a b p) N 256))) : ∀ d k, k % 2 = 0 → E ≤ k + 2 * d → k ≤ 300 → wX_leastWith_32 post (nI a) (nI b) p (nI E) (nI c) t v (d + 1) (rq_be (rq_mn (rq_S2 E a b p) N k)) (nI k) := by
  intro d
  have hx : ∀ d k, E ≤ k → k ≤ 300 → wX_leastWith_32 post (nI a) (nI b) p (nI E) (nI c) t v (d + 1) (rq_be (rq_mn (rq_S2 E a b p) N k)) (nI k) := by
    intro d k h h3
    rw [rq_mnX (rl_top E a b p) h hE]
    exact br_t (nI_le h (by omega)) hp
  induction d with
  | zero => exact fun k _ h h3 => hx 0 k (by omega) h3
  | succ d ih =>
    intro k h2 h h3
    rcases Nat.lt_or_ge k E with z | z
    · have hn := ih (k + 2) (by omega) (by omega) (by omega)
      refine br_f (nI_ge z (by omega)) ?_
      by_cases e : rq_st (nI k) a = rq_st (nI k) b
      · refine br_t e ?_
        exact rl_x59 hc H h2 z (by unfold rq_D; rw [if_pos e]) hn
      · refine br_f e ?_
        exact rl_x59 hc H h2 z (by unfold rq_D; rw [if_neg e]) hn
    · exact hx (d + 1) k z h3
theorem rl_y62 {post : Int32 → Prop} {J : Int32 → Int32 → Prop} {x1 x2 p z0 : Int32} {t w : Nat → Int32} {c a b k : Nat} {N : Nat → Nat} (hc : c ≤ 8) (H : rm_H t w c 0 N) (hk : k < 256) (hz : z0 = rq_D a b k) (hJ : J (nI (rq_mn (rq_S2 (2 ^ c) a b p) N (k + 1))) (nI (k + 1))) : wY_leastWith_62 post J x1 x2 p (nI (rq_mn (rq_S2 (2 ^ c) a b p) N k)) (nI k) z0 (nI c) w t := by
  unfold wY_leastWith_62
  cases hs : rq_S (2 ^ c) k with
  | false =>
    refine rm_yiF hc (by omega) hs ?_
    have h2 := of_decide_eq_false hs
    rw [rq_mnF (decide_eq_false (fun y => h2 ⟨y.1, y.2.1⟩))] at hJ
    exact br_t rfl (nm_r (nI_1 k) hJ)
  | true =>
    have h2 := of_decide_eq_true hs
    refine rm_yiT hc (by omega) hs ?_
    refine br_f (by decide) ?_
    by_cases e : z0 = p
    · rw [rq_mnT (decide_eq_true ⟨h2.1, h2.2, hz ▸ e⟩)] at hJ
      have hb := (rq_mnL (S := rq_S2 (2 ^ c) a b p) (c := N) k).1
      have hb2 := H.2 k
      refine br_t e ?_
      refine rw_yc hc ?_
      refine rw_ys ?_
      rw [H.1 k, rm_sm _ _ (by omega) (by omega)]
      exact nm_r (nI_1 k) hJ
    · rw [rq_mnF (decide_eq_false (fun y => e (hz.trans y.2.2)))] at hJ
      exact br_f e (nm_r (nI_1 k) hJ)
theorem rl_y_loop {post : Int32 → Prop} {t w : Nat → Int32} {c a b : Nat} {p : Int32} {N : Nat → Nat} (hc : c ≤ 8) (H : rm_H t w c 0 N) (hp : post (nI (rq_mn (rq_S2 (2 ^ c) a b p) N 256))) : ∀ d k, k + d = 256 → wY_leastWith_34 post (nI a) (nI b) p (nI c) w t (d + 1) (nI (rq_mn (rq_S2 (2 ^ c) a b p) N k)) (nI k) := by
  intro d
  induction d with
  | zero =>
    intro k hk
    have e : k = 256 := by omega
    subst e
    exact br_t (nI_le (b := 256) (Nat.le_refl _) (by decide)) hp
  | succ d ih =>
    intro k hk
    have hn := ih (k + 1) (by omega)
    refine br_f (rm_256 (by omega)) ?_
    by_cases e : rq_st (nI k) a = rq_st (nI k) b
    · refine br_t e ?_
      exact rl_y62 hc H (by omega) (by unfold rq_D; rw [if_pos e]) hn
    · refine br_f e ?_
      exact rl_y62 hc H (by omega) (by unfold rq_D; rw [if_neg e]) hn
theorem rl_x {post : Int32 → Prop} {t v : Nat → Int32} {c a b : Nat} {p : Int32} {N : Nat → Nat} (hc : c ≤ 8) (ha : a < c) (hb : b < c) (H : rm_H t v c 0 N) (hp : post (rq_be (rq_mn (rq_S2 (2 ^ c) a b p) N 256))) : wpX_leastWith post (nI c, t, v) (nI a) (nI b) p := by
  have hE := rb_p c (by omega)
  unfold wpX_leastWith
  dsimp only
  refine rl_xr1 hc ha ?_
  refine br_f (by decide) ?_
  refine rl_xr1 hc hb ?_
  refine br_f (by decide) ?_
  refine nm_r (rb_sh c (by omega)) ?_
  exact ⟨_, rl_x_loop hc hE.2 H hp 128 0 (by omega) (by omega) (by omega)⟩
/-- a mask fits, unless a read is to be apart from itself -/
theorem rl_ex {c a b : Nat} {p : Int32} (hc : c ≤ 8) (ha : a < c) (hb : b < c) (hp : p = 0 ∨ p = 1) (h : p = 0 ∨ a ≠ b) : ∃ k, k < 256 ∧ rq_S2 (2 ^ c) a b p k = true := by
  have hE := rb_p c (by omega)
  by_cases z : p = 0
  · refine ⟨0, by omega, decide_eq_true ⟨rfl, by omega, ?_⟩⟩
    unfold rq_D
    rw [if_pos (by rw [rb_z a (by omega), rb_z b (by omega)]), z]
  · have hab := h.resolve_left z
    obtain ⟨h1, h2⟩ := rb_ap a (by omega) b (by omega) hab
    have h3 := rb_lt c (by omega) (max a b) (by omega)
    refine ⟨2 ^ (max a b), by omega, decide_eq_true ⟨h1, h3, ?_⟩⟩
    unfold rq_D
    rw [if_neg h2, hp.resolve_left z]
theorem rl_y {post : Int32 → Prop} {t w : Nat → Int32} {c a b : Nat} {p : Int32} {N : Nat → Nat} (hc : c ≤ 8) (ha : a < c) (hb : b < c) (hp01 : p = 0 ∨ p = 1) (H : rm_H t w c 0 N) (hp : post (rq_be (rq_mn (rq_S2 (2 ^ c) a b p) N 256))) : wpY_leastWith post (nI c, w, t) (nI a) (nI b) p := by
  have hl : p = 0 ∨ a ≠ b → ∃ n, wY_leastWith_34 post (nI a) (nI b) p (nI c) w t n 100000 0 := by
    intro h
    obtain ⟨k, hk, hs⟩ := rl_ex hc ha hb hp01 h
    have h1 := (rq_mnL (S := rq_S2 (2 ^ c) a b p) (c := N) 256).2 k hk hs
    have h2 := H.2 k
    have e : rq_be (rq_mn (rq_S2 (2 ^ c) a b p) N 256) = nI (rq_mn (rq_S2 (2 ^ c) a b p) N 256) := by
      unfold rq_be
      rw [if_neg (by omega)]
    rw [e] at hp
    exact ⟨257, rl_y_loop hc H hp 256 0 rfl⟩
  unfold wpY_leastWith
  dsimp only
  refine rl_yb0 hc ha ?_
  refine br_t rfl ?_
  refine rl_yb0 hc hb ?_
  refine br_t rfl ?_
  refine pk_eq a b (fun y => ?_) (fun y => hl (Or.inr y)) rfl rfl
  refine br_c (fun z => hl (Or.inl z)) (fun z => ?_)
  have e : rq_mn (rq_S2 (2 ^ c) a b p) N 256 = 100000 := by
    refine rq_mn0 256 (fun m _ => decide_eq_false (fun q => z ?_))
    rw [← q.2.2]
    unfold rq_D
    rw [if_pos (by rw [y])]
  rw [e] at hp
  exact hp
