/-! the loops over masks; rq_S: a mask is even and below the bound E -/
def rq_S (E : Nat) (k : Nat) : Bool := decide (k % 2 = 0 ∧ k < E)
theorem rm_T {E k : Nat} (h : k % 2 = 0) (h2 : k < E) : rq_S E k = true := decide_eq_true ⟨h, h2⟩
theorem rm_F {E k : Nat} (h : ¬ (k % 2 = 0 ∧ k < E)) : rq_S E k = false := decide_eq_false h
theorem rm_top (E : Nat) : ∀ m, E ≤ m → rq_S E m = false := fun m hm => rm_F (by omega)
/-- isSorting on the other side -/
theorem rm_yiT {post : Int32 → Prop} {c k : Nat} {w t : Nat → Int32} (hc : c ≤ 8) (hk : k < 2 ^ 31) (h : rq_S (2 ^ c) k = true) (hp : post 1) : wpY_isSorting post (nI c, w, t) (nI k) := by
  have h2 := of_decide_eq_true h
  refine br_t ?_ (br_t ?_ hp)
  · rw [pk_andN (by omega) 1 (by decide), show k % 2 ^ 1 = 0 from h2.1]; rfl
  · rw [pk_shrN hk _ c (s_l c (by omega)), Nat.div_eq_of_lt h2.2]; rfl
theorem rm_yiF {post : Int32 → Prop} {c k : Nat} {w t : Nat → Int32} (hc : c ≤ 8) (hk : k < 2 ^ 31) (h : rq_S (2 ^ c) k = false) (hp : post 0) : wpY_isSorting post (nI c, w, t) (nI k) := by
  have h2 := of_decide_eq_false h
  by_cases z : k % 2 = 0
  · refine br_t ?_ (br_f ?_ hp)
    · rw [pk_andN (by omega) 1 (by decide), show k % 2 ^ 1 = 0 from z]; rfl
    · rw [pk_shrN hk _ c (s_l c (by omega)), ← nI_0]
      have hd : k / 2 ^ c ≤ k := Nat.div_le_self _ _
      rw [nI_eq (by omega) (by omega)]
      intro y
      have := (Nat.div_eq_zero_iff_lt (Nat.two_pow_pos c)).mp y
      exact h2 ⟨z, this⟩
  · refine br_f ?_ hp
    rw [pk_andN (by omega) 1 (by decide), ← nI_0, nI_eq (by omega) (by omega)]
    exact z
theorem rm_sm (a b : Nat) (ha : a < 2 ^ 31) (hb : b < 2 ^ 31) : rq_sm (nI a) (nI b) = nI (if b ≤ a then b else a) := by
  unfold rq_sm
  by_cases h : b ≤ a
  · rw [if_pos h, if_pos ((nI_leI hb ha).mpr h)]
  · rw [if_neg h, if_neg (fun z => h ((nI_leI hb ha).mp z))]
theorem rm_256 {k : Nat} (h : k < 256) : ¬ (256 : Int32) ≤ nI k := nI_ge (b := 256) h (by decide)
/-! what the loops of one state share: the cost of mask k is N k -/
def rm_H (t v : Nat → Int32) (c : Nat) (fo : Int32) (N : Nat → Nat) : Prop := (∀ k, rq_co t v c (nI k) fo 8 = nI (N k)) ∧ ∀ k, N k ≤ 1152
theorem rm_yb_loop {post : Int32 → Prop} {t w : Nat → Int32} {c : Nat} {fo : Int32} {N : Nat → Nat} (hc : c ≤ 8) (H : rm_H t w c fo N) (hp : post (nI (rq_mn (rq_S (2 ^ c)) N 256))) : ∀ d k, k + d = 256 → wY_best_5 post fo (nI c) w t (d + 1) (nI (rq_mn (rq_S (2 ^ c)) N k)) (nI k) := by
  intro d
  induction d with
  | zero =>
    intro k hk
    have e : k = 256 := by omega
    subst e
    exact br_t (nI_le (b := 256) (Nat.le_refl _) (by decide)) hp
  | succ d ih =>
    intro k hk
    have hn := ih (k + 1) (by omega)
    refine br_f (rm_256 (by omega)) ?_
    cases hs : rq_S (2 ^ c) k with
    | false =>
      rw [rq_mnF hs] at hn
      refine rm_yiF hc (by omega) hs ?_
      exact br_t rfl (nm_r (nI_1 k) hn)
    | true =>
      rw [rq_mnT hs] at hn
      refine rm_yiT hc (by omega) hs ?_
      refine br_f (by decide) ?_
      refine rw_yc hc ?_
      refine rw_ys ?_
      have hb := (rq_mnL (S := rq_S (2 ^ c)) (c := N) k).1
      have hb2 := H.2 k
      rw [H.1 k, rm_sm _ _ (by omega) (by omega)]
      exact nm_r (nI_1 k) hn
theorem rm_yb {post : Int32 → Prop} {t w : Nat → Int32} {c : Nat} {fo : Int32} {N : Nat → Nat} (hc : c ≤ 8) (H : rm_H t w c fo N) (hp : post (nI (rq_mn (rq_S (2 ^ c)) N 256))) : wpY_best post (nI c, w, t) fo :=
  ⟨257, rm_yb_loop hc H hp 256 0 rfl⟩
/-- two steps at once -/
theorem rm_2 {E k : Nat} {N : Nat → Nat} (h : k % 2 = 0) (h2 : k < E) : rq_mn (rq_S E) N (k + 2) = if N k ≤ rq_mn (rq_S E) N k then N k else rq_mn (rq_S E) N k := by
  rw [show k + 2 = (k + 1) + 1 from rfl, rq_mnF (rm_F (by omega)), rq_mnT (rm_T h h2)]
theorem rm_st {E : Nat} {N : Nat → Nat} (hE : 1 ≤ E) (hN : ∀ k, N k ≤ 1152) : rq_mn (rq_S E) N 2 = N 0 := by
  have h : rq_mn (rq_S E) N 0 = 100000 := rfl
  have := hN 0
  rw [show (2 : Nat) = 0 + 2 from rfl, rm_2 (by omega) (by omega), h, if_pos (by omega)]
theorem rm_n2 (k : Nat) : nI k + 2 = nI (k + 2) := nI_add k 2
theorem rm_xl_loop {post : Int32 → Prop} {t v : Nat → Int32} {c E : Nat} {fo : Int32} {N : Nat → Nat} (hc : c ≤ 8) (hE : E ≤ 256) (H : rm_H t v c fo N) (hp : post (nI (rq_mn (rq_S E) N 256))) : ∀ d k, k % 2 = 0 → E ≤ k + 2 * d → k ≤ 300 → wX_leastCost_17 post fo (nI E) (nI c) t v (d + 1) (nI (rq_mn (rq_S E) N k)) (nI k) := by
  intro d
  have hx : ∀ d k, E ≤ k → k ≤ 300 → wX_leastCost_17 post fo (nI E) (nI c) t v (d + 1) (nI (rq_mn (rq_S E) N k)) (nI k) := by
    intro d k h h3
    rw [rq_mnX (rm_top E) h hE]
    exact br_t (nI_le h (by omega)) hp
  induction d with
  | zero => exact fun k _ h h3 => hx 0 k (by omega) h3
  | succ d ih =>
    intro k h2 h h3
    rcases Nat.lt_or_ge k E with z | z
    · have hn := ih (k + 2) (by omega) (by omega) (by omega)
      rw [rm_2 h2 z] at hn
      have hb := (rq_mnL (S := rq_S E) (c := N) k).1
      have hb2 := H.2 k
      refine br_f (nI_ge z (by omega)) ?_
      refine rw_xc hc ?_
      rw [H.1 k]
      refine pk_le _ _ (fun y => ?_) (fun y => ?_) rfl rfl
      · have e : (if N k ≤ rq_mn (rq_S E) N k then N k else rq_mn (rq_S E) N k) = rq_mn (rq_S E) N k := by split <;> omega
        rw [e] at hn
        exact nm_r (rm_n2 k) hn
      · rw [if_pos (by omega)] at hn
        exact nm_r (rm_n2 k) hn
    · exact hx (d + 1) k z h3
theorem rm_xl {post : Int32 → Prop} {t v : Nat → Int32} {c : Nat} {fo : Int32} {N : Nat → Nat} (hc : c ≤ 8) (H : rm_H t v c fo N) (hp : post (nI (rq_mn (rq_S (2 ^ c)) N 256))) : wpX_leastCost post (nI c, t, v) fo := by
  have hE := rb_p c (by omega)
  unfold wpX_leastCost
  dsimp only
  refine rw_xc hc ?_
  refine nm_r (rb_sh c (by omega)) ?_
  have h := rm_xl_loop hc hE.2 H hp 128 2 (by omega) (by omega) (by omega)
  rw [rm_st hE.1 H.2, ← H.1 0] at h
  exact ⟨_, h⟩
/-! the first place of the least -/
theorem rm_f2 {E k : Nat} {N : Nat → Nat} : k % 2 = 0 → rq_fi (rq_S E) N (k + 2) = rq_fi (rq_S E) N (k + 1) := by
  intro h
  rw [show k + 2 = (k + 1) + 1 from rfl, rq_fiF0 (rm_F (by omega))]
theorem rm_fst {E : Nat} {N : Nat → Nat} : rq_fi (rq_S E) N 2 = 0 := by
  rw [show (2 : Nat) = 0 + 2 from rfl, rm_f2 (by omega), rq_fi]
  split <;> rfl
theorem rm_xf_loop {post : Int32 → Prop} {t v : Nat → Int32} {c E : Nat} {fo : Int32} {N : Nat → Nat} (hc : c ≤ 8) (hE : E ≤ 256) (H : rm_H t v c fo N) (hp : post (nI (rq_fi (rq_S E) N 256))) : ∀ d k, k % 2 = 0 → E ≤ k + 2 * d → k ≤ 300 → wX_smallestBestMask_20 post fo (nI E) (nI c) t v (d + 1) (nI (rq_mn (rq_S E) N k)) (nI (rq_fi (rq_S E) N k)) (nI k) := by
  intro d
  have hx : ∀ d k, E ≤ k → k ≤ 300 → wX_smallestBestMask_20 post fo (nI E) (nI c) t v (d + 1) (nI (rq_mn (rq_S E) N k)) (nI (rq_fi (rq_S E) N k)) (nI k) := by
    intro d k h h3
    rw [rq_fiX (rm_top E) h hE]
    exact br_t (nI_le h (by omega)) hp
  induction d with
  | zero => exact fun k _ h h3 => hx 0 k (by omega) h3
  | succ d ih =>
    intro k h2 h h3
    rcases Nat.lt_or_ge k E with z | z
    · have hn := ih (k + 2) (by omega) (by omega) (by omega)
      rw [rm_2 h2 z, rm_f2 h2] at hn
      have hb := (rq_mnL (S := rq_S E) (c := N) k).1
      have hb2 := H.2 k
      refine br_f (nI_ge z (by omega)) ?_
      refine rw_xc hc ?_
      rw [H.1 k]
      refine pk_le _ _ (fun y => ?_) (fun y => ?_) rfl rfl
      · have e : (if N k ≤ rq_mn (rq_S E) N k then N k else rq_mn (rq_S E) N k) = rq_mn (rq_S E) N k := by split <;> omega
        rw [e, rq_fiF (fun q => by omega)] at hn
        exact nm_r (rm_n2 k) hn
      · rw [if_pos (by omega), rq_fiT (rm_T h2 z) y] at hn
        exact nm_r (rm_n2 k) hn
    · exact hx (d + 1) k z h3
theorem rm_xf {post : Int32 → Prop} {t v : Nat → Int32} {c : Nat} {fo : Int32} {N : Nat → Nat} (hc : c ≤ 8) (H : rm_H t v c fo N) (hp : post (nI (rq_fi (rq_S (2 ^ c)) N 256))) : wpX_smallestBestMask post (nI c, t, v) fo := by
  have hE := rb_p c (by omega)
  unfold wpX_smallestBestMask
  dsimp only
  refine rw_xc hc ?_
  refine nm_r (rb_sh c (by omega)) ?_
  have h := rm_xf_loop hc hE.2 H hp 128 2 (by omega) (by omega) (by omega)
  rw [rm_st hE.1 H.2, ← H.1 0, rm_fst] at h
  exact ⟨_, h⟩
theorem rm_yf_loop {post : Int32 → Prop} {t w : Nat → Int32} {c b f : Nat} {fo : Int32} {N : Nat → Nat} (hc : c ≤ 8) (H : rm_H t w c fo N) (hb : b ≤ 100000) (hf : f < 256) (hS : rq_S (2 ^ c) f = true) (hN : N f = b) (hl : ∀ j, j < f → rq_S (2 ^ c) j = true → b < N j) (hp : post (nI f)) : ∀ d k, k + d = f → wY_first_8 post fo (nI b) (nI c) w t (d + 1) (nI k) := by
  intro d
  induction d with
  | zero =>
    intro k hk
    have e : k = f := by omega
    subst e
    refine br_f (rm_256 (by omega)) ?_
    refine rm_yiT hc (by omega) hS ?_
    refine br_f (by decide) ?_
    refine rw_yc hc ?_
    rw [H.1 k]
    exact br_t (by rw [hN]) hp
  | succ d ih =>
    intro k hk
    have hn := ih (k + 1) (by omega)
    refine br_f (rm_256 (by omega)) ?_
    cases hs : rq_S (2 ^ c) k with
    | false =>
      refine rm_yiF hc (by omega) hs ?_
      exact br_t rfl (nm_r (nI_1 k) hn)
    | true =>
      have hk2 := hl k (by omega) hs
      have hb2 := H.2 k
      refine rm_yiT hc (by omega) hs ?_
      refine br_f (by decide) ?_
      refine rw_yc hc ?_
      rw [H.1 k]
      exact br_f (fun z => by rw [nI_eq (by omega) (by omega)] at z; omega) (nm_r (nI_1 k) hn)
theorem rm_yf {post : Int32 → Prop} {t w : Nat → Int32} {c : Nat} {fo : Int32} {N : Nat → Nat} (hc : c ≤ 8) (H : rm_H t w c fo N) (hp : post (nI (rq_fi (rq_S (2 ^ c)) N 256))) : wpY_first post (nI c, w, t) fo := by
  have hE := rb_p c (by omega)
  unfold wpY_first
  dsimp only
  refine rm_yb hc H ?_
  have hlt : ∀ m, N m < 100000 := fun m => by have := H.2 m; omega
  rcases rq_fiA (S := rq_S (2 ^ c)) hlt 256 with ⟨_, h2⟩ | ⟨h1, h2, h3, h4⟩
  · have z := h2 0 (by omega)
    rw [rm_T (by omega) (by omega)] at z
    exact absurd z (by decide)
  · exact ⟨_, rm_yf_loop hc H (rq_mnL 256).1 h1 h2 h3 h4 hp _ 0 (Nat.zero_add _)⟩
/-! ties -/
theorem rm_xk_loop {post : Int32 → Prop} {t v : Nat → Int32} {c E b : Nat} {N : Nat → Nat} (hc : c ≤ 8) (hE : E ≤ 256) (H : rm_H t v c 0 N) (hb : b ≤ 100000) (hp : post (nI (rq_cn (rq_S E) N b 256))) : ∀ d k, k % 2 = 0 → E ≤ k + 2 * d → k ≤ 300 → wX_ties_18 post (nI b) (nI E) (nI c) t v (d + 1) (nI (rq_cn (rq_S E) N b k)) (nI k) := by
  intro d
  have hx : ∀ d k, E ≤ k → k ≤ 300 → wX_ties_18 post (nI b) (nI E) (nI c) t v (d + 1) (nI (rq_cn (rq_S E) N b k)) (nI k) := by
    intro d k h h3
    rw [rq_cnX (rm_top E) h hE]
    exact br_t (nI_le h (by omega)) hp
  induction d with
  | zero => exact fun k _ h h3 => hx 0 k (by omega) h3
  | succ d ih =>
    intro k h2 h h3
    rcases Nat.lt_or_ge k E with z | z
    · have hn := ih (k + 2) (by omega) (by omega) (by omega)
      rw [show k + 2 = (k + 1) + 1 from rfl, rq_cnF0 (rm_F (by omega))] at hn
      have hb2 := H.2 k
      refine br_f (nI_ge z (by omega)) ?_
      refine rw_xc hc ?_
      rw [H.1 k]
      refine pk_eq _ _ (fun y => ?_) (fun y => ?_) rfl rfl
      · rw [rq_cnT (rm_T h2 z) y] at hn
        exact nm_r (nI_1 _) (nm_r (rm_n2 k) hn)
      · rw [rq_cnF (fun q => y q.2)] at hn
        exact nm_r (rm_n2 k) hn
    · exact hx (d + 1) k z h3
theorem rm_yk_loop {post : Int32 → Prop} {t w : Nat → Int32} {c b : Nat} {N : Nat → Nat} (hc : c ≤ 8) (H : rm_H t w c 0 N) (hb : b ≤ 100000) (hp : post (nI (rq_cn (rq_S (2 ^ c)) N b 256))) : ∀ d k, k + d = 256 → wY_ties_10 post (nI b) (nI c) w t (d + 1) (nI (rq_cn (rq_S (2 ^ c)) N b k)) (nI k) := by
  intro d
  induction d with
  | zero =>
    intro k hk
    have e : k = 256 := by omega
    subst e
    exact br_t (nI_le (b := 256) (Nat.le_refl _) (by decide)) hp
  | succ d ih =>
    intro k hk
    have hn := ih (k + 1) (by omega)
    refine br_f (rm_256 (by omega)) ?_
    cases hs : rq_S (2 ^ c) k with
    | false =>
      rw [rq_cnF0 hs] at hn
      refine rm_yiF hc (by omega) hs ?_
      exact br_t rfl (nm_r (nI_1 k) hn)
    | true =>
      have hb2 := H.2 k
      refine rm_yiT hc (by omega) hs ?_
      refine br_f (by decide) ?_
      refine rw_yc hc ?_
      rw [H.1 k]
      refine pk_eq _ _ (fun y => ?_) (fun y => ?_) rfl rfl
      · rw [rq_cnT hs y] at hn
        exact nm_r (nI_1 _) (nm_r (nI_1 k) hn)
      · rw [rq_cnF (fun q => y q.2)] at hn
        exact nm_r (nI_1 k) hn
theorem rm_xk {post : Int32 → Prop} {t v : Nat → Int32} {c : Nat} {N : Nat → Nat} (hc : c ≤ 8) (H : rm_H t v c 0 N) (hp : post (nI (rq_cn (rq_S (2 ^ c)) N (rq_mn (rq_S (2 ^ c)) N 256) 256))) : wpX_ties post (nI c, t, v) := by
  have hE := rb_p c (by omega)
  unfold wpX_ties
  dsimp only
  refine rm_xl hc H ?_
  refine nm_r (rb_sh c (by omega)) ?_
  exact ⟨_, rm_xk_loop hc hE.2 H (rq_mnL 256).1 hp 128 0 (by omega) (by omega) (by omega)⟩
theorem rm_yk {post : Int32 → Prop} {t w : Nat → Int32} {c : Nat} {N : Nat → Nat} (hc : c ≤ 8) (H : rm_H t w c 0 N) (hp : post (nI (rq_cn (rq_S (2 ^ c)) N (rq_mn (rq_S (2 ^ c)) N 256) 256))) : wpY_ties post (nI c, w, t) := by
  unfold wpY_ties
  dsimp only
  refine rm_yb hc H ?_
  exact ⟨_, rm_yk_loop hc H (rq_mnL 256).1 hp 256 0 rfl⟩
