/-! a new read, a stretch, a cover -/
theorem rs_okU {t : Nat → Int32} {j q : Nat} (h : rq_ok t) (hq : q ≤ 9) : rq_ok (upd t j (nI q)) := by
  intro i hi
  by_cases e : i = j
  · subst e; exact ⟨q, hq, pk_us⟩
  · rw [pk_un e]; exact h i hi
theorem rs_agU {t v w : Nat → Int32} {j : Nat} {q x : Int32} (h : rq_ag t v w) : rq_ag (upd t j q) (upd v j x) (upd w j x) := by
  intro i hi
  by_cases e : i = j
  · subst e; exact Or.inr (pk_us.trans pk_us.symm)
  · rw [pk_un e, pk_un e, pk_un e]; exact h i hi
theorem rs_ag0 {t v w : Nat → Int32} {j : Nat} {x : Int32} (h : rq_ag t v w) : rq_ag (upd t j 0) (upd v j x) w := by
  intro i hi
  by_cases e : i = j
  · subst e; rw [pk_us]; exact Or.inl rfl
  · rw [pk_un e, pk_un e]; exact h i hi
def rq_cl (f : Nat → Int32) (c : Nat) : Nat → Nat → Int32
  | 0 => f
  | s + 1 => upd (rq_cl f c s) (c * 8 + s) 0
theorem rs_clOk {t : Nat → Int32} {c : Nat} (h : rq_ok t) : ∀ s, rq_ok (rq_cl t c s) := by
  intro s
  induction s with
  | zero => exact h
  | succ s ih => exact rs_okU (q := 0) ih (by omega)
theorem rs_clAg {t v w : Nat → Int32} {c : Nat} (h : rq_ag t v w) : ∀ s, rq_ag (rq_cl t c s) (rq_cl v c s) w := by
  intro s
  induction s with
  | zero => exact h
  | succ s ih => exact rs_ag0 ih
theorem rs_xa_loop {post : Int32 → SX → Prop} {t v : Nat → Int32} {c : Nat} (hc : c < 8) (hp : post (nI c) (nI (c + 1), rq_cl t c 8, rq_cl v c 8)) : ∀ d s, s + d = 8 → wX_addSilentRead_7 post (nI c) (nI c) (d + 1) (nI s) (rq_cl t c s) (rq_cl v c s) := by
  intro d
  induction d with
  | zero =>
    intro s hs
    have e : s = 8 := by omega
    subst e
    exact br_t (nI_le (b := 8) (Nat.le_refl _) (by decide)) (nm_r (nI_1 c) hp)
  | succ d ih =>
    intro s hs
    have hn := ih (s + 1) (by omega)
    have hcl : (nI c * 8 + nI s).toNatClampNeg = c * 8 + s := by rw [rw_ix]; exact nI_clamp (by omega)
    have hin : vp_in (nI c * 8 + nI s) 64 := by rw [rw_ix]; exact vp_in_nI (by omega) (by omega)
    exact br_f (rw_8 (by omega)) ⟨hin, nm_r (by rw [hcl]; rfl) ⟨hin, nm_r (by rw [hcl]; rfl) (nm_r (nI_1 s) hn)⟩⟩
theorem rs_xa {post : Int32 → SX → Prop} {t v : Nat → Int32} {c : Nat} (hc : c < 8) (hp : post (nI c) (nI (c + 1), rq_cl t c 8, rq_cl v c 8)) : wpX_addSilentRead post (nI c, t, v) :=
  ⟨9, rs_xa_loop hc hp 8 0 rfl⟩
theorem rs_yr_loop {post : Int32 → SY → Prop} {t w : Nat → Int32} {c : Nat} (hc : c < 8) (hp : post (nI c) (nI (c + 1), w, rq_cl t c 8)) : ∀ d s, s + d = 8 → wY_read_14 post (nI c) (d + 1) (nI s) w (rq_cl t c s) := by
  intro d
  induction d with
  | zero =>
    intro s hs
    have e : s = 8 := by omega
    subst e
    exact br_t (nI_le (b := 8) (Nat.le_refl _) (by decide)) (nm_r (nI_1 c) (by rw [nI_pred]; exact hp))
  | succ d ih =>
    intro s hs
    have hn := ih (s + 1) (by omega)
    have hcl : (nI c * 8 + nI s).toNatClampNeg = c * 8 + s := by rw [rw_ix]; exact nI_clamp (by omega)
    have hin : vp_in (nI c * 8 + nI s) 64 := by rw [rw_ix]; exact vp_in_nI (by omega) (by omega)
    exact br_f (rw_8 (by omega)) ⟨hin, nm_r (by rw [hcl]; rfl) (nm_r (nI_1 s) hn)⟩
theorem rs_yr {post : Int32 → SY → Prop} {t w : Nat → Int32} {c : Nat} (hc : c < 8) (hp : post (nI c) (nI (c + 1), w, rq_cl t c 8)) : wpY_read post (nI c, w, t) := by
  refine br_f (fun z => ?_) ⟨9, rs_yr_loop hc hp 8 0 rfl⟩
  have := (nI_eq (a := c) (b := 8) (by omega) (by omega)).mp z
  omega
theorem rs_yr8 {post : Int32 → SY → Prop} {t w : Nat → Int32} (hp : post (-4) (nI 8, w, t)) : wpY_read post (nI 8, w, t) := br_t rfl hp
/-! a stretch's writes -/
def rq_wv (f : Nat → Int32) (base : Nat) (bits : Int32) : Nat → Nat → Int32
  | 0 => f
  | i + 1 => upd (rq_wv f base bits i) (base + i) ((bits >>> (nI i &&& 31)) &&& 1)
def rq_wt (f : Nat → Int32) (base : Nat) (q : Int32) : Nat → Nat → Int32
  | 0 => f
  | i + 1 => upd (rq_wt f base q i) (base + i) q
theorem rs_wOk {t : Nat → Int32} {base q : Nat} (h : rq_ok t) (hq : q ≤ 9) : ∀ i, rq_ok (rq_wt t base (nI q) i) := by
  intro i
  induction i with
  | zero => exact h
  | succ i ih => exact rs_okU ih hq
theorem rs_wAg {t v w : Nat → Int32} {base : Nat} {bits q : Int32} (h : rq_ag t v w) : ∀ i, rq_ag (rq_wt t base q i) (rq_wv v base bits i) (rq_wv w base bits i) := by
  intro i
  induction i with
  | zero => exact h
  | succ i ih => exact rs_agU ih
theorem rs_xs_loop {post : Int32 → SX → Prop} {t v : Nat → Int32} {base n : Nat} {bits q x6 fr : Int32} (hb : base + n ≤ 64) (hp : post x6 (fr, rq_wt t base q n, rq_wv v base bits n)) : ∀ d i, i + d = n → wX_stretch_78 post bits q (nI n) x6 (nI base) fr (d + 1) (nI i) (rq_wt t base q i) (rq_wv v base bits i) := by
  intro d
  induction d with
  | zero =>
    intro i hi
    have e : i = n := by omega
    subst e
    exact br_t (nI_le (Nat.le_refl _) (by omega)) hp
  | succ d ih =>
    intro i hi
    have hn := ih (i + 1) (by omega)
    have hcl : (nI base + nI i).toNatClampNeg = base + i := by rw [nI_add]; exact nI_clamp (by omega)
    have hin : vp_in (nI base + nI i) 64 := by rw [nI_add]; exact vp_in_nI (by omega) (by omega)
    exact br_f (nI_ge (by omega) (by omega)) ⟨hin, nm_r (by rw [hcl]; rfl) ⟨hin, nm_r (by rw [hcl]; rfl) (nm_r (nI_1 i) hn)⟩⟩
theorem rs_ys_loop {post : Int32 → SY → Prop} {t w : Nat → Int32} {c fi n : Nat} {bits q fr : Int32} (hc : c < 8) (hb : fi + n ≤ 8) (hp : post (nI c) (fr, rq_wv w (c * 8 + fi) bits n, rq_wt t (c * 8 + fi) q n)) : ∀ d i, i + d = n → wY_stretch_63 post bits q (nI fi) (nI n) (nI c) fr (d + 1) (nI i) (rq_wv w (c * 8 + fi) bits i) (rq_wt t (c * 8 + fi) q i) := by
  intro d
  induction d with
  | zero =>
    intro i hi
    have e : i = n := by omega
    subst e
    exact br_t (nI_le (Nat.le_refl _) (by omega)) hp
  | succ d ih =>
    intro i hi
    have hn := ih (i + 1) (by omega)
    have hcl : ((nI c * 8 + nI fi) + nI i).toNatClampNeg = c * 8 + fi + i := by rw [rw_ix, nI_add]; exact nI_clamp (by omega)
    have hin : vp_in ((nI c * 8 + nI fi) + nI i) 64 := by rw [rw_ix, nI_add]; exact vp_in_nI (by omega) (by omega)
    exact br_f (nI_ge (by omega) (by omega)) (br_f (nI_pos (by omega)) ⟨hin, nm_r (by rw [hcl]; rfl) ⟨hin, nm_r (by rw [hcl]; rfl) (nm_r (nI_1 i) hn)⟩⟩)
/-- full: the other side's loop writes nothing -/
theorem rs_yf_loop {post : Int32 → SY → Prop} {t w : Nat → Int32} {n : Nat} {bits q x4 fr : Int32} (hn16 : n < 16) (hp : post (-4) (fr, w, t)) : ∀ d i, i + d = n → wY_stretch_63 post bits q x4 (nI n) (-4) fr (d + 1) (nI i) w t := by
  intro d
  induction d with
  | zero =>
    intro i hi
    have e : i = n := by omega
    subst e
    exact br_t (nI_le (Nat.le_refl _) (by omega)) hp
  | succ d ih =>
    intro i hi
    have hn := ih (i + 1) (by omega)
    exact br_f (nI_ge (by omega) (by omega)) (br_t (by decide) (nm_r (nI_1 i) hn))
/-! cover -/
def rq_cv (t : Nat → Int32) (site : Nat) : Nat → Nat
  | 0 => 0
  | r + 1 => if t (r * 8 + site) ≤ 0 then rq_cv t site r else rq_cv t site r + 1
theorem rs_xv_loop {post : Int32 → Prop} {t v : Nat → Int32} {s c : Nat} (hs : s < 8) (hc : c ≤ 8) (hp : post (nI (rq_cv t s c))) : ∀ d r, r + d = c → wX_cover_14 post (nI s) (nI c) t v (d + 1) (nI (rq_cv t s r)) (nI r) := by
  intro d
  induction d with
  | zero =>
    intro r hr
    have e : r = c := by omega
    subst e
    exact br_t (nI_le (Nat.le_refl _) (by omega)) hp
  | succ d ih =>
    intro r hr
    have hn := ih (r + 1) (by omega)
    rw [rq_cv] at hn
    have hcl : (nI r * 8 + nI s).toNatClampNeg = r * 8 + s := by rw [rw_ix]; exact nI_clamp (by omega)
    have hin : vp_in (nI r * 8 + nI s) 64 := by rw [rw_ix]; exact vp_in_nI (by omega) (by omega)
    refine br_f (nI_ge (by omega) (by omega)) ⟨hin, ?_⟩
    by_cases z : t (r * 8 + s) ≤ 0
    · rw [if_pos z] at hn
      exact br_t (by rw [hcl]; exact z) (nm_r (nI_1 r) hn)
    · rw [if_neg z] at hn
      exact br_f (by rw [hcl]; exact z) (nm_r (nI_1 _) (nm_r (nI_1 r) hn))
theorem rs_yv_loop {post : Int32 → Prop} {t w : Nat → Int32} {s c : Nat} (hs : s < 8) (hc : c ≤ 8) (hp : post (nI (rq_cv t s c))) : ∀ d r, r + d = c → wY_cover_17 post (nI s) (nI c) w t (d + 1) (nI (rq_cv t s r)) (nI r) := by
  intro d
  induction d with
  | zero =>
    intro r hr
    have e : r = c := by omega
    subst e
    exact br_t (nI_le (Nat.le_refl _) (by omega)) hp
  | succ d ih =>
    intro r hr
    have hn := ih (r + 1) (by omega)
    rw [rq_cv] at hn
    have hcl : (nI r * 8 + nI s).toNatClampNeg = r * 8 + s := by rw [rw_ix]; exact nI_clamp (by omega)
    have hin : vp_in (nI r * 8 + nI s) 64 := by rw [rw_ix]; exact vp_in_nI (by omega) (by omega)
    refine br_f (nI_ge (by omega) (by omega)) ⟨hin, ?_⟩
    by_cases z : t (r * 8 + s) ≤ 0
    · rw [if_pos z] at hn
      exact br_t (by rw [hcl]; exact z) (nm_r (nI_1 r) hn)
    · rw [if_neg z] at hn
      exact br_f (by rw [hcl]; exact z) (nm_r (nI_1 _) (nm_r (nI_1 r) hn))
/-- a site: eight of them on both sides -/
theorem rs_xi1 {post : Int32 → Prop} {s : Nat} (hs : s < 8) (hp : post 1) : wpX_isSite post (nI s) :=
  br_f (nI_pos (by omega)) (br_f (rw_8 hs) hp)
theorem rs_xi0 {post : Int32 → Prop} {x : Int32} (h : x < 0 ∨ nI 8 ≤ x) (hp : post 0) : wpX_isSite post x := by
  unfold wpX_isSite
  by_cases z : x < 0
  · exact br_t z hp
  · exact br_f z (br_t (h.resolve_left z) hp)
theorem rs_yi1 {A B C : Prop} {s : Nat} (hs : s < 8) (h : B) : (nI s < 0 → A) ∧ (¬ nI s < 0 → ((nI s ≤ 7 → B) ∧ (¬ nI s ≤ 7 → C))) :=
  br_f (nI_pos (by omega)) (br_t (nI_le (b := 7) (by omega) (by decide)) h)
theorem rs_yi0 {A B : Prop} {x : Int32} (h : x < 0 ∨ nI 8 ≤ x) (hp : A) : (x < 0 → A) ∧ (¬ x < 0 → ((x ≤ 7 → B) ∧ (¬ x ≤ 7 → A))) := by
  by_cases z : x < 0
  · exact br_t z hp
  · refine br_f z (br_f (fun y => ?_) hp)
    obtain ⟨j, hj, rfl⟩ := nI_of z
    have h1 := (nI_leI (by omega) hj).mp (h.resolve_left z)
    have h2 := (nI_leI (b := 7) hj (by omega)).mp y
    omega
