/-! the least of a filtered row of numbers, its first place, its count -/
def rq_mn (S : Nat → Bool) (c : Nat → Nat) : Nat → Nat
  | 0 => 100000
  | k + 1 => if S k = true then (if c k ≤ rq_mn S c k then c k else rq_mn S c k) else rq_mn S c k
def rq_cn (S : Nat → Bool) (c : Nat → Nat) (b : Nat) : Nat → Nat
  | 0 => 0
  | k + 1 => if S k = true ∧ c k = b then rq_cn S c b k + 1 else rq_cn S c b k
def rq_fi (S : Nat → Bool) (c : Nat → Nat) : Nat → Nat
  | 0 => 0
  | k + 1 => if S k = true ∧ c k < rq_mn S c k then k else rq_fi S c k
theorem rq_mnT {S : Nat → Bool} {c : Nat → Nat} {k : Nat} (h : S k = true) : rq_mn S c (k + 1) = if c k ≤ rq_mn S c k then c k else rq_mn S c k := by
  rw [rq_mn, if_pos h]
theorem rq_mnF {S : Nat → Bool} {c : Nat → Nat} {k : Nat} (h : S k = false) : rq_mn S c (k + 1) = rq_mn S c k := by
  rw [rq_mn, if_neg (by rw [h]; decide)]
theorem rq_cnT {S : Nat → Bool} {c : Nat → Nat} {b k : Nat} (h : S k = true) (e : c k = b) : rq_cn S c b (k + 1) = rq_cn S c b k + 1 := by
  rw [rq_cn, if_pos ⟨h, e⟩]
theorem rq_cnF {S : Nat → Bool} {c : Nat → Nat} {b k : Nat} (h : ¬ (S k = true ∧ c k = b)) : rq_cn S c b (k + 1) = rq_cn S c b k := by
  rw [rq_cn, if_neg h]
theorem rq_cnF0 {S : Nat → Bool} {c : Nat → Nat} {b k : Nat} (h : S k = false) : rq_cn S c b (k + 1) = rq_cn S c b k :=
  rq_cnF (fun z => by rw [h] at z; exact absurd z.1 (by decide))
theorem rq_fiT {S : Nat → Bool} {c : Nat → Nat} {k : Nat} (h : S k = true) (e : c k < rq_mn S c k) : rq_fi S c (k + 1) = k := by
  rw [rq_fi, if_pos ⟨h, e⟩]
theorem rq_fiF {S : Nat → Bool} {c : Nat → Nat} {k : Nat} (h : ¬ (S k = true ∧ c k < rq_mn S c k)) : rq_fi S c (k + 1) = rq_fi S c k := by
  rw [rq_fi, if_neg h]
theorem rq_fiF0 {S : Nat → Bool} {c : Nat → Nat} {k : Nat} (h : S k = false) : rq_fi S c (k + 1) = rq_fi S c k :=
  rq_fiF (fun z => by rw [h] at z; exact absurd z.1 (by decide))
theorem rq_mnS (S : Nat → Bool) (c : Nat → Nat) (e : Nat) (h : ∀ m, e ≤ m → S m = false) : ∀ d, rq_mn S c (e + d) = rq_mn S c e := by
  intro d
  induction d with
  | zero => rfl
  | succ d ih => rw [← Nat.add_assoc, rq_mnF (h _ (by omega)), ih]
theorem rq_cnS (S : Nat → Bool) (c : Nat → Nat) (b e : Nat) (h : ∀ m, e ≤ m → S m = false) : ∀ d, rq_cn S c b (e + d) = rq_cn S c b e := by
  intro d
  induction d with
  | zero => rfl
  | succ d ih => rw [← Nat.add_assoc, rq_cnF0 (h _ (by omega)), ih]
theorem rq_fiS (S : Nat → Bool) (c : Nat → Nat) (e : Nat) (h : ∀ m, e ≤ m → S m = false) : ∀ d, rq_fi S c (e + d) = rq_fi S c e := by
  intro d
  induction d with
  | zero => rfl
  | succ d ih => rw [← Nat.add_assoc, rq_fiF0 (h _ (by omega)), ih]
theorem rq_mnX {S : Nat → Bool} {c : Nat → Nat} {e a b : Nat} (h : ∀ m, e ≤ m → S m = false) (ha : e ≤ a) (hb : e ≤ b) : rq_mn S c a = rq_mn S c b := by
  have h1 := rq_mnS S c e h (a - e)
  have h2 := rq_mnS S c e h (b - e)
  rw [show e + (a - e) = a by omega] at h1
  rw [show e + (b - e) = b by omega] at h2
  rw [h1, h2]
theorem rq_cnX {S : Nat → Bool} {c : Nat → Nat} {e a b q : Nat} (h : ∀ m, e ≤ m → S m = false) (ha : e ≤ a) (hb : e ≤ b) : rq_cn S c q a = rq_cn S c q b := by
  have h1 := rq_cnS S c q e h (a - e)
  have h2 := rq_cnS S c q e h (b - e)
  rw [show e + (a - e) = a by omega] at h1
  rw [show e + (b - e) = b by omega] at h2
  rw [h1, h2]
theorem rq_fiX {S : Nat → Bool} {c : Nat → Nat} {e a b : Nat} (h : ∀ m, e ≤ m → S m = false) (ha : e ≤ a) (hb : e ≤ b) : rq_fi S c a = rq_fi S c b := by
  have h1 := rq_fiS S c e h (a - e)
  have h2 := rq_fiS S c e h (b - e)
  rw [show e + (a - e) = a by omega] at h1
  rw [show e + (b - e) = b by omega] at h2
  rw [h1, h2]
theorem rq_mnL {S : Nat → Bool} {c : Nat → Nat} : ∀ k, rq_mn S c k ≤ 100000 ∧ ∀ m, m < k → S m = true → rq_mn S c k ≤ c m := by
  intro k
  induction k with
  | zero => exact ⟨Nat.le_refl _, fun m hm => absurd hm (by omega)⟩
  | succ k ih =>
    obtain ⟨h1, h2⟩ := ih
    cases hs : S k with
    | false =>
      rw [rq_mnF hs]
      refine ⟨h1, fun m hm ht => ?_⟩
      rcases Nat.lt_or_ge m k with z | z
      · exact h2 m z ht
      · have e : m = k := by omega
        subst e
        rw [hs] at ht
        exact absurd ht (by decide)
    | true =>
      rw [rq_mnT hs]
      refine ⟨by split <;> omega, fun m hm ht => ?_⟩
      rcases Nat.lt_or_ge m k with z | z
      · have := h2 m z ht
        split <;> omega
      · have e : m = k := by omega
        subst e
        split <;> omega
/-- none fits: the start value stands -/
theorem rq_mn0 {S : Nat → Bool} {c : Nat → Nat} : ∀ k, (∀ m, m < k → S m = false) → rq_mn S c k = 100000 := by
  intro k
  induction k with
  | zero => exact fun _ => rfl
  | succ k ih =>
    intro h
    rw [rq_mnF (h k (by omega)), ih (fun m hm => h m (by omega))]
/-- where something fits, the least is reached, and rq_fi is its first place -/
theorem rq_fiA {S : Nat → Bool} {c : Nat → Nat} (hc : ∀ m, c m < 100000) : ∀ k, (rq_mn S c k = 100000 ∧ ∀ m, m < k → S m = false) ∨ (rq_fi S c k < k ∧ S (rq_fi S c k) = true ∧ c (rq_fi S c k) = rq_mn S c k ∧ ∀ j, j < rq_fi S c k → S j = true → rq_mn S c k < c j) := by
  intro k
  induction k with
  | zero => exact Or.inl ⟨rfl, fun m hm => absurd hm (by omega)⟩
  | succ k ih =>
    cases hs : S k with
    | false =>
      rw [rq_mnF hs, rq_fiF0 hs]
      rcases ih with ⟨h1, h2⟩ | ⟨hm, h1, h2, h3⟩
      · refine Or.inl ⟨h1, fun m hm => ?_⟩
        rcases Nat.lt_or_ge m k with z | z
        · exact h2 m z
        · have e : m = k := by omega
          rw [e]; exact hs
      · exact Or.inr ⟨by omega, h1, h2, h3⟩
    | true =>
      rw [rq_mnT hs]
      have hk := hc k
      rcases Nat.lt_or_ge (c k) (rq_mn S c k) with z | z
      · rw [rq_fiT hs z, if_pos (Nat.le_of_lt z)]
        refine Or.inr ⟨by omega, hs, rfl, fun j hj hj2 => ?_⟩
        have := (rq_mnL (S := S) (c := c) k).2 j hj hj2
        omega
      · rw [rq_fiF (fun y => by omega)]
        rcases ih with ⟨h1, h2⟩ | ⟨hm, h1, h2, h3⟩
        · omega
        · have e : (if c k ≤ rq_mn S c k then c k else rq_mn S c k) = rq_mn S c k := by split <;> omega
          rw [e]
          exact Or.inr ⟨by omega, h1, h2, h3⟩
/-! the trust of a strand's reads that say a value at a site; the cost: both as the walks add them up -/
def rq_st (m : Int32) (r : Nat) : Int32 := (m >>> (nI r &&& 31)) &&& 1
def rq_tr (t v : Nat → Int32) (site : Nat) (m st val : Int32) : Nat → Int32
  | 0 => 0
  | r + 1 => if rq_st m r = st ∧ v (r * 8 + site) = val then rq_tr t v site m st val r + t (r * 8 + site) else rq_tr t v site m st val r
theorem rq_trT {t v : Nat → Int32} {site : Nat} {m st val : Int32} {r : Nat} (h1 : rq_st m r = st) (h2 : v (r * 8 + site) = val) : rq_tr t v site m st val (r + 1) = rq_tr t v site m st val r + t (r * 8 + site) := by
  rw [rq_tr, if_pos ⟨h1, h2⟩]
theorem rq_trF {t v : Nat → Int32} {site : Nat} {m st val : Int32} {r : Nat} (h : ¬ (rq_st m r = st ∧ v (r * 8 + site) = val)) : rq_tr t v site m st val (r + 1) = rq_tr t v site m st val r := by
  rw [rq_tr, if_neg h]
def rq_ok (t : Nat → Int32) : Prop := ∀ i, i < 64 → ∃ q, q ≤ 9 ∧ t i = nI q
def rq_ag (t v w : Nat → Int32) : Prop := ∀ i, i < 64 → t i = 0 ∨ v i = w i
theorem rq_trB {t v : Nat → Int32} {site : Nat} {m st val : Int32} (ht : rq_ok t) (hs : site < 8) : ∀ r, r ≤ 8 → ∃ q, q ≤ 9 * r ∧ rq_tr t v site m st val r = nI q := by
  intro r
  induction r with
  | zero => exact fun _ => ⟨0, by omega, rfl⟩
  | succ r ih =>
    intro hr
    obtain ⟨q, hq, e⟩ := ih (by omega)
    obtain ⟨p, hp, e2⟩ := ht (r * 8 + site) (by omega)
    by_cases h : rq_st m r = st ∧ v (r * 8 + site) = val
    · exact ⟨q + p, by omega, by rw [rq_trT h.1 h.2, e, e2, nI_add]⟩
    · exact ⟨q, by omega, by rw [rq_trF h, e]⟩
/-- values count only where there is trust; of the mask only the bits of the reads count -/
theorem rq_trE {t v w : Nat → Int32} {site : Nat} {m m' st val : Int32} (ha : rq_ag t v w) (hs : site < 8) {n : Nat} (hm : ∀ r, r < n → rq_st m r = rq_st m' r) : ∀ r, r ≤ n → r ≤ 8 → rq_tr t v site m st val r = rq_tr t w site m' st val r := by
  intro r
  induction r with
  | zero => exact fun _ _ => rfl
  | succ r ih =>
    intro hn hr
    have e := ih (by omega) (by omega)
    have em := hm r (by omega)
    by_cases h1 : rq_st m r = st
    · have h1' : rq_st m' r = st := em ▸ h1
      rcases ha (r * 8 + site) (by omega) with z | z
      · have z0 : ∀ x : Int32, x + t (r * 8 + site) = x := fun x => by rw [z]; exact Int32.add_zero x
        by_cases h2 : v (r * 8 + site) = val
        · by_cases h3 : w (r * 8 + site) = val
          · rw [rq_trT h1 h2, rq_trT h1' h3, e]
          · rw [rq_trT h1 h2, rq_trF (fun k => h3 k.2), z0, e]
        · by_cases h3 : w (r * 8 + site) = val
          · rw [rq_trF (fun k => h2 k.2), rq_trT h1' h3, z0, e]
          · rw [rq_trF (fun k => h2 k.2), rq_trF (fun k => h3 k.2), e]
      · by_cases h2 : v (r * 8 + site) = val
        · rw [rq_trT h1 h2, rq_trT h1' (z ▸ h2), e]
        · rw [rq_trF (fun k => h2 k.2), rq_trF (fun k => h2 (z.trans k.2)), e]
    · rw [rq_trF (fun k => h1 k.1), rq_trF (fun k => h1 (em.trans k.1)), e]
def rq_sm (x y : Int32) : Int32 := if y ≤ x then y else x
def rq_at (t v : Nat → Int32) (n : Nat) (m fo : Int32) (site : Nat) : Int32 :=
  if fo = 0 then rq_sm (rq_tr t v site m 0 0 n) (rq_tr t v site m 0 1 n) + rq_sm (rq_tr t v site m 1 0 n) (rq_tr t v site m 1 1 n)
  else rq_sm (rq_tr t v site m 0 0 n + rq_tr t v site m 1 1 n) (rq_tr t v site m 0 1 n + rq_tr t v site m 1 0 n)
def rq_co (t v : Nat → Int32) (n : Nat) (m fo : Int32) : Nat → Int32
  | 0 => 0
  | s + 1 => rq_co t v n m fo s + rq_at t v n m fo s
theorem rq_smB {x y : Int32} {b p q : Nat} (hx : x = nI p) (hy : y = nI q) (hp : p ≤ b) (hq : q ≤ b) : ∃ z, z ≤ b ∧ rq_sm x y = nI z := by
  unfold rq_sm
  by_cases h : y ≤ x
  · rw [if_pos h]; exact ⟨q, hq, hy⟩
  · rw [if_neg h]; exact ⟨p, hp, hx⟩
theorem rq_atB {t v : Nat → Int32} {n : Nat} {m fo : Int32} {site : Nat} (ht : rq_ok t) (hn : n ≤ 8) (hs : site < 8) : ∃ z, z ≤ 144 ∧ rq_at t v n m fo site = nI z := by
  obtain ⟨a, ha, ea⟩ := rq_trB (v := v) (m := m) (st := 0) (val := 0) ht hs n hn
  obtain ⟨b, hb, eb⟩ := rq_trB (v := v) (m := m) (st := 0) (val := 1) ht hs n hn
  obtain ⟨c, hc, ec⟩ := rq_trB (v := v) (m := m) (st := 1) (val := 0) ht hs n hn
  obtain ⟨d, hd, ed⟩ := rq_trB (v := v) (m := m) (st := 1) (val := 1) ht hs n hn
  unfold rq_at
  by_cases f : fo = 0
  · rw [if_pos f]
    obtain ⟨x, hx, ex⟩ := rq_smB (b := 72) ea eb (by omega) (by omega)
    obtain ⟨y, hy, ey⟩ := rq_smB (b := 72) ec ed (by omega) (by omega)
    exact ⟨x + y, by omega, by rw [ex, ey, nI_add]⟩
  · rw [if_neg f]
    exact rq_smB (p := a + d) (q := b + c) (by rw [ea, ed, nI_add]) (by rw [eb, ec, nI_add]) (by omega) (by omega)
theorem rq_coB {t v : Nat → Int32} {n : Nat} {m fo : Int32} (ht : rq_ok t) (hn : n ≤ 8) : ∀ s, s ≤ 8 → ∃ z, z ≤ 144 * s ∧ rq_co t v n m fo s = nI z := by
  intro s
  induction s with
  | zero => exact fun _ => ⟨0, by omega, rfl⟩
  | succ s ih =>
    intro hs
    obtain ⟨z, hz, ez⟩ := ih (by omega)
    obtain ⟨y, hy, ey⟩ := rq_atB (v := v) (m := m) (fo := fo) ht hn (show s < 8 by omega)
    exact ⟨z + y, by omega, by rw [rq_co, ez, ey, nI_add]⟩
theorem rq_coE {t v w : Nat → Int32} {n : Nat} {m m' fo : Int32} (ha : rq_ag t v w) (hn : n ≤ 8) (hm : ∀ r, r < n → rq_st m r = rq_st m' r) : ∀ s, s ≤ 8 → rq_co t v n m fo s = rq_co t w n m' fo s := by
  intro s
  induction s with
  | zero => exact fun _ => rfl
  | succ s ih =>
    intro hs
    have e : ∀ st val, rq_tr t v s m st val n = rq_tr t w s m' st val n := fun st val => rq_trE ha (by omega) hm n (Nat.le_refl n) hn
    rw [rq_co, rq_co, ih (by omega)]
    unfold rq_at
    rw [e 0 0, e 0 1, e 1 0, e 1 1]
/-- the cost as a natural number -/
def rq_cN (t v : Nat → Int32) (n : Nat) (fo : Int32) (k : Nat) : Nat := (rq_co t v n (nI k) fo 8).toNatClampNeg
theorem rq_cNe {t v : Nat → Int32} {n : Nat} {fo : Int32} (ht : rq_ok t) (hn : n ≤ 8) (k : Nat) : rq_co t v n (nI k) fo 8 = nI (rq_cN t v n fo k) ∧ rq_cN t v n fo k ≤ 1152 := by
  obtain ⟨z, hz, ez⟩ := rq_coB (v := v) (m := nI k) (fo := fo) ht hn 8 (Nat.le_refl 8)
  have e : rq_cN t v n fo k = z := by
    unfold rq_cN
    rw [ez, nI_clamp (by omega)]
  rw [e]
  exact ⟨ez, by omega⟩
