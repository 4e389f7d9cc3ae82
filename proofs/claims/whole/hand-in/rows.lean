section
/-! the least of a filtered row of numbers, its first place, its count -/
def rq_mn (S : Nat → Bool) (c : Nat → Nat) : Nat → Nat
  | 0 => 100000
  | k + 1 => if S k = true then (if c k ≤ rq_mn S c k then c k else rq_mn S c k) else rq_mn S c k
def rq_cn (S : Nat → Bool) (c : Nat → Nat) (b : Nat) : Nat → Nat
  | 0 => 0
  | k + 1 => if S k = true ∧ c k = b then rq_cn S c b k + 1 else rq_cn S c b k
def rq_fi (S : Nat → Bool) (c : Nat → Nat) : Nat → Nat
  | 0 => 0
  | k + 1 => if S k = true ∧ c k < rq_mn S c k then k else rq_fi S c k
theorem rq_mnT {S : Nat → Bool} {c : Nat → Nat} {k : Nat} (h : S k = true) : rq_mn S c (k + 1) = if c k ≤ rq_mn S c k then c k else rq_mn S c k := by
  rw [rq_mn, if_pos h]
theorem rq_mnF {S : Nat → Bool} {c : Nat → Nat} {k : Nat} (h : S k = false) : rq_mn S c (k + 1) = rq_mn S c k := by
  rw [rq_mn, if_neg (by rw [h]; decide)]
theorem rq_cnT {S : Nat → Bool} {c : Nat → Nat} {b k : Nat} (h : S k = true) (e : c k = b) : rq_cn S c b (k + 1) = rq_cn S c b k + 1 := by
  rw [rq_cn, if_pos ⟨h, e⟩]
theorem rq_cnF {S : Nat → Bool} {c : Nat → Nat} {b k : Nat} (h : ¬ (S k = true ∧ c k = b)) : rq_cn S c b (k + 1) = rq_cn S c b k := by
  rw [rq_cn, if_neg h]
theorem rq_cnF0 {S : Nat → Bool} {c : Nat → Nat} {b k : Nat} (h : S k = false) : rq_cn S c b (k + 1) = rq_cn S c b k :=
  rq_cnF (fun z => by rw [h] at z; exact absurd z.1 (by decide))
theorem rq_fiT {S : Nat → Bool} {c : Nat → Nat} {k : Nat} (h : S k = true) (e : c k < rq_mn S c k) : rq_fi S c (k + 1) = k := by
  rw [rq_fi, if_pos ⟨h, e⟩]
theorem rq_fiF {S : Nat → Bool} {c : Nat → Nat} {k : Nat} (h : ¬ (S k = true ∧ c k < rq_mn S c k)) : rq_fi S c (k + 1) = rq_fi S c k := by
  rw [rq_fi, if_neg h]
theorem rq_fiF0 {S : Nat → Bool} {c : Nat → Nat} {k : Nat} (h : S k = false) : rq_fi S c (k + 1) = rq_fi S c k :=
  rq_fiF (fun z => by rw [h] at z; exact absurd z.1 (by decide))
theorem rq_mnS (S : Nat → Bool) (c : Nat → Nat) (e : Nat) (h : ∀ m, e ≤ m → S m = false) : ∀ d, rq_mn S c (e + d) = rq_mn S c e := by
  intro d
  induction d with
  | zero => rfl
  | succ d ih => rw [← Nat.add_assoc, rq_mnF (h _ (by omega)), ih]
theorem rq_cnS (S : Nat → Bool) (c : Nat → Nat) (b e : Nat) (h : ∀ m, e ≤ m → S m = false) : ∀ d, rq_cn S c b (e + d) = rq_cn S c b e := by
  intro d
  induction d with
  | zero => rfl
  | succ d ih => rw [← Nat.add_assoc, rq_cnF0 (h _ (by omega)), ih]
theorem rq_fiS (S : Nat → Bool) (c : Nat → Nat) (e : Nat) (h : ∀ m, e ≤ m → S m = false) : ∀ d, rq_fi S c (e + d) = rq_fi S c e := by
  intro d
  induction d with
  | zero => rfl
  | succ d ih => rw [← Nat.add_assoc, rq_fiF0 (h _ (by omega)), ih]
theorem rq_mnX {S : Nat → Bool} {c : Nat → Nat} {e a b : Nat} (h : ∀ m, e ≤ m → S m = false) (ha : e ≤ a) (hb : e ≤ b) : rq_mn S c a = rq_mn S c b := by
  have h1 := rq_mnS S c e h (a - e)
  have h2 := rq_mnS S c e h (b - e)
  rw [show e + (a - e) = a by omega] at h1
  rw [show e + (b - e) = b by omega] at h2
  rw [h1, h2]
theorem rq_cnX {S : Nat → Bool} {c : Nat → Nat} {e a b q : Nat} (h : ∀ m, e ≤ m → S m = false) (ha : e ≤ a) (hb : e ≤ b) : rq_cn S c q a = rq_cn S c q b := by
  have h1 := rq_cnS S c q e h (a - e)
  have h2 := rq_cnS S c q e h (b - e)
  rw [show e + (a - e) = a by omega] at h1
  rw [show e + (b - e) = b by omega] at h2
  rw [h1, h2]
theorem rq_fiX {S : Nat → Bool} {c : Nat → Nat} {e a b : Nat} (h : ∀ m, e ≤ m → S m = false) (ha : e ≤ a) (hb : e ≤ b) : rq_fi S c a = rq_fi S c b := by
  have h1 := rq_fiS S c e h (a - e)
  have h2 := rq_fiS S c e h (b - e)
  rw [show e + (a - e) = a by omega] at h1
  rw [show e + (b - e) = b by omega] at h2
  rw [h1, h2]
theorem rq_mnL {S : Nat → Bool} {c : Nat → Nat} : ∀ k, rq_mn S c k ≤ 100000 ∧ ∀ m, m < k → S m = true → rq_mn S c k ≤ c m := by
  intro k
  induction k with
  | zero => exact ⟨Nat.le_refl _, fun m hm => absurd hm (by omega)⟩
  | succ k ih =>
    obtain ⟨h1, h2⟩ := ih
    cases hs : S k with
    | false =>
      rw [rq_mnF hs]
      refine ⟨h1, fun m hm ht => ?_⟩
      rcases Nat.lt_or_ge m k with z | z
      · exact h2 m z ht
      · have e : m = k := by omega
        subst e
        rw [hs] at ht
        exact absurd ht (by decide)
    | true =>
      rw [rq_mnT hs]
      refine ⟨by split <;> omega, fun m hm ht => ?_⟩
      rcases Nat.lt_or_ge m k with z | z
      · have := h2 m z ht
        split <;> omega
      · have e : m = k := by omega
        subst e
        split <;> omega
/-- none fits: the start value stands -/
theorem rq_mn0 {S : Nat → Bool} {c : Nat → Nat} : ∀ k, (∀ m, m < k → S m = false) → rq_mn S c k = 100000 := by
  intro k
  induction k with
  | zero => exact fun _ => rfl
  | succ k ih =>
    intro h
    rw [rq_mnF (h k (by omega)), ih (fun m hm => h m (by omega))]
/-- where something fits, the least is reached, and rq_fi is its first place -/
theorem rq_fiA {S : Nat → Bool} {c : Nat → Nat} (hc : ∀ m, c m < 100000) : ∀ k, (rq_mn S c k = 100000 ∧ ∀ m, m < k → S m = false) ∨ (rq_fi S c k < k ∧ S (rq_fi S c k) = true ∧ c (rq_fi S c k) = rq_mn S c k ∧ ∀ j, j < rq_fi S c k → S j = true → rq_mn S c k < c j) := by
  intro k
  induction k with
  | zero => exact Or.inl ⟨rfl, fun m hm => absurd hm (by omega)⟩
  | succ k ih =>
    cases hs : S k with
    | false =>
      rw [rq_mnF hs, rq_fiF0 hs]
      rcases ih with ⟨h1, h2⟩ | ⟨hm, h1, h2, h3⟩
      · refine Or.inl ⟨h1, fun m hm => ?_⟩
        rcases Nat.lt_or_ge m k with z | z
        · exact h2 m z
        · have e : m = k := by omega
          rw [e]; exact hs
      · exact Or.inr ⟨by omega, h1, h2, h3⟩
    | true =>
      rw [rq_mnT hs]
      have hk := hc k
      rcases Nat.lt_or_ge (c k) (rq_mn S c k) with z | z
      · rw [rq_fiT hs z, if_pos (Nat.le_of_lt z)]
        refine Or.inr ⟨by omega, hs, rfl, fun j hj hj2 => ?_⟩
        have := (rq_mnL (S := S) (c := c) k).2 j hj hj2
        omega
      · rw [rq_fiF (fun y => by omega)]
        rcases ih with ⟨h1, h2⟩ | ⟨hm, h1, h2, h3⟩
        · omega
        · have e : (if c k ≤ rq_mn S c k then c k else rq_mn S c k) = rq_mn S c k := by split <;> omega
          rw [e]
          exact Or.inr ⟨by omega, h1, h2, h3⟩
/-! the trust of a strand's reads that say a value at a site; the cost: both as the walks add them up -/
def rq_st (m : Int32) (r : Nat) : Int32 := (m >>> (nI r &&& 31)) &&& 1
def rq_tr (t v : Nat → Int32) (site : Nat) (m st val : Int32) : Nat → Int32
  | 0 => 0
  | r + 1 => if rq_st m r = st ∧ v (r * 8 + site) = val then rq_tr t v site m st val r + t (r * 8 + site) else rq_tr t v site m st val r
theorem rq_trT {t v : Nat → Int32} {site : Nat} {m st val : Int32} {r : Nat} (h1 : rq_st m r = st) (h2 : v (r * 8 + site) = val) : rq_tr t v site m st val (r + 1) = rq_tr t v site m st val r + t (r * 8 + site) := by
  rw [rq_tr, if_pos ⟨h1, h2⟩]
theorem rq_trF {t v : Nat → Int32} {site : Nat} {m st val : Int32} {r : Nat} (h : ¬ (rq_st m r = st ∧ v (r * 8 + site) = val)) : rq_tr t v site m st val (r + 1) = rq_tr t v site m st val r := by
  rw [rq_tr, if_neg h]
def rq_ok (t : Nat → Int32) : Prop := ∀ i, i < 64 → ∃ q, q ≤ 9 ∧ t i = nI q
def rq_ag (t v w : Nat → Int32) : Prop := ∀ i, i < 64 → t i = 0 ∨ v i = w i
theorem rq_trB {t v : Nat → Int32} {site : Nat} {m st val : Int32} (ht : rq_ok t) (hs : site < 8) : ∀ r, r ≤ 8 → ∃ q, q ≤ 9 * r ∧ rq_tr t v site m st val r = nI q := by
  intro r
  induction r with
  | zero => exact fun _ => ⟨0, by omega, rfl⟩
  | succ r ih =>
    intro hr
    obtain ⟨q, hq, e⟩ := ih (by omega)
    obtain ⟨p, hp, e2⟩ := ht (r * 8 + site) (by omega)
    by_cases h : rq_st m r = st ∧ v (r * 8 + site) = val
    · exact ⟨q + p, by omega, by rw [rq_trT h.1 h.2, e, e2, nI_add]⟩
    · exact ⟨q, by omega, by rw [rq_trF h, e]⟩
/-- values count only where there is trust; of the mask only the bits of the reads count -/
theorem rq_trE {t v w : Nat → Int32} {site : Nat} {m m' st val : Int32} (ha : rq_ag t v w) (hs : site < 8) {n : Nat} (hm : ∀ r, r < n → rq_st m r = rq_st m' r) : ∀ r, r ≤ n → r ≤ 8 → rq_tr t v site m st val r = rq_tr t w site m' st val r := by
  intro r
  induction r with
  | zero => exact fun _ _ => rfl
  | succ r ih =>
    intro hn hr
    have e := ih (by omega) (by omega)
    have em := hm r (by omega)
    by_cases h1 : rq_st m r = st
    · have h1' : rq_st m' r = st := em ▸ h1
      rcases ha (r * 8 + site) (by omega) with z | z
      · have z0 : ∀ x : Int32, x + t (r * 8 + site) = x := fun x => by rw [z]; exact Int32.add_zero x
        by_cases h2 : v (r * 8 + site) = val
        · by_cases h3 : w (r * 8 + site) = val
          · rw [rq_trT h1 h2, rq_trT h1' h3, e]
          · rw [rq_trT h1 h2, rq_trF (fun k => h3 k.2), z0, e]
        · by_cases h3 : w (r * 8 + site) = val
          · rw [rq_trF (fun k => h2 k.2), rq_trT h1' h3, z0, e]
          · rw [rq_trF (fun k => h2 k.2), rq_trF (fun k => h3 k.2), e]
      · by_cases h2 : v (r * 8 + site) = val
        · rw [rq_trT h1 h2, rq_trT h1' (z ▸ h2), e]
        · rw [rq_trF (fun k => h2 k.2), rq_trF (fun k => h2 (z.trans k.2)), e]
    · rw [rq_trF (fun k => h1 k.1), rq_trF (fun k => h1 (em.trans k.1)), e]
def rq_sm (x y : Int32) : Int32 := if y ≤ x then y else x
def rq_at (t v : Nat → Int32) (n : Nat) (m fo : Int32) (site : Nat) : Int32 :=
  if fo = 0 then rq_sm (rq_tr t v site m 0 0 n) (rq_tr t v site m 0 1 n) + rq_sm (rq_tr t v site m 1 0 n) (rq_tr t v site m 1 1 n)
  else rq_sm (rq_tr t v site m 0 0 n + rq_tr t v site m 1 1 n) (rq_tr t v site m 0 1 n + rq_tr t v site m 1 0 n)
def rq_co (t v : Nat → Int32) (n : Nat) (m fo : Int32) : Nat → Int32
  | 0 => 0
  | s + 1 => rq_co t v n m fo s + rq_at t v n m fo s
theorem rq_smB {x y : Int32} {b p q : Nat} (hx : x = nI p) (hy : y = nI q) (hp : p ≤ b) (hq : q ≤ b) : ∃ z, z ≤ b ∧ rq_sm x y = nI z := by
  unfold rq_sm
  by_cases h : y ≤ x
  · rw [if_pos h]; exact ⟨q, hq, hy⟩
  · rw [if_neg h]; exact ⟨p, hp, hx⟩
theorem rq_atB {t v : Nat → Int32} {n : Nat} {m fo : Int32} {site : Nat} (ht : rq_ok t) (hn : n ≤ 8) (hs : site < 8) : ∃ z, z ≤ 144 ∧ rq_at t v n m fo site = nI z := by
  obtain ⟨a, ha, ea⟩ := rq_trB (v := v) (m := m) (st := 0) (val := 0) ht hs n hn
  obtain ⟨b, hb, eb⟩ := rq_trB (v := v) (m := m) (st := 0) (val := 1) ht hs n hn
  obtain ⟨c, hc, ec⟩ := rq_trB (v := v) (m := m) (st := 1) (val := 0) ht hs n hn
  obtain ⟨d, hd, ed⟩ := rq_trB (v := v) (m := m) (st := 1) (val := 1) ht hs n hn
  unfold rq_at
  by_cases f : fo = 0
  · rw [if_pos f]
    obtain ⟨x, hx, ex⟩ := rq_smB (b := 72) ea eb (by omega) (by omega)
    obtain ⟨y, hy, ey⟩ := rq_smB (b := 72) ec ed (by omega) (by omega)
    exact ⟨x + y, by omega, by rw [ex, ey, nI_add]⟩
  · rw [if_neg f]
    exact rq_smB (p := a + d) (q := b + c) (by rw [ea, ed, nI_add]) (by rw [eb, ec, nI_add]) (by omega) (by omega)
theorem rq_coB {t v : Nat → Int32} {n : Nat} {m fo : Int32} (ht : rq_ok t) (hn : n ≤ 8) : ∀ s, s ≤ 8 → ∃ z, z ≤ 144 * s ∧ rq_co t v n m fo s = nI z := by
  intro s
  induction s with
  | zero => exact fun _ => ⟨0, by omega, rfl⟩
  | succ s ih =>
    intro hs
    obtain ⟨z, hz, ez⟩ := ih (by omega)
    obtain ⟨y, hy, ey⟩ := rq_atB (v := v) (m := m) (fo := fo) ht hn (show s < 8 by omega)
    exact ⟨z + y, by omega, by rw [rq_co, ez, ey, nI_add]⟩
theorem rq_coE {t v w : Nat → Int32} {n : Nat} {m m' fo : Int32} (ha : rq_ag t v w) (hn : n ≤ 8) (hm : ∀ r, r < n → rq_st m r = rq_st m' r) : ∀ s, s ≤ 8 → rq_co t v n m fo s = rq_co t w n m' fo s := by
  intro s
  induction s with
  | zero => exact fun _ => rfl
  | succ s ih =>
    intro hs
    have e : ∀ st val, rq_tr t v s m st val n = rq_tr t w s m' st val n := fun st val => rq_trE ha (by omega) hm n (Nat.le_refl n) hn
    rw [rq_co, rq_co, ih (by omega)]
    unfold rq_at
    rw [e 0 0, e 0 1, e 1 0, e 1 1]
/-- the cost as a natural number -/
def rq_cN (t v : Nat → Int32) (n : Nat) (fo : Int32) (k : Nat) : Nat := (rq_co t v n (nI k) fo 8).toNatClampNeg
theorem rq_cNe {t v : Nat → Int32} {n : Nat} {fo : Int32} (ht : rq_ok t) (hn : n ≤ 8) (k : Nat) : rq_co t v n (nI k) fo 8 = nI (rq_cN t v n fo k) ∧ rq_cN t v n fo k ≤ 1152 := by
  obtain ⟨z, hz, ez⟩ := rq_coB (v := v) (m := nI k) (fo := fo) ht hn 8 (Nat.le_refl 8)
  have e : rq_cN t v n fo k = z := by
    unfold rq_cN
    rw [ez, nI_clamp (by omega)]
  rw [e]
  exact ⟨ez, by omega⟩
end
section
/-! rows of kit/rows, pasted -/
theorem pk_us {f : Nat → Int32} {k : Nat} {x : Int32} : upd f k x k = x := if_pos rfl
theorem pk_un {f : Nat → Int32} {k j : Nat} {x : Int32} (h : j ≠ k) : upd f k x j = f j := if_neg h
theorem pk_sub {a b : Nat} (h : b ≤ a) : nI a - nI b = nI (a - b) := by
  obtain ⟨c, rfl⟩ : ∃ c, a = c + b := ⟨a - b, by omega⟩
  rw [← nI_add, Int32.add_sub_cancel, Nat.add_sub_cancel]
theorem pk_mul (a b : Nat) : nI a * nI b = nI (a * b) := (Int32.ofNat_mul a b).symm
theorem pk_ix (x : Int32) {n : Nat} (hn : n < 2 ^ 31) : x < 0 ∨ nI n ≤ x ∨ ∃ j : Nat, j < n ∧ x = nI j := by
  by_cases h : x < 0
  · exact Or.inl h
  · obtain ⟨j, hj, rfl⟩ := nI_of h
    by_cases h2 : j < n
    · exact Or.inr (Or.inr ⟨j, h2, rfl⟩)
    · exact Or.inr (Or.inl (nI_le (by omega) hj))
theorem pk_le {x y : Int32} {A B : Prop} (a b : Nat) (f : a ≤ b → A) (g : b < a → B) (hx : x = nI a := by rfl) (hy : y = nI b := by rfl) (ha : a < 2 ^ 31 := by omega) (hb : b < 2 ^ 31 := by omega) : (x ≤ y → A) ∧ (¬ x ≤ y → B) := by
  subst hx hy
  rw [nI_leI ha hb]
  exact ⟨f, fun z => g (by omega)⟩
theorem pk_lt {x y : Int32} {A B : Prop} (a b : Nat) (f : a < b → A) (g : b ≤ a → B) (hx : x = nI a := by rfl) (hy : y = nI b := by rfl) (ha : a < 2 ^ 31 := by omega) (hb : b < 2 ^ 31 := by omega) : (x < y → A) ∧ (¬ x < y → B) := by
  subst hx hy
  rw [nI_ltI ha hb]
  exact ⟨f, fun z => g (by omega)⟩
theorem pk_eq {x y : Int32} {A B : Prop} (a b : Nat) (f : a = b → A) (g : a ≠ b → B) (hx : x = nI a := by rfl) (hy : y = nI b := by rfl) (ha : a < 2 ^ 31 := by omega) (hb : b < 2 ^ 31 := by omega) : (x = y → A) ∧ (¬ x = y → B) := by
  subst hx hy
  rw [nI_eq ha hb]
  exact ⟨f, g⟩
theorem pk_tn {n : Nat} (h : n < 2 ^ 32) : (nI n).toBitVec.toNat = n := Nat.mod_eq_of_lt h
theorem pk_and (x : Int32) {m : Int32} (k : Nat) (hm : m.toBitVec.toNat = 2 ^ k - 1) : x &&& m = nI (x.toBitVec.toNat % 2 ^ k) := by
  apply Int32.toBitVec_inj.mp
  apply BitVec.eq_of_toNat_eq
  rw [Int32.toBitVec_and, BitVec.toNat_and, hm, Nat.and_two_pow_sub_one_eq_mod]
  show _ = (BitVec.ofNat 32 _).toNat
  rw [BitVec.toNat_ofNat]
  exact (Nat.mod_eq_of_lt (Nat.lt_of_le_of_lt (Nat.mod_le _ _) x.toBitVec.isLt)).symm
theorem pk_andN {n : Nat} (h : n < 2 ^ 32) {m : Int32} (k : Nat) (hm : m.toBitVec.toNat = 2 ^ k - 1) : nI n &&& m = nI (n % 2 ^ k) := by
  rw [pk_and _ k hm, pk_tn h]
theorem pk_andE (x : Int32) {m : Int32} (k : Nat) (hm : m.toBitVec.toNat = 2 ^ k - 1) : ∃ j : Nat, j < 2 ^ k ∧ x &&& m = nI j := ⟨_, Nat.mod_lt _ (Nat.two_pow_pos k), pk_and x k hm⟩
theorem pk_shl (a s : Int32) (k : Nat) (hs : (s.toBitVec.smod 32).toNat = k) : (a <<< s).toBitVec.toNat = a.toBitVec.toNat * 2 ^ k % 2 ^ 32 := by
  show (a.toBitVec <<< (s.toBitVec.smod 32).toNat).toNat = _
  rw [hs, BitVec.toNat_shiftLeft, Nat.shiftLeft_eq]
theorem pk_shlN {n : Nat} (s : Int32) (k : Nat) (hs : (s.toBitVec.smod 32).toNat = k) (h : n * 2 ^ k < 2 ^ 32) : nI n <<< s = nI (n * 2 ^ k) := by
  apply Int32.toBitVec_inj.mp
  apply BitVec.eq_of_toNat_eq
  have hn : n < 2 ^ 32 := Nat.lt_of_le_of_lt (Nat.le_mul_of_pos_right n (Nat.two_pow_pos k)) h
  rw [pk_shl _ _ k hs, pk_tn hn, pk_tn h, Nat.mod_eq_of_lt h]
theorem pk_shr (a s : Int32) (k : Nat) (hs : (s.toBitVec.smod 32).toNat = k) : (a >>> s).toInt = a.toInt >>> k := by
  show (a.toBitVec.sshiftRight (s.toBitVec.smod 32).toNat).toInt = _
  rw [hs, BitVec.toInt_sshiftRight]
  rfl
theorem pk_shrN {n : Nat} (h : n < 2 ^ 31) (s : Int32) (k : Nat) (hs : (s.toBitVec.smod 32).toNat = k) : nI n >>> s = nI (n / 2 ^ k) := by
  apply Int32.toInt_inj.mp
  have h2 : n / 2 ^ k ≤ n := Nat.div_le_self _ _
  rw [pk_shr _ _ k hs, nI_toInt h, nI_toInt (by omega), Int.shiftRight_eq_div_pow]
  rfl
def bt (x : Int32) (i : Nat) : Bool := x.toBitVec.getLsbD i
theorem b_ext {x y : Int32} (h : ∀ i, i < 32 → bt x i = bt y i) : x = y := Int32.toBitVec_inj.mp (BitVec.eq_of_getLsbD_eq (fun i hi => h i hi))
theorem b_and (x y : Int32) (i : Nat) : bt (x &&& y) i = (bt x i && bt y i) := by unfold bt; rw [Int32.toBitVec_and, BitVec.getLsbD_and]
theorem s_l : ∀ n, n < 32 → ((nI n &&& 31).toBitVec.smod 32).toNat = n := by decide +kernel
theorem b_sshr (n : Nat) (hn : n < 32) (x : Int32) {i : Nat} (hi : i < 32) : bt (x >>> (nI n &&& 31)) i = if n + i < 32 then bt x (n + i) else bt x 31 := by
  unfold bt
  rw [Int32.toBitVec_shiftRight]
  show (x.toBitVec.sshiftRight ((nI n &&& 31).toBitVec.smod 32).toNat).getLsbD i = _
  rw [s_l n hn, BitVec.getLsbD_sshiftRight, BitVec.msb_eq_getLsbD_last]
  simp [hi]
/-! bits of masks -/
theorem rb_N {k r : Nat} (hk : k < 2 ^ 31) (hr : r < 32) : rq_st (nI k) r = nI (k / 2 ^ r % 2) := by
  unfold rq_st
  have h : k / 2 ^ r ≤ k := Nat.div_le_self _ _
  rw [pk_shrN hk _ r (s_l r hr), pk_andN (by omega) 1 (by decide)]
theorem rb_one : ∀ i, i < 32 → bt 1 i = decide (i = 0) := by decide +kernel
theorem rb_B {m m' : Int32} {r : Nat} (hr : r < 32) (h : bt m r = bt m' r) : rq_st m r = rq_st m' r := by
  unfold rq_st
  apply b_ext
  intro i hi
  rw [b_and, b_and, rb_one i hi]
  by_cases z : i = 0
  · subst z
    rw [b_sshr r hr m (by omega), b_sshr r hr m' (by omega), if_pos (by omega), if_pos (by omega), Nat.add_zero, h]
  · rw [decide_eq_false z, Bool.and_false, Bool.and_false]
theorem rb_tab : ∀ c, c < 9 → ∀ r, r < c → bt (-2) r = (bt 254 r && bt (((1 : Int32) <<< (nI c &&& 31)) - 1) r) := by decide +kernel
theorem rb_of {x : Int32} {c r : Nat} (hc : c ≤ 8) (hr : r < c) : rq_st (x &&& (-2)) r = rq_st ((x &&& 254) &&& (((1 : Int32) <<< (nI c &&& 31)) - 1)) r := by
  apply rb_B (by omega)
  rw [b_and, b_and, b_and, rb_tab c (by omega) r hr, Bool.and_assoc]
theorem rb_sh : ∀ c, c < 9 → (1 : Int32) <<< (nI c &&& 31) = nI (2 ^ c) := by decide +kernel
theorem rb_p : ∀ c, c < 9 → 1 ≤ 2 ^ c ∧ 2 ^ c ≤ 256 := by decide +kernel
/-- two reads apart: the bit of the greater one alone -/
theorem rb_ap : ∀ a, a < 8 → ∀ b, b < 8 → a ≠ b → 2 ^ (max a b) % 2 = 0 ∧ ¬ rq_st (nI (2 ^ (max a b))) a = rq_st (nI (2 ^ (max a b))) b := by decide +kernel
theorem rb_z : ∀ a, a < 8 → rq_st (nI 0) a = 0 := by decide +kernel
theorem rb_lt : ∀ c, c < 9 → ∀ j, j < c → 2 ^ j < 2 ^ c := by decide +kernel
end
section
/-! the walks of trust and cost, X's and Y's, against rq_tr and rq_co; any post -/
theorem rw_ix (r s : Nat) : nI r * 8 + nI s = nI (r * 8 + s) := by
  show nI r * nI 8 + nI s = _
  rw [pk_mul, nI_add]
theorem rw_xt_loop {post : Int32 → Prop} {t v : Nat → Int32} {s c : Nat} {m st val : Int32} (hs : s < 8) (hc : c ≤ 8) (hp : post (rq_tr t v s m st val c)) : ∀ d r, r + d = c → wX_trustAt_6 post (nI s) m st val (nI c) t v (d + 1) (rq_tr t v s m st val r) (nI r) := by
  intro d
  induction d with
  | zero =>
    intro r hr
    have e : r = c := by omega
    subst e
    exact br_t (nI_le (Nat.le_refl _) (by omega)) hp
  | succ d ih =>
    intro r hr
    have hcl : (nI (r * 8 + s)).toNatClampNeg = r * 8 + s := nI_clamp (by omega)
    have hin : vp_in (nI (r * 8 + s)) 64 := vp_in_nI (by omega) (by omega)
    have hn := ih (r + 1) (by omega)
    refine br_f (nI_ge (by omega) (by omega)) (nm_r (rw_ix r s) ?_)
    by_cases h1 : rq_st m r = st
    · by_cases h2 : v (r * 8 + s) = val
      · rw [rq_trT h1 h2] at hn
        refine br_t h1 ⟨hin, br_t (by rw [hcl]; exact h2) ⟨hin, nm_r (by rw [hcl]) (nm_r (nI_1 r) hn)⟩⟩
      · rw [rq_trF (fun k => h2 k.2)] at hn
        refine br_t h1 ⟨hin, br_f (by rw [hcl]; exact h2) (nm_r (nI_1 r) hn)⟩
    · rw [rq_trF (fun k => h1 k.1)] at hn
      exact br_f h1 (nm_r (nI_1 r) hn)
theorem rw_xt {post : Int32 → Prop} {t v : Nat → Int32} {s c : Nat} {m st val : Int32} (hs : s < 8) (hc : c ≤ 8) (hp : post (rq_tr t v s m st val c)) : wpX_trustAt post (nI c, t, v) (nI s) m st val :=
  ⟨c + 1, rw_xt_loop hs hc hp c 0 (by omega)⟩
theorem rw_yt_loop {post : Int32 → Prop} {t v : Nat → Int32} {s c : Nat} {m st val : Int32} (hs : s < 8) (hc : c ≤ 8) (hp : post (rq_tr t v s m st val c)) : ∀ d r, r + d = c → wY_trust_6 post m st (nI s) val (nI c) v t (d + 1) (rq_tr t v s m st val r) (nI r) := by
  intro d
  induction d with
  | zero =>
    intro r hr
    have e : r = c := by omega
    subst e
    exact br_t (nI_le (Nat.le_refl _) (by omega)) hp
  | succ d ih =>
    intro r hr
    have hcl : (nI (r * 8 + s)).toNatClampNeg = r * 8 + s := nI_clamp (by omega)
    have hin : vp_in (nI (r * 8 + s)) 64 := vp_in_nI (by omega) (by omega)
    have hn := ih (r + 1) (by omega)
    refine br_f (nI_ge (by omega) (by omega)) (nm_r (rw_ix r s) ?_)
    by_cases h1 : rq_st m r = st
    · by_cases h2 : v (r * 8 + s) = val
      · rw [rq_trT h1 h2] at hn
        refine br_t h1 ⟨hin, br_t (by rw [hcl]; exact h2) ⟨hin, nm_r (by rw [hcl]) (nm_r (nI_1 r) hn)⟩⟩
      · rw [rq_trF (fun k => h2 k.2)] at hn
        refine br_t h1 ⟨hin, br_f (by rw [hcl]; exact h2) (nm_r (nI_1 r) hn)⟩
    · rw [rq_trF (fun k => h1 k.1)] at hn
      exact br_f h1 (nm_r (nI_1 r) hn)
theorem rw_yt {post : Int32 → Prop} {t v : Nat → Int32} {s c : Nat} {m st val : Int32} (hs : s < 8) (hc : c ≤ 8) (hp : post (rq_tr t v s m st val c)) : wpY_trust post (nI c, v, t) m st (nI s) val :=
  ⟨c + 1, rw_yt_loop hs hc hp c 0 (by omega)⟩
theorem rw_xs {post : Int32 → Prop} {x y : Int32} (hp : post (rq_sm x y)) : wpX_smaller post x y := by
  unfold rq_sm at hp
  unfold wpX_smaller
  by_cases h : y ≤ x
  · rw [if_pos h] at hp; exact br_t h hp
  · rw [if_neg h] at hp; exact br_f h hp
theorem rw_ys {post : Int32 → Prop} {x y a : Int32} {v t : Nat → Int32} (hp : post (rq_sm x y)) : wpY_smaller post (a, v, t) x y := by
  unfold rq_sm at hp
  unfold wpY_smaller
  by_cases h : y ≤ x
  · rw [if_pos h] at hp; exact br_t h hp
  · rw [if_neg h] at hp; exact br_f h hp
theorem rw_8 {k : Nat} (h : k < 8) : ¬ (8 : Int32) ≤ nI k := nI_ge (b := 8) h (by decide)
theorem rw_xc_loop {post : Int32 → Prop} {t v : Nat → Int32} {c : Nat} {m fo : Int32} (hc : c ≤ 8) (hp : post (rq_co t v c m fo 8)) : ∀ d s, s + d = 8 → wX_cost_5 post m fo (nI c) t v (d + 1) (rq_co t v c m fo s) (nI s) := by
  intro d
  induction d with
  | zero =>
    intro s hs
    have e : s = 8 := by omega
    subst e
    exact br_t (nI_le (b := 8) (Nat.le_refl _) (by decide)) hp
  | succ d ih =>
    intro s hs
    have hn := ih (s + 1) (by omega)
    rw [rq_co] at hn
    unfold rq_at at hn
    refine br_f (rw_8 (by omega)) ?_
    refine rw_xt (by omega) hc ?_
    refine rw_xt (by omega) hc ?_
    refine rw_xt (by omega) hc ?_
    refine rw_xt (by omega) hc ?_
    by_cases f : fo = 0
    · rw [if_pos f] at hn
      refine br_t f ?_
      refine rw_xs ?_
      refine rw_xs ?_
      exact nm_e (nm_r (nI_1 s) hn)
    · rw [if_neg f] at hn
      refine br_f f ?_
      refine rw_xs ?_
      exact nm_e (nm_r (nI_1 s) hn)
theorem rw_xc {post : Int32 → Prop} {t v : Nat → Int32} {c : Nat} {m fo : Int32} (hc : c ≤ 8) (hp : post (rq_co t v c m fo 8)) : wpX_cost post (nI c, t, v) m fo :=
  ⟨9, rw_xc_loop hc hp 8 0 rfl⟩
theorem rw_yc_loop {post : Int32 → Prop} {t v : Nat → Int32} {c : Nat} {m fo : Int32} (hc : c ≤ 8) (hp : post (rq_co t v c m fo 8)) : ∀ d s, s + d = 8 → wY_cost_5 post m fo (nI c) v t (d + 1) (rq_co t v c m fo s) (nI s) := by
  intro d
  induction d with
  | zero =>
    intro s hs
    have e : s = 8 := by omega
    subst e
    exact br_t (nI_le (b := 8) (Nat.le_refl _) (by decide)) hp
  | succ d ih =>
    intro s hs
    have hn := ih (s + 1) (by omega)
    rw [rq_co] at hn
    unfold rq_at at hn
    refine br_f (rw_8 (by omega)) ?_
    refine rw_yt (by omega) hc ?_
    refine rw_yt (by omega) hc ?_
    refine rw_yt (by omega) hc ?_
    refine rw_yt (by omega) hc ?_
    by_cases f : fo = 0
    · rw [if_pos f] at hn
      refine br_t f ?_
      refine rw_ys ?_
      refine rw_ys ?_
      exact nm_e (nm_e (nm_r (nI_1 s) hn))
    · rw [if_neg f] at hn
      refine br_f f ?_
      refine rw_ys ?_
      exact nm_e (nm_r (nI_1 s) hn)
theorem rw_yc {post : Int32 → Prop} {t v : Nat → Int32} {c : Nat} {m fo : Int32} (hc : c ≤ 8) (hp : post (rq_co t v c m fo 8)) : wpY_cost post (nI c, v, t) m fo :=
  ⟨9, rw_yc_loop hc hp 8 0 rfl⟩
end
section
/-! the loops over masks; rq_S: a mask is even and below the bound E -/
def rq_S (E : Nat) (k : Nat) : Bool := decide (k % 2 = 0 ∧ k < E)
theorem rm_T {E k : Nat} (h : k % 2 = 0) (h2 : k < E) : rq_S E k = true := decide_eq_true ⟨h, h2⟩
theorem rm_F {E k : Nat} (h : ¬ (k % 2 = 0 ∧ k < E)) : rq_S E k = false := decide_eq_false h
theorem rm_top (E : Nat) : ∀ m, E ≤ m → rq_S E m = false := fun m hm => rm_F (by omega)
/-- isSorting on the other side -/
theorem rm_yiT {post : Int32 → Prop} {c k : Nat} {w t : Nat → Int32} (hc : c ≤ 8) (hk : k < 2 ^ 31) (h : rq_S (2 ^ c) k = true) (hp : post 1) : wpY_isSorting post (nI c, w, t) (nI k) := by
  have h2 := of_decide_eq_true h
  refine br_t ?_ (br_t ?_ hp)
  · rw [pk_andN (by omega) 1 (by decide), show k % 2 ^ 1 = 0 from h2.1]; rfl
  · rw [pk_shrN hk _ c (s_l c (by omega)), Nat.div_eq_of_lt h2.2]; rfl
theorem rm_yiF {post : Int32 → Prop} {c k : Nat} {w t : Nat → Int32} (hc : c ≤ 8) (hk : k < 2 ^ 31) (h : rq_S (2 ^ c) k = false) (hp : post 0) : wpY_isSorting post (nI c, w, t) (nI k) := by
  have h2 := of_decide_eq_false h
  by_cases z : k % 2 = 0
  · refine br_t ?_ (br_f ?_ hp)
    · rw [pk_andN (by omega) 1 (by decide), show k % 2 ^ 1 = 0 from z]; rfl
    · rw [pk_shrN hk _ c (s_l c (by omega)), ← nI_0]
      have hd : k / 2 ^ c ≤ k := Nat.div_le_self _ _
      rw [nI_eq (by omega) (by omega)]
      intro y
      have := (Nat.div_eq_zero_iff_lt (Nat.two_pow_pos c)).mp y
      exact h2 ⟨z, this⟩
  · refine br_f ?_ hp
    rw [pk_andN (by omega) 1 (by decide), ← nI_0, nI_eq (by omega) (by omega)]
    exact z
theorem rm_sm (a b : Nat) (ha : a < 2 ^ 31) (hb : b < 2 ^ 31) : rq_sm (nI a) (nI b) = nI (if b ≤ a then b else a) := by
  unfold rq_sm
  by_cases h : b ≤ a
  · rw [if_pos h, if_pos ((nI_leI hb ha).mpr h)]
  · rw [if_neg h, if_neg (fun z => h ((nI_leI hb ha).mp z))]
theorem rm_256 {k : Nat} (h : k < 256) : ¬ (256 : Int32) ≤ nI k := nI_ge (b := 256) h (by decide)
/-! what the loops of one state share: the cost of mask k is N k -/
def rm_H (t v : Nat → Int32) (c : Nat) (fo : Int32) (N : Nat → Nat) : Prop := (∀ k, rq_co t v c (nI k) fo 8 = nI (N k)) ∧ ∀ k, N k ≤ 1152
theorem rm_yb_loop {post : Int32 → Prop} {t w : Nat → Int32} {c : Nat} {fo : Int32} {N : Nat → Nat} (hc : c ≤ 8) (H : rm_H t w c fo N) (hp : post (nI (rq_mn (rq_S (2 ^ c)) N 256))) : ∀ d k, k + d = 256 → wY_best_5 post fo (nI c) w t (d + 1) (nI (rq_mn (rq_S (2 ^ c)) N k)) (nI k) := by
  intro d
  induction d with
  | zero =>
    intro k hk
    have e : k = 256 := by omega
    subst e
    exact br_t (nI_le (b := 256) (Nat.le_refl _) (by decide)) hp
  | succ d ih =>
    intro k hk
    have hn := ih (k + 1) (by omega)
    refine br_f (rm_256 (by omega)) ?_
    cases hs : rq_S (2 ^ c) k with
    | false =>
      rw [rq_mnF hs] at hn
      refine rm_yiF hc (by omega) hs ?_
      exact br_t rfl (nm_r (nI_1 k) hn)
    | true =>
      rw [rq_mnT hs] at hn
      refine rm_yiT hc (by omega) hs ?_
      refine br_f (by decide) ?_
      refine rw_yc hc ?_
      refine rw_ys ?_
      have hb := (rq_mnL (S := rq_S (2 ^ c)) (c := N) k).1
      have hb2 := H.2 k
      rw [H.1 k, rm_sm _ _ (by omega) (by omega)]
      exact nm_r (nI_1 k) hn
theorem rm_yb {post : Int32 → Prop} {t w : Nat → Int32} {c : Nat} {fo : Int32} {N : Nat → Nat} (hc : c ≤ 8) (H : rm_H t w c fo N) (hp : post (nI (rq_mn (rq_S (2 ^ c)) N 256))) : wpY_best post (nI c, w, t) fo :=
  ⟨257, rm_yb_loop hc H hp 256 0 rfl⟩
/-- two steps at once -/
theorem rm_2 {E k : Nat} {N : Nat → Nat} (h : k % 2 = 0) (h2 : k < E) : rq_mn (rq_S E) N (k + 2) = if N k ≤ rq_mn (rq_S E) N k then N k else rq_mn (rq_S E) N k := by
  rw [show k + 2 = (k + 1) + 1 from rfl, rq_mnF (rm_F (by omega)), rq_mnT (rm_T h h2)]
theorem rm_st {E : Nat} {N : Nat → Nat} (hE : 1 ≤ E) (hN : ∀ k, N k ≤ 1152) : rq_mn (rq_S E) N 2 = N 0 := by
  have h : rq_mn (rq_S E) N 0 = 100000 := rfl
  have := hN 0
  rw [show (2 : Nat) = 0 + 2 from rfl, rm_2 (by omega) (by omega), h, if_pos (by omega)]
theorem rm_n2 (k : Nat) : nI k + 2 = nI (k + 2) := nI_add k 2
theorem rm_xl_loop {post : Int32 → Prop} {t v : Nat → Int32} {c E : Nat} {fo : Int32} {N : Nat → Nat} (hc : c ≤ 8) (hE : E ≤ 256) (H : rm_H t v c fo N) (hp : post (nI (rq_mn (rq_S E) N 256))) : ∀ d k, k % 2 = 0 → E ≤ k + 2 * d → k ≤ 300 → wX_leastCost_17 post fo (nI E) (nI c) t v (d + 1) (nI (rq_mn (rq_S E) N k)) (nI k) := by
  intro d
  have hx : ∀ d k, E ≤ k → k ≤ 300 → wX_leastCost_17 post fo (nI E) (nI c) t v (d + 1) (nI (rq_mn (rq_S E) N k)) (nI k) := by
    intro d k h h3
    rw [rq_mnX (rm_top E) h hE]
    exact br_t (nI_le h (by omega)) hp
  induction d with
  | zero => exact fun k _ h h3 => hx 0 k (by omega) h3
  | succ d ih =>
    intro k h2 h h3
    rcases Nat.lt_or_ge k E with z | z
    · have hn := ih (k + 2) (by omega) (by omega) (by omega)
      rw [rm_2 h2 z] at hn
      have hb := (rq_mnL (S := rq_S E) (c := N) k).1
      have hb2 := H.2 k
      refine br_f (nI_ge z (by omega)) ?_
      refine rw_xc hc ?_
      rw [H.1 k]
      refine pk_le _ _ (fun y => ?_) (fun y => ?_) rfl rfl
      · have e : (if N k ≤ rq_mn (rq_S E) N k then N k else rq_mn (rq_S E) N k) = rq_mn (rq_S E) N k := by split <;> omega
        rw [e] at hn
        exact nm_r (rm_n2 k) hn
      · rw [if_pos (by omega)] at hn
        exact nm_r (rm_n2 k) hn
    · exact hx (d + 1) k z h3
theorem rm_xl {post : Int32 → Prop} {t v : Nat → Int32} {c : Nat} {fo : Int32} {N : Nat → Nat} (hc : c ≤ 8) (H : rm_H t v c fo N) (hp : post (nI (rq_mn (rq_S (2 ^ c)) N 256))) : wpX_leastCost post (nI c, t, v) fo := by
  have hE := rb_p c (by omega)
  unfold wpX_leastCost
  dsimp only
  refine rw_xc hc ?_
  refine nm_r (rb_sh c (by omega)) ?_
  have h := rm_xl_loop hc hE.2 H hp 128 2 (by omega) (by omega) (by omega)
  rw [rm_st hE.1 H.2, ← H.1 0] at h
  exact ⟨_, h⟩
/-! the first place of the least -/
theorem rm_f2 {E k : Nat} {N : Nat → Nat} : k % 2 = 0 → rq_fi (rq_S E) N (k + 2) = rq_fi (rq_S E) N (k + 1) := by
  intro h
  rw [show k + 2 = (k + 1) + 1 from rfl, rq_fiF0 (rm_F (by omega))]
theorem rm_fst {E : Nat} {N : Nat → Nat} : rq_fi (rq_S E) N 2 = 0 := by
  rw [show (2 : Nat) = 0 + 2 from rfl, rm_f2 (by omega), rq_fi]
  split <;> rfl
theorem rm_xf_loop {post : Int32 → Prop} {t v : Nat → Int32} {c E : Nat} {fo : Int32} {N : Nat → Nat} (hc : c ≤ 8) (hE : E ≤ 256) (H : rm_H t v c fo N) (hp : post (nI (rq_fi (rq_S E) N 256))) : ∀ d k, k % 2 = 0 → E ≤ k + 2 * d → k ≤ 300 → wX_smallestBestMask_20 post fo (nI E) (nI c) t v (d + 1) (nI (rq_mn (rq_S E) N k)) (nI (rq_fi (rq_S E) N k)) (nI k) := by
  intro d
  have hx : ∀ d k, E ≤ k → k ≤ 300 → wX_smallestBestMask_20 post fo (nI E) (nI c) t v (d + 1) (nI (rq_mn (rq_S E) N k)) (nI (rq_fi (rq_S E) N k)) (nI k) := by
    intro d k h h3
    rw [rq_fiX (rm_top E) h hE]
    exact br_t (nI_le h (by omega)) hp
  induction d with
  | zero => exact fun k _ h h3 => hx 0 k (by omega) h3
  | succ d ih =>
    intro k h2 h h3
    rcases Nat.lt_or_ge k E with z | z
    · have hn := ih (k + 2) (by omega) (by omega) (by omega)
      rw [rm_2 h2 z, rm_f2 h2] at hn
      have hb := (rq_mnL (S := rq_S E) (c := N) k).1
      have hb2 := H.2 k
      refine br_f (nI_ge z (by omega)) ?_
      refine rw_xc hc ?_
      rw [H.1 k]
      refine pk_le _ _ (fun y => ?_) (fun y => ?_) rfl rfl
      · have e : (if N k ≤ rq_mn (rq_S E) N k then N k else rq_mn (rq_S E) N k) = rq_mn (rq_S E) N k := by split <;> omega
        rw [e, rq_fiF (fun q => by omega)] at hn
        exact nm_r (rm_n2 k) hn
      · rw [if_pos (by omega), rq_fiT (rm_T h2 z) y] at hn
        exact nm_r (rm_n2 k) hn
    · exact hx (d + 1) k z h3
theorem rm_xf {post : Int32 → Prop} {t v : Nat → Int32} {c : Nat} {fo : Int32} {N : Nat → Nat} (hc : c ≤ 8) (H : rm_H t v c fo N) (hp : post (nI (rq_fi (rq_S (2 ^ c)) N 256))) : wpX_smallestBestMask post (nI c, t, v) fo := by
  have hE := rb_p c (by omega)
  unfold wpX_smallestBestMask
  dsimp only
  refine rw_xc hc ?_
  refine nm_r (rb_sh c (by omega)) ?_
  have h := rm_xf_loop hc hE.2 H hp 128 2 (by omega) (by omega) (by omega)
  rw [rm_st hE.1 H.2, ← H.1 0, rm_fst] at h
  exact ⟨_, h⟩
theorem rm_yf_loop {post : Int32 → Prop} {t w : Nat → Int32} {c b f : Nat} {fo : Int32} {N : Nat → Nat} (hc : c ≤ 8) (H : rm_H t w c fo N) (hb : b ≤ 100000) (hf : f < 256) (hS : rq_S (2 ^ c) f = true) (hN : N f = b) (hl : ∀ j, j < f → rq_S (2 ^ c) j = true → b < N j) (hp : post (nI f)) : ∀ d k, k + d = f → wY_first_8 post fo (nI b) (nI c) w t (d + 1) (nI k) := by
  intro d
  induction d with
  | zero =>
    intro k hk
    have e : k = f := by omega
    subst e
    refine br_f (rm_256 (by omega)) ?_
    refine rm_yiT hc (by omega) hS ?_
    refine br_f (by decide) ?_
    refine rw_yc hc ?_
    rw [H.1 k]
    exact br_t (by rw [hN]) hp
  | succ d ih =>
    intro k hk
    have hn := ih (k + 1) (by omega)
    refine br_f (rm_256 (by omega)) ?_
    cases hs : rq_S (2 ^ c) k with
    | false =>
      refine rm_yiF hc (by omega) hs ?_
      exact br_t rfl (nm_r (nI_1 k) hn)
    | true =>
      have hk2 := hl k (by omega) hs
      have hb2 := H.2 k
      refine rm_yiT hc (by omega) hs ?_
      refine br_f (by decide) ?_
      refine rw_yc hc ?_
      rw [H.1 k]
      exact br_f (fun z => by rw [nI_eq (by omega) (by omega)] at z; omega) (nm_r (nI_1 k) hn)
theorem rm_yf {post : Int32 → Prop} {t w : Nat → Int32} {c : Nat} {fo : Int32} {N : Nat → Nat} (hc : c ≤ 8) (H : rm_H t w c fo N) (hp : post (nI (rq_fi (rq_S (2 ^ c)) N 256))) : wpY_first post (nI c, w, t) fo := by
  have hE := rb_p c (by omega)
  unfold wpY_first
  dsimp only
  refine rm_yb hc H ?_
  have hlt : ∀ m, N m < 100000 := fun m => by have := H.2 m; omega
  rcases rq_fiA (S := rq_S (2 ^ c)) hlt 256 with ⟨_, h2⟩ | ⟨h1, h2, h3, h4⟩
  · have z := h2 0 (by omega)
    rw [rm_T (by omega) (by omega)] at z
    exact absurd z (by decide)
  · exact ⟨_, rm_yf_loop hc H (rq_mnL 256).1 h1 h2 h3 h4 hp _ 0 (Nat.zero_add _)⟩
/-! ties -/
theorem rm_xk_loop {post : Int32 → Prop} {t v : Nat → Int32} {c E b : Nat} {N : Nat → Nat} (hc : c ≤ 8) (hE : E ≤ 256) (H : rm_H t v c 0 N) (hb : b ≤ 100000) (hp : post (nI (rq_cn (rq_S E) N b 256))) : ∀ d k, k % 2 = 0 → E ≤ k + 2 * d → k ≤ 300 → wX_ties_18 post (nI b) (nI E) (nI c) t v (d + 1) (nI (rq_cn (rq_S E) N b k)) (nI k) := by
  intro d
  have hx : ∀ d k, E ≤ k → k ≤ 300 → wX_ties_18 post (nI b) (nI E) (nI c) t v (d + 1) (nI (rq_cn (rq_S E) N b k)) (nI k) := by
    intro d k h h3
    rw [rq_cnX (rm_top E) h hE]
    exact br_t (nI_le h (by omega)) hp
  induction d with
  | zero => exact fun k _ h h3 => hx 0 k (by omega) h3
  | succ d ih =>
    intro k h2 h h3
    rcases Nat.lt_or_ge k E with z | z
    · have hn := ih (k + 2) (by omega) (by omega) (by omega)
      rw [show k + 2 = (k + 1) + 1 from rfl, rq_cnF0 (rm_F (by omega))] at hn
      have hb2 := H.2 k
      refine br_f (nI_ge z (by omega)) ?_
      refine rw_xc hc ?_
      rw [H.1 k]
      refine pk_eq _ _ (fun y => ?_) (fun y => ?_) rfl rfl
      · rw [rq_cnT (rm_T h2 z) y] at hn
        exact nm_r (nI_1 _) (nm_r (rm_n2 k) hn)
      · rw [rq_cnF (fun q => y q.2)] at hn
        exact nm_r (rm_n2 k) hn
    · exact hx (d + 1) k z h3
theorem rm_yk_loop {post : Int32 → Prop} {t w : Nat → Int32} {c b : Nat} {N : Nat → Nat} (hc : c ≤ 8) (H : rm_H t w c 0 N) (hb : b ≤ 100000) (hp : post (nI (rq_cn (rq_S (2 ^ c)) N b 256))) : ∀ d k, k + d = 256 → wY_ties_10 post (nI b) (nI c) w t (d + 1) (nI (rq_cn (rq_S (2 ^ c)) N b k)) (nI k) := by
  intro d
  induction d with
  | zero =>
    intro k hk
    have e : k = 256 := by omega
    subst e
    exact br_t (nI_le (b := 256) (Nat.le_refl _) (by decide)) hp
  | succ d ih =>
    intro k hk
    have hn := ih (k + 1) (by omega)
    refine br_f (rm_256 (by omega)) ?_
    cases hs : rq_S (2 ^ c) k with
    | false =>
      rw [rq_cnF0 hs] at hn
      refine rm_yiF hc (by omega) hs ?_
      exact br_t rfl (nm_r (nI_1 k) hn)
    | true =>
      have hb2 := H.2 k
      refine rm_yiT hc (by omega) hs ?_
      refine br_f (by decide) ?_
      refine rw_yc hc ?_
      rw [H.1 k]
      refine pk_eq _ _ (fun y => ?_) (fun y => ?_) rfl rfl
      · rw [rq_cnT hs y] at hn
        exact nm_r (nI_1 _) (nm_r (nI_1 k) hn)
      · rw [rq_cnF (fun q => y q.2)] at hn
        exact nm_r (nI_1 k) hn
theorem rm_xk {post : Int32 → Prop} {t v : Nat → Int32} {c : Nat} {N : Nat → Nat} (hc : c ≤ 8) (H : rm_H t v c 0 N) (hp : post (nI (rq_cn (rq_S (2 ^ c)) N (rq_mn (rq_S (2 ^ c)) N 256) 256))) : wpX_ties post (nI c, t, v) := by
  have hE := rb_p c (by omega)
  unfold wpX_ties
  dsimp only
  refine rm_xl hc H ?_
  refine nm_r (rb_sh c (by omega)) ?_
  exact ⟨_, rm_xk_loop hc hE.2 H (rq_mnL 256).1 hp 128 0 (by omega) (by omega) (by omega)⟩
theorem rm_yk {post : Int32 → Prop} {t w : Nat → Int32} {c : Nat} {N : Nat → Nat} (hc : c ≤ 8) (H : rm_H t w c 0 N) (hp : post (nI (rq_cn (rq_S (2 ^ c)) N (rq_mn (rq_S (2 ^ c)) N 256) 256))) : wpY_ties post (nI c, w, t) := by
  unfold wpY_ties
  dsimp only
  refine rm_yb hc H ?_
  exact ⟨_, rm_yk_loop hc H (rq_mnL 256).1 hp 256 0 rfl⟩
end
section
/-! leastWith: the masks that fit two reads' strands -/
theorem rl_xr1 {post : Int32 → Prop} {c a : Nat} {t v : Nat → Int32} (hc : c ≤ 8) (ha : a < c) (hp : post 1) : wpX_isRead post (nI c, t, v) (nI a) :=
  br_f (nI_pos (by omega)) (br_f (nI_ge ha (by omega)) hp)
theorem rl_xr0 {post : Int32 → Prop} {c : Nat} {x : Int32} {t v : Nat → Int32} (h : x < 0 ∨ nI c ≤ x) (hp : post 0) : wpX_isRead post (nI c, t, v) x := by
  unfold wpX_isRead
  by_cases z : x < 0
  · exact br_t z hp
  · exact br_f z (br_t (h.resolve_left z) hp)
theorem rl_yb0 {post : Int32 → Prop} {c a : Nat} {t w : Nat → Int32} (hc : c ≤ 8) (ha : a < c) (hp : post 0) : wpY_bad post (nI c, w, t) (nI a) :=
  br_f (nI_pos (by omega)) (br_t (nI_lt ha (by omega)) hp)
theorem rl_yb1 {post : Int32 → Prop} {c : Nat} {x : Int32} {t w : Nat → Int32} (h : x < 0 ∨ nI c ≤ x) (hp : post 1) : wpY_bad post (nI c, w, t) x := by
  unfold wpY_bad
  by_cases z : x < 0
  · exact br_t z hp
  · exact br_f z (br_f (Int32.not_lt.mpr (h.resolve_left z)) hp)
def rq_D (a b k : Nat) : Int32 := if rq_st (nI k) a = rq_st (nI k) b then 0 else 1
def rq_S2 (E a b : Nat) (p : Int32) (k : Nat) : Bool := decide (k % 2 = 0 ∧ k < E ∧ rq_D a b k = p)
def rq_be (q : Nat) : Int32 := if q = 100000 then -1 else nI q
theorem rl_top (E a b : Nat) (p : Int32) : ∀ m, E ≤ m → rq_S2 E a b p m = false := fun m hm => decide_eq_false (fun z => by omega)
theorem rl_odd {E a b : Nat} {p : Int32} {k : Nat} (h : k % 2 = 0) : rq_S2 E a b p (k + 1) = false := decide_eq_false (fun z => by omega)
theorem rl_m1 {q : Nat} (h : q < 2 ^ 31) : ¬ nI q = -1 := by
  intro z
  have e := congrArg Int32.toInt z
  rw [nI_toInt h] at e
  have e2 : (-1 : Int32).toInt = -1 := by decide
  rw [e2] at e
  omega
theorem rl_x59T {post : Int32 → Prop} {J : Int32 → Int32 → Prop} {x1 x2 x5 p z0 : Int32} {t v : Nat → Int32} {c q k : Nat} {N : Nat → Nat} (hc : c ≤ 8) (H : rm_H t v c 0 N) (hq : q ≤ 100000) (hz : z0 = p) (hJ : J (rq_be (if N k ≤ q then N k else q)) (nI (k + 2))) : wX_leastWith_59 post J x1 x2 p (rq_be q) x5 (nI k) z0 (nI c) t v := by
  have hb := H.2 k
  unfold wX_leastWith_59
  refine br_t hz ?_
  refine rw_xc hc ?_
  rw [H.1 k]
  have hk : rq_be (N k) = nI (N k) := by unfold rq_be; rw [if_neg (by omega)]
  by_cases e : q = 100000
  · subst e
    rw [if_pos (by omega), hk] at hJ
    exact br_t rfl (nm_r (rm_n2 k) hJ)
  · have hqe : rq_be q = nI q := by unfold rq_be; rw [if_neg e]
    rw [hqe]
    refine br_f (rl_m1 (by omega)) ?_
    refine pk_le _ _ (fun y => ?_) (fun y => ?_) rfl rfl
    · have e2 : (if N k ≤ q then N k else q) = q := by split <;> omega
      rw [e2, hqe] at hJ
      exact nm_r (rm_n2 k) hJ
    · rw [if_pos (by omega), hk] at hJ
      exact nm_r (rm_n2 k) hJ
theorem rl_x59 {post : Int32 → Prop} {J : Int32 → Int32 → Prop} {x1 x2 x5 p z0 : Int32} {t v : Nat → Int32} {c E a b k : Nat} {N : Nat → Nat} (hc : c ≤ 8) (H : rm_H t v c 0 N) (h2 : k % 2 = 0) (hk : k < E) (hz : z0 = rq_D a b k) (hJ : J (rq_be (rq_mn (rq_S2 E a b p) N (k + 2))) (nI (k + 2))) : wX_leastWith_59 post J x1 x2 p (rq_be (rq_mn (rq_S2 E a b p) N k)) x5 (nI k) z0 (nI c) t v := by
  rw [show k + 2 = (k + 1) + 1 from rfl, rq_mnF (rl_odd h2)] at hJ
  by_cases e : z0 = p
  · rw [rq_mnT (decide_eq_true ⟨h2, hk, hz ▸ e⟩)] at hJ
    exact rl_x59T hc H (rq_mnL k).1 e hJ
  · rw [rq_mnF (decide_eq_false (fun z => e (hz.trans z.2.2)))] at hJ
    exact br_f e (nm_r (rm_n2 k) hJ)
theorem rl_x_loop {post : Int32 → Prop} {t v : Nat → Int32} {c E a b : Nat} {p : Int32} {N : Nat → Nat} (hc : c ≤ 8) (hE : E ≤ 256) (H : rm_H t v c 0 N) (hp : post (rq_be (rq_mn (rq_S2 E a b p) N 256))) : ∀ d k, k % 2 = 0 → E ≤ k + 2 * d → k ≤ 300 → wX_leastWith_32 post (nI a) (nI b) p (nI E) (nI c) t v (d + 1) (rq_be (rq_mn (rq_S2 E a b p) N k)) (nI k) := by
  intro d
  have hx : ∀ d k, E ≤ k → k ≤ 300 → wX_leastWith_32 post (nI a) (nI b) p (nI E) (nI c) t v (d + 1) (rq_be (rq_mn (rq_S2 E a b p) N k)) (nI k) := by
    intro d k h h3
    rw [rq_mnX (rl_top E a b p) h hE]
    exact br_t (nI_le h (by omega)) hp
  induction d with
  | zero => exact fun k _ h h3 => hx 0 k (by omega) h3
  | succ d ih =>
    intro k h2 h h3
    rcases Nat.lt_or_ge k E with z | z
    · have hn := ih (k + 2) (by omega) (by omega) (by omega)
      refine br_f (nI_ge z (by omega)) ?_
      by_cases e : rq_st (nI k) a = rq_st (nI k) b
      · refine br_t e ?_
        exact rl_x59 hc H h2 z (by unfold rq_D; rw [if_pos e]) hn
      · refine br_f e ?_
        exact rl_x59 hc H h2 z (by unfold rq_D; rw [if_neg e]) hn
    · exact hx (d + 1) k z h3
theorem rl_y62 {post : Int32 → Prop} {J : Int32 → Int32 → Prop} {x1 x2 p z0 : Int32} {t w : Nat → Int32} {c a b k : Nat} {N : Nat → Nat} (hc : c ≤ 8) (H : rm_H t w c 0 N) (hk : k < 256) (hz : z0 = rq_D a b k) (hJ : J (nI (rq_mn (rq_S2 (2 ^ c) a b p) N (k + 1))) (nI (k + 1))) : wY_leastWith_62 post J x1 x2 p (nI (rq_mn (rq_S2 (2 ^ c) a b p) N k)) (nI k) z0 (nI c) w t := by
  unfold wY_leastWith_62
  cases hs : rq_S (2 ^ c) k with
  | false =>
    refine rm_yiF hc (by omega) hs ?_
    have h2 := of_decide_eq_false hs
    rw [rq_mnF (decide_eq_false (fun y => h2 ⟨y.1, y.2.1⟩))] at hJ
    exact br_t rfl (nm_r (nI_1 k) hJ)
  | true =>
    have h2 := of_decide_eq_true hs
    refine rm_yiT hc (by omega) hs ?_
    refine br_f (by decide) ?_
    by_cases e : z0 = p
    · rw [rq_mnT (decide_eq_true ⟨h2.1, h2.2, hz ▸ e⟩)] at hJ
      have hb := (rq_mnL (S := rq_S2 (2 ^ c) a b p) (c := N) k).1
      have hb2 := H.2 k
      refine br_t e ?_
      refine rw_yc hc ?_
      refine rw_ys ?_
      rw [H.1 k, rm_sm _ _ (by omega) (by omega)]
      exact nm_r (nI_1 k) hJ
    · rw [rq_mnF (decide_eq_false (fun y => e (hz.trans y.2.2)))] at hJ
      exact br_f e (nm_r (nI_1 k) hJ)
theorem rl_y_loop {post : Int32 → Prop} {t w : Nat → Int32} {c a b : Nat} {p : Int32} {N : Nat → Nat} (hc : c ≤ 8) (H : rm_H t w c 0 N) (hp : post (nI (rq_mn (rq_S2 (2 ^ c) a b p) N 256))) : ∀ d k, k + d = 256 → wY_leastWith_34 post (nI a) (nI b) p (nI c) w t (d + 1) (nI (rq_mn (rq_S2 (2 ^ c) a b p) N k)) (nI k) := by
  intro d
  induction d with
  | zero =>
    intro k hk
    have e : k = 256 := by omega
    subst e
    exact br_t (nI_le (b := 256) (Nat.le_refl _) (by decide)) hp
  | succ d ih =>
    intro k hk
    have hn := ih (k + 1) (by omega)
    refine br_f (rm_256 (by omega)) ?_
    by_cases e : rq_st (nI k) a = rq_st (nI k) b
    · refine br_t e ?_
      exact rl_y62 hc H (by omega) (by unfold rq_D; rw [if_pos e]) hn
    · refine br_f e ?_
      exact rl_y62 hc H (by omega) (by unfold rq_D; rw [if_neg e]) hn
theorem rl_x {post : Int32 → Prop} {t v : Nat → Int32} {c a b : Nat} {p : Int32} {N : Nat → Nat} (hc : c ≤ 8) (ha : a < c) (hb : b < c) (H : rm_H t v c 0 N) (hp : post (rq_be (rq_mn (rq_S2 (2 ^ c) a b p) N 256))) : wpX_leastWith post (nI c, t, v) (nI a) (nI b) p := by
  have hE := rb_p c (by omega)
  unfold wpX_leastWith
  dsimp only
  refine rl_xr1 hc ha ?_
  refine br_f (by decide) ?_
  refine rl_xr1 hc hb ?_
  refine br_f (by decide) ?_
  refine nm_r (rb_sh c (by omega)) ?_
  exact ⟨_, rl_x_loop hc hE.2 H hp 128 0 (by omega) (by omega) (by omega)⟩
/-- a mask fits, unless a read is to be apart from itself -/
theorem rl_ex {c a b : Nat} {p : Int32} (hc : c ≤ 8) (ha : a < c) (hb : b < c) (hp : p = 0 ∨ p = 1) (h : p = 0 ∨ a ≠ b) : ∃ k, k < 256 ∧ rq_S2 (2 ^ c) a b p k = true := by
  have hE := rb_p c (by omega)
  by_cases z : p = 0
  · refine ⟨0, by omega, decide_eq_true ⟨rfl, by omega, ?_⟩⟩
    unfold rq_D
    rw [if_pos (by rw [rb_z a (by omega), rb_z b (by omega)]), z]
  · have hab := h.resolve_left z
    obtain ⟨h1, h2⟩ := rb_ap a (by omega) b (by omega) hab
    have h3 := rb_lt c (by omega) (max a b) (by omega)
    refine ⟨2 ^ (max a b), by omega, decide_eq_true ⟨h1, h3, ?_⟩⟩
    unfold rq_D
    rw [if_neg h2, hp.resolve_left z]
theorem rl_y {post : Int32 → Prop} {t w : Nat → Int32} {c a b : Nat} {p : Int32} {N : Nat → Nat} (hc : c ≤ 8) (ha : a < c) (hb : b < c) (hp01 : p = 0 ∨ p = 1) (H : rm_H t w c 0 N) (hp : post (rq_be (rq_mn (rq_S2 (2 ^ c) a b p) N 256))) : wpY_leastWith post (nI c, w, t) (nI a) (nI b) p := by
  have hl : p = 0 ∨ a ≠ b → ∃ n, wY_leastWith_34 post (nI a) (nI b) p (nI c) w t n 100000 0 := by
    intro h
    obtain ⟨k, hk, hs⟩ := rl_ex hc ha hb hp01 h
    have h1 := (rq_mnL (S := rq_S2 (2 ^ c) a b p) (c := N) 256).2 k hk hs
    have h2 := H.2 k
    have e : rq_be (rq_mn (rq_S2 (2 ^ c) a b p) N 256) = nI (rq_mn (rq_S2 (2 ^ c) a b p) N 256) := by
      unfold rq_be
      rw [if_neg (by omega)]
    rw [e] at hp
    exact ⟨257, rl_y_loop hc H hp 256 0 rfl⟩
  unfold wpY_leastWith
  dsimp only
  refine rl_yb0 hc ha ?_
  refine br_t rfl ?_
  refine rl_yb0 hc hb ?_
  refine br_t rfl ?_
  refine pk_eq a b (fun y => ?_) (fun y => hl (Or.inr y)) rfl rfl
  refine br_c (fun z => hl (Or.inl z)) (fun z => ?_)
  have e : rq_mn (rq_S2 (2 ^ c) a b p) N 256 = 100000 := by
    refine rq_mn0 256 (fun m _ => decide_eq_false (fun q => z ?_))
    rw [← q.2.2]
    unfold rq_D
    rw [if_pos (by rw [y])]
  rw [e] at hp
  exact hp
end
section
/-! a new read, a stretch, a cover -/
theorem rs_okU {t : Nat → Int32} {j q : Nat} (h : rq_ok t) (hq : q ≤ 9) : rq_ok (upd t j (nI q)) := by
  intro i hi
  by_cases e : i = j
  · subst e; exact ⟨q, hq, pk_us⟩
  · rw [pk_un e]; exact h i hi
theorem rs_agU {t v w : Nat → Int32} {j : Nat} {q x : Int32} (h : rq_ag t v w) : rq_ag (upd t j q) (upd v j x) (upd w j x) := by
  intro i hi
  by_cases e : i = j
  · subst e; exact Or.inr (pk_us.trans pk_us.symm)
  · rw [pk_un e, pk_un e, pk_un e]; exact h i hi
theorem rs_ag0 {t v w : Nat → Int32} {j : Nat} {x : Int32} (h : rq_ag t v w) : rq_ag (upd t j 0) (upd v j x) w := by
  intro i hi
  by_cases e : i = j
  · subst e; rw [pk_us]; exact Or.inl rfl
  · rw [pk_un e, pk_un e]; exact h i hi
def rq_cl (f : Nat → Int32) (c : Nat) : Nat → Nat → Int32
  | 0 => f
  | s + 1 => upd (rq_cl f c s) (c * 8 + s) 0
theorem rs_clOk {t : Nat → Int32} {c : Nat} (h : rq_ok t) : ∀ s, rq_ok (rq_cl t c s) := by
  intro s
  induction s with
  | zero => exact h
  | succ s ih => exact rs_okU (q := 0) ih (by omega)
theorem rs_clAg {t v w : Nat → Int32} {c : Nat} (h : rq_ag t v w) : ∀ s, rq_ag (rq_cl t c s) (rq_cl v c s) w := by
  intro s
  induction s with
  | zero => exact h
  | succ s ih => exact rs_ag0 ih
theorem rs_xa_loop {post : Int32 → SX → Prop} {t v : Nat → Int32} {c : Nat} (hc : c < 8) (hp : post (nI c) (nI (c + 1), rq_cl t c 8, rq_cl v c 8)) : ∀ d s, s + d = 8 → wX_addSilentRead_7 post (nI c) (nI c) (d + 1) (nI s) (rq_cl t c s) (rq_cl v c s) := by
  intro d
  induction d with
  | zero =>
    intro s hs
    have e : s = 8 := by omega
    subst e
    exact br_t (nI_le (b := 8) (Nat.le_refl _) (by decide)) (nm_r (nI_1 c) hp)
  | succ d ih =>
    intro s hs
    have hn := ih (s + 1) (by omega)
    have hcl : (nI c * 8 + nI s).toNatClampNeg = c * 8 + s := by rw [rw_ix]; exact nI_clamp (by omega)
    have hin : vp_in (nI c * 8 + nI s) 64 := by rw [rw_ix]; exact vp_in_nI (by omega) (by omega)
    exact br_f (rw_8 (by omega)) ⟨hin, nm_r (by rw [hcl]; rfl) ⟨hin, nm_r (by rw [hcl]; rfl) (nm_r (nI_1 s) hn)⟩⟩
theorem rs_xa {post : Int32 → SX → Prop} {t v : Nat → Int32} {c : Nat} (hc : c < 8) (hp : post (nI c) (nI (c + 1), rq_cl t c 8, rq_cl v c 8)) : wpX_addSilentRead post (nI c, t, v) :=
  ⟨9, rs_xa_loop hc hp 8 0 rfl⟩
theorem rs_yr_loop {post : Int32 → SY → Prop} {t w : Nat → Int32} {c : Nat} (hc : c < 8) (hp : post (nI c) (nI (c + 1), w, rq_cl t c 8)) : ∀ d s, s + d = 8 → wY_read_14 post (nI c) (d + 1) (nI s) w (rq_cl t c s) := by
  intro d
  induction d with
  | zero =>
    intro s hs
    have e : s = 8 := by omega
    subst e
    exact br_t (nI_le (b := 8) (Nat.le_refl _) (by decide)) (nm_r (nI_1 c) (by rw [nI_pred]; exact hp))
  | succ d ih =>
    intro s hs
    have hn := ih (s + 1) (by omega)
    have hcl : (nI c * 8 + nI s).toNatClampNeg = c * 8 + s := by rw [rw_ix]; exact nI_clamp (by omega)
    have hin : vp_in (nI c * 8 + nI s) 64 := by rw [rw_ix]; exact vp_in_nI (by omega) (by omega)
    exact br_f (rw_8 (by omega)) ⟨hin, nm_r (by rw [hcl]; rfl) (nm_r (nI_1 s) hn)⟩
theorem rs_yr {post : Int32 → SY → Prop} {t w : Nat → Int32} {c : Nat} (hc : c < 8) (hp : post (nI c) (nI (c + 1), w, rq_cl t c 8)) : wpY_read post (nI c, w, t) := by
  refine br_f (fun z => ?_) ⟨9, rs_yr_loop hc hp 8 0 rfl⟩
  have := (nI_eq (a := c) (b := 8) (by omega) (by omega)).mp z
  omega
theorem rs_yr8 {post : Int32 → SY → Prop} {t w : Nat → Int32} (hp : post (-4) (nI 8, w, t)) : wpY_read post (nI 8, w, t) := br_t rfl hp
/-! a stretch's writes -/
def rq_wv (f : Nat → Int32) (base : Nat) (bits : Int32) : Nat → Nat → Int32
  | 0 => f
  | i + 1 => upd (rq_wv f base bits i) (base + i) ((bits >>> (nI i &&& 31)) &&& 1)
def rq_wt (f : Nat → Int32) (base : Nat) (q : Int32) : Nat → Nat → Int32
  | 0 => f
  | i + 1 => upd (rq_wt f base q i) (base + i) q
theorem rs_wOk {t : Nat → Int32} {base q : Nat} (h : rq_ok t) (hq : q ≤ 9) : ∀ i, rq_ok (rq_wt t base (nI q) i) := by
  intro i
  induction i with
  | zero => exact h
  | succ i ih => exact rs_okU ih hq
theorem rs_wAg {t v w : Nat → Int32} {base : Nat} {bits q : Int32} (h : rq_ag t v w) : ∀ i, rq_ag (rq_wt t base q i) (rq_wv v base bits i) (rq_wv w base bits i) := by
  intro i
  induction i with
  | zero => exact h
  | succ i ih => exact rs_agU ih
theorem rs_xs_loop {post : Int32 → SX → Prop} {t v : Nat → Int32} {base n : Nat} {bits q x6 fr : Int32} (hb : base + n ≤ 64) (hp : post x6 (fr, rq_wt t base q n, rq_wv v base bits n)) : ∀ d i, i + d = n → wX_stretch_78 post bits q (nI n) x6 (nI base) fr (d + 1) (nI i) (rq_wt t base q i) (rq_wv v base bits i) := by
  intro d
  induction d with
  | zero =>
    intro i hi
    have e : i = n := by omega
    subst e
    exact br_t (nI_le (Nat.le_refl _) (by omega)) hp
  | succ d ih =>
    intro i hi
    have hn := ih (i + 1) (by omega)
    have hcl : (nI base + nI i).toNatClampNeg = base + i := by rw [nI_add]; exact nI_clamp (by omega)
    have hin : vp_in (nI base + nI i) 64 := by rw [nI_add]; exact vp_in_nI (by omega) (by omega)
    exact br_f (nI_ge (by omega) (by omega)) ⟨hin, nm_r (by rw [hcl]; rfl) ⟨hin, nm_r (by rw [hcl]; rfl) (nm_r (nI_1 i) hn)⟩⟩
theorem rs_ys_loop {post : Int32 → SY → Prop} {t w : Nat → Int32} {c fi n : Nat} {bits q fr : Int32} (hc : c < 8) (hb : fi + n ≤ 8) (hp : post (nI c) (fr, rq_wv w (c * 8 + fi) bits n, rq_wt t (c * 8 + fi) q n)) : ∀ d i, i + d = n → wY_stretch_63 post bits q (nI fi) (nI n) (nI c) fr (d + 1) (nI i) (rq_wv w (c * 8 + fi) bits i) (rq_wt t (c * 8 + fi) q i) := by
  intro d
  induction d with
  | zero =>
    intro i hi
    have e : i = n := by omega
    subst e
    exact br_t (nI_le (Nat.le_refl _) (by omega)) hp
  | succ d ih =>
    intro i hi
    have hn := ih (i + 1) (by omega)
    have hcl : ((nI c * 8 + nI fi) + nI i).toNatClampNeg = c * 8 + fi + i := by rw [rw_ix, nI_add]; exact nI_clamp (by omega)
    have hin : vp_in ((nI c * 8 + nI fi) + nI i) 64 := by rw [rw_ix, nI_add]; exact vp_in_nI (by omega) (by omega)
    exact br_f (nI_ge (by omega) (by omega)) (br_f (nI_pos (by omega)) ⟨hin, nm_r (by rw [hcl]; rfl) ⟨hin, nm_r (by rw [hcl]; rfl) (nm_r (nI_1 i) hn)⟩⟩)
/-- full: the other side's loop writes nothing -/
theorem rs_yf_loop {post : Int32 → SY → Prop} {t w : Nat → Int32} {n : Nat} {bits q x4 fr : Int32} (hn16 : n < 16) (hp : post (-4) (fr, w, t)) : ∀ d i, i + d = n → wY_stretch_63 post bits q x4 (nI n) (-4) fr (d + 1) (nI i) w t := by
  intro d
  induction d with
  | zero =>
    intro i hi
    have e : i = n := by omega
    subst e
    exact br_t (nI_le (Nat.le_refl _) (by omega)) hp
  | succ d ih =>
    intro i hi
    have hn := ih (i + 1) (by omega)
    exact br_f (nI_ge (by omega) (by omega)) (br_t (by decide) (nm_r (nI_1 i) hn))
/-! cover -/
def rq_cv (t : Nat → Int32) (site : Nat) : Nat → Nat
  | 0 => 0
  | r + 1 => if t (r * 8 + site) ≤ 0 then rq_cv t site r else rq_cv t site r + 1
theorem rs_xv_loop {post : Int32 → Prop} {t v : Nat → Int32} {s c : Nat} (hs : s < 8) (hc : c ≤ 8) (hp : post (nI (rq_cv t s c))) : ∀ d r, r + d = c → wX_cover_14 post (nI s) (nI c) t v (d + 1) (nI (rq_cv t s r)) (nI r) := by
  intro d
  induction d with
  | zero =>
    intro r hr
    have e : r = c := by omega
    subst e
    exact br_t (nI_le (Nat.le_refl _) (by omega)) hp
  | succ d ih =>
    intro r hr
    have hn := ih (r + 1) (by omega)
    rw [rq_cv] at hn
    have hcl : (nI r * 8 + nI s).toNatClampNeg = r * 8 + s := by rw [rw_ix]; exact nI_clamp (by omega)
    have hin : vp_in (nI r * 8 + nI s) 64 := by rw [rw_ix]; exact vp_in_nI (by omega) (by omega)
    refine br_f (nI_ge (by omega) (by omega)) ⟨hin, ?_⟩
    by_cases z : t (r * 8 + s) ≤ 0
    · rw [if_pos z] at hn
      exact br_t (by rw [hcl]; exact z) (nm_r (nI_1 r) hn)
    · rw [if_neg z] at hn
      exact br_f (by rw [hcl]; exact z) (nm_r (nI_1 _) (nm_r (nI_1 r) hn))
theorem rs_yv_loop {post : Int32 → Prop} {t w : Nat → Int32} {s c : Nat} (hs : s < 8) (hc : c ≤ 8) (hp : post (nI (rq_cv t s c))) : ∀ d r, r + d = c → wY_cover_17 post (nI s) (nI c) w t (d + 1) (nI (rq_cv t s r)) (nI r) := by
  intro d
  induction d with
  | zero =>
    intro r hr
    have e : r = c := by omega
    subst e
    exact br_t (nI_le (Nat.le_refl _) (by omega)) hp
  | succ d ih =>
    intro r hr
    have hn := ih (r + 1) (by omega)
    rw [rq_cv] at hn
    have hcl : (nI r * 8 + nI s).toNatClampNeg = r * 8 + s := by rw [rw_ix]; exact nI_clamp (by omega)
    have hin : vp_in (nI r * 8 + nI s) 64 := by rw [rw_ix]; exact vp_in_nI (by omega) (by omega)
    refine br_f (nI_ge (by omega) (by omega)) ⟨hin, ?_⟩
    by_cases z : t (r * 8 + s) ≤ 0
    · rw [if_pos z] at hn
      exact br_t (by rw [hcl]; exact z) (nm_r (nI_1 r) hn)
    · rw [if_neg z] at hn
      exact br_f (by rw [hcl]; exact z) (nm_r (nI_1 _) (nm_r (nI_1 r) hn))
/-- a site: eight of them on both sides -/
theorem rs_xi1 {post : Int32 → Prop} {s : Nat} (hs : s < 8) (hp : post 1) : wpX_isSite post (nI s) :=
  br_f (nI_pos (by omega)) (br_f (rw_8 hs) hp)
theorem rs_xi0 {post : Int32 → Prop} {x : Int32} (h : x < 0 ∨ nI 8 ≤ x) (hp : post 0) : wpX_isSite post x := by
  unfold wpX_isSite
  by_cases z : x < 0
  · exact br_t z hp
  · exact br_f z (br_t (h.resolve_left z) hp)
theorem rs_yi1 {A B C : Prop} {s : Nat} (hs : s < 8) (h : B) : (nI s < 0 → A) ∧ (¬ nI s < 0 → ((nI s ≤ 7 → B) ∧ (¬ nI s ≤ 7 → C))) :=
  br_f (nI_pos (by omega)) (br_t (nI_le (b := 7) (by omega) (by decide)) h)
theorem rs_yi0 {A B : Prop} {x : Int32} (h : x < 0 ∨ nI 8 ≤ x) (hp : A) : (x < 0 → A) ∧ (¬ x < 0 → ((x ≤ 7 → B) ∧ (¬ x ≤ 7 → A))) := by
  by_cases z : x < 0
  · exact br_t z hp
  · refine br_f z (br_f (fun y => ?_) hp)
    obtain ⟨j, hj, rfl⟩ := nI_of z
    have h1 := (nI_leI (by omega) hj).mp (h.resolve_left z)
    have h2 := (nI_leI (b := 7) hj (by omega)).mp y
    omega
end
section
/-- one count, the same trusts, values that agree wherever there is trust -/
def i_Rel (_ : Nat) (u : SX) (v : SY) : Prop := ∃ (c : Nat) (t a b : Nat → Int32), c ≤ 8 ∧ rq_ok t ∧ rq_ag t a b ∧ u = (nI c, t, a) ∧ v = (nI c, b, t)
theorem i_up {k : Nat} {u : SX} {v : SY} (h : i_Rel k u v) : i_Rel (k + 5) u v := h
theorem i_vc0 : wpX_init (fun u => wpY_init (fun v => i_Rel 0 u v)) :=
  ⟨0, fun _ => 0, fun _ => 0, fun _ => 0, by omega, fun _ _ => ⟨0, by omega, rfl⟩, fun _ _ => Or.inl rfl, rfl, rfl⟩
theorem ro_mk {k c : Nat} {t a b : Nat → Int32} (hc : c ≤ 8) (h1 : rq_ok t) (h2 : rq_ag t a b) : i_Rel k (nI c, t, a) (nI c, b, t) :=
  ⟨c, t, a, b, hc, h1, h2, rfl, rfl⟩
/-- both sides' costs are one function -/
theorem ro_H {c : Nat} {t a b : Nat → Int32} {fo : Int32} (hc : c ≤ 8) (h1 : rq_ok t) (h2 : rq_ag t a b) : rm_H t a c fo (rq_cN t a c fo) ∧ rm_H t b c fo (rq_cN t a c fo) := by
  have h := fun k => rq_cNe (t := t) (v := a) (n := c) (fo := fo) h1 hc k
  refine ⟨⟨fun k => (h k).1, fun k => (h k).2⟩, ⟨fun k => ?_, fun k => (h k).2⟩⟩
  rw [← rq_coE (m := nI k) (m' := nI k) h2 hc (fun _ _ => rfl) 8 (Nat.le_refl 8)]
  exact (h k).1
theorem i_vc_read {k : Nat} {u : SX} {v : SY} (I : i_Rel k u v) (hk : k + 5 ≤ 2560) : wpX_read (fun r u' => wpY_read (fun r' v' => r' = r ∧ i_Rel (k + 5) u' v') v) u := by
  obtain ⟨c, t, a, b, hc, h1, h2, rfl, rfl⟩ := I
  unfold wpX_read
  dsimp only
  refine pk_lt c 8 (fun y => ?_) (fun y => ?_) rfl rfl
  · refine rs_xa y ?_
    refine rs_yr y ?_
    exact ⟨rfl, ro_mk (by omega) (rs_clOk h1 8) (rs_clAg h2 8)⟩
  · have e : c = 8 := by omega
    subst e
    refine rs_yr8 ?_
    exact ⟨rfl, ro_mk (by omega) h1 h2⟩
theorem i_vc_say {k : Nat} {u : SX} {v : SY} (I : i_Rel k u v) (hk : k + 5 ≤ 2560) (v1 : Int32) (v2 : Int32) (v3 : Int32) (v4 : Int32) : wpX_say (fun r u' => wpY_say (fun r' v' => r' = r ∧ i_Rel (k + 5) u' v') v v1 v2 v3 v4) u v1 v2 v3 v4 := by
  obtain ⟨c, t, a, b, hc, h1, h2, rfl, rfl⟩ := I
  have R : i_Rel (k + 5) (nI c, t, a) (nI c, b, t) := ro_mk hc h1 h2
  unfold wpX_say wpY_say
  dsimp only
  rcases (or_assoc.mpr (pk_ix v1 (n := c) (by omega))) with z | ⟨r, hr, rfl⟩
  · refine rl_xr0 z ?_
    refine br_t rfl ?_
    refine rl_yb1 z ?_
    exact br_f (by decide) ⟨rfl, R⟩
  refine rl_xr1 hc hr ?_
  refine br_f (by decide) ?_
  rcases (or_assoc.mpr (pk_ix v2 (n := 8) (by omega))) with z | ⟨s, hs, rfl⟩
  · refine rs_xi0 z ?_
    refine br_t rfl ?_
    refine rl_yb0 hc hr ?_
    refine br_t rfl ?_
    exact rs_yi0 z ⟨rfl, R⟩
  refine rs_xi1 hs ?_
  refine br_f (by decide) ?_
  by_cases g0 : v4 < 0
  · refine br_t g0 ?_
    refine rl_yb0 hc hr ?_
    refine br_t rfl ?_
    exact rs_yi1 hs (br_t g0 ⟨rfl, R⟩)
  refine br_f g0 ?_
  by_cases g9 : v4 ≤ 9
  · have hcl : (nI r * 8 + nI s).toNatClampNeg = r * 8 + s := by rw [rw_ix]; exact nI_clamp (by omega)
    have hin : vp_in (nI r * 8 + nI s) 64 := by rw [rw_ix]; exact vp_in_nI (by omega) (by omega)
    obtain ⟨q, hq, rfl⟩ := nI_of2 (n := 9) (by decide) g0 g9
    refine br_t g9 ?_
    refine nm_e ?_
    refine ⟨hin, nm_e ⟨hin, nm_e ⟨hin, nm_e ?_⟩⟩⟩
    refine rl_yb0 hc hr ?_
    refine br_t rfl ?_
    refine rs_yi1 hs (br_f g0 (br_t g9 ⟨hin, nm_e ⟨hin, nm_e ⟨hin, nm_e ?_⟩⟩⟩))
    exact ⟨rfl, ro_mk hc (rs_okU h1 hq) (rs_agU h2)⟩
  · refine br_f g9 ?_
    refine rl_yb0 hc hr ?_
    refine br_t rfl ?_
    exact rs_yi1 hs (br_f g0 (br_f g9 ⟨rfl, R⟩))
theorem i_vc_stretch {k : Nat} {u : SX} {v : SY} (I : i_Rel k u v) (hk : k + 5 ≤ 2560) (v1 : Int32) (v2 : Int32) (v3 : Int32) : wpX_stretch (fun r u' => wpY_stretch (fun r' v' => r' = r ∧ i_Rel (k + 5) u' v') v v1 v2 v3) u v1 v2 v3 := by
  obtain ⟨c, t, a, b, hc, h1, h2, rfl, rfl⟩ := I
  have R : i_Rel (k + 5) (nI c, t, a) (nI c, b, t) := ro_mk hc h1 h2
  obtain ⟨f, hf, ef⟩ := pk_andE v1 (m := 7) 3 (by decide)
  obtain ⟨n, hn, en⟩ := pk_andE (v1 >>> ((3 : Int32) &&& 31)) (m := 15) 4 (by decide)
  have hf8 : f < 8 := hf
  have hn16 : n < 16 := hn
  unfold wpX_stretch wpY_stretch
  dsimp only
  refine nm_r ef (nm_r en ?_)
  rcases Nat.lt_or_ge n 1 with z1 | z1
  · have l1 : nI n < 1 := nI_lt (b := 1) z1 (by decide)
    exact br_t l1 (nm_r ef (nm_r en (br_t l1 ⟨rfl, R⟩)))
  have l1 : ¬ nI n < 1 := nI_nlt (b := 1) z1 (by omega)
  refine br_f l1 ?_
  rcases Nat.lt_or_ge 8 (f + n) with z2 | z2
  · have l2 : ¬ nI f + nI n ≤ 8 := by rw [nI_add]; exact nI_ge (a := 8) z2 (by omega)
    refine br_f l2 (nm_r ef (nm_r en (br_f l1 ?_)))
    exact br_c (fun _ => ⟨rfl, R⟩) (fun _ => br_f l2 ⟨rfl, R⟩)
  have l2 : nI f + nI n ≤ 8 := by rw [nI_add]; exact nI_le (b := 8) z2 (by decide)
  have l8 : ¬ (8 : Int32) < nI n := nI_nlt (a := 8) (by omega) (by decide)
  refine br_t l2 ?_
  by_cases g1 : v3 < 1
  · exact br_t g1 (nm_r ef (nm_r en (br_f l1 (br_f l8 (br_t l2 (br_t g1 ⟨rfl, R⟩))))))
  refine br_f g1 ?_
  by_cases g9 : v3 ≤ 9
  · refine br_t g9 ?_
    have g0 : ¬ v3 < 0 := fun z => g1 (Int32.lt_trans z (by decide))
    obtain ⟨q, hq, rfl⟩ := nI_of2 (n := 9) (by decide) g0 g9
    refine pk_lt c 8 (fun y => ?_) (fun y => ?_) rfl rfl
    · refine rs_xa y ?_
      refine nm_r (rw_ix c f) ?_
      refine ⟨_, rs_xs_loop (n := n) (by omega) ?_ n 0 (by omega)⟩
      refine nm_r ef (nm_r en (br_f l1 (br_f l8 (br_t l2 (br_f g1 (br_t g9 ?_))))))
      refine rs_yr y ?_
      refine ⟨_, rs_ys_loop (n := n) y z2 ?_ n 0 (by omega)⟩
      exact ⟨rfl, ro_mk (by omega) (rs_wOk (rs_clOk h1 8) hq n) (rs_wAg (rs_clAg h2 8) n)⟩
    · have e : c = 8 := by omega
      subst e
      refine nm_r ef (nm_r en (br_f l1 (br_f l8 (br_t l2 (br_f g1 (br_t g9 ?_))))))
      refine rs_yr8 ?_
      exact ⟨_, rs_yf_loop hn16 ⟨rfl, R⟩ n 0 (by omega)⟩
  · exact br_f g9 (nm_r ef (nm_r en (br_f l1 (br_f l8 (br_t l2 (br_f g1 (br_f g9 ⟨rfl, R⟩)))))))
theorem i_vc_drop {k : Nat} {u : SX} {v : SY} (I : i_Rel k u v) (hk : k + 5 ≤ 2560) : wpX_drop (fun r u' => wpY_drop (fun r' v' => r' = r ∧ i_Rel (k + 5) u' v') v) u := by
  obtain ⟨c, t, a, b, hc, h1, h2, rfl, rfl⟩ := I
  cases c with
  | zero => exact br_t rfl (br_t rfl ⟨rfl, ro_mk hc h1 h2⟩)
  | succ c =>
    have z : ¬ nI (c + 1) = 0 := nI_ne0 (by omega) (by omega)
    exact br_f z (nm_r (nI_pred c) (br_f z (nm_r (nI_pred c) ⟨rfl, ro_mk (by omega) h1 h2⟩)))
theorem i_vc_least {k : Nat} {u : SX} {v : SY} (I : i_Rel k u v) (hk : k + 5 ≤ 2560) : wpX_least (fun r => wpY_least (fun r' => r' = r ∧ i_Rel (k + 5) u v) v) u := by
  obtain ⟨c, t, a, b, hc, h1, h2, rfl, rfl⟩ := I
  obtain ⟨HX, HY⟩ := ro_H (fo := 0) hc h1 h2
  unfold wpX_least wpY_least
  dsimp only
  refine rm_xl hc HX ?_
  refine rm_yb hc HY ?_
  exact ⟨rfl, ro_mk hc h1 h2⟩
theorem i_vc_sorting {k : Nat} {u : SX} {v : SY} (I : i_Rel k u v) (hk : k + 5 ≤ 2560) : wpX_sorting (fun r => wpY_sorting (fun r' => r' = r ∧ i_Rel (k + 5) u v) v) u := by
  obtain ⟨c, t, a, b, hc, h1, h2, rfl, rfl⟩ := I
  obtain ⟨HX, HY⟩ := ro_H (fo := 0) hc h1 h2
  unfold wpX_sorting wpY_sorting
  dsimp only
  refine rm_xf hc HX ?_
  refine rm_yf hc HY ?_
  exact ⟨rfl, ro_mk hc h1 h2⟩
theorem i_vc_ties {k : Nat} {u : SX} {v : SY} (I : i_Rel k u v) (hk : k + 5 ≤ 2560) : wpX_ties (fun r => wpY_ties (fun r' => r' = r ∧ i_Rel (k + 5) u v) v) u := by
  obtain ⟨c, t, a, b, hc, h1, h2, rfl, rfl⟩ := I
  obtain ⟨HX, HY⟩ := ro_H (fo := 0) hc h1 h2
  refine rm_xk hc HX ?_
  refine rm_yk hc HY ?_
  exact ⟨rfl, ro_mk hc h1 h2⟩
theorem i_vc_costOf {k : Nat} {u : SX} {v : SY} (I : i_Rel k u v) (hk : k + 5 ≤ 2560) (v1 : Int32) : wpX_costOf (fun r => wpY_costOf (fun r' => r' = r ∧ i_Rel (k + 5) u v) v v1) u v1 := by
  obtain ⟨c, t, a, b, hc, h1, h2, rfl, rfl⟩ := I
  unfold wpX_costOf wpY_costOf
  dsimp only
  refine rw_xc hc ?_
  refine nm_e ?_
  refine rw_yc hc ?_
  exact ⟨(rq_coE h2 hc (fun r hr => rb_of hc hr) 8 (Nat.le_refl 8)).symm, ro_mk hc h1 h2⟩
theorem i_vc_leastForced {k : Nat} {u : SX} {v : SY} (I : i_Rel k u v) (hk : k + 5 ≤ 2560) : wpX_leastForced (fun r => wpY_leastForced (fun r' => r' = r ∧ i_Rel (k + 5) u v) v) u := by
  obtain ⟨c, t, a, b, hc, h1, h2, rfl, rfl⟩ := I
  obtain ⟨HX, HY⟩ := ro_H (fo := 1) hc h1 h2
  unfold wpX_leastForced wpY_leastForced
  dsimp only
  refine rm_xl hc HX ?_
  refine rm_yb hc HY ?_
  exact ⟨rfl, ro_mk hc h1 h2⟩
theorem i_vc_sortingForced {k : Nat} {u : SX} {v : SY} (I : i_Rel k u v) (hk : k + 5 ≤ 2560) : wpX_sortingForced (fun r => wpY_sortingForced (fun r' => r' = r ∧ i_Rel (k + 5) u v) v) u := by
  obtain ⟨c, t, a, b, hc, h1, h2, rfl, rfl⟩ := I
  obtain ⟨HX, HY⟩ := ro_H (fo := 1) hc h1 h2
  unfold wpX_sortingForced wpY_sortingForced
  dsimp only
  refine rm_xf hc HX ?_
  refine rm_yf hc HY ?_
  exact ⟨rfl, ro_mk hc h1 h2⟩
theorem i_vc_leastWith {k : Nat} {u : SX} {v : SY} (I : i_Rel k u v) (hk : k + 5 ≤ 2560) (v1 : Int32) (v2 : Int32) (v3 : Int32) : wpX_leastWith (fun r => wpY_leastWith (fun r' => r' = r ∧ i_Rel (k + 5) u v) v v1 v2 (lw_bz v3)) u v1 v2 (lw_bz v3) := by
  obtain ⟨c, t, a, b, hc, h1, h2, rfl, rfl⟩ := I
  obtain ⟨HX, HY⟩ := ro_H (fo := 0) hc h1 h2
  have R : i_Rel (k + 5) (nI c, t, a) (nI c, b, t) := ro_mk hc h1 h2
  rcases (or_assoc.mpr (pk_ix v1 (n := c) (by omega))) with z | ⟨x, hx, rfl⟩
  · unfold wpX_leastWith wpY_leastWith
    dsimp only
    refine rl_xr0 z ?_
    refine br_t rfl ?_
    refine rl_yb1 z ?_
    exact br_f (by decide) ⟨rfl, R⟩
  rcases (or_assoc.mpr (pk_ix v2 (n := c) (by omega))) with z | ⟨y, hy, rfl⟩
  · unfold wpX_leastWith wpY_leastWith
    dsimp only
    refine rl_xr1 hc hx ?_
    refine br_f (by decide) ?_
    refine rl_xr0 z ?_
    refine br_t rfl ?_
    refine rl_yb0 hc hx ?_
    refine br_t rfl ?_
    refine rl_yb1 z ?_
    exact br_f (by decide) ⟨rfl, R⟩
  refine rl_x hc hx hy HX ?_
  refine rl_y hc hx hy (lw_bz_01 v3) HY ?_
  exact ⟨rfl, R⟩
theorem i_vc_cover {k : Nat} {u : SX} {v : SY} (I : i_Rel k u v) (hk : k + 5 ≤ 2560) (v1 : Int32) : wpX_cover (fun r => wpY_cover (fun r' => r' = r ∧ i_Rel (k + 5) u v) v v1) u v1 := by
  obtain ⟨c, t, a, b, hc, h1, h2, rfl, rfl⟩ := I
  have R : i_Rel (k + 5) (nI c, t, a) (nI c, b, t) := ro_mk hc h1 h2
  unfold wpX_cover wpY_cover
  dsimp only
  rcases (or_assoc.mpr (pk_ix v1 (n := 8) (by omega))) with z | ⟨s, hs, rfl⟩
  · refine rs_xi0 z ?_
    refine br_t rfl ?_
    exact rs_yi0 z ⟨rfl, R⟩
  refine rs_xi1 hs ?_
  refine br_f (by decide) ?_
  refine ⟨_, rs_xv_loop hs hc ?_ c 0 (by omega)⟩
  refine rs_yi1 hs ?_
  exact ⟨_, rs_yv_loop hs hc ⟨rfl, R⟩ c 0 (by omega)⟩
end
