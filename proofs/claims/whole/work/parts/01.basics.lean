theorem pk_us {f : Nat → Int32} {k : Nat} {x : Int32} : upd f k x k = x := if_pos rfl
theorem pk_un {f : Nat → Int32} {k j : Nat} {x : Int32} (h : j ≠ k) : upd f k x j = f j := if_neg h
theorem pk_mul (a b : Nat) : nI a * nI b = nI (a * b) := (Int32.ofNat_mul a b).symm
theorem pk_div {a d : Nat} (ha : a < 2 ^ 31) (h0 : 0 < d) (hd : d < 2 ^ 31) : nI a / nI d = nI (a / d) := by
  apply Int32.toInt_inj.mp
  rw [lg_idiv_nonneg (by rw [nI_toInt ha]; omega) (by rw [nI_toInt hd]; omega), nI_toInt ha, nI_toInt hd, nI_toInt (Nat.lt_of_le_of_lt (Nat.div_le_self a d) ha)]
  first | rfl | exact (Int.natCast_ediv _ _).symm
theorem pk_ix (x : Int32) {n : Nat} (hn : n < 2 ^ 31) : x < 0 ∨ nI n ≤ x ∨ ∃ j : Nat, j < n ∧ x = nI j := by
  by_cases h : x < 0
  · exact Or.inl h
  · obtain ⟨j, hj, rfl⟩ := nI_of h
    by_cases h2 : j < n
    · exact Or.inr (Or.inr ⟨j, h2, rfl⟩)
    · exact Or.inr (Or.inl (nI_le (by omega) hj))
theorem pk_le {x y : Int32} {A B : Prop} (a b : Nat) (f : a ≤ b → A) (g : b < a → B) (hx : x = nI a := by rfl) (hy : y = nI b := by rfl) (ha : a < 2 ^ 31 := by omega) (hb : b < 2 ^ 31 := by omega) : (x ≤ y → A) ∧ (¬ x ≤ y → B) := by
  subst hx hy
  rw [nI_leI ha hb]
  exact ⟨f, fun z => g (by omega)⟩
theorem pk_lt {x y : Int32} {A B : Prop} (a b : Nat) (f : a < b → A) (g : b ≤ a → B) (hx : x = nI a := by rfl) (hy : y = nI b := by rfl) (ha : a < 2 ^ 31 := by omega) (hb : b < 2 ^ 31 := by omega) : (x < y → A) ∧ (¬ x < y → B) := by
  subst hx hy
  rw [nI_ltI ha hb]
  exact ⟨f, fun z => g (by omega)⟩
theorem pk_eq {x y : Int32} {A B : Prop} (a b : Nat) (f : a = b → A) (g : a ≠ b → B) (hx : x = nI a := by rfl) (hy : y = nI b := by rfl) (ha : a < 2 ^ 31 := by omega) (hb : b < 2 ^ 31 := by omega) : (x = y → A) ∧ (¬ x = y → B) := by
  subst hx hy
  rw [nI_eq ha hb]
  exact ⟨f, g⟩
theorem pk_in {x : Int32} (n N : Nat) (h : n < N) (hx : x = nI n := by rfl) (hN : N < 2 ^ 31 := by omega) : vp_in x N := by
  subst hx
  exact vp_in_nI h hN
theorem pk_cl {x : Int32} (n : Nat) (hx : x = nI n := by rfl) (h : n < 2 ^ 31 := by omega) : x.toNatClampNeg = n := by
  subst hx
  exact nI_clamp h
/-! arrays overwritten on an interval; counts -/
def mc_up (lo n : Nat) (a b : Nat → Int32) : Nat → Int32 := fun i => if lo ≤ i ∧ i < lo + n then b i else a i
theorem mc_up0 {lo : Nat} {a b : Nat → Int32} : mc_up lo 0 a b = a := by
  funext i; unfold mc_up; rw [if_neg (by omega)]
theorem mc_upI {lo n i : Nat} {a b : Nat → Int32} (h1 : lo ≤ i) (h2 : i < lo + n) : mc_up lo n a b i = b i := if_pos ⟨h1, h2⟩
theorem mc_upO {lo n i : Nat} {a b : Nat → Int32} (h : ¬ (lo ≤ i ∧ i < lo + n)) : mc_up lo n a b i = a i := if_neg h
theorem mc_upS {lo j k : Nat} {a b : Nat → Int32} {x : Int32} (hk : k = lo + j) (e : b k = x) : upd (mc_up lo j a b) k x = mc_up lo (j + 1) a b := by
  funext i
  by_cases hi : i = k
  · subst hi; rw [pk_us, mc_upI (by omega) (by omega), e]
  · rw [pk_un hi]
    by_cases h : lo ≤ i ∧ i < lo + j
    · rw [mc_upI h.1 h.2, mc_upI h.1 (by omega)]
    · rw [mc_upO h, mc_upO (by omega)]
theorem mc_upK {lo j k : Nat} {a b : Nat → Int32} (hk : k = lo + j) (e : b k = a k) : mc_up lo (j + 1) a b = mc_up lo j a b := by
  funext i
  by_cases hi : i = k
  · subst hi; rw [mc_upI (by omega) (by omega), mc_upO (by omega), e]
  · by_cases h : lo ≤ i ∧ i < lo + j
    · rw [mc_upI h.1 h.2, mc_upI h.1 (by omega)]
    · rw [mc_upO h, mc_upO (by omega)]
theorem mc_upA {lo j k : Nat} {a b : Nat → Int32} (hk : k = lo + j) : mc_up lo j a b k = a k := mc_upO (by omega)
/-- how many of the n cells from b hold x -/
def mc_cn (a : Nat → Int32) (x : Int32) (b : Nat) : Nat → Nat
  | 0 => 0
  | n + 1 => mc_cn a x b n + (if a (b + n) = x then 1 else 0)
/-- how many of the n cells from b don't hold 0 -/
def mc_cz (a : Nat → Int32) (b : Nat) : Nat → Nat
  | 0 => 0
  | n + 1 => mc_cz a b n + (if a (b + n) = 0 then 0 else 1)
theorem mc_cnT {a : Nat → Int32} {x : Int32} {b n : Nat} (h : a (b + n) = x) : mc_cn a x b (n + 1) = mc_cn a x b n + 1 := by
  show _ + _ = _; rw [if_pos h]
theorem mc_cnF {a : Nat → Int32} {x : Int32} {b n : Nat} (h : ¬ a (b + n) = x) : mc_cn a x b (n + 1) = mc_cn a x b n := by
  show _ + _ = _; rw [if_neg h]; rfl
theorem mc_czF {a : Nat → Int32} {b n : Nat} (h : a (b + n) = 0) : mc_cz a b (n + 1) = mc_cz a b n := by
  show _ + _ = _; rw [if_pos h]; rfl
theorem mc_czT {a : Nat → Int32} {b n : Nat} (h : ¬ a (b + n) = 0) : mc_cz a b (n + 1) = mc_cz a b n + 1 := by
  show _ + _ = _; rw [if_neg h]
theorem mc_cnL (a : Nat → Int32) (x : Int32) (b : Nat) : ∀ n, mc_cn a x b n ≤ n := by
  intro n
  induction n with
  | zero => exact Nat.le_refl 0
  | succ n ih =>
    by_cases h : a (b + n) = x
    · rw [mc_cnT h]; omega
    · rw [mc_cnF h]; omega
theorem mc_czL (a : Nat → Int32) (b : Nat) : ∀ n, mc_cz a b n ≤ n := by
  intro n
  induction n with
  | zero => exact Nat.le_refl 0
  | succ n ih =>
    by_cases h : a (b + n) = 0
    · rw [mc_czF h]; omega
    · rw [mc_czT h]; omega
theorem mc_cn0 {a : Nat → Int32} {x : Int32} {b : Nat} : ∀ n, mc_cn a x b n = 0 → ∀ k, k < n → a (b + k) ≠ x := by
  intro n
  induction n with
  | zero => intro _ k hk; omega
  | succ n ih =>
    intro h0 k hk e
    by_cases h : a (b + n) = x
    · rw [mc_cnT h] at h0; omega
    · rw [mc_cnF h] at h0
      by_cases hkn : k = n
      · subst hkn; exact h e
      · exact ih h0 k (by omega) e
theorem mc_cnZ {a : Nat → Int32} {x : Int32} {b : Nat} : ∀ n, (∀ k, k < n → a (b + k) ≠ x) → mc_cn a x b n = 0 := by
  intro n
  induction n with
  | zero => intro _; rfl
  | succ n ih => intro h; rw [mc_cnF (h n (by omega))]; exact ih (fun k hk => h k (by omega))
theorem mc_cz0 {a : Nat → Int32} {b : Nat} : ∀ n, mc_cz a b n = 0 → ∀ k, k < n → a (b + k) = 0 := by
  intro n
  induction n with
  | zero => intro _ k hk; omega
  | succ n ih =>
    intro h0 k hk
    by_cases h : a (b + n) = 0
    · rw [mc_czF h] at h0
      by_cases hkn : k = n
      · subst hkn; exact h
      · exact ih h0 k (by omega)
    · rw [mc_czT h] at h0; omega
/-- the two counts agree where the cells do -/
theorem mc_cnz {a w : Nat → Int32} {x : Int32} {b b' : Nat} : ∀ n, (∀ k, k < n → (a (b + k) = x ↔ w (b' + k) ≠ 0)) → mc_cn a x b n = mc_cz w b' n := by
  intro n
  induction n with
  | zero => intro _; rfl
  | succ n ih =>
    intro h
    by_cases hx : a (b + n) = x
    · rw [mc_cnT hx, mc_czT ((h n (by omega)).mp hx), ih (fun k hk => h k (by omega))]
    · have h0 : w (b' + n) = 0 := Decidable.byContradiction (fun z => hx ((h n (by omega)).mpr z))
      rw [mc_cnF hx, mc_czF h0, ih (fun k hk => h k (by omega))]
theorem mc_cnM {a a' : Nat → Int32} {x : Int32} {b : Nat} : ∀ n, (∀ k, k < n → a' (b + k) = x → a (b + k) = x) → mc_cn a' x b n ≤ mc_cn a x b n := by
  intro n
  induction n with
  | zero => intro _; exact Nat.le_refl 0
  | succ n ih =>
    intro h
    have i1 := ih (fun k hk => h k (by omega))
    by_cases hx : a' (b + n) = x
    · rw [mc_cnT hx, mc_cnT (h n (by omega) hx)]; omega
    · rw [mc_cnF hx]
      by_cases hy : a (b + n) = x
      · rw [mc_cnT hy]; omega
      · rw [mc_cnF hy]; omega
theorem mc_cnE {a a' : Nat → Int32} {x : Int32} {b : Nat} (n : Nat) (h : ∀ k, k < n → a' (b + k) = a (b + k)) : mc_cn a' x b n = mc_cn a x b n :=
  Nat.le_antisymm (mc_cnM n fun k hk e => (h k hk).symm.trans e) (mc_cnM n fun k hk e => (h k hk).trans e)
theorem mc_czE {a a' : Nat → Int32} {b : Nat} : ∀ n, (∀ k, k < n → a' (b + k) = a (b + k)) → mc_cz a' b n = mc_cz a b n := by
  intro n
  induction n with
  | zero => intro _; rfl
  | succ n ih =>
    intro h
    have i1 := ih (fun k hk => h k (by omega))
    have e := h n (by omega)
    by_cases hx : a (b + n) = 0
    · rw [mc_czF hx, mc_czF (e.trans hx), i1]
    · rw [mc_czT hx, mc_czT (by rw [e]; exact hx), i1]
/-- one cell written: at most one more, and none more outside -/
theorem mc_cnU {a : Nat → Int32} {x : Int32} {b i : Nat} : ∀ n, mc_cn (upd a i x) x b n ≤ mc_cn a x b n + (if b ≤ i ∧ i < b + n then 1 else 0) := by
  intro n
  induction n with
  | zero => exact Nat.zero_le _
  | succ n ih =>
    by_cases hi : i = b + n
    · have h1 : ¬ (b ≤ i ∧ i < b + n) := by omega
      have h2 : b ≤ i ∧ i < b + (n + 1) := by omega
      rw [if_neg h1] at ih
      rw [if_pos h2, mc_cnT (a := upd a i x) (by rw [← hi]; exact pk_us)]
      by_cases hy : a (b + n) = x
      · rw [mc_cnT hy]; omega
      · rw [mc_cnF hy]; omega
    · have e : upd a i x (b + n) = a (b + n) := pk_un (fun z => hi z.symm)
      have hh : (if b ≤ i ∧ i < b + (n + 1) then 1 else 0) = (if b ≤ i ∧ i < b + n then 1 else 0) := by
        by_cases h : b ≤ i ∧ i < b + n
        · rw [if_pos h, if_pos (by omega)]
        · rw [if_neg h, if_neg (by omega)]
      rw [hh]
      by_cases hy : a (b + n) = x
      · rw [mc_cnT hy, mc_cnT (e.trans hy)]; omega
      · rw [mc_cnF hy, mc_cnF (a := upd a i x) (by rw [e]; exact hy)]; exact ih
theorem mc_m1 : ∀ t, t < 4 → nI t ≠ -1 := by decide
theorem mc_m2 : ∀ t, t < 4 → nI t ≠ -2 := by decide
theorem mc_inj {a b : Nat} (ha : a < 4) (hb : b < 4) (h : nI a = nI b) : a = b := (nI_eq (by omega) (by omega)).mp h
theorem mc_ix (s k : Nat) : (32 * nI s + nI k : Int32) = nI (32 * s + k) := by
  rw [show (32 : Int32) = nI 32 from rfl, pk_mul, nI_add]
theorem mc_ix9 (s k : Nat) : (96 * nI s + nI k : Int32) = nI (96 * s + k) := by
  rw [show (96 : Int32) = nI 96 from rfl, pk_mul, nI_add]
theorem mc_96 (s : Nat) : (96 * nI s : Int32) = nI (96 * s) := by
  rw [show (96 : Int32) = nI 96 from rfl, pk_mul]
theorem mc_32 (s : Nat) : (32 * nI s : Int32) = nI (32 * s) := by
  rw [show (32 : Int32) = nI 32 from rfl, pk_mul]
theorem mc_384 (k : Nat) : (384 + nI k : Int32) = nI (384 + k) := by
  rw [show (384 : Int32) = nI 384 from rfl, nI_add]
theorem mc_d32 {i : Nat} (hi : i < 96) : (nI i / 32 : Int32) = nI (i / 32) := pk_div (d := 32) (by omega) (by decide) (by decide)
theorem mc_b0 : vp_nar .boolean 0 = 0 := rfl
theorem mc_b1 : vp_nar .boolean 1 = 1 := rfl
