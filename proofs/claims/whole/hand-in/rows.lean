section
theorem pk_us {f : Nat → Int32} {k : Nat} {x : Int32} : upd f k x k = x := if_pos rfl
theorem pk_un {f : Nat → Int32} {k j : Nat} {x : Int32} (h : j ≠ k) : upd f k x j = f j := if_neg h
theorem pk_mul (a b : Nat) : nI a * nI b = nI (a * b) := (Int32.ofNat_mul a b).symm
theorem pk_div {a d : Nat} (ha : a < 2 ^ 31) (h0 : 0 < d) (hd : d < 2 ^ 31) : nI a / nI d = nI (a / d) := by
  apply Int32.toInt_inj.mp
  rw [lg_idiv_nonneg (by rw [nI_toInt ha]; omega) (by rw [nI_toInt hd]; omega), nI_toInt ha, nI_toInt hd, nI_toInt (Nat.lt_of_le_of_lt (Nat.div_le_self a d) ha)]
  first | rfl | exact (Int.natCast_ediv _ _).symm
theorem pk_ix (x : Int32) {n : Nat} (hn : n < 2 ^ 31) : x < 0 ∨ nI n ≤ x ∨ ∃ j : Nat, j < n ∧ x = nI j := by
  by_cases h : x < 0
  · exact Or.inl h
  · obtain ⟨j, hj, rfl⟩ := nI_of h
    by_cases h2 : j < n
    · exact Or.inr (Or.inr ⟨j, h2, rfl⟩)
    · exact Or.inr (Or.inl (nI_le (by omega) hj))
theorem pk_le {x y : Int32} {A B : Prop} (a b : Nat) (f : a ≤ b → A) (g : b < a → B) (hx : x = nI a := by rfl) (hy : y = nI b := by rfl) (ha : a < 2 ^ 31 := by omega) (hb : b < 2 ^ 31 := by omega) : (x ≤ y → A) ∧ (¬ x ≤ y → B) := by
  subst hx hy
  rw [nI_leI ha hb]
  exact ⟨f, fun z => g (by omega)⟩
theorem pk_lt {x y : Int32} {A B : Prop} (a b : Nat) (f : a < b → A) (g : b ≤ a → B) (hx : x = nI a := by rfl) (hy : y = nI b := by rfl) (ha : a < 2 ^ 31 := by omega) (hb : b < 2 ^ 31 := by omega) : (x < y → A) ∧ (¬ x < y → B) := by
  subst hx hy
  rw [nI_ltI ha hb]
  exact ⟨f, fun z => g (by omega)⟩
theorem pk_eq {x y : Int32} {A B : Prop} (a b : Nat) (f : a = b → A) (g : a ≠ b → B) (hx : x = nI a := by rfl) (hy : y = nI b := by rfl) (ha : a < 2 ^ 31 := by omega) (hb : b < 2 ^ 31 := by omega) : (x = y → A) ∧ (¬ x = y → B) := by
  subst hx hy
  rw [nI_eq ha hb]
  exact ⟨f, g⟩
theorem pk_in {x : Int32} (n N : Nat) (h : n < N) (hx : x = nI n := by rfl) (hN : N < 2 ^ 31 := by omega) : vp_in x N := by
  subst hx
  exact vp_in_nI h hN
theorem pk_cl {x : Int32} (n : Nat) (hx : x = nI n := by rfl) (h : n < 2 ^ 31 := by omega) : x.toNatClampNeg = n := by
  subst hx
  exact nI_clamp h
/-! arrays overwritten on an interval; counts -/
def mc_up (lo n : Nat) (a b : Nat → Int32) : Nat → Int32 := fun i => if lo ≤ i ∧ i < lo + n then b i else a i
theorem mc_up0 {lo : Nat} {a b : Nat → Int32} : mc_up lo 0 a b = a := by
  funext i; unfold mc_up; rw [if_neg (by omega)]
theorem mc_upI {lo n i : Nat} {a b : Nat → Int32} (h1 : lo ≤ i) (h2 : i < lo + n) : mc_up lo n a b i = b i := if_pos ⟨h1, h2⟩
theorem mc_upO {lo n i : Nat} {a b : Nat → Int32} (h : ¬ (lo ≤ i ∧ i < lo + n)) : mc_up lo n a b i = a i := if_neg h
theorem mc_upS {lo j k : Nat} {a b : Nat → Int32} {x : Int32} (hk : k = lo + j) (e : b k = x) : upd (mc_up lo j a b) k x = mc_up lo (j + 1) a b := by
  funext i
  by_cases hi : i = k
  · subst hi; rw [pk_us, mc_upI (by omega) (by omega), e]
  · rw [pk_un hi]
    by_cases h : lo ≤ i ∧ i < lo + j
    · rw [mc_upI h.1 h.2, mc_upI h.1 (by omega)]
    · rw [mc_upO h, mc_upO (by omega)]
theorem mc_upK {lo j k : Nat} {a b : Nat → Int32} (hk : k = lo + j) (e : b k = a k) : mc_up lo (j + 1) a b = mc_up lo j a b := by
  funext i
  by_cases hi : i = k
  · subst hi; rw [mc_upI (by omega) (by omega), mc_upO (by omega), e]
  · by_cases h : lo ≤ i ∧ i < lo + j
    · rw [mc_upI h.1 h.2, mc_upI h.1 (by omega)]
    · rw [mc_upO h, mc_upO (by omega)]
theorem mc_upA {lo j k : Nat} {a b : Nat → Int32} (hk : k = lo + j) : mc_up lo j a b k = a k := mc_upO (by omega)
/-- how many of the n cells from b hold x -/
def mc_cn (a : Nat → Int32) (x : Int32) (b : Nat) : Nat → Nat
  | 0 => 0
  | n + 1 => mc_cn a x b n + (if a (b + n) = x then 1 else 0)
/-- how many of the n cells from b don't hold 0 -/
def mc_cz (a : Nat → Int32) (b : Nat) : Nat → Nat
  | 0 => 0
  | n + 1 => mc_cz a b n + (if a (b + n) = 0 then 0 else 1)
theorem mc_cnT {a : Nat → Int32} {x : Int32} {b n : Nat} (h : a (b + n) = x) : mc_cn a x b (n + 1) = mc_cn a x b n + 1 := by
  show _ + _ = _; rw [if_pos h]
theorem mc_cnF {a : Nat → Int32} {x : Int32} {b n : Nat} (h : ¬ a (b + n) = x) : mc_cn a x b (n + 1) = mc_cn a x b n := by
  show _ + _ = _; rw [if_neg h]; rfl
theorem mc_czF {a : Nat → Int32} {b n : Nat} (h : a (b + n) = 0) : mc_cz a b (n + 1) = mc_cz a b n := by
  show _ + _ = _; rw [if_pos h]; rfl
theorem mc_czT {a : Nat → Int32} {b n : Nat} (h : ¬ a (b + n) = 0) : mc_cz a b (n + 1) = mc_cz a b n + 1 := by
  show _ + _ = _; rw [if_neg h]
theorem mc_cnL (a : Nat → Int32) (x : Int32) (b : Nat) : ∀ n, mc_cn a x b n ≤ n := by
  intro n
  induction n with
  | zero => exact Nat.le_refl 0
  | succ n ih =>
    by_cases h : a (b + n) = x
    · rw [mc_cnT h]; omega
    · rw [mc_cnF h]; omega
theorem mc_czL (a : Nat → Int32) (b : Nat) : ∀ n, mc_cz a b n ≤ n := by
  intro n
  induction n with
  | zero => exact Nat.le_refl 0
  | succ n ih =>
    by_cases h : a (b + n) = 0
    · rw [mc_czF h]; omega
    · rw [mc_czT h]; omega
theorem mc_cn0 {a : Nat → Int32} {x : Int32} {b : Nat} : ∀ n, mc_cn a x b n = 0 → ∀ k, k < n → a (b + k) ≠ x := by
  intro n
  induction n with
  | zero => intro _ k hk; omega
  | succ n ih =>
    intro h0 k hk e
    by_cases h : a (b + n) = x
    · rw [mc_cnT h] at h0; omega
    · rw [mc_cnF h] at h0
      by_cases hkn : k = n
      · subst hkn; exact h e
      · exact ih h0 k (by omega) e
theorem mc_cnZ {a : Nat → Int32} {x : Int32} {b : Nat} : ∀ n, (∀ k, k < n → a (b + k) ≠ x) → mc_cn a x b n = 0 := by
  intro n
  induction n with
  | zero => intro _; rfl
  | succ n ih => intro h; rw [mc_cnF (h n (by omega))]; exact ih (fun k hk => h k (by omega))
theorem mc_cz0 {a : Nat → Int32} {b : Nat} : ∀ n, mc_cz a b n = 0 → ∀ k, k < n → a (b + k) = 0 := by
  intro n
  induction n with
  | zero => intro _ k hk; omega
  | succ n ih =>
    intro h0 k hk
    by_cases h : a (b + n) = 0
    · rw [mc_czF h] at h0
      by_cases hkn : k = n
      · subst hkn; exact h
      · exact ih h0 k (by omega)
    · rw [mc_czT h] at h0; omega
/-- the two counts agree where the cells do -/
theorem mc_cnz {a w : Nat → Int32} {x : Int32} {b b' : Nat} : ∀ n, (∀ k, k < n → (a (b + k) = x ↔ w (b' + k) ≠ 0)) → mc_cn a x b n = mc_cz w b' n := by
  intro n
  induction n with
  | zero => intro _; rfl
  | succ n ih =>
    intro h
    by_cases hx : a (b + n) = x
    · rw [mc_cnT hx, mc_czT ((h n (by omega)).mp hx), ih (fun k hk => h k (by omega))]
    · have h0 : w (b' + n) = 0 := Decidable.byContradiction (fun z => hx ((h n (by omega)).mpr z))
      rw [mc_cnF hx, mc_czF h0, ih (fun k hk => h k (by omega))]
theorem mc_cnM {a a' : Nat → Int32} {x : Int32} {b : Nat} : ∀ n, (∀ k, k < n → a' (b + k) = x → a (b + k) = x) → mc_cn a' x b n ≤ mc_cn a x b n := by
  intro n
  induction n with
  | zero => intro _; exact Nat.le_refl 0
  | succ n ih =>
    intro h
    have i1 := ih (fun k hk => h k (by omega))
    by_cases hx : a' (b + n) = x
    · rw [mc_cnT hx, mc_cnT (h n (by omega) hx)]; omega
    · rw [mc_cnF hx]
      by_cases hy : a (b + n) = x
      · rw [mc_cnT hy]; omega
      · rw [mc_cnF hy]; omega
theorem mc_cnE {a a' : Nat → Int32} {x : Int32} {b : Nat} (n : Nat) (h : ∀ k, k < n → a' (b + k) = a (b + k)) : mc_cn a' x b n = mc_cn a x b n :=
  Nat.le_antisymm (mc_cnM n fun k hk e => (h k hk).symm.trans e) (mc_cnM n fun k hk e => (h k hk).trans e)
theorem mc_czE {a a' : Nat → Int32} {b : Nat} : ∀ n, (∀ k, k < n → a' (b + k) = a (b + k)) → mc_cz a' b n = mc_cz a b n := by
  intro n
  induction n with
  | zero => intro _; rfl
  | succ n ih =>
    intro h
    have i1 := ih (fun k hk => h k (by omega))
    have e := h n (by omega)
    by_cases hx : a (b + n) = 0
    · rw [mc_czF hx, mc_czF (e.trans hx), i1]
    · rw [mc_czT hx, mc_czT (by rw [e]; exact hx), i1]
/-- one cell written: at most one more, and none more outside -/
theorem mc_cnU {a : Nat → Int32} {x : Int32} {b i : Nat} : ∀ n, mc_cn (upd a i x) x b n ≤ mc_cn a x b n + (if b ≤ i ∧ i < b + n then 1 else 0) := by
  intro n
  induction n with
  | zero => exact Nat.zero_le _
  | succ n ih =>
    by_cases hi : i = b + n
    · have h1 : ¬ (b ≤ i ∧ i < b + n) := by omega
      have h2 : b ≤ i ∧ i < b + (n + 1) := by omega
      rw [if_neg h1] at ih
      rw [if_pos h2, mc_cnT (a := upd a i x) (by rw [← hi]; exact pk_us)]
      by_cases hy : a (b + n) = x
      · rw [mc_cnT hy]; omega
      · rw [mc_cnF hy]; omega
    · have e : upd a i x (b + n) = a (b + n) := pk_un (fun z => hi z.symm)
      have hh : (if b ≤ i ∧ i < b + (n + 1) then 1 else 0) = (if b ≤ i ∧ i < b + n then 1 else 0) := by
        by_cases h : b ≤ i ∧ i < b + n
        · rw [if_pos h, if_pos (by omega)]
        · rw [if_neg h, if_neg (by omega)]
      rw [hh]
      by_cases hy : a (b + n) = x
      · rw [mc_cnT hy, mc_cnT (e.trans hy)]; omega
      · rw [mc_cnF hy, mc_cnF (a := upd a i x) (by rw [e]; exact hy)]; exact ih
theorem mc_m1 : ∀ t, t < 4 → nI t ≠ -1 := by decide
theorem mc_m2 : ∀ t, t < 4 → nI t ≠ -2 := by decide
theorem mc_inj {a b : Nat} (ha : a < 4) (hb : b < 4) (h : nI a = nI b) : a = b := (nI_eq (by omega) (by omega)).mp h
theorem mc_ix (s k : Nat) : (32 * nI s + nI k : Int32) = nI (32 * s + k) := by
  rw [show (32 : Int32) = nI 32 from rfl, pk_mul, nI_add]
theorem mc_ix9 (s k : Nat) : (96 * nI s + nI k : Int32) = nI (96 * s + k) := by
  rw [show (96 : Int32) = nI 96 from rfl, pk_mul, nI_add]
theorem mc_96 (s : Nat) : (96 * nI s : Int32) = nI (96 * s) := by
  rw [show (96 : Int32) = nI 96 from rfl, pk_mul]
theorem mc_32 (s : Nat) : (32 * nI s : Int32) = nI (32 * s) := by
  rw [show (32 : Int32) = nI 32 from rfl, pk_mul]
theorem mc_384 (k : Nat) : (384 + nI k : Int32) = nI (384 + k) := by
  rw [show (384 : Int32) = nI 384 from rfl, nI_add]
theorem mc_d32 {i : Nat} (hi : i < 96) : (nI i / 32 : Int32) = nI (i / 32) := pk_div (d := 32) (by omega) (by decide) (by decide)
theorem mc_b0 : vp_nar .boolean 0 = 0 := rfl
theorem mc_b1 : vp_nar .boolean 1 = 1 := rfl
end
section
/-! the component's own small walks, each with a general post -/
section
variable (c h f st up dd : Nat → Int32)
theorem mx_g1 {post : Int32 → Prop} {t : Nat} (ht : t < 4) (hs : st t ≠ 0) (hp : post 1) : wpX_isGood post (c, h, f, st, up, dd) (nI t) := by
  unfold wpX_isGood; dsimp only
  refine br_f (nI_pos (by omega)) (br_f (nI_ge (b := 4) (by omega) (by decide)) ⟨pk_in t 4 ht, br_f ?_ hp⟩)
  rw [nI_clamp (by omega)]; exact hs
theorem mx_g0 {post : Int32 → Prop} {x : Int32} (hn : ∀ t, t < 4 → x = nI t → st t = 0) (hp : post 0) : wpX_isGood post (c, h, f, st, up, dd) x := by
  unfold wpX_isGood; dsimp only
  refine br_c (fun _ => hp) (fun h0 => br_c (fun _ => hp) (fun h4 => ?_))
  rcases pk_ix x (n := 4) (by decide) with hx | hx | ⟨t, ht, rfl⟩
  · exact absurd hx h0
  · exact absurd hx h4
  · refine ⟨pk_in t 4 ht, br_t ?_ hp⟩
    rw [nI_clamp (by omega)]; exact hn t ht rfl
theorem mx_s1 {post : Int32 → Prop} {s : Nat} (hs : s < 3) (hp : post 1) : wpX_isStore post (c, h, f, st, up, dd) (nI s) := by
  unfold wpX_isStore; dsimp only
  exact br_f (nI_pos (by omega)) (br_f (nI_ge (b := 3) (by omega) (by decide)) hp)
theorem mx_s0 {post : Int32 → Prop} {x : Int32} (hn : ∀ s, s < 3 → x ≠ nI s) (hp : post 0) : wpX_isStore post (c, h, f, st, up, dd) x := by
  unfold wpX_isStore; dsimp only
  refine br_c (fun _ => hp) (fun h0 => br_c (fun _ => hp) (fun h4 => ?_))
  rcases pk_ix x (n := 3) (by decide) with hx | hx | ⟨t, ht, rfl⟩
  · exact absurd hx h0
  · exact absurd hx h4
  · exact absurd rfl (hn t ht)
theorem mx_c1 {post : Int32 → Prop} {i : Nat} (hi : i < 96) (hp : post 1) : wpX_isCode post (c, h, f, st, up, dd) (nI i) := by
  unfold wpX_isCode; dsimp only
  exact br_f (nI_pos (by omega)) (br_f (nI_ge (b := 96) (by omega) (by decide)) hp)
theorem mx_c0 {post : Int32 → Prop} {x : Int32} (hn : ∀ i, i < 96 → x ≠ nI i) (hp : post 0) : wpX_isCode post (c, h, f, st, up, dd) x := by
  unfold wpX_isCode; dsimp only
  refine br_c (fun _ => hp) (fun h0 => br_c (fun _ => hp) (fun h4 => ?_))
  rcases pk_ix x (n := 96) (by decide) with hx | hx | ⟨t, ht, rfl⟩
  · exact absurd hx h0
  · exact absurd hx h4
  · exact absurd rfl (hn t ht)
theorem mx_held5 {post : Int32 → Prop} {x : Int32} {s : Nat} (hs : s < 3) (hp : post (nI (mc_cn h x (32 * s) 32))) : ∀ d j, j + d = 32 → wX_heldIn_5 post x (nI s) c h f st up dd (d + 1) (nI (mc_cn h x (32 * s) j)) (nI j) := by
  intro d
  induction d with
  | zero =>
    intro j hj
    obtain rfl : j = 32 := by omega
    exact br_t (by decide) hp
  | succ d ih =>
    intro j hj
    have e := mc_ix s j
    have ec : (32 * nI s + nI j : Int32).toNatClampNeg = 32 * s + j := by rw [e]; exact nI_clamp (by omega)
    refine br_f (nI_ge (b := 32) (by omega) (by decide)) ⟨pk_in (32 * s + j) 96 (by omega) e, ?_⟩
    by_cases z : h (32 * s + j) = x
    · refine br_t (by rw [ec]; exact z) (nm_r (e' := nI (mc_cn h x (32 * s) (j + 1))) ?_ (nm_r (nI_1 j) (ih (j + 1) (by omega))))
      rw [mc_cnT z, nI_1]
    · refine br_f (by rw [ec]; exact z) (nm_r (nI_1 j) ?_)
      have := ih (j + 1) (by omega)
      rw [mc_cnF z] at this
      exact this
theorem mx_held {post : Int32 → Prop} {x : Int32} {s : Nat} (hs : s < 3) (hp : post (nI (mc_cn h x (32 * s) 32))) : wpX_heldIn post (c, h, f, st, up, dd) x (nI s) := by
  unfold wpX_heldIn; dsimp only
  exact ⟨33, mx_held5 c h f st up dd hs hp 32 0 (by omega)⟩
/-- what a holder's cell becomes when x lets go -/
def mc_dr (h : Nat → Int32) (x : Int32) : Nat → Int32 := fun i => if h i = x then -1 else h i
/-- .. when x is left in doubt -/
def mc_db (h : Nat → Int32) (x : Int32) : Nat → Int32 := fun i => if h i = x then -2 else h i
/-- .. what a content becomes when x's writes are done -/
def mc_co (c h f : Nat → Int32) (x : Int32) : Nat → Int32 := fun i => if h i = x then f i else c i
theorem mx_drop2 {post : SX → Prop} {x : Int32} (hp : post (c, mc_up 0 96 h (mc_dr h x), f, st, up, dd)) : ∀ d j, j + d = 96 → wX_dropAll_2 post x (d + 1) (nI j) c (mc_up 0 j h (mc_dr h x)) f st up dd := by
  intro d
  induction d with
  | zero =>
    intro j hj
    obtain rfl : j = 96 := by omega
    exact br_t (by decide) hp
  | succ d ih =>
    intro j hj
    have ec : (nI j).toNatClampNeg = j := nI_clamp (by omega)
    have ea : mc_up 0 j h (mc_dr h x) j = h j := mc_upA (by omega)
    refine br_f (nI_ge (b := 96) (by omega) (by decide)) ⟨pk_in j 96 (by omega), ?_⟩
    by_cases z : h j = x
    · refine br_t (by rw [ec, ea]; exact z) ⟨pk_in j 96 (by omega), nm_r (e' := mc_up 0 (j + 1) h (mc_dr h x)) ?_ (nm_r (nI_1 j) (ih (j + 1) (by omega)))⟩
      rw [ec]; exact mc_upS (by omega) (if_pos z)
    · refine br_f (by rw [ec, ea]; exact z) (nm_r (nI_1 j) ?_)
      have := ih (j + 1) (by omega)
      rw [mc_upK (k := j) (by omega) (if_neg z)] at this
      exact this
theorem mx_drop {post : SX → Prop} {x : Int32} (hp : post (c, mc_up 0 96 h (mc_dr h x), f, st, up, dd)) : wpX_dropAll post (c, h, f, st, up, dd) x := by
  unfold wpX_dropAll; dsimp only
  have := mx_drop2 c h f st up dd hp 96 0 (by omega)
  rw [mc_up0] at this
  exact ⟨97, this⟩
theorem mx_end {post : SX → Prop} {t : Nat} (ht : t < 4) (hp : post (c, mc_up 0 96 h (mc_dr h (nI t)), f, upd st t 0, up, dd)) : wpX_end post (c, h, f, st, up, dd) (nI t) := by
  unfold wpX_end; dsimp only
  refine mx_drop c h f st up dd ?_
  dsimp only
  exact ⟨pk_in t 4 ht, nm_r (e' := upd st t 0) (by rw [nI_clamp (by omega)]) hp⟩
theorem mx_leave20 {post : SX → Prop} {x : Int32} {s : Nat} (hs : s < 3) (hp : post (c, mc_up (32 * s) 32 h (mc_db h x), f, st, up, dd)) : ∀ d j, j + d = 32 → wX_leaveInDoubt_20 post x (nI s) (d + 1) (nI j) c (mc_up (32 * s) j h (mc_db h x)) f st up dd := by
  intro d
  induction d with
  | zero =>
    intro j hj
    obtain rfl : j = 32 := by omega
    exact br_t (by decide) hp
  | succ d ih =>
    intro j hj
    have ec : (nI (32 * s + j)).toNatClampNeg = 32 * s + j := nI_clamp (by omega)
    have ea : mc_up (32 * s) j h (mc_db h x) (32 * s + j) = h (32 * s + j) := mc_upA (by omega)
    refine br_f (nI_ge (b := 32) (by omega) (by decide)) (nm_r (mc_ix s j) ⟨pk_in (32 * s + j) 96 (by omega), ?_⟩)
    by_cases z : h (32 * s + j) = x
    · refine br_t (by rw [ec, ea]; exact z) ⟨pk_in (32 * s + j) 96 (by omega), nm_r (e' := mc_up (32 * s) (j + 1) h (mc_db h x)) ?_ (nm_r (nI_1 j) (ih (j + 1) (by omega)))⟩
      rw [ec]; exact mc_upS (by omega) (if_pos z)
    · refine br_f (by rw [ec, ea]; exact z) (nm_r (nI_1 j) ?_)
      have := ih (j + 1) (by omega)
      rw [mc_upK (k := 32 * s + j) (by omega) (if_neg z)] at this
      exact this
/-- nothing held: nothing happens -/
theorem mx_leave0 {post : SX → Prop} {x b : Int32} {s : Nat} (hs : s < 3) (h0 : mc_cn h x (32 * s) 32 = 0) (hp : post (c, h, f, st, up, dd)) : wpX_leaveInDoubt post (c, h, f, st, up, dd) x (nI s) b := by
  unfold wpX_leaveInDoubt; dsimp only
  refine mx_held c h f st up dd hs ?_
  rw [h0]
  exact br_t nI_0 hp
theorem mx_leave1 {post : SX → Prop} {x b : Int32} {s : Nat} (hs : s < 3) (h0 : mc_cn h x (32 * s) 32 ≠ 0) (hp : post (c, mc_up (32 * s) 32 h (mc_db h x), f, st, up, upd dd s (vp_nar .boolean b))) : wpX_leaveInDoubt post (c, h, f, st, up, dd) x (nI s) b := by
  unfold wpX_leaveInDoubt; dsimp only
  refine mx_held c h f st up dd hs ?_
  have hl := mc_cnL h x (32 * s) 32
  refine br_f (nI_ne0 (by omega) (by omega)) ⟨pk_in s 3 hs, nm_r (e' := upd dd s (vp_nar .boolean b)) (by rw [nI_clamp (by omega)]) ⟨33, ?_⟩⟩
  have := mx_leave20 c h f st up (upd dd s (vp_nar .boolean b)) hs hp 32 0 (by omega)
  rw [mc_up0] at this
  exact this
theorem mx_peace2 {post : Int32 → SX → Prop} {t : Nat} (ht : t < 4) (hp : post 1 (mc_up 0 96 c (mc_co c h f (nI t)), mc_up 0 96 h (mc_dr h (nI t)), f, upd st t 0, up, dd)) : ∀ d j, j + d = 96 → wX_commitInPeace_2 post (nI t) (d + 1) (nI j) (mc_up 0 j c (mc_co c h f (nI t))) h f st up dd := by
  intro d
  induction d with
  | zero =>
    intro j hj
    obtain rfl : j = 96 := by omega
    refine br_t (by decide) ?_
    exact mx_end _ h f st up dd ht hp
  | succ d ih =>
    intro j hj
    have ec : (nI j).toNatClampNeg = j := nI_clamp (by omega)
    refine br_f (nI_ge (b := 96) (by omega) (by decide)) ⟨pk_in j 96 (by omega), ?_⟩
    by_cases z : h j = nI t
    · refine br_t (by rw [ec]; exact z) ⟨pk_in j 96 (by omega), pk_in j 96 (by omega), nm_r (e' := mc_up 0 (j + 1) c (mc_co c h f (nI t))) ?_ (nm_r (nI_1 j) (ih (j + 1) (by omega)))⟩
      rw [ec]; exact mc_upS (by omega) (if_pos z)
    · refine br_f (by rw [ec]; exact z) (nm_r (nI_1 j) ?_)
      have := ih (j + 1) (by omega)
      rw [mc_upK (k := j) (by omega) (if_neg z)] at this
      exact this
theorem mx_peace {post : Int32 → SX → Prop} {t : Nat} (ht : t < 4) (hp : post 1 (mc_up 0 96 c (mc_co c h f (nI t)), mc_up 0 96 h (mc_dr h (nI t)), f, upd st t 0, up, dd)) : wpX_commitInPeace post (c, h, f, st, up, dd) (nI t) := by
  unfold wpX_commitInPeace; dsimp only
  have := mx_peace2 c h f st up dd ht hp 96 0 (by omega)
  rw [mc_up0] at this
  exact ⟨97, this⟩
/-- what settling a store makes of the contents: b says whether the doubtful writes are done -/
def mc_se (c h f : Nat → Int32) (b : Int32) : Nat → Int32 := fun i => if h i = -2 ∧ b ≠ 0 then f i else c i
theorem mx_settle21 {post : SX → Prop} {s : Nat} (hs : s < 3) (hp : post (mc_up (32 * s) 32 c (mc_se c h f (dd s)), mc_up (32 * s) 32 h (mc_dr h (-2)), f, st, up, dd)) : ∀ d j, j + d = 32 → wX_settle_21 post (nI s) (d + 1) (nI j) (mc_up (32 * s) j c (mc_se c h f (dd s))) (mc_up (32 * s) j h (mc_dr h (-2))) f st up dd := by
  intro d
  induction d with
  | zero =>
    intro j hj
    obtain rfl : j = 32 := by omega
    exact br_t (by decide) hp
  | succ d ih =>
    intro j hj
    have ec : (nI (32 * s + j)).toNatClampNeg = 32 * s + j := nI_clamp (by omega)
    have es : (nI s).toNatClampNeg = s := nI_clamp (by omega)
    have hi : vp_in (nI (32 * s + j)) 96 := pk_in (32 * s + j) 96 (by omega)
    have ea : mc_up (32 * s) j h (mc_dr h (-2)) (32 * s + j) = h (32 * s + j) := mc_upA (by omega)
    refine br_f (nI_ge (b := 32) (by omega) (by decide)) (nm_r (mc_ix s j) ⟨hi, ?_⟩)
    by_cases z : h (32 * s + j) = -2
    · refine br_t (by rw [ec, ea]; exact z) ⟨pk_in s 3 hs, ?_⟩
      by_cases y : dd s = 0
      · refine br_t (by rw [es]; exact y) ⟨hi, nm_r (e' := mc_up (32 * s) (j + 1) h (mc_dr h (-2))) (by rw [ec]; exact mc_upS (by omega) (if_pos z)) (nm_r (nI_1 j) ?_)⟩
        have := ih (j + 1) (by omega)
        rw [mc_upK (a := c) (k := 32 * s + j) (by omega) (if_neg (fun q => q.2 y))] at this
        exact this
      · exact br_f (by rw [es]; exact y) ⟨hi, hi, nm_r (e' := mc_up (32 * s) (j + 1) c (mc_se c h f (dd s))) (by rw [ec]; exact mc_upS (by omega) (if_pos ⟨z, y⟩)) ⟨hi, nm_r (e' := mc_up (32 * s) (j + 1) h (mc_dr h (-2))) (by rw [ec]; exact mc_upS (by omega) (if_pos z)) (nm_r (nI_1 j) (ih (j + 1) (by omega)))⟩⟩
    · refine br_f (by rw [ec, ea]; exact z) (nm_r (nI_1 j) ?_)
      have := ih (j + 1) (by omega)
      rw [mc_upK (a := c) (k := 32 * s + j) (by omega) (if_neg (fun q => z q.1)), mc_upK (a := h) (k := 32 * s + j) (by omega) (if_neg z)] at this
      exact this
theorem mx_settle1 {post : SX → Prop} {s : Nat} (hs : s < 3) (h1 : up s ≠ 0) (h3 : up 3 ≠ 0) (hp : post (mc_up (32 * s) 32 c (mc_se c h f (dd s)), mc_up (32 * s) 32 h (mc_dr h (-2)), f, st, up, dd)) : wpX_settle post (c, h, f, st, up, dd) (nI s) := by
  unfold wpX_settle; dsimp only
  refine ⟨pk_in s 4 (by omega), br_f (by rw [nI_clamp (by omega)]; exact h1) (br_f h3 ?_)⟩
  have := mx_settle21 c h f st up dd hs hp 32 0 (by omega)
  rw [mc_up0, mc_up0] at this
  exact ⟨33, this⟩
theorem mx_settle0 {post : SX → Prop} {s : Nat} (hs : s < 3) (h0 : up s = 0 ∨ up 3 = 0) (hp : post (c, h, f, st, up, dd)) : wpX_settle post (c, h, f, st, up, dd) (nI s) := by
  unfold wpX_settle; dsimp only
  refine ⟨pk_in s 4 (by omega), ?_⟩
  have es : (nI s).toNatClampNeg = s := nI_clamp (by omega)
  rw [es]
  by_cases h1 : up s = 0
  · exact br_t h1 hp
  · exact br_f h1 (br_t (h0.resolve_left h1) hp)
end
end
section
/-! the reference's own small walks, each with a general post -/
section
variable (v w g r d up id tb : Nat → Int32)
theorem my_g1 {post : Int32 → Prop} {t : Nat} (ht : t < 4) (hs : r t ≠ 0) (hp : post 1) : wpY_good post (v, w, g, r, d, up, id, tb) (nI t) := by
  unfold wpY_good; dsimp only
  refine br_f (nI_pos (by omega)) (br_f (nI_ge (b := 4) (by omega) (by decide)) ⟨pk_in t 4 ht, br_f ?_ hp⟩)
  rw [nI_clamp (by omega)]; exact hs
theorem my_g0 {post : Int32 → Prop} {x : Int32} (hn : ∀ t, t < 4 → x = nI t → r t = 0) (hp : post 0) : wpY_good post (v, w, g, r, d, up, id, tb) x := by
  unfold wpY_good; dsimp only
  refine br_c (fun _ => hp) (fun h0 => br_c (fun _ => hp) (fun h4 => ?_))
  rcases pk_ix x (n := 4) (by decide) with hx | hx | ⟨t, ht, rfl⟩
  · exact absurd hx h0
  · exact absurd hx h4
  · refine ⟨pk_in t 4 ht, br_t ?_ hp⟩
    rw [nI_clamp (by omega)]; exact hn t ht rfl
theorem my_s0 {post : Int32 → Prop} {s : Nat} (hs : s < 3) (hp : post 0) : wpY_badStore post (v, w, g, r, d, up, id, tb) (nI s) := by
  unfold wpY_badStore; dsimp only
  exact br_f (nI_pos (by omega)) (br_t (nI_le (b := 2) (by omega) (by decide)) hp)
theorem my_s1 {post : Int32 → Prop} {x : Int32} (hn : ∀ s, s < 3 → x ≠ nI s) (hp : post 1) : wpY_badStore post (v, w, g, r, d, up, id, tb) x := by
  unfold wpY_badStore; dsimp only
  refine br_c (fun _ => hp) (fun h0 => br_c (fun h4 => ?_) (fun _ => hp))
  obtain ⟨j, hj, rfl⟩ := nI_of2 (n := 2) (by decide) h0 h4
  exact absurd rfl (hn j (by omega))
theorem my_c0 {post : Int32 → Prop} {i : Nat} (hi : i < 96) (hp : post 0) : wpY_badCode post (v, w, g, r, d, up, id, tb) (nI i) := by
  unfold wpY_badCode; dsimp only
  exact br_f (nI_pos (by omega)) (br_t (nI_le (b := 95) (by omega) (by decide)) hp)
theorem my_c1 {post : Int32 → Prop} {x : Int32} (hn : ∀ i, i < 96 → x ≠ nI i) (hp : post 1) : wpY_badCode post (v, w, g, r, d, up, id, tb) x := by
  unfold wpY_badCode; dsimp only
  refine br_c (fun _ => hp) (fun h0 => br_c (fun h4 => ?_) (fun _ => hp))
  obtain ⟨j, hj, rfl⟩ := nI_of2 (n := 95) (by decide) h0 h4
  exact absurd rfl (hn j (by omega))
theorem my_wf5 {post : Int32 → Prop} {a s : Nat} (hs : a + 32 * s + 32 ≤ 480) (hp : post (nI (mc_cz w (a + 32 * s) 32))) : ∀ e j, j + e = 32 → wY_writtenFrom_5 post (nI a) (nI s) v w g r d up id tb (e + 1) (nI (mc_cz w (a + 32 * s) j)) (nI j) := by
  intro e
  induction e with
  | zero =>
    intro j hj
    obtain rfl : j = 32 := by omega
    exact br_t (by decide) hp
  | succ e ih =>
    intro j hj
    have ee : ((nI a + 32 * nI s) + nI j : Int32) = nI (a + 32 * s + j) := by rw [mc_32, nI_add, nI_add]
    have ec : ((nI a + 32 * nI s) + nI j : Int32).toNatClampNeg = a + 32 * s + j := by rw [ee]; exact nI_clamp (by omega)
    refine br_f (nI_ge (b := 32) (by omega) (by decide)) ⟨pk_in (a + 32 * s + j) 480 (by omega) ee, ?_⟩
    by_cases z : w (a + 32 * s + j) = 0
    · refine br_t (by rw [ec]; exact z) (nm_r (nI_1 j) ?_)
      have := ih (j + 1) (by omega)
      rw [mc_czF z] at this
      exact this
    · refine br_f (by rw [ec]; exact z) (nm_r (e' := nI (mc_cz w (a + 32 * s) (j + 1))) ?_ (nm_r (nI_1 j) (ih (j + 1) (by omega))))
      rw [mc_czT z, nI_1]
theorem my_wf {post : Int32 → Prop} {x : Int32} {a s : Nat} (hx : x = nI a) (hs : a + 32 * s + 32 ≤ 480) (hp : post (nI (mc_cz w (a + 32 * s) 32))) : wpY_writtenFrom post (v, w, g, r, d, up, id, tb) x (nI s) := by
  subst hx
  unfold wpY_writtenFrom; dsimp only
  exact ⟨33, my_wf5 v w g r d up id tb hs hp 32 0 (by omega)⟩
def mc_z : Nat → Int32 := fun _ => 0
theorem my_forget2 {post : SY → Prop} {t : Nat} (ht : t < 4) (hp : post (v, mc_up (96 * t) 96 w mc_z, g, r, d, up, id, tb)) : ∀ e j, j + e = 96 → wY_forget_2 post (nI t) (e + 1) (nI j) v (mc_up (96 * t) j w mc_z) g r d up id tb := by
  intro e
  induction e with
  | zero =>
    intro j hj
    obtain rfl : j = 96 := by omega
    exact br_t (by decide) hp
  | succ e ih =>
    intro j hj
    have ee := mc_ix9 t j
    have ec : (96 * nI t + nI j : Int32).toNatClampNeg = 96 * t + j := by rw [ee]; exact nI_clamp (by omega)
    exact br_f (nI_ge (b := 96) (by omega) (by decide)) ⟨pk_in (96 * t + j) 480 (by omega) ee, nm_r (e' := mc_up (96 * t) (j + 1) w mc_z) (by rw [ec]; exact mc_upS (by omega) rfl) (nm_r (nI_1 j) (ih (j + 1) (by omega)))⟩
theorem my_forget {post : SY → Prop} {t : Nat} (ht : t < 4) (hp : post (v, mc_up (96 * t) 96 w mc_z, g, r, d, up, id, tb)) : wpY_forget post (v, w, g, r, d, up, id, tb) (nI t) := by
  unfold wpY_forget; dsimp only
  have := my_forget2 v w g r d up id tb ht hp 96 0 (by omega)
  rw [mc_up0] at this
  exact ⟨97, this⟩
theorem my_end {post : SY → Prop} {t : Nat} (ht : t < 4) (hp : post (v, mc_up (96 * t) 96 w mc_z, g, upd r t 0, upd d t 0, up, id, tb)) : wpY_end post (v, w, g, r, d, up, id, tb) (nI t) := by
  unfold wpY_end; dsimp only
  refine my_forget v w g r d up id tb ht ?_
  dsimp only
  exact ⟨pk_in t 4 ht, nm_r (e' := upd r t 0) (by rw [nI_clamp (by omega), mc_b0]) ⟨pk_in t 4 ht, nm_r (e' := upd d t 0) (by rw [nI_clamp (by omega), mc_b0]) hp⟩⟩
/-- what a value becomes when the writes that stand from a on are done -/
def mc_ap (v w g : Nat → Int32) (a : Nat) : Nat → Int32 := fun i => if w (a + i) = 1 then g (a + i) else if w (a + i) = 2 then -1 else v i
theorem my_apply5 {post : SY → Prop} {a s : Nat} (ha : a ≤ 384) (hs : s < 3) (hp : post (mc_up (32 * s) 32 v (mc_ap v w g a), w, g, r, d, up, id, tb)) : ∀ e j, j + e = 32 → wY_apply_5 post (nI a) (nI s) (e + 1) (nI (32 * s + j)) (mc_up (32 * s) j v (mc_ap v w g a)) w g r d up id tb := by
  have e32 : (32 * nI s + 32 : Int32) = nI (32 * s + 32) := by rw [mc_32]; exact nI_add (32 * s) 32
  intro e
  induction e with
  | zero =>
    intro j hj
    obtain rfl : j = 32 := by omega
    exact br_t (by rw [e32]; exact Int32.le_refl _) hp
  | succ e ih =>
    intro j hj
    have ec : (nI (32 * s + j)).toNatClampNeg = 32 * s + j := nI_clamp (by omega)
    have ee : (nI a + nI (32 * s + j) : Int32) = nI (a + (32 * s + j)) := nI_add _ _
    have ew : (nI a + nI (32 * s + j) : Int32).toNatClampNeg = a + (32 * s + j) := by rw [ee]; exact nI_clamp (by omega)
    have hin : vp_in (nI a + nI (32 * s + j) : Int32) 480 := pk_in (a + (32 * s + j)) 480 (by omega) ee
    have hi : vp_in (nI (32 * s + j)) 96 := pk_in (32 * s + j) 96 (by omega)
    refine br_f (by rw [e32]; exact nI_ge (by omega) (by omega)) ⟨hin, ?_⟩
    by_cases z1 : w (a + (32 * s + j)) = 1
    · refine br_t (by rw [ew]; exact z1) ⟨hin, hi, nm_r (e' := mc_up (32 * s) (j + 1) v (mc_ap v w g a)) (by rw [ec, ew]; exact mc_upS (by omega) (if_pos z1)) ?_⟩
      unfold wY_apply_42
      exact ⟨hin, br_f (by rw [ew, z1]; decide) (nm_r (nI_1 _) (ih (j + 1) (by omega)))⟩
    · refine br_f (by rw [ew]; exact z1) ?_
      unfold wY_apply_42
      refine ⟨hin, ?_⟩
      by_cases z2 : w (a + (32 * s + j)) = 2
      · exact br_t (by rw [ew]; exact z2) ⟨hi, nm_r (e' := mc_up (32 * s) (j + 1) v (mc_ap v w g a)) (by rw [ec]; exact mc_upS (by omega) ((if_neg z1).trans (if_pos z2))) (nm_r (nI_1 _) (ih (j + 1) (by omega)))⟩
      · refine br_f (by rw [ew]; exact z2) (nm_r (nI_1 _) ?_)
        have := ih (j + 1) (by omega)
        rw [mc_upK (a := v) (k := 32 * s + j) (by omega) ((if_neg z1).trans (if_neg z2))] at this
        exact this
theorem my_apply {post : SY → Prop} {x : Int32} {a s : Nat} (hx : x = nI a) (ha : a ≤ 384) (hs : s < 3) (hp : post (mc_up (32 * s) 32 v (mc_ap v w g a), w, g, r, d, up, id, tb)) : wpY_apply post (v, w, g, r, d, up, id, tb) x (nI s) := by
  subst hx
  unfold wpY_apply; dsimp only
  have := my_apply5 v w g r d up id tb ha hs hp 32 0 (by omega)
  rw [mc_up0] at this
  exact nm_r (mc_32 s) ⟨33, this⟩
/-- the cells that doubt takes over from transaction t -/
def mc_ov (w : Nat → Int32) (t : Nat) : Nat → Int32 := fun k => w (96 * t + (k - 384))
theorem my_doubt20 {post : SY → Prop} {t s : Nat} (ht : t < 4) (hs : s < 3) (hp : post (v, mc_up (384 + 32 * s) 32 w (mc_ov w t), mc_up (384 + 32 * s) 32 g (mc_ov g t), r, d, up, id, tb)) : ∀ e j, j + e = 32 → wY_doubt_20 post (nI t) (nI s) (e + 1) (nI (32 * s + j)) v (mc_up (384 + 32 * s) j w (mc_ov w t)) (mc_up (384 + 32 * s) j g (mc_ov g t)) r d up id tb := by
  have e32 : (32 * nI s + 32 : Int32) = nI (32 * s + 32) := by rw [mc_32]; exact nI_add (32 * s) 32
  intro e
  induction e with
  | zero =>
    intro j hj
    obtain rfl : j = 32 := by omega
    exact br_t (by rw [e32]; exact Int32.le_refl _) hp
  | succ e ih =>
    intro j hj
    have e1 := mc_ix9 t (32 * s + j)
    have c1 : (96 * nI t + nI (32 * s + j) : Int32).toNatClampNeg = 96 * t + (32 * s + j) := by rw [e1]; exact nI_clamp (by omega)
    have i1 : vp_in (96 * nI t + nI (32 * s + j) : Int32) 480 := pk_in (96 * t + (32 * s + j)) 480 (by omega) e1
    have e2 := mc_384 (32 * s + j)
    have c2 : (384 + nI (32 * s + j) : Int32).toNatClampNeg = 384 + (32 * s + j) := by rw [e2]; exact nI_clamp (by omega)
    have i2 : vp_in (384 + nI (32 * s + j) : Int32) 480 := pk_in (384 + (32 * s + j)) 480 (by omega) e2
    have hk : ∀ a : Nat → Int32, mc_ov a t (384 + (32 * s + j)) = mc_up (384 + 32 * s) j a (mc_ov a t) (96 * t + (32 * s + j)) := by
      intro a
      rw [mc_upO (by omega)]
      unfold mc_ov
      rw [Nat.add_sub_cancel_left]
    exact br_f (by rw [e32]; exact nI_ge (by omega) (by omega)) ⟨i1, i2, nm_r (e' := mc_up (384 + 32 * s) (j + 1) w (mc_ov w t)) (by rw [c1, c2]; exact mc_upS (by omega) (hk w)) ⟨i1, i2, nm_r (e' := mc_up (384 + 32 * s) (j + 1) g (mc_ov g t)) (by rw [c1, c2]; exact mc_upS (by omega) (hk g)) (nm_r (nI_1 _) (ih (j + 1) (by omega)))⟩⟩
theorem my_doubt {post : SY → Prop} {t s : Nat} {b : Int32} (ht : t < 4) (hs : s < 3) (hp : post (v, mc_up (384 + 32 * s) 32 w (mc_ov w t), mc_up (384 + 32 * s) 32 g (mc_ov g t), r, d, up, upd id s 1, upd tb s (vp_nar .boolean b))) : wpY_doubt post (v, w, g, r, d, up, id, tb) (nI t) (nI s) b := by
  unfold wpY_doubt; dsimp only
  have := my_doubt20 v w g r d up (upd id s 1) (upd tb s (vp_nar .boolean b)) ht hs hp 32 0 (by omega)
  rw [mc_up0, mc_up0] at this
  exact ⟨pk_in s 3 hs, nm_r (e' := upd id s 1) (by rw [nI_clamp (by omega), mc_b1]) ⟨pk_in s 3 hs, nm_r (e' := upd tb s (vp_nar .boolean b)) (by rw [nI_clamp (by omega)]) (nm_r (mc_32 s) ⟨33, this⟩)⟩⟩
theorem my_dbt0 {post : Int32 → Prop} {i : Nat} (hi : i < 96) (h : id (i / 32) = 0 ∨ w (384 + i) = 0) (hp : post 0) : wpY_isDoubtful post (v, w, g, r, d, up, id, tb) (nI i) := by
  unfold wpY_isDoubtful; dsimp only
  rw [mc_d32 hi, nI_clamp (show i / 32 < 2 ^ 31 by omega)]
  refine ⟨by decide, pk_in (i / 32) 3 (by omega), ?_⟩
  by_cases z : id (i / 32) = 0
  · exact br_t z hp
  · have c2 : (384 + nI i : Int32).toNatClampNeg = 384 + i := by rw [mc_384]; exact nI_clamp (by omega)
    exact br_f z ⟨pk_in (384 + i) 480 (by omega) (mc_384 i), br_t (by rw [c2]; exact h.resolve_left z) hp⟩
theorem my_dbt1 {post : Int32 → Prop} {i : Nat} (hi : i < 96) (h : id (i / 32) ≠ 0) (h' : w (384 + i) ≠ 0) (hp : post 1) : wpY_isDoubtful post (v, w, g, r, d, up, id, tb) (nI i) := by
  unfold wpY_isDoubtful; dsimp only
  rw [mc_d32 hi, nI_clamp (show i / 32 < 2 ^ 31 by omega)]
  have c2 : (384 + nI i : Int32).toNatClampNeg = 384 + i := by rw [mc_384]; exact nI_clamp (by omega)
  exact ⟨by decide, pk_in (i / 32) 3 (by omega), br_f h ⟨pk_in (384 + i) 480 (by omega) (mc_384 i), br_f (by rw [c2]; exact h') hp⟩⟩
/-- what t sees at i -/
def mc_sn (v w g : Nat → Int32) (t i : Nat) : Int32 := if w (96 * t + i) = 0 then v i else if w (96 * t + i) = 1 then g (96 * t + i) else -1
theorem my_seen {post : Int32 → Prop} {t i : Nat} (ht : t < 4) (hi : i < 96) (hp : post (mc_sn v w g t i)) : wpY_seen post (v, w, g, r, d, up, id, tb) (nI t) (nI i) := by
  unfold wpY_seen; dsimp only
  have e1 := mc_ix9 t i
  have c1 : (96 * nI t + nI i : Int32).toNatClampNeg = 96 * t + i := by rw [e1]; exact nI_clamp (by omega)
  have i1 : vp_in (96 * nI t + nI i : Int32) 480 := pk_in (96 * t + i) 480 (by omega) e1
  refine ⟨i1, nm_r (e' := w (96 * t + i)) (by rw [c1]) ?_⟩
  unfold mc_sn at hp
  by_cases z0 : w (96 * t + i) = 0
  · rw [if_pos z0] at hp
    exact br_t z0 ⟨pk_in i 96 hi, by rw [nI_clamp (by omega)]; exact hp⟩
  · rw [if_neg z0] at hp
    by_cases z1 : w (96 * t + i) = 1
    · rw [if_pos z1] at hp
      exact br_f z0 (br_t z1 ⟨i1, by rw [c1]; exact hp⟩)
    · rw [if_neg z1] at hp
      exact br_f z0 (br_f z1 hp)
end
end
section
/-! the relation, and what keeps it -/
def mc_W (f w g : Nat → Int32) (k i : Nat) : Prop := (w k = 1 ∧ g k = f i ∧ 0 ≤ f i) ∨ (w k = 2 ∧ f i = -2)
def mc_V (c v : Nat → Int32) (i : Nat) : Prop := (v i = -1 ∧ c i = -2) ∨ (0 ≤ v i ∧ c i = v i)
def mc_T (st r d : Nat → Int32) (t : Nat) : Prop := (r t = 0 ∧ d t = 0 ∧ st t = 0) ∨ (r t = 1 ∧ d t = 0 ∧ st t = 1) ∨ (r t = 1 ∧ d t = 1 ∧ st t = 2)
def mc_H (h f st w g : Nat → Int32) (i t : Nat) : Prop := (h i = nI t ∧ st t = 1 ∧ mc_W f w g (96 * t + i) i) ∨ (h i ≠ nI t ∧ w (96 * t + i) = 0)
def mc_D (h f w g id : Nat → Int32) (i : Nat) : Prop := (h i = -2 ∧ id (i / 32) = 1 ∧ mc_W f w g (384 + i) i) ∨ (h i ≠ -2 ∧ (id (i / 32) = 0 ∨ w (384 + i) = 0))
def mc_N (h : Nat → Int32) (i : Nat) : Prop := h i = -1 ∨ h i = -2 ∨ ∃ t, t < 4 ∧ h i = nI t
def mc_B (dd id tb : Nat → Int32) (s : Nat) : Prop := id s = 0 ∨ (id s = 1 ∧ dd s = tb s)
def mc_Core (c h f st dd v w g r d id tb : Nat → Int32) : Prop :=
  (∀ i, i < 96 → mc_V c v i) ∧ (∀ t, t < 4 → mc_T st r d t) ∧ (∀ i, i < 96 → ∀ t, t < 4 → mc_H h f st w g i t) ∧
  (∀ i, i < 96 → mc_D h f w g id i) ∧ (∀ i, i < 96 → mc_N h i) ∧ (∀ s, s < 3 → mc_B dd id tb s) ∧
  (∀ t, t < 4 → ∀ s, s < 3 → mc_cn h (nI t) (32 * s) 32 ≤ 6)
def mc_F1 (up id : Nat → Int32) : Prop := ∀ s, s < 3 → id s = 0 ∨ up s = 0 ∨ up 3 = 0
def mc_F2 (up st : Nat → Int32) : Prop := up 3 = 0 → ∀ t, t < 4 → st t = 0
def mc_F3 (up h : Nat → Int32) : Prop := ∀ i, i < 96 → ∀ t, t < 4 → h i = nI t → up (i / 32) ≠ 0
def i_Rel (k : Nat) (u : SX) (v : SY) : Prop := match u, v with
  | (c, h, f, st, up, dd), (v, w, g, r, d, up', id, tb) => up' = up ∧ mc_Core c h f st dd v w g r d id tb ∧ mc_F1 up id ∧ mc_F2 up st ∧ mc_F3 up h
theorem i_up {k : Nat} {u : SX} {v : SY} (h : i_Rel k u v) : i_Rel (k + 5) u v := h
theorem mc_Tr {st r d : Nat → Int32} {t : Nat} (h : mc_T st r d t) : st t = 0 ↔ r t = 0 := by
  rcases h with ⟨a, _, e⟩ | ⟨a, _, e⟩ | ⟨a, _, e⟩ <;> rw [a, e] <;> decide
theorem mc_Td {st r d : Nat → Int32} {t : Nat} (h : mc_T st r d t) : st t = 2 ↔ d t ≠ 0 := by
  rcases h with ⟨_, a, e⟩ | ⟨_, a, e⟩ | ⟨_, a, e⟩ <;> rw [a, e] <;> decide
theorem mc_Wn {f w g : Nat → Int32} {k i : Nat} (h : mc_W f w g k i) : w k ≠ 0 := by
  rcases h with ⟨a, _⟩ | ⟨a, _⟩ <;> rw [a] <;> decide
theorem mc_Hw {h f st w g : Nat → Int32} {i t : Nat} (H : mc_H h f st w g i t) : h i = nI t ↔ w (96 * t + i) ≠ 0 := by
  rcases H with ⟨a, _, b⟩ | ⟨a, b⟩
  · exact ⟨fun _ => mc_Wn b, fun _ => a⟩
  · exact ⟨fun z => absurd z a, fun z => absurd b z⟩
theorem mc_Dw {h f w g id : Nat → Int32} {i : Nat} (H : mc_D h f w g id i) : h i = -2 ↔ (id (i / 32) ≠ 0 ∧ w (384 + i) ≠ 0) := by
  rcases H with ⟨a, b, e⟩ | ⟨a, b⟩
  · exact ⟨fun _ => ⟨by rw [b]; decide, mc_Wn e⟩, fun _ => a⟩
  · exact ⟨fun z => absurd z a, fun z => b.elim (fun q => absurd q z.1) (fun q => absurd q z.2)⟩
theorem mc_Dn {h f w g id : Nat → Int32} {i : Nat} (H : mc_D h f w g id i) (z : h i ≠ -2) : id (i / 32) = 0 ∨ w (384 + i) = 0 := by
  rcases H with ⟨a, _, _⟩ | ⟨_, b⟩
  · exact absurd a z
  · exact b
section
variable {c h f st dd v w g r d id tb : Nat → Int32}
/-- X's count of what t holds in s is Y's -/
theorem mc_cnt (K : mc_Core c h f st dd v w g r d id tb) {t s : Nat} (ht : t < 4) (hs : s < 3) : mc_cn h (nI t) (32 * s) 32 = mc_cz w (96 * t + 32 * s) 32 := by
  refine mc_cnz 32 fun k hk => ?_
  have := mc_Hw (K.2.2.1 (32 * s + k) (by omega) t ht)
  rw [show 96 * t + 32 * s + k = 96 * t + (32 * s + k) by omega]
  exact this
theorem mc_cntD (K : mc_Core c h f st dd v w g r d id tb) {s : Nat} (hs : s < 3) (hid : id s ≠ 0) : mc_cn h (-2) (32 * s) 32 = mc_cz w (384 + 32 * s) 32 := by
  refine mc_cnz 32 fun k hk => ?_
  have := mc_Dw (K.2.2.2.1 (32 * s + k) (by omega))
  rw [show (32 * s + k) / 32 = s by omega] at this
  rw [show 384 + 32 * s + k = 384 + (32 * s + k) by omega, this]
  exact ⟨fun z => z.2, fun z => ⟨hid, z⟩⟩
theorem mc_cntD0 (K : mc_Core c h f st dd v w g r d id tb) {s : Nat} (hs : s < 3) (hid : id s = 0) : mc_cn h (-2) (32 * s) 32 = 0 := by
  refine mc_cnZ 32 fun k hk e => ?_
  have := (mc_Dw (K.2.2.2.1 (32 * s + k) (by omega))).mp e
  rw [show (32 * s + k) / 32 = s by omega] at this
  exact this.1 hid
/-- who is not running soundly holds nothing -/
theorem mc_no (K : mc_Core c h f st dd v w g r d id tb) {t : Nat} (ht : t < 4) (hz : st t ≠ 1) : ∀ i, i < 96 → h i ≠ nI t := by
  intro i hi e
  rcases K.2.2.1 i hi t ht with ⟨_, a, _⟩ | ⟨a, _⟩
  · exact hz a
  · exact a e
theorem mc_no0 (K : mc_Core c h f st dd v w g r d id tb) {t s : Nat} (ht : t < 4) (hs : s < 3) (hz : st t ≠ 1) : mc_cn h (nI t) (32 * s) 32 = 0 :=
  mc_cnZ 32 fun k _ => mc_no K ht hz (32 * s + k) (by omega)
/-- one transaction t lets go of all its keys, those in the stores D being left in doubt; its own status becomes what it may -/
theorem mc_cm (K : mc_Core c h f st dd v w g r d id tb) {t : Nat} (ht : t < 4) (D : Nat → Prop) {c' h' st' dd' v' w' g' r' d' id' tb' : Nat → Int32}
    (hN : ∀ q, q < 4 → q ≠ t → st' q = st q ∧ r' q = r q ∧ d' q = d q) (hT : mc_T st' r' d' t)
    (hh : ∀ i, i < 96 → h i ≠ nI t → h' i = h i)
    (hh1 : ∀ i, i < 96 → h i = nI t → D (i / 32) → h' i = -2)
    (hh0 : ∀ i, i < 96 → h i = nI t → ¬ D (i / 32) → h' i = -1)
    (hV : ∀ i, i < 96 → mc_V c' v' i)
    (hw : ∀ q, q < 4 → q ≠ t → ∀ i, i < 96 → w' (96 * q + i) = w (96 * q + i) ∧ g' (96 * q + i) = g (96 * q + i))
    (hwt : ∀ i, i < 96 → w' (96 * t + i) = 0)
    (hD1 : ∀ i, i < 96 → D (i / 32) → id (i / 32) = 0 ∧ id' (i / 32) = 1 ∧ w' (384 + i) = w (96 * t + i) ∧ g' (384 + i) = g (96 * t + i))
    (hD0 : ∀ i, i < 96 → ¬ D (i / 32) → id' (i / 32) = id (i / 32) ∧ w' (384 + i) = w (384 + i) ∧ g' (384 + i) = g (384 + i))
    (hB : ∀ s, s < 3 → mc_B dd' id' tb' s) : mc_Core c' h' f st' dd' v' w' g' r' d' id' tb' := by
  obtain ⟨KV, KT, KH, KD, KN, KB, KC⟩ := K
  have hne : ∀ i, i < 96 → ∀ q, q < 4 → h' i = nI q → h i = nI q ∧ q ≠ t := by
    intro i hi q hq e
    by_cases z : h i = nI t
    · by_cases y : D (i / 32)
      · exact absurd (e.symm.trans (hh1 i hi z y)) (mc_m2 q hq)
      · exact absurd (e.symm.trans (hh0 i hi z y)) (mc_m1 q hq)
    · have e2 := (hh i hi z).symm.trans e
      exact ⟨e2, fun y => z (by rw [e2, y])⟩
  refine ⟨hV, ?_, ?_, ?_, ?_, hB, ?_⟩
  · intro q hq
    by_cases z : q = t
    · rw [z]; exact hT
    · obtain ⟨a, b, e⟩ := hN q hq z
      have := KT q hq
      unfold mc_T at this ⊢
      rw [a, b, e]; exact this
  · intro i hi q hq
    by_cases z : q = t
    · refine Or.inr ⟨fun e => (hne i hi q hq e).2 z, ?_⟩
      rw [z]; exact hwt i hi
    · obtain ⟨a, _, _⟩ := hN q hq z
      obtain ⟨b, e⟩ := hw q hq z i hi
      rcases KH i hi q hq with ⟨x1, x2, x3⟩ | ⟨x1, x2⟩
      · refine Or.inl ⟨?_, a.trans x2, ?_⟩
        · rw [hh i hi (fun y => z (mc_inj hq ht (x1.symm.trans y)))]; exact x1
        · unfold mc_W at x3 ⊢; rw [b, e]; exact x3
      · exact Or.inr ⟨fun y => x1 (hne i hi q hq y).1, b.trans x2⟩
  · intro i hi
    by_cases y : D (i / 32)
    · obtain ⟨a, b, e1, e2⟩ := hD1 i hi y
      by_cases z : h i = nI t
      · refine Or.inl ⟨hh1 i hi z y, b, ?_⟩
        rcases KH i hi t ht with ⟨_, _, x3⟩ | ⟨x1, _⟩
        · unfold mc_W at x3 ⊢; rw [e1, e2]; exact x3
        · exact absurd z x1
      · refine Or.inr ⟨?_, Or.inr ?_⟩
        · rw [hh i hi z]
          intro q
          exact ((mc_Dw (KD i hi)).mp q).1 a
        · rcases KH i hi t ht with ⟨x1, _, _⟩ | ⟨_, x2⟩
          · exact absurd x1 z
          · exact e1.trans x2
    · obtain ⟨a, e1, e2⟩ := hD0 i hi y
      by_cases z : h i = nI t
      · refine Or.inr ⟨?_, ?_⟩
        · rw [hh0 i hi z y]; decide
        · rw [a, e1]; exact mc_Dn (KD i hi) (by rw [z]; exact mc_m2 t ht)
      · have := KD i hi
        unfold mc_D mc_W at this ⊢
        rw [hh i hi z, a, e1, e2]; exact this
  · intro i hi
    by_cases z : h i = nI t
    · by_cases y : D (i / 32)
      · exact Or.inr (Or.inl (hh1 i hi z y))
      · exact Or.inl (hh0 i hi z y)
    · unfold mc_N; rw [hh i hi z]; exact KN i hi
  · intro q hq s hs
    exact Nat.le_trans (mc_cnM 32 fun k hk e => (hne (32 * s + k) (by omega) q hq e).1) (KC q hq s hs)
/-- one store s is settled -/
theorem mc_st (K : mc_Core c h f st dd v w g r d id tb) {s : Nat} {c' h' v' id' : Nat → Int32}
    (ho : ∀ i, i < 96 → i / 32 ≠ s → h' i = h i) (h1 : ∀ i, i < 96 → i / 32 = s → h i = -2 → h' i = -1) (h2 : ∀ i, i < 96 → h i ≠ -2 → h' i = h i)
    (hV : ∀ i, i < 96 → mc_V c' v' i) (hi0 : id' s = 0) (hio : ∀ q, q ≠ s → id' q = id q) : mc_Core c' h' f st dd v' w g r d id' tb := by
  obtain ⟨KV, KT, KH, KD, KN, KB, KC⟩ := K
  have hne : ∀ i, i < 96 → ∀ q, q < 4 → (h' i = nI q ↔ h i = nI q) := by
    intro i hi q hq
    by_cases z : h i = -2
    · by_cases y : i / 32 = s
      · rw [h1 i hi y z, z]
        exact ⟨fun e => absurd e.symm (mc_m1 q hq), fun e => absurd e.symm (mc_m2 q hq)⟩
      · rw [ho i hi y]
    · rw [h2 i hi z]
  refine ⟨hV, KT, ?_, ?_, ?_, ?_, ?_⟩
  · intro i hi q hq
    have := KH i hi q hq
    unfold mc_H at this ⊢
    rw [Ne, hne i hi q hq]; exact this
  · intro i hi
    by_cases y : i / 32 = s
    · refine Or.inr ⟨?_, Or.inl (by rw [y]; exact hi0)⟩
      by_cases z : h i = -2
      · rw [h1 i hi y z]; decide
      · rw [h2 i hi z]; exact z
    · have := KD i hi
      unfold mc_D at this ⊢
      rw [ho i hi y, hio _ y]; exact this
  · intro i hi
    by_cases z : h i = -2
    · by_cases y : i / 32 = s
      · exact Or.inl (h1 i hi y z)
      · unfold mc_N; rw [ho i hi y]; exact KN i hi
    · unfold mc_N; rw [h2 i hi z]; exact KN i hi
  · intro q hq
    by_cases z : q = s
    · exact Or.inl (by rw [z]; exact hi0)
    · have := KB q hq
      unfold mc_B at this ⊢
      rw [hio q z]; exact this
  · intro q hq s' hs
    exact Nat.le_trans (mc_cnM 32 fun k hk e => (hne (32 * s' + k) (by omega) q hq).mp e) (KC q hq s' hs)
/-- t writes at i -/
theorem mc_wr (K : mc_Core c h f st dd v w g r d id tb) {t i : Nat} (ht : t < 4) (hi : i < 96) (hst : st t = 1) (hf : h i = nI t ∨ (h i = -1 ∧ mc_cn h (nI t) (32 * (i / 32)) 32 < 6)) {x : Int32} {w' g' : Nat → Int32}
    (hw : ∀ k, k ≠ 96 * t + i → w' k = w k ∧ g' k = g k) (hx : mc_W (upd f i x) w' g' (96 * t + i) i) : mc_Core c (upd h i (nI t)) (upd f i x) st dd v w' g' r d id tb := by
  obtain ⟨KV, KT, KH, KD, KN, KB, KC⟩ := K
  have hnot : ∀ q, q < 4 → q ≠ t → h i ≠ nI q := by
    intro q hq z e
    rcases hf with y | ⟨y, _⟩
    · exact z (mc_inj hq ht (e.symm.trans y))
    · exact mc_m1 q hq (e.symm.trans y)
  have hnd : h i ≠ -2 := by
    intro e
    rcases hf with y | ⟨y, _⟩
    · exact mc_m2 t ht (y.symm.trans e)
    · exact absurd (y.symm.trans e) (by decide)
  refine ⟨KV, KT, ?_, ?_, ?_, KB, ?_⟩
  · intro j hj q hq
    by_cases zj : j = i
    · subst zj
      by_cases z : q = t
      · subst z
        exact Or.inl ⟨pk_us, hst, hx⟩
      · refine Or.inr ⟨?_, ?_⟩
        · rw [pk_us]; intro e; exact z (mc_inj hq ht e.symm)
        · rw [(hw (96 * q + j) (by omega)).1]
          rcases KH j hj q hq with ⟨x1, _, _⟩ | ⟨_, x2⟩
          · exact absurd x1 (hnot q hq z)
          · exact x2
    · have := KH j hj q hq
      unfold mc_H mc_W at this ⊢
      rw [pk_un zj, pk_un zj, (hw (96 * q + j) (by omega)).1, (hw (96 * q + j) (by omega)).2]
      exact this
  · intro j hj
    by_cases zj : j = i
    · subst zj
      refine Or.inr ⟨by rw [pk_us]; exact mc_m2 t ht, ?_⟩
      rw [(hw (384 + j) (by omega)).1]
      exact mc_Dn (KD j hj) hnd
    · have := KD j hj
      unfold mc_D mc_W at this ⊢
      rw [pk_un zj, pk_un zj, (hw (384 + j) (by omega)).1, (hw (384 + j) (by omega)).2]
      exact this
  · intro j hj
    by_cases zj : j = i
    · subst zj
      exact Or.inr (Or.inr ⟨t, ht, pk_us⟩)
    · unfold mc_N; rw [pk_un zj]; exact KN j hj
  · intro q hq s hs
    by_cases z : q = t
    · subst z
      rcases hf with y | ⟨_, y⟩
      · refine Nat.le_trans (mc_cnM 32 fun k hk e => ?_) (KC q hq s hs)
        by_cases zj : 32 * s + k = i
        · rw [zj]; exact y
        · rw [pk_un zj] at e; exact e
      · have h1 := mc_cnU (a := h) (x := nI q) (b := 32 * s) (i := i) 32
        by_cases zs : s = i / 32
        · subst zs
          have : (if 32 * (i / 32) ≤ i ∧ i < 32 * (i / 32) + 32 then 1 else 0) ≤ 1 := by
            by_cases z : 32 * (i / 32) ≤ i ∧ i < 32 * (i / 32) + 32
            · rw [if_pos z]; exact Nat.le_refl 1
            · rw [if_neg z]; exact Nat.zero_le 1
          omega
        · rw [if_neg (by omega)] at h1
          exact Nat.le_trans h1 (KC q hq s hs)
    · refine Nat.le_trans (mc_cnM 32 fun k hk e => ?_) (KC q hq s hs)
      by_cases zj : 32 * s + k = i
      · rw [zj, pk_us] at e; exact absurd (mc_inj ht hq e).symm z
      · rw [pk_un zj] at e; exact e
end
end
section
/-! both sides at once: a transaction lets go, a store or the leader is lost, a store is settled -/
section
variable {c h f st dd v w g r d id tb : Nat → Int32}
theorem mc_let (K : mc_Core c h f st dd v w g r d id tb) {t : Nat} (ht : t < 4) {st' r' d' : Nat → Int32}
    (hN : ∀ q, q < 4 → q ≠ t → st' q = st q ∧ r' q = r q ∧ d' q = d q) (hT : mc_T st' r' d' t) :
    mc_Core c (mc_up 0 96 h (mc_dr h (nI t))) f st' dd v (mc_up (96 * t) 96 w mc_z) g r' d' id tb :=
  mc_cm K ht (fun _ => False) hN hT
    (fun i hi z => by rw [mc_upI (by omega) (by omega)]; exact if_neg z)
    (fun _ _ _ z => z.elim)
    (fun i hi z _ => by rw [mc_upI (by omega) (by omega)]; exact if_pos z)
    K.1
    (fun q hq z i hi => ⟨mc_upO (by omega), rfl⟩)
    (fun i hi => mc_upI (b := mc_z) (by omega) (by omega))
    (fun _ _ z => z.elim)
    (fun i hi _ => ⟨rfl, mc_upO (by omega), rfl⟩)
    K.2.2.2.2.2.1
theorem mc_end2 (K : mc_Core c h f st dd v w g r d id tb) {t : Nat} (ht : t < 4) :
    mc_Core c (mc_up 0 96 h (mc_dr h (nI t))) f (upd st t 0) dd v (mc_up (96 * t) 96 w mc_z) g (upd r t 0) (upd d t 0) id tb :=
  mc_let K ht (fun q _ z => ⟨pk_un z, pk_un z, pk_un z⟩) (Or.inl ⟨pk_us, pk_us, pk_us⟩)
theorem mc_doom2 (K : mc_Core c h f st dd v w g r d id tb) {t : Nat} (ht : t < 4) (h1 : r t = 1) :
    mc_Core c (mc_up 0 96 h (mc_dr h (nI t))) f (upd st t 2) dd v (mc_up (96 * t) 96 w mc_z) g r (upd d t 1) id tb :=
  mc_let K ht (fun q _ z => ⟨pk_un z, rfl, pk_un z⟩) (Or.inr (Or.inr ⟨h1, pk_us, pk_us⟩))
theorem mc_drO {x : Int32} {i t : Nat} (ht : t < 4) (hi : i < 96) (e : mc_up 0 96 h (mc_dr h x) i = nI t) : h i = nI t ∧ h i ≠ x := by
  rw [mc_upI (by omega) (by omega)] at e
  unfold mc_dr at e
  by_cases z : h i = x
  · rw [if_pos z] at e; exact absurd e.symm (mc_m1 t ht)
  · rw [if_neg z] at e; exact ⟨e, z⟩
theorem mc_drI {x : Int32} (hz : ∀ i, i < 96 → h i ≠ x) : mc_up 0 96 h (mc_dr h x) = h := by
  funext i
  by_cases hi : i < 96
  · rw [mc_upI (by omega) (by omega)]; exact if_neg (hz i hi)
  · exact mc_upO (by omega)
theorem mc_stE (K : mc_Core c h f st dd v w g r d id tb) {st' : Nat → Int32} (e : ∀ t, t < 4 → st' t = st t) : mc_Core c h f st' dd v w g r d id tb := by
  obtain ⟨KV, KT, KH, KD, KN, KB, KC⟩ := K
  refine ⟨KV, ?_, ?_, KD, KN, KB, KC⟩
  · intro t ht
    have := KT t ht
    unfold mc_T at this ⊢
    rw [e t ht]; exact this
  · intro i hi t ht
    have := KH i hi t ht
    unfold mc_H at this ⊢
    rw [e t ht]; exact this
end
section
variable (c f dd v g id tb up : Nat → Int32)
theorem mc_fall11 (r : Nat → Int32) {s : Nat} (hs : s < 3) : ∀ e j, j + e = 4 → ∀ (n : Int32) (h st w d : Nat → Int32), mc_Core c h f st dd v w g r d id tb →
    (∀ t, t < j → ∀ i, i < 96 → i / 32 = s → h i ≠ nI t) → ∃ (k : Int32) (h' st' w' d' : Nat → Int32), mc_Core c h' f st' dd v w' g r d' id tb ∧
    (∀ t, t < 4 → ∀ i, i < 96 → i / 32 = s → h' i ≠ nI t) ∧ (∀ i, i < 96 → ∀ t, t < 4 → h' i = nI t → h i = nI t) ∧ (∀ t, t < 4 → st t = 0 → st' t = 0) ∧
    (∀ post : Int32 → SX → Prop, post k (c, h', f, st', up, dd) → wX_loseStore_11 post (nI s) (e + 1) n (nI j) c h f st up dd) ∧
    (∀ post : Int32 → SY → Prop, post k (v, w', g, r, d', up, id, tb) → wY_fall_11 post (nI s) (e + 1) n (nI j) v w g r d up id tb) := by
  intro e
  induction e with
  | zero =>
    intro j hj n h st w d K hz
    obtain rfl : j = 4 := by omega
    exact ⟨n, h, st, w, d, K, hz, fun _ _ _ _ z => z, fun _ _ z => z, fun post hp => br_t (by decide) hp, fun post hp => br_t (by decide) hp⟩
  | succ e ih =>
    intro j hj n h st w d K hz
    have h4 : j < 4 := by omega
    have g4 : ¬ (4 : Int32) ≤ nI j := nI_ge (b := 4) (by omega) (by decide)
    have cl : (nI j).toNatClampNeg = j := nI_clamp (by omega)
    by_cases hc : mc_cn h (nI j) (32 * s) 32 = 0
    · obtain ⟨k, h', st', w', d', K', a1, a2, a3, bX, bY⟩ := ih (j + 1) (by omega) n h st w d K (by
        intro t ht i hi hs2
        by_cases z : t = j
        · subst z
          have := mc_cn0 32 hc (i - 32 * s) (by omega)
          rw [show 32 * s + (i - 32 * s) = i by omega] at this
          exact this
        · exact hz t (by omega) i hi hs2)
      refine ⟨k, h', st', w', d', K', a1, a2, a3, fun post hp => br_f g4 ?_, fun post hp => br_f g4 ⟨pk_in j 4 h4, ?_⟩⟩
      · refine mx_held c h f st up dd hs ?_
        rw [hc]
        exact br_t (by decide) (nm_r (nI_1 j) (bX post hp))
      · by_cases z : r j = 0
        · exact br_t (by rw [cl]; exact z) (nm_r (nI_1 j) (bY post hp))
        · refine br_f (by rw [cl]; exact z) (my_wf v w g r d up id tb (mc_96 j) (by omega) ?_)
          rw [← mc_cnt K h4 hs, hc]
          exact br_t (by decide) (nm_r (nI_1 j) (bY post hp))
    · have hst : st j = 1 := Decidable.byContradiction fun z => hc (mc_no0 K h4 hs z)
      have hr : r j = 1 := by
        rcases K.2.1 j h4 with ⟨_, _, x⟩ | ⟨x, _, _⟩ | ⟨x, _, _⟩
        · exact absurd (x.symm.trans hst) (by decide)
        · exact x
        · exact x
      have hr0 : ¬ r j = 0 := by rw [hr]; decide
      have hl := mc_cnL h (nI j) (32 * s) 32
      have hn0 : ¬ nI (mc_cn h (nI j) (32 * s) 32) ≤ 0 := nI_nle (by omega) (by omega)
      obtain ⟨k, h', st', w', d', K', a1, a2, a3, bX, bY⟩ := ih (j + 1) (by omega) (n + 1) _ _ _ _ (mc_doom2 K h4 hr) (by
        intro t ht i hi hs2 e
        obtain ⟨e1, e2⟩ := mc_drO (by omega) hi e
        by_cases z : t = j
        · subst z; exact e2 e1
        · exact hz t (by omega) i hi hs2 e1)
      refine ⟨k, h', st', w', d', K', a1, fun i hi t ht e => (mc_drO ht hi (a2 i hi t ht e)).1, ?_, fun post hp => br_f g4 ?_, fun post hp => br_f g4 ⟨pk_in j 4 h4, br_f (by rw [cl]; exact hr0) ?_⟩⟩
      · intro t ht e
        refine a3 t ht ?_
        rw [pk_un]
        · exact e
        · intro z; rw [z, hst] at e; exact absurd e (by decide)
      · refine mx_held c h f st up dd hs (br_f hn0 (mx_drop c h f st up dd ?_))
        dsimp only
        exact ⟨pk_in j 4 h4, nm_r (e' := upd st j 2) (by rw [cl]) (nm_e (nm_r (nI_1 j) (bX post hp)))⟩
      · refine my_wf v w g r d up id tb (mc_96 j) (by omega) ?_
        rw [← mc_cnt K h4 hs]
        refine br_f hn0 (my_forget v w g r d up id tb h4 ?_)
        dsimp only
        exact ⟨pk_in j 4 h4, nm_r (e' := upd d j 1) (by rw [cl, mc_b1]) (nm_e (nm_r (nI_1 j) (bY post hp)))⟩
theorem mc_lead11 : ∀ e j, j + e = 4 → ∀ (n n' : Int32) (h st sz w r d : Nat → Int32), mc_Core c h f sz dd v w g r d id tb →
    (∀ t, t < j → st t = 0) → (∀ t, t < 4 → sz t = st t ∨ sz t = 0) → ∃ (k k' : Int32) (h' st' w' r' d' : Nat → Int32), mc_Core c h' f st' dd v w' g r' d' id tb ∧
    (∀ t, t < 4 → st' t = 0) ∧ ((∀ t, t < 4 → sz t = st t) → n' = n → k' = k) ∧
    (∀ post : Int32 → SX → Prop, post k (c, h', f, st', up, dd) → wX_loseLeader_11 post (e + 1) n (nI j) c h f st up dd) ∧
    (∀ post : Int32 → SY → Prop, post k' (v, w', g, r', d', up, id, tb) → wY_fallLeader_11 post (e + 1) n' (nI j) v w g r d up id tb) := by
  intro e
  induction e with
  | zero =>
    intro j hj n n' h st sz w r d K hz hs
    obtain rfl : j = 4 := by omega
    exact ⟨n, n', h, st, w, r, d, mc_stE K (fun t ht => (hs t ht).elim (fun q => q.symm) (fun q => (hz t ht).trans q.symm)), hz, fun _ q => q, fun post hp => br_t (by decide) hp, fun post hp => br_t (by decide) hp⟩
  | succ e ih =>
    intro j hj n n' h st sz w r d K hz hs
    have h4 : j < 4 := by omega
    have g4 : ¬ (4 : Int32) ≤ nI j := nI_ge (b := 4) (by omega) (by decide)
    have cl : (nI j).toNatClampNeg = j := nI_clamp (by omega)
    by_cases h0 : st j = 0
    · have z0 : sz j = 0 := (hs j h4).elim (fun q => q.trans h0) (fun q => q)
      have r0 : r j = 0 := (mc_Tr (K.2.1 j h4)).mp z0
      obtain ⟨k, k', h', st', w', r', d', K', a1, a2, bX, bY⟩ := ih (j + 1) (by omega) n n' h st sz w r d K (by
        intro t ht
        by_cases z : t = j
        · rw [z]; exact h0
        · exact hz t (by omega)) hs
      exact ⟨k, k', h', st', w', r', d', K', a1, a2, fun post hp => br_f g4 ⟨pk_in j 4 h4, br_t (by rw [cl]; exact h0) (nm_r (nI_1 j) (bX post hp))⟩, fun post hp => br_f g4 ⟨pk_in j 4 h4, br_t (by rw [cl]; exact r0) (nm_r (nI_1 j) (bY post hp))⟩⟩
    · by_cases y : sz j = st j
      · have r0 : ¬ r j = 0 := fun q => h0 (y.symm.trans ((mc_Tr (K.2.1 j h4)).mpr q))
        obtain ⟨k, k', h', st', w', r', d', K', a1, a2, bX, bY⟩ := ih (j + 1) (by omega) (n + 1) (n' + 1) _ (upd st j 0) _ _ _ _ (mc_end2 K h4) (by
          intro t ht
          by_cases z : t = j
          · rw [z]; exact pk_us
          · rw [pk_un z]; exact hz t (by omega)) (by
          intro t ht
          by_cases z : t = j
          · rw [z, pk_us, pk_us]; exact Or.inl rfl
          · rw [pk_un z, pk_un z]; exact hs t ht)
        refine ⟨k, k', h', st', w', r', d', K', a1, ?_, fun post hp => br_f g4 ⟨pk_in j 4 h4, br_f (by rw [cl]; exact h0) ?_⟩, fun post hp => br_f g4 ⟨pk_in j 4 h4, br_f (by rw [cl]; exact r0) ?_⟩⟩
        · intro q en
          refine a2 ?_ (by rw [en])
          intro t ht
          by_cases z : t = j
          · rw [z, pk_us, pk_us]
          · rw [pk_un z, pk_un z]; exact q t ht
        · refine mx_end c h f st up dd h4 ?_
          dsimp only
          exact nm_e (nm_r (nI_1 j) (bX post hp))
        · refine my_end v w g r d up id tb h4 ?_
          dsimp only
          exact nm_e (nm_r (nI_1 j) (bY post hp))
      · have z0 : sz j = 0 := (hs j h4).resolve_left y
        have r0 : r j = 0 := (mc_Tr (K.2.1 j h4)).mp z0
        obtain ⟨k, k', h', st', w', r', d', K', a1, a2, bX, bY⟩ := ih (j + 1) (by omega) (n + 1) n' h (upd st j 0) sz w r d K (by
          intro t ht
          by_cases z : t = j
          · rw [z]; exact pk_us
          · rw [pk_un z]; exact hz t (by omega)) (by
          intro t ht
          by_cases z : t = j
          · rw [z]; exact Or.inr z0
          · rw [pk_un z]; exact hs t ht)
        refine ⟨k, k', h', st', w', r', d', K', a1, fun q => absurd (q j h4) y, fun post hp => br_f g4 ⟨pk_in j 4 h4, br_f (by rw [cl]; exact h0) ?_⟩, fun post hp => br_f g4 ⟨pk_in j 4 h4, br_t (by rw [cl]; exact r0) (nm_r (nI_1 j) (bY post hp))⟩⟩
        refine mx_end c h f st up dd h4 ?_
        rw [mc_drI (mc_no K h4 (by rw [z0]; decide))]
        dsimp only
        exact nm_e (nm_r (nI_1 j) (bX post hp))
end
section
variable (v w g r d up id tb : Nat → Int32)
theorem my_sskip {post : SY → Prop} {n j : Nat} (hj : j < 3) (h0 : id j = 0 ∨ up j = 0 ∨ up 3 = 0) (hp : wY_settle_2 post n (nI (j + 1)) v w g r d up id tb) : wY_settle_2 post (n + 1) (nI j) v w g r d up id tb := by
  have cl : (nI j).toNatClampNeg = j := nI_clamp (by omega)
  refine br_f (nI_ge (b := 3) (by omega) (by decide)) ⟨pk_in j 3 hj, ?_⟩
  rw [cl]
  by_cases z : id j = 0
  · exact br_t z (nm_r (nI_1 j) hp)
  · refine br_f z ⟨pk_in j 4 (by omega), ?_⟩
    by_cases y : up j = 0
    · exact br_t y (nm_r (nI_1 j) hp)
    · exact br_f y (br_t ((h0.resolve_left z).resolve_left y) (nm_r (nI_1 j) hp))
theorem my_sdo0 {post : SY → Prop} {n j : Nat} (hj : j < 3) (h1 : id j ≠ 0) (h2 : up j ≠ 0) (h3 : up 3 ≠ 0) (h4 : tb j = 0) (hp : wY_settle_2 post n (nI (j + 1)) v w g r d up (upd id j 0) tb) : wY_settle_2 post (n + 1) (nI j) v w g r d up id tb := by
  have cl : (nI j).toNatClampNeg = j := nI_clamp (by omega)
  refine br_f (nI_ge (b := 3) (by omega) (by decide)) ⟨pk_in j 3 hj, ?_⟩
  rw [cl]
  exact br_f h1 ⟨pk_in j 4 (by omega), br_f h2 (br_f h3 ⟨pk_in j 3 hj, br_t h4 ⟨pk_in j 3 hj, nm_r (e' := upd id j 0) (by rw [mc_b0]) (nm_r (nI_1 j) hp)⟩⟩)⟩
theorem my_sdo1 {post : SY → Prop} {n j : Nat} (hj : j < 3) (h1 : id j ≠ 0) (h2 : up j ≠ 0) (h3 : up 3 ≠ 0) (h4 : tb j ≠ 0) (hp : wY_settle_2 post n (nI (j + 1)) (mc_up (32 * j) 32 v (mc_ap v w g 384)) w g r d up (upd id j 0) tb) : wY_settle_2 post (n + 1) (nI j) v w g r d up id tb := by
  have cl : (nI j).toNatClampNeg = j := nI_clamp (by omega)
  refine br_f (nI_ge (b := 3) (by omega) (by decide)) ⟨pk_in j 3 hj, ?_⟩
  refine br_f (by rw [cl]; exact h1) ⟨pk_in j 4 (by omega), br_f (by rw [cl]; exact h2) (br_f h3 ⟨pk_in j 3 hj, br_f (by rw [cl]; exact h4) ?_⟩)⟩
  refine my_apply v w g r d up id tb (a := 384) rfl (by omega) hj ?_
  dsimp only
  exact ⟨pk_in j 3 hj, nm_r (e' := upd id j 0) (by rw [cl, mc_b0]) (nm_r (nI_1 j) hp)⟩
end
theorem mc_set1 {c h f st dd v w g r d id tb : Nat → Int32} (up : Nat → Int32) (K : mc_Core c h f st dd v w g r d id tb) {s : Nat} (hs : s < 3) (h1 : up s ≠ 0) (h3 : up 3 ≠ 0) : ∃ c' h' v' id' : Nat → Int32,
    mc_Core c' h' f st dd v' w g r d id' tb ∧ id' s = 0 ∧ (∀ q, q ≠ s → id' q = id q) ∧ (∀ i, i < 96 → ∀ t, t < 4 → h' i = nI t → h i = nI t) ∧
    (∀ post : SX → Prop, post (c', h', f, st, up, dd) → wpX_settle post (c, h, f, st, up, dd) (nI s)) ∧
    (∀ (post : SY → Prop) (n : Nat), wY_settle_2 post n (nI (s + 1)) v' w g r d up id' tb → wY_settle_2 post (n + 1) (nI s) v w g r d up id tb) := by
  have ho : ∀ i, i < 96 → i / 32 ≠ s → mc_up (32 * s) 32 h (mc_dr h (-2)) i = h i := fun i hi z => mc_upO (by omega)
  have hd : ∀ i, i < 96 → i / 32 = s → h i = -2 → mc_up (32 * s) 32 h (mc_dr h (-2)) i = -1 := fun i hi z e => by
    rw [mc_upI (by omega) (by omega)]; exact if_pos e
  have h2 : ∀ i, i < 96 → h i ≠ -2 → mc_up (32 * s) 32 h (mc_dr h (-2)) i = h i := fun i hi e => by
    by_cases z : i / 32 = s
    · rw [mc_upI (by omega) (by omega)]; exact if_neg e
    · exact ho i hi z
  have hb : ∀ i, i < 96 → ∀ t, t < 4 → mc_up (32 * s) 32 h (mc_dr h (-2)) i = nI t → h i = nI t := fun i hi t ht e => by
    by_cases z : h i = -2
    · by_cases y : i / 32 = s
      · rw [hd i hi y z] at e; exact absurd e.symm (mc_m1 t ht)
      · rw [ho i hi y] at e; exact e
    · rw [h2 i hi z] at e; exact e
  have hcO : ∀ i, i < 96 → i / 32 ≠ s → mc_up (32 * s) 32 c (mc_se c h f (dd s)) i = c i := fun i hi z => mc_upO (by omega)
  have hcN : ∀ i, i < 96 → (h i ≠ -2 ∨ dd s = 0) → mc_up (32 * s) 32 c (mc_se c h f (dd s)) i = c i := fun i hi e => by
    by_cases z : i / 32 = s
    · rw [mc_upI (by omega) (by omega)]; exact if_neg (fun q => e.elim (fun x => x q.1) (fun x => q.2 x))
    · exact hcO i hi z
  by_cases z : id s = 0
  · refine ⟨_, _, v, id, mc_st K ho hd h2 ?_ z (fun _ _ => rfl), z, fun _ _ => rfl, hb, fun post hp => mx_settle1 c h f st up dd hs h1 h3 hp, fun post n hp => my_sskip v w g r d up id tb hs (Or.inl z) hp⟩
    intro i hi
    have e : mc_up (32 * s) 32 c (mc_se c h f (dd s)) i = c i := by
      by_cases y : i / 32 = s
      · exact hcN i hi (Or.inl fun q => ((mc_Dw (K.2.2.2.1 i hi)).mp q).1 (by rw [y]; exact z))
      · exact hcO i hi y
    unfold mc_V
    rw [e]; exact K.1 i hi
  · have hdt : dd s = tb s := by
      rcases K.2.2.2.2.2.1 s hs with q | ⟨_, q⟩
      · exact absurd q z
      · exact q
    by_cases y : tb s = 0
    · refine ⟨_, _, v, upd id s 0, mc_st K ho hd h2 ?_ pk_us (fun _ q => pk_un q), pk_us, fun _ q => pk_un q, hb, fun post hp => mx_settle1 c h f st up dd hs h1 h3 hp, fun post n hp => my_sdo0 v w g r d up id tb hs z h1 h3 y hp⟩
      intro i hi
      unfold mc_V
      rw [hcN i hi (Or.inr (hdt.trans y))]; exact K.1 i hi
    · refine ⟨_, _, mc_up (32 * s) 32 v (mc_ap v w g 384), upd id s 0, mc_st K ho hd h2 ?_ pk_us (fun _ q => pk_un q), pk_us, fun _ q => pk_un q, hb, fun post hp => mx_settle1 c h f st up dd hs h1 h3 hp, fun post n hp => my_sdo1 v w g r d up id tb hs z h1 h3 y hp⟩
      intro i hi
      by_cases x : i / 32 = s
      · by_cases q : h i = -2
        · have e1 : mc_up (32 * s) 32 c (mc_se c h f (dd s)) i = f i := by
            rw [mc_upI (by omega) (by omega)]; exact if_pos ⟨q, by rw [hdt]; exact y⟩
          have e2 : mc_up (32 * s) 32 v (mc_ap v w g 384) i = mc_ap v w g 384 i := mc_upI (by omega) (by omega)
          unfold mc_V
          rw [e1, e2]
          unfold mc_ap
          rcases K.2.2.2.1 i hi with ⟨_, _, p | p⟩ | ⟨p, _⟩
          · rw [if_pos p.1, p.2.1]; exact Or.inr ⟨p.2.2, rfl⟩
          · rw [if_neg (by rw [p.1]; decide), if_pos p.1]; exact Or.inl ⟨rfl, p.2⟩
          · exact absurd q p
        · have e1 := hcN i hi (Or.inl q)
          have e2 : mc_up (32 * s) 32 v (mc_ap v w g 384) i = mc_ap v w g 384 i := mc_upI (by omega) (by omega)
          have w0 : w (384 + i) = 0 := (mc_Dn (K.2.2.2.1 i hi) q).resolve_left (by rw [x]; exact z)
          unfold mc_V
          rw [e1, e2]
          unfold mc_ap
          rw [if_neg (by rw [w0]; decide), if_neg (by rw [w0]; decide)]
          exact K.1 i hi
      · have e2 : mc_up (32 * s) 32 v (mc_ap v w g 384) i = v i := mc_upO (by omega)
        unfold mc_V
        rw [hcO i hi x, e2]; exact K.1 i hi
theorem mc_sl20 (f st dd w g r d tb up : Nat → Int32) (h3 : up 3 ≠ 0) : ∀ e j, j + e = 3 → ∀ c h v id : Nat → Int32, mc_Core c h f st dd v w g r d id tb → (∀ s, s < j → id s = 0 ∨ up s = 0) → ∃ c' h' v' id' : Nat → Int32,
    mc_Core c' h' f st dd v' w g r d id' tb ∧ (∀ s, s < 3 → id' s = 0 ∨ up s = 0) ∧ (∀ i, i < 96 → ∀ t, t < 4 → h' i = nI t → h i = nI t) ∧
    (∀ post : Int32 → SX → Prop, post 1 (c', h', f, st, up, dd) → wX_startLeader_20 post (e + 1) (nI j) c h f st up dd) ∧
    (∀ post : SY → Prop, post (v', w, g, r, d, up, id', tb) → wY_settle_2 post (e + 1) (nI j) v w g r d up id tb) := by
  intro e
  induction e with
  | zero =>
    intro j hj c h v id K hz
    obtain rfl : j = 3 := by omega
    exact ⟨c, h, v, id, K, hz, fun _ _ _ _ z => z, fun post hp => br_t (by decide) hp, fun post hp => br_t (by decide) hp⟩
  | succ e ih =>
    intro j hj c h v id K hz
    have j3 : j < 3 := by omega
    have g3 : ¬ (3 : Int32) ≤ nI j := nI_ge (b := 3) (by omega) (by decide)
    by_cases y : up j = 0
    · obtain ⟨c', h', v', id', K', a1, a2, bX, bY⟩ := ih (j + 1) (by omega) c h v id K (by
        intro s hs
        by_cases q : s = j
        · rw [q]; exact Or.inr y
        · exact hz s (by omega))
      refine ⟨c', h', v', id', K', a1, a2, fun post hp => br_f g3 (mx_settle0 c h f st up dd j3 (Or.inl y) ?_), fun post hp => my_sskip v w g r d up id tb j3 (Or.inr (Or.inl y)) (bY post hp)⟩
      dsimp only
      exact nm_r (nI_1 j) (bX post hp)
    · obtain ⟨c1, h1, v1, id1, K1, z0, zo, b1, x1, y1⟩ := mc_set1 up K j3 y h3
      obtain ⟨c', h', v', id', K', a1, a2, bX, bY⟩ := ih (j + 1) (by omega) c1 h1 v1 id1 K1 (by
        intro s hs
        by_cases q : s = j
        · rw [q]; exact Or.inl z0
        · rw [zo s q]; exact hz s (by omega))
      refine ⟨c', h', v', id', K', a1, fun i hi t ht q => b1 i hi t ht (a2 i hi t ht q), fun post hp => br_f g3 (x1 _ ?_), fun post hp => y1 post _ (bY post hp)⟩
      dsimp only
      exact nm_r (nI_1 j) (bX post hp)
end
section
/-! the constructors, and the calls that only read -/
section
variable (c h f st up dd : Nat → Int32)
def mc_o : Nat → Int32 := fun _ => 1
def mc_n1 : Nat → Int32 := fun _ => -1
def mc_n2 : Nat → Int32 := fun _ => -2
theorem mx_i80 {post : SX → Prop} (hp : post (c, h, f, st, mc_up 0 4 up mc_o, dd)) : ∀ e j, j + e = 4 → wX_init_80 post (e + 1) (nI j) c h f st (mc_up 0 j up mc_o) dd := by
  intro e
  induction e with
  | zero =>
    intro j hj
    obtain rfl : j = 4 := by omega
    exact br_t (by decide) hp
  | succ e ih =>
    intro j hj
    have cl : (nI j).toNatClampNeg = j := nI_clamp (by omega)
    exact br_f (nI_ge (b := 4) (by omega) (by decide)) ⟨pk_in j 4 (by omega), nm_r (e' := mc_up 0 (j + 1) up mc_o) (by rw [cl, mc_b1]; exact mc_upS (by omega) rfl) (nm_r (nI_1 j) (ih (j + 1) (by omega)))⟩
theorem mx_i51 {post : SX → Prop} (hp : post (mc_up 0 96 c mc_n2, mc_up 0 96 h mc_n1, f, st, mc_up 0 4 up mc_o, dd)) : ∀ e j, j + e = 96 → wX_init_51 post (e + 1) (nI j) (mc_up 0 j c mc_n2) (mc_up 0 j h mc_n1) f st up dd := by
  intro e
  induction e with
  | zero =>
    intro j hj
    obtain rfl : j = 96 := by omega
    have := mx_i80 _ _ f st up dd hp 4 0 (by omega)
    rw [mc_up0] at this
    exact br_t (by decide) ⟨5, this⟩
  | succ e ih =>
    intro j hj
    have cl : (nI j).toNatClampNeg = j := nI_clamp (by omega)
    exact br_f (nI_ge (b := 96) (by omega) (by decide)) ⟨pk_in j 96 (by omega), nm_r (e' := mc_up 0 (j + 1) c mc_n2) (by rw [cl]; exact mc_upS (by omega) rfl) ⟨pk_in j 96 (by omega), nm_r (e' := mc_up 0 (j + 1) h mc_n1) (by rw [cl]; exact mc_upS (by omega) rfl) (nm_r (nI_1 j) (ih (j + 1) (by omega)))⟩⟩
end
section
variable (v w g r d up id tb : Nat → Int32)
theorem my_i88 {post : SY → Prop} (hp : post (v, w, g, r, d, mc_up 0 4 up mc_o, id, tb)) : ∀ e j, j + e = 4 → wY_init_88 post (e + 1) (nI j) v w g r d (mc_up 0 j up mc_o) id tb := by
  intro e
  induction e with
  | zero =>
    intro j hj
    obtain rfl : j = 4 := by omega
    exact br_t (by decide) hp
  | succ e ih =>
    intro j hj
    have cl : (nI j).toNatClampNeg = j := nI_clamp (by omega)
    exact br_f (nI_ge (b := 4) (by omega) (by decide)) ⟨pk_in j 4 (by omega), nm_r (e' := mc_up 0 (j + 1) up mc_o) (by rw [cl, mc_b1]; exact mc_upS (by omega) rfl) (nm_r (nI_1 j) (ih (j + 1) (by omega)))⟩
theorem my_i67 {post : SY → Prop} (hp : post (mc_up 0 96 v mc_n1, w, g, r, d, mc_up 0 4 up mc_o, id, tb)) : ∀ e j, j + e = 96 → wY_init_67 post (e + 1) (nI j) (mc_up 0 j v mc_n1) w g r d up id tb := by
  intro e
  induction e with
  | zero =>
    intro j hj
    obtain rfl : j = 96 := by omega
    have := my_i88 _ w g r d up id tb hp 4 0 (by omega)
    rw [mc_up0] at this
    exact br_t (by decide) ⟨5, this⟩
  | succ e ih =>
    intro j hj
    have cl : (nI j).toNatClampNeg = j := nI_clamp (by omega)
    exact br_f (nI_ge (b := 96) (by omega) (by decide)) ⟨pk_in j 96 (by omega), nm_r (e' := mc_up 0 (j + 1) v mc_n1) (by rw [cl]; exact mc_upS (by omega) rfl) (nm_r (nI_1 j) (ih (j + 1) (by omega)))⟩
end
theorem mc_rel0 : i_Rel 0 (mc_up 0 96 mc_z mc_n2, mc_up 0 96 mc_z mc_n1, mc_z, mc_z, mc_up 0 4 mc_z mc_o, mc_z) (mc_up 0 96 mc_z mc_n1, mc_z, mc_z, mc_z, mc_z, mc_up 0 4 mc_z mc_o, mc_z, mc_z) := by
  have hh : ∀ i, i < 96 → mc_up 0 96 mc_z mc_n1 i = -1 := fun i hi => mc_upI (b := mc_n1) (by omega) (by omega)
  have hc : ∀ i, i < 96 → mc_up 0 96 mc_z mc_n2 i = -2 := fun i hi => mc_upI (b := mc_n2) (by omega) (by omega)
  have hn : ∀ i, i < 96 → ∀ t, t < 4 → mc_up 0 96 mc_z mc_n1 i ≠ nI t := fun i hi t ht e => mc_m1 t ht (e.symm.trans (hh i hi))
  refine ⟨rfl, ⟨?_, ?_, ?_, ?_, ?_, ?_, ?_⟩, ?_, ?_, ?_⟩
  · exact fun i hi => Or.inl ⟨hh i hi, hc i hi⟩
  · exact fun t _ => Or.inl ⟨rfl, rfl, rfl⟩
  · exact fun i hi t ht => Or.inr ⟨hn i hi t ht, rfl⟩
  · exact fun i hi => Or.inr ⟨by rw [hh i hi]; decide, Or.inl rfl⟩
  · exact fun i hi => Or.inl (hh i hi)
  · exact fun s _ => Or.inl rfl
  · intro t ht s hs
    rw [mc_cnZ 32 fun k hk => hn (32 * s + k) (by omega) t ht]
    exact Nat.zero_le 6
  · exact fun s _ => Or.inl rfl
  · exact fun _ t _ => rfl
  · exact fun i hi t ht e => absurd e (hn i hi t ht)
theorem i_vc0 : wpX_init (fun u => wpY_init (fun v => i_Rel 0 u v)) := by
  have hY : wpY_init (fun v => i_Rel 0 (mc_up 0 96 mc_z mc_n2, mc_up 0 96 mc_z mc_n1, mc_z, mc_z, mc_up 0 4 mc_z mc_o, mc_z) v) := by
    have := my_i67 mc_z mc_z mc_z mc_z mc_z mc_z mc_z mc_z (post := fun v => i_Rel 0 (mc_up 0 96 mc_z mc_n2, mc_up 0 96 mc_z mc_n1, mc_z, mc_z, mc_up 0 4 mc_z mc_o, mc_z) v) mc_rel0 96 0 (by omega)
    rw [mc_up0] at this
    exact ⟨97, this⟩
  have := mx_i51 mc_z mc_z mc_z mc_z mc_z mc_z (post := fun u => wpY_init (fun v => i_Rel 0 u v)) hY 96 0 (by omega)
  rw [mc_up0, mc_up0] at this
  exact ⟨97, this⟩
/-! status, isUp, idle, faults -/
theorem i_vc_status {k : Nat} {u : SX} {v : SY} (I : i_Rel k u v) (hk : k + 5 ≤ 2560) (v1 : Int32) : wpX_status (fun r => wpY_status (fun r' => r' = r ∧ i_Rel (k + 5) u v) v v1) u v1 := by
  have I' := I
  obtain ⟨c, h, f, st, up0, dd⟩ := u
  obtain ⟨vv, w, g, r, d, up, id, tb⟩ := v
  obtain ⟨hu, K, F1, F2, F3⟩ := I
  subst hu
  unfold wpX_status wpY_status
  dsimp only
  by_cases h0 : v1 < 0
  · exact br_t h0 (br_t h0 ⟨rfl, I'⟩)
  · obtain ⟨t, ht, rfl⟩ := nI_of h0
    have cl : (nI t).toNatClampNeg = t := nI_clamp ht
    by_cases h4 : t < 4
    · refine br_f h0 (br_t (nI_lt (b := 4) h4 (by decide)) ⟨pk_in t 4 h4, br_f h0 (br_t (nI_le (b := 3) (by omega) (by decide)) ⟨pk_in t 4 h4, ?_⟩)⟩)
      rw [cl]
      rcases K.2.1 t h4 with ⟨a, b, e⟩ | ⟨a, b, e⟩ | ⟨a, b, e⟩
      · exact br_t a ⟨e.symm, I'⟩
      · exact br_f (by rw [a]; decide) ⟨pk_in t 4 h4, br_t b ⟨e.symm, I'⟩⟩
      · exact br_f (by rw [a]; decide) ⟨pk_in t 4 h4, br_f (by rw [b]; decide) ⟨e.symm, I'⟩⟩
    · exact br_f h0 (br_f (nI_nlt (b := 4) (by omega) ht) (br_f h0 (br_f (nI_ge (a := 3) (by omega) ht) ⟨rfl, I'⟩)))
theorem i_vc_isUp {k : Nat} {u : SX} {v : SY} (I : i_Rel k u v) (hk : k + 5 ≤ 2560) (v1 : Int32) : wpX_isUp (fun r => wpY_isUp (fun r' => r' = r ∧ i_Rel (k + 5) u v) v v1) u v1 := by
  have I' := I
  obtain ⟨c, h, f, st, up0, dd⟩ := u
  obtain ⟨vv, w, g, r, d, up, id, tb⟩ := v
  obtain ⟨hu, K, F1, F2, F3⟩ := I
  subst hu
  unfold wpX_isUp wpY_isUp
  dsimp only
  by_cases h0 : v1 < 0
  · exact br_t h0 (br_t h0 ⟨rfl, I'⟩)
  · obtain ⟨t, ht, rfl⟩ := nI_of h0
    by_cases h4 : t < 4
    · refine br_f h0 (br_t (nI_lt (b := 4) h4 (by decide)) ⟨pk_in t 4 h4, ?_⟩)
      have l3 : nI t ≤ 3 := nI_le (b := 3) (by omega) (by decide)
      by_cases z : up (nI t).toNatClampNeg = 0
      · exact br_t z (br_f h0 (br_t l3 ⟨pk_in t 4 h4, br_t z ⟨rfl, I'⟩⟩))
      · exact br_f z (br_f h0 (br_t l3 ⟨pk_in t 4 h4, br_f z ⟨rfl, I'⟩⟩))
    · exact br_f h0 (br_f (nI_nlt (b := 4) (by omega) ht) (br_f h0 (br_f (nI_ge (a := 3) (by omega) ht) ⟨rfl, I'⟩)))
theorem i_vc_idle {k : Nat} {u : SX} {v : SY} (I : i_Rel k u v) (hk : k + 5 ≤ 2560) (v1 : Int32) (v2 : Int32) : wpX_idle (fun u' => wpY_idle (fun v' => i_Rel (k + 5) u' v') v v1 v2) u v1 v2 := by
  obtain ⟨c, h, f, st, up0, dd⟩ := u
  obtain ⟨vv, w, g, r, d, up, id, tb⟩ := v
  exact I
theorem i_vc_faults {k : Nat} {u : SX} {v : SY} (I : i_Rel k u v) (hk : k + 5 ≤ 2560) : wpX_faults (fun r => wpY_faults (fun r' => r' = r ∧ i_Rel (k + 5) u v) v) u := by
  obtain ⟨c, h, f, st, up0, dd⟩ := u
  obtain ⟨vv, w, g, r, d, up, id, tb⟩ := v
  exact ⟨rfl, I⟩
/-! written -/
section
variable (c h f st up dd v w g r d id tb : Nat → Int32)
theorem mx_wrt0 {post : Int32 → Prop} {x y : Int32} (hb : (∀ t, t < 4 → x = nI t → st t = 0) ∨ (∀ s, s < 3 → y ≠ nI s)) (hp : post (-1)) : wpX_written post (c, h, f, st, up, dd) x y := by
  unfold wpX_written; dsimp only
  by_cases hg : ∃ t, t < 4 ∧ x = nI t ∧ st t ≠ 0
  · obtain ⟨t, ht, rfl, hs⟩ := hg
    exact mx_g1 _ _ _ _ _ _ ht hs (br_f (by decide) (mx_s0 _ _ _ _ _ _ (hb.resolve_left fun q => hs (q t ht rfl)) (br_t rfl hp)))
  · exact mx_g0 _ _ _ _ _ _ (fun t ht e => Decidable.byContradiction fun q => hg ⟨t, ht, e, q⟩) (br_t rfl hp)
theorem mx_wrt {post : Int32 → Prop} {t s : Nat} (ht : t < 4) (hst : st t ≠ 0) (hs : s < 3) (hp : post (nI (mc_cn h (nI t) (32 * s) 32))) : wpX_written post (c, h, f, st, up, dd) (nI t) (nI s) := by
  unfold wpX_written; dsimp only
  exact mx_g1 _ _ _ _ _ _ ht hst (br_f (by decide) (mx_s1 _ _ _ _ _ _ hs (br_f (by decide) (mx_held _ _ _ _ _ _ hs hp))))
theorem my_wrt0 {post : Int32 → Prop} {x y : Int32} (hb : (∀ t, t < 4 → x = nI t → r t = 0) ∨ (∀ s, s < 3 → y ≠ nI s)) (hp : post (-1)) : wpY_written post (v, w, g, r, d, up, id, tb) x y := by
  unfold wpY_written; dsimp only
  by_cases hg : ∃ t, t < 4 ∧ x = nI t ∧ r t ≠ 0
  · obtain ⟨t, ht, rfl, hs⟩ := hg
    exact my_g1 _ _ _ _ _ _ _ _ ht hs (br_f (by decide) (my_s1 _ _ _ _ _ _ _ _ (hb.resolve_left fun q => hs (q t ht rfl)) (br_f (by decide) hp)))
  · exact my_g0 _ _ _ _ _ _ _ _ (fun t ht e => Decidable.byContradiction fun q => hg ⟨t, ht, e, q⟩) (br_t rfl hp)
theorem my_wrt {post : Int32 → Prop} {t s : Nat} (ht : t < 4) (hr : r t ≠ 0) (hs : s < 3) (hp : post (nI (mc_cz w (96 * t + 32 * s) 32))) : wpY_written post (v, w, g, r, d, up, id, tb) (nI t) (nI s) := by
  unfold wpY_written; dsimp only
  exact my_g1 _ _ _ _ _ _ _ _ ht hr (br_f (by decide) (my_s0 _ _ _ _ _ _ _ _ hs (br_t rfl (my_wf _ _ _ _ _ _ _ _ (mc_96 t) (by omega) hp))))
end
theorem i_vc_written {k : Nat} {u : SX} {v : SY} (I : i_Rel k u v) (hk : k + 5 ≤ 2560) (v1 : Int32) (v2 : Int32) : wpX_written (fun r => wpY_written (fun r' => r' = r ∧ i_Rel (k + 5) u v) v v1 v2) u v1 v2 := by
  have I' := I
  obtain ⟨c, h, f, st, up0, dd⟩ := u
  obtain ⟨vv, w, g, r, d, up, id, tb⟩ := v
  obtain ⟨hu, K, F1, F2, F3⟩ := I
  subst hu
  by_cases hg : ∃ t, t < 4 ∧ v1 = nI t ∧ st t ≠ 0
  · by_cases hs : ∃ s, s < 3 ∧ v2 = nI s
    · obtain ⟨t, ht, rfl, hst⟩ := hg
      obtain ⟨s, hs, rfl⟩ := hs
      refine mx_wrt _ _ _ _ _ _ ht hst hs (my_wrt _ _ _ _ _ _ _ _ ht (fun q => hst ((mc_Tr (K.2.1 t ht)).mpr q)) hs ⟨?_, I'⟩)
      rw [mc_cnt K ht hs]
    · have hb : ∀ s, s < 3 → v2 ≠ nI s := fun s h3 e => hs ⟨s, h3, e⟩
      exact mx_wrt0 _ _ _ _ _ _ (Or.inr hb) (my_wrt0 _ _ _ _ _ _ _ _ (Or.inr hb) ⟨rfl, I'⟩)
  · have hb : ∀ t, t < 4 → v1 = nI t → st t = 0 := fun t ht e => Decidable.byContradiction fun q => hg ⟨t, ht, e, q⟩
    exact mx_wrt0 _ _ _ _ _ _ (Or.inl hb) (my_wrt0 _ _ _ _ _ _ _ _ (Or.inl fun t ht e => (mc_Tr (K.2.1 t ht)).mp (hb t ht e)) ⟨rfl, I'⟩)
/-! look -/
section
variable (c h f st up dd v w g r d id tb : Nat → Int32)
theorem mx_look0 {post : Int32 → Prop} {x : Int32} (hb : ∀ i, i < 96 → x ≠ nI i) (hp : post (-1)) : wpX_look post (c, h, f, st, up, dd) x := by
  unfold wpX_look; dsimp only
  exact mx_c0 _ _ _ _ _ _ hb (br_t rfl hp)
theorem mx_look {post : Int32 → Prop} {i : Nat} (hi : i < 96) (H4 : up (i / 32) = 0 → post (-4)) (H5 : up (i / 32) ≠ 0 → h i = -2 → post (-5)) (H0 : up (i / 32) ≠ 0 → h i ≠ -2 → post (c i)) : wpX_look post (c, h, f, st, up, dd) (nI i) := by
  unfold wpX_look; dsimp only
  refine mx_c1 _ _ _ _ _ _ hi (br_f (by decide) ⟨by decide, ?_⟩)
  rw [mc_d32 hi, nI_clamp (show i / 32 < 2 ^ 31 by omega), nI_clamp (show i < 2 ^ 31 by omega)]
  exact ⟨pk_in (i / 32) 4 (by omega), br_c H4 fun h4 => ⟨pk_in i 96 hi, br_c (H5 h4) fun h5 => ⟨pk_in i 96 hi, H0 h4 h5⟩⟩⟩
theorem my_look0 {post : Int32 → Prop} {x : Int32} (hb : ∀ i, i < 96 → x ≠ nI i) (hp : post (-1)) : wpY_look post (v, w, g, r, d, up, id, tb) x := by
  unfold wpY_look; dsimp only
  exact my_c1 _ _ _ _ _ _ _ _ hb (br_f (by decide) hp)
theorem my_look4 {post : Int32 → Prop} {i : Nat} (hi : i < 96) (h4 : up (i / 32) = 0) (hp : post (-4)) : wpY_look post (v, w, g, r, d, up, id, tb) (nI i) := by
  unfold wpY_look; dsimp only
  refine my_c0 _ _ _ _ _ _ _ _ hi (br_t rfl ⟨by decide, ?_⟩)
  rw [mc_d32 hi, nI_clamp (show i / 32 < 2 ^ 31 by omega)]
  exact ⟨pk_in (i / 32) 4 (by omega), br_t h4 hp⟩
theorem my_look5 {post : Int32 → Prop} {i : Nat} (hi : i < 96) (h4 : up (i / 32) ≠ 0) (h5 : id (i / 32) ≠ 0) (h6 : w (384 + i) ≠ 0) (hp : post (-5)) : wpY_look post (v, w, g, r, d, up, id, tb) (nI i) := by
  unfold wpY_look; dsimp only
  refine my_c0 _ _ _ _ _ _ _ _ hi (br_t rfl ⟨by decide, ?_⟩)
  rw [mc_d32 hi, nI_clamp (show i / 32 < 2 ^ 31 by omega)]
  exact ⟨pk_in (i / 32) 4 (by omega), br_f h4 (my_dbt1 _ _ _ _ _ _ _ _ hi h5 h6 (br_f (by decide) hp))⟩
theorem my_look1 {post : Int32 → Prop} {i : Nat} (hi : i < 96) (h4 : up (i / 32) ≠ 0) (h5 : id (i / 32) = 0 ∨ w (384 + i) = 0) (hp : post (if 0 ≤ v i then v i else -2)) : wpY_look post (v, w, g, r, d, up, id, tb) (nI i) := by
  unfold wpY_look; dsimp only
  refine my_c0 _ _ _ _ _ _ _ _ hi (br_t rfl ⟨by decide, ?_⟩)
  rw [mc_d32 hi, nI_clamp (show i / 32 < 2 ^ 31 by omega), nI_clamp (show i < 2 ^ 31 by omega)]
  refine ⟨pk_in (i / 32) 4 (by omega), br_f h4 (my_dbt0 _ _ _ _ _ _ _ _ hi h5 (br_t rfl ⟨pk_in i 96 hi, ?_⟩))⟩
  by_cases z : 0 ≤ v i
  · rw [if_pos z] at hp; exact br_t z ⟨pk_in i 96 hi, hp⟩
  · rw [if_neg z] at hp; exact br_f z hp
theorem mc_Vi {c v : Nat → Int32} {i : Nat} (h : mc_V c v i) : (if 0 ≤ v i then v i else -2) = c i := by
  rcases h with ⟨a, b⟩ | ⟨a, b⟩
  · rw [a, b]; exact if_neg (by decide)
  · rw [if_pos a, b]
theorem mc_Vn {c v : Nat → Int32} {i : Nat} (h : mc_V c v i) : c i = -2 ↔ v i < 0 := by
  rcases h with ⟨a, b⟩ | ⟨a, b⟩
  · rw [a, b]; decide
  · rw [b]
    constructor
    · intro e; rw [e]; decide
    · intro e; exact absurd a (Int32.not_le.mpr e)
end
theorem i_vc_look {k : Nat} {u : SX} {v : SY} (I : i_Rel k u v) (hk : k + 5 ≤ 2560) (v1 : Int32) : wpX_look (fun r => wpY_look (fun r' => r' = r ∧ i_Rel (k + 5) u v) v v1) u v1 := by
  have I' := I
  obtain ⟨c, h, f, st, up0, dd⟩ := u
  obtain ⟨vv, w, g, r, d, up, id, tb⟩ := v
  obtain ⟨hu, K, F1, F2, F3⟩ := I
  subst hu
  by_cases hi : ∃ i, i < 96 ∧ v1 = nI i
  · obtain ⟨i, hi, rfl⟩ := hi
    refine mx_look _ _ _ _ _ _ hi (fun h4 => my_look4 _ _ _ _ _ _ _ _ hi h4 ⟨rfl, I'⟩) (fun h4 h5 => ?_) (fun h4 h5 => my_look1 _ _ _ _ _ _ _ _ hi h4 (mc_Dn (K.2.2.2.1 i hi) h5) ⟨mc_Vi (K.1 i hi), I'⟩)
    obtain ⟨a, b⟩ := (mc_Dw (K.2.2.2.1 i hi)).mp h5
    exact my_look5 _ _ _ _ _ _ _ _ hi h4 a b ⟨rfl, I'⟩
  · have hb : ∀ i, i < 96 → v1 ≠ nI i := fun i h9 e => hi ⟨i, h9, e⟩
    exact mx_look0 _ _ _ _ _ _ hb (my_look0 _ _ _ _ _ _ _ _ hb ⟨rfl, I'⟩)
end
section
/-! count, next, total, doubtful: a store is read -/
section
variable (c h f st up dd v w g r d id tb : Nat → Int32)
theorem mx_ros0 {post : Int32 → Prop} {x : Int32} (hb : ∀ s, s < 3 → x ≠ nI s) (hp : post (-1)) : wpX_refusalOfStore post (c, h, f, st, up, dd) x := by
  unfold wpX_refusalOfStore; dsimp only
  exact mx_s0 _ _ _ _ _ _ hb (br_t rfl hp)
theorem mx_ros4 {post : Int32 → Prop} {s : Nat} (hs : s < 3) (h4 : up s = 0) (hp : post (-4)) : wpX_refusalOfStore post (c, h, f, st, up, dd) (nI s) := by
  unfold wpX_refusalOfStore; dsimp only
  exact mx_s1 _ _ _ _ _ _ hs (br_f (by decide) ⟨pk_in s 4 (by omega), br_t (by rw [nI_clamp (by omega)]; exact h4) hp⟩)
theorem mx_ros1 {post : Int32 → Prop} {s : Nat} (hs : s < 3) (h4 : up s ≠ 0) (hp : post 0) : wpX_refusalOfStore post (c, h, f, st, up, dd) (nI s) := by
  unfold wpX_refusalOfStore; dsimp only
  exact mx_s1 _ _ _ _ _ _ hs (br_f (by decide) ⟨pk_in s 4 (by omega), br_f (by rw [nI_clamp (by omega)]; exact h4) hp⟩)
theorem mc_count {s : Nat} (hs : s < 3) (HV : ∀ i, i < 96 → mc_V c v i) : ∀ e j, j + e = 32 → ∀ n : Int32, ∃ q : Int32, (∀ post : Int32 → Prop, post q → wX_count_17 post (nI s) c h f st up dd (e + 1) n (nI j)) ∧ (∀ post : Int32 → Prop, post q → wY_count_26 post (nI s) v w g r d up id tb (e + 1) n (nI j)) := by
  intro e
  induction e with
  | zero =>
    intro j hj n
    obtain rfl : j = 32 := by omega
    exact ⟨n, fun post hp => br_t (by decide) hp, fun post hp => br_t (by decide) hp⟩
  | succ e ih =>
    intro j hj n
    have g3 : ¬ (32 : Int32) ≤ nI j := nI_ge (b := 32) (by omega) (by decide)
    have ee := mc_ix s j
    have ec : (32 * nI s + nI j : Int32).toNatClampNeg = 32 * s + j := by rw [ee]; exact nI_clamp (by omega)
    have hin : vp_in (32 * nI s + nI j : Int32) 96 := pk_in (32 * s + j) 96 (by omega) ee
    have V := mc_Vn (HV (32 * s + j) (by omega))
    by_cases z : c (32 * s + j) = -2
    · obtain ⟨q, a, b⟩ := ih (j + 1) (by omega) n
      exact ⟨q, fun post hp => br_f g3 ⟨hin, br_t (by rw [ec]; exact z) (nm_r (nI_1 j) (a post hp))⟩, fun post hp => br_f g3 ⟨hin, br_t (by rw [ec]; exact V.mp z) (nm_r (nI_1 j) (b post hp))⟩⟩
    · obtain ⟨q, a, b⟩ := ih (j + 1) (by omega) (n + 1)
      exact ⟨q, fun post hp => br_f g3 ⟨hin, br_f (by rw [ec]; exact z) (nm_e (nm_r (nI_1 j) (a post hp)))⟩, fun post hp => br_f g3 ⟨hin, br_f (by rw [ec]; exact fun y => z (V.mpr y)) (nm_e (nm_r (nI_1 j) (b post hp)))⟩⟩
theorem mc_total {s : Nat} (hs : s < 3) (HV : ∀ i, i < 96 → mc_V c v i) : ∀ e j, j + e = 32 → ∀ n : Int32, ∃ q : Int32, (∀ post : Int32 → Prop, post q → wX_total_17 post (nI s) c h f st up dd (e + 1) n (nI j)) ∧ (∀ post : Int32 → Prop, post q → wY_total_26 post (nI s) v w g r d up id tb (e + 1) n (nI j)) := by
  intro e
  induction e with
  | zero =>
    intro j hj n
    obtain rfl : j = 32 := by omega
    exact ⟨n, fun post hp => br_t (by decide) hp, fun post hp => br_t (by decide) hp⟩
  | succ e ih =>
    intro j hj n
    have g3 : ¬ (32 : Int32) ≤ nI j := nI_ge (b := 32) (by omega) (by decide)
    have ee := mc_ix s j
    have ec : (32 * nI s + nI j : Int32).toNatClampNeg = 32 * s + j := by rw [ee]; exact nI_clamp (by omega)
    have hin : vp_in (32 * nI s + nI j : Int32) 96 := pk_in (32 * s + j) 96 (by omega) ee
    have V := mc_Vn (HV (32 * s + j) (by omega))
    by_cases z : c (32 * s + j) = -2
    · obtain ⟨q, a, b⟩ := ih (j + 1) (by omega) n
      exact ⟨q, fun post hp => br_f g3 ⟨hin, nm_r (e' := c (32 * s + j)) (by rw [ec]) (br_t z (nm_r (nI_1 j) (a post hp)))⟩, fun post hp => br_f g3 ⟨hin, br_t (by rw [ec]; exact V.mp z) (nm_r (nI_1 j) (b post hp))⟩⟩
    · have e2 : c (32 * s + j) = v (32 * s + j) := by
        rcases HV (32 * s + j) (by omega) with ⟨_, y⟩ | ⟨_, y⟩
        · exact absurd y z
        · exact y
      obtain ⟨q, a, b⟩ := ih (j + 1) (by omega) (n + c (32 * s + j))
      exact ⟨q, fun post hp => br_f g3 ⟨hin, nm_r (e' := c (32 * s + j)) (by rw [ec]) (br_f z (nm_e (nm_r (nI_1 j) (a post hp))))⟩, fun post hp => br_f g3 ⟨hin, br_f (by rw [ec]; exact fun y => z (V.mpr y)) ⟨hin, nm_r (e' := n + c (32 * s + j)) (by rw [ec, e2]) (nm_r (nI_1 j) (b post hp))⟩⟩⟩
theorem mc_next {s : Nat} {y : Int32} (hs : s < 3) (HV : ∀ i, i < 96 → mc_V c v i) : ∀ e j, j + e = 32 → ∃ q : Int32, (∀ post : Int32 → Prop, post q → wX_next_15 post (nI s) y c h f st up dd (e + 1) (nI j)) ∧ (∀ post : Int32 → Prop, post q → wY_next_24 post (nI s) y v w g r d up id tb (e + 1) (nI j)) := by
  intro e
  induction e with
  | zero =>
    intro j hj
    obtain rfl : j = 32 := by omega
    exact ⟨-2, fun post hp => br_t (by decide) hp, fun post hp => br_t (by decide) hp⟩
  | succ e ih =>
    intro j hj
    have g3 : ¬ (32 : Int32) ≤ nI j := nI_ge (b := 32) (by omega) (by decide)
    have ee := mc_ix s j
    have ec : (32 * nI s + nI j : Int32).toNatClampNeg = 32 * s + j := by rw [ee]; exact nI_clamp (by omega)
    have hin : vp_in (32 * nI s + nI j : Int32) 96 := pk_in (32 * s + j) 96 (by omega) ee
    have V := mc_Vn (HV (32 * s + j) (by omega))
    obtain ⟨q, a, b⟩ := ih (j + 1) (by omega)
    by_cases x : nI j ≤ y
    · exact ⟨q, fun post hp => br_f g3 (br_t x (nm_r (nI_1 j) (a post hp))), fun post hp => br_f g3 (br_t x (nm_r (nI_1 j) (b post hp)))⟩
    · by_cases z : c (32 * s + j) = -2
      · exact ⟨q, fun post hp => br_f g3 (br_f x ⟨hin, br_t (by rw [ec]; exact z) (nm_r (nI_1 j) (a post hp))⟩), fun post hp => br_f g3 (br_f x ⟨hin, br_t (by rw [ec]; exact V.mp z) (nm_r (nI_1 j) (b post hp))⟩)⟩
      · exact ⟨nI j, fun post hp => br_f g3 (br_f x ⟨hin, br_f (by rw [ec]; exact z) hp⟩), fun post hp => br_f g3 (br_f x ⟨hin, br_f (by rw [ec]; exact fun y => z (V.mpr y)) hp⟩)⟩
end
theorem i_vc_count {k : Nat} {u : SX} {v : SY} (I : i_Rel k u v) (hk : k + 5 ≤ 2560) (v1 : Int32) : wpX_count (fun r => wpY_count (fun r' => r' = r ∧ i_Rel (k + 5) u v) v v1) u v1 := by
  have I' := I
  obtain ⟨c, h, f, st, up0, dd⟩ := u
  obtain ⟨vv, w, g, r, d, up, id, tb⟩ := v
  obtain ⟨hu, K, F1, F2, F3⟩ := I
  subst hu
  unfold wpX_count wpY_count
  dsimp only
  by_cases hs : ∃ s, s < 3 ∧ v1 = nI s
  · obtain ⟨s, hs, rfl⟩ := hs
    have cl : (nI s).toNatClampNeg = s := nI_clamp (by omega)
    by_cases h4 : up s = 0
    · exact mx_ros4 _ _ _ _ _ _ hs h4 (br_f (by decide) (my_s0 _ _ _ _ _ _ _ _ hs (br_t rfl ⟨pk_in s 4 (by omega), br_t (by rw [cl]; exact h4) ⟨rfl, I'⟩⟩)))
    · obtain ⟨q, a, b⟩ := mc_count c h f st up dd vv w g r d id tb hs K.1 32 0 (by omega) 0
      exact mx_ros1 _ _ _ _ _ _ hs h4 (br_t rfl ⟨33, a _ (my_s0 _ _ _ _ _ _ _ _ hs (br_t rfl ⟨pk_in s 4 (by omega), br_f (by rw [cl]; exact h4) ⟨33, b _ ⟨rfl, I'⟩⟩⟩))⟩)
  · have hb : ∀ s, s < 3 → v1 ≠ nI s := fun s h3 e => hs ⟨s, h3, e⟩
    exact mx_ros0 _ _ _ _ _ _ hb (br_f (by decide) (my_s1 _ _ _ _ _ _ _ _ hb (br_f (by decide) ⟨rfl, I'⟩)))
theorem i_vc_total {k : Nat} {u : SX} {v : SY} (I : i_Rel k u v) (hk : k + 5 ≤ 2560) (v1 : Int32) : wpX_total (fun r => wpY_total (fun r' => r' = r ∧ i_Rel (k + 5) u v) v v1) u v1 := by
  have I' := I
  obtain ⟨c, h, f, st, up0, dd⟩ := u
  obtain ⟨vv, w, g, r, d, up, id, tb⟩ := v
  obtain ⟨hu, K, F1, F2, F3⟩ := I
  subst hu
  unfold wpX_total wpY_total
  dsimp only
  by_cases hs : ∃ s, s < 3 ∧ v1 = nI s
  · obtain ⟨s, hs, rfl⟩ := hs
    have cl : (nI s).toNatClampNeg = s := nI_clamp (by omega)
    by_cases h4 : up s = 0
    · exact mx_ros4 _ _ _ _ _ _ hs h4 (br_f (by decide) (my_s0 _ _ _ _ _ _ _ _ hs (br_t rfl ⟨pk_in s 4 (by omega), br_t (by rw [cl]; exact h4) ⟨rfl, I'⟩⟩)))
    · obtain ⟨q, a, b⟩ := mc_total c h f st up dd vv w g r d id tb hs K.1 32 0 (by omega) 0
      exact mx_ros1 _ _ _ _ _ _ hs h4 (br_t rfl ⟨33, a _ (my_s0 _ _ _ _ _ _ _ _ hs (br_t rfl ⟨pk_in s 4 (by omega), br_f (by rw [cl]; exact h4) ⟨33, b _ ⟨rfl, I'⟩⟩⟩))⟩)
  · have hb : ∀ s, s < 3 → v1 ≠ nI s := fun s h3 e => hs ⟨s, h3, e⟩
    exact mx_ros0 _ _ _ _ _ _ hb (br_f (by decide) (my_s1 _ _ _ _ _ _ _ _ hb (br_f (by decide) ⟨rfl, I'⟩)))
theorem i_vc_next {k : Nat} {u : SX} {v : SY} (I : i_Rel k u v) (hk : k + 5 ≤ 2560) (v1 : Int32) (v2 : Int32) : wpX_next (fun r => wpY_next (fun r' => r' = r ∧ i_Rel (k + 5) u v) v v1 v2) u v1 v2 := by
  have I' := I
  obtain ⟨c, h, f, st, up0, dd⟩ := u
  obtain ⟨vv, w, g, r, d, up, id, tb⟩ := v
  obtain ⟨hu, K, F1, F2, F3⟩ := I
  subst hu
  unfold wpX_next wpY_next
  dsimp only
  by_cases hs : ∃ s, s < 3 ∧ v1 = nI s
  · obtain ⟨s, hs, rfl⟩ := hs
    have cl : (nI s).toNatClampNeg = s := nI_clamp (by omega)
    by_cases h4 : up s = 0
    · exact mx_ros4 _ _ _ _ _ _ hs h4 (br_f (by decide) (my_s0 _ _ _ _ _ _ _ _ hs (br_t rfl ⟨pk_in s 4 (by omega), br_t (by rw [cl]; exact h4) ⟨rfl, I'⟩⟩)))
    · obtain ⟨q, a, b⟩ := mc_next c h f st up dd vv w g r d id tb (y := v2) hs K.1 32 0 (by omega)
      exact mx_ros1 _ _ _ _ _ _ hs h4 (br_t rfl ⟨33, a _ (my_s0 _ _ _ _ _ _ _ _ hs (br_t rfl ⟨pk_in s 4 (by omega), br_f (by rw [cl]; exact h4) ⟨33, b _ ⟨rfl, I'⟩⟩⟩))⟩)
  · have hb : ∀ s, s < 3 → v1 ≠ nI s := fun s h3 e => hs ⟨s, h3, e⟩
    exact mx_ros0 _ _ _ _ _ _ hb (br_f (by decide) (my_s1 _ _ _ _ _ _ _ _ hb (br_f (by decide) ⟨rfl, I'⟩)))
theorem i_vc_doubtful {k : Nat} {u : SX} {v : SY} (I : i_Rel k u v) (hk : k + 5 ≤ 2560) (v1 : Int32) : wpX_doubtful (fun r => wpY_doubtful (fun r' => r' = r ∧ i_Rel (k + 5) u v) v v1) u v1 := by
  have I' := I
  obtain ⟨c, h, f, st, up0, dd⟩ := u
  obtain ⟨vv, w, g, r, d, up, id, tb⟩ := v
  obtain ⟨hu, K, F1, F2, F3⟩ := I
  subst hu
  unfold wpX_doubtful wpY_doubtful
  dsimp only
  by_cases hs : ∃ s, s < 3 ∧ v1 = nI s
  · obtain ⟨s, hs, rfl⟩ := hs
    have cl : (nI s).toNatClampNeg = s := nI_clamp (by omega)
    by_cases h4 : up s = 0
    · exact mx_ros4 _ _ _ _ _ _ hs h4 (br_f (by decide) (my_s0 _ _ _ _ _ _ _ _ hs (br_t rfl ⟨pk_in s 4 (by omega), br_t (by rw [cl]; exact h4) ⟨rfl, I'⟩⟩)))
    · refine mx_ros1 _ _ _ _ _ _ hs h4 (br_t rfl (mx_held _ _ _ _ _ _ hs (my_s0 _ _ _ _ _ _ _ _ hs (br_t rfl ⟨pk_in s 4 (by omega), br_f (by rw [cl]; exact h4) ⟨pk_in s 3 hs, ?_⟩⟩))))
      rw [cl]
      by_cases z : id s = 0
      · rw [mc_cntD0 K hs z]; exact br_t z ⟨rfl, I'⟩
      · rw [mc_cntD K hs z]; exact br_f z (my_wf _ _ _ _ _ _ _ _ (a := 384) rfl (by omega) ⟨rfl, I'⟩)
  · have hb : ∀ s, s < 3 → v1 ≠ nI s := fun s h3 e => hs ⟨s, h3, e⟩
    exact mx_ros0 _ _ _ _ _ _ hb (br_f (by decide) (my_s1 _ _ _ _ _ _ _ _ hb (br_f (by decide) ⟨rfl, I'⟩)))
end
section
/-! begin, get, put, remove, abort -/
section
variable (c h f st up dd v w g r d id tb : Nat → Int32)
theorem mc_beg (HT : ∀ t, t < 4 → mc_T st r d t) : ∀ e j, j + e = 4 →
    ((∀ post : Int32 → SX → Prop, post (-7) (c, h, f, st, up, dd) → wX_begin_14 post c h f st up dd (e + 1) (nI j)) ∧ (∀ post : Int32 → SY → Prop, post (-7) (v, w, g, r, d, up, id, tb) → wY_begin_14 post v w g r d up id tb (e + 1) (nI j))) ∨
    ∃ t, t < 4 ∧ st t = 0 ∧ (∀ post : Int32 → SX → Prop, post (nI t) (c, h, f, upd st t 1, up, dd) → wX_begin_14 post c h f st up dd (e + 1) (nI j)) ∧ (∀ post : Int32 → SY → Prop, post (nI t) (v, w, g, upd r t 1, d, up, id, tb) → wY_begin_14 post v w g r d up id tb (e + 1) (nI j)) := by
  intro e
  induction e with
  | zero =>
    intro j hj
    obtain rfl : j = 4 := by omega
    exact Or.inl ⟨fun post hp => br_t (by decide) hp, fun post hp => br_t (by decide) hp⟩
  | succ e ih =>
    intro j hj
    have h4 : j < 4 := by omega
    have g4 : ¬ (4 : Int32) ≤ nI j := nI_ge (b := 4) (by omega) (by decide)
    have cl : (nI j).toNatClampNeg = j := nI_clamp (by omega)
    have hi : vp_in (nI j) 4 := pk_in j 4 h4
    by_cases z : st j = 0
    · exact Or.inr ⟨j, h4, z, fun post hp => br_f g4 ⟨hi, br_t (by rw [cl]; exact z) ⟨hi, nm_r (e' := upd st j 1) (by rw [cl]) hp⟩⟩, fun post hp => br_f g4 ⟨hi, br_t (by rw [cl]; exact (mc_Tr (HT j h4)).mp z) ⟨hi, nm_r (e' := upd r j 1) (by rw [cl, mc_b1]) hp⟩⟩⟩
    · have zr : ¬ r j = 0 := fun q => z ((mc_Tr (HT j h4)).mpr q)
      rcases ih (j + 1) (by omega) with ⟨a, b⟩ | ⟨t, ht, hs, a, b⟩
      · exact Or.inl ⟨fun post hp => br_f g4 ⟨hi, br_f (by rw [cl]; exact z) (nm_r (nI_1 j) (a post hp))⟩, fun post hp => br_f g4 ⟨hi, br_f (by rw [cl]; exact zr) (nm_r (nI_1 j) (b post hp))⟩⟩
      · exact Or.inr ⟨t, ht, hs, fun post hp => br_f g4 ⟨hi, br_f (by rw [cl]; exact z) (nm_r (nI_1 j) (a post hp))⟩, fun post hp => br_f g4 ⟨hi, br_f (by rw [cl]; exact zr) (nm_r (nI_1 j) (b post hp))⟩⟩
end
theorem mc_begK {c h f st dd v w g r d id tb : Nat → Int32} (K : mc_Core c h f st dd v w g r d id tb) {t : Nat} (ht : t < 4) (h0 : st t = 0) : mc_Core c h f (upd st t 1) dd v w g (upd r t 1) d id tb := by
  have K' := K
  obtain ⟨KV, KT, KH, KD, KN, KB, KC⟩ := K
  refine ⟨KV, ?_, ?_, KD, KN, KB, KC⟩
  · intro q hq
    by_cases z : q = t
    · subst z
      refine Or.inr (Or.inl ⟨pk_us, ?_, pk_us⟩)
      rcases KT q hq with ⟨_, b, _⟩ | ⟨_, b, _⟩ | ⟨_, _, b⟩
      · exact b
      · exact b
      · rw [h0] at b; exact absurd b (by decide)
    · have := KT q hq
      unfold mc_T at this ⊢
      rw [pk_un z, pk_un z]; exact this
  · intro i hi q hq
    by_cases z : q = t
    · subst z
      have hn := mc_no K' hq (by rw [h0]; decide) i hi
      rcases KH i hi q hq with ⟨a, _, _⟩ | b
      · exact absurd a hn
      · exact Or.inr b
    · have := KH i hi q hq
      unfold mc_H at this ⊢
      rw [pk_un z]; exact this
theorem i_vc_begin {k : Nat} {u : SX} {v : SY} (I : i_Rel k u v) (hk : k + 5 ≤ 2560) : wpX_begin (fun r u' => wpY_begin (fun r' v' => r' = r ∧ i_Rel (k + 5) u' v') v) u := by
  have I' := I
  obtain ⟨c, h, f, st, up0, dd⟩ := u
  obtain ⟨vv, w, g, r, d, up, id, tb⟩ := v
  obtain ⟨hu, K, F1, F2, F3⟩ := I
  subst hu
  unfold wpX_begin wpY_begin
  dsimp only
  by_cases z : up 3 = 0
  · exact br_t z (br_t z ⟨rfl, I'⟩)
  · rcases mc_beg c h f st up dd vv w g r d id tb K.2.1 4 0 (by omega) with ⟨a, b⟩ | ⟨t, ht, hs, a, b⟩
    · exact br_f z ⟨5, a _ (br_f z ⟨5, b _ ⟨rfl, I'⟩⟩)⟩
    · exact br_f z ⟨5, a _ (br_f z ⟨5, b _ ⟨rfl, rfl, mc_begK K ht hs, F1, fun q => absurd q z, F3⟩⟩)⟩
/-! get -/
section
variable (c h f st up dd v w g r d id tb : Nat → Int32)
theorem mx_rtr0 {post : Int32 → Prop} {x y : Int32} (hb : (∀ t, t < 4 → x = nI t → st t = 0) ∨ (∀ i, i < 96 → y ≠ nI i)) (hp : post (-1)) : wpX_refusalToRead post (c, h, f, st, up, dd) x y := by
  unfold wpX_refusalToRead; dsimp only
  by_cases hg : ∃ t, t < 4 ∧ x = nI t ∧ st t ≠ 0
  · obtain ⟨t, ht, rfl, hs⟩ := hg
    exact mx_g1 _ _ _ _ _ _ ht hs (br_f (by decide) (mx_c0 _ _ _ _ _ _ (hb.resolve_left fun q => hs (q t ht rfl)) (br_t rfl hp)))
  · exact mx_g0 _ _ _ _ _ _ (fun t ht e => Decidable.byContradiction fun q => hg ⟨t, ht, e, q⟩) (br_t rfl hp)
theorem mx_rtr {post : Int32 → Prop} {t i : Nat} (ht : t < 4) (hs : st t ≠ 0) (hi : i < 96) (H6 : st t = 2 → post (-6)) (H4 : st t ≠ 2 → up (i / 32) = 0 → post (-4)) (H5 : st t ≠ 2 → up (i / 32) ≠ 0 → h i = -2 → post (-5)) (H0 : st t ≠ 2 → up (i / 32) ≠ 0 → h i ≠ -2 → post 0) : wpX_refusalToRead post (c, h, f, st, up, dd) (nI t) (nI i) := by
  unfold wpX_refusalToRead; dsimp only
  refine mx_g1 _ _ _ _ _ _ ht hs (br_f (by decide) (mx_c1 _ _ _ _ _ _ hi (br_f (by decide) ⟨pk_in t 4 ht, ?_⟩)))
  rw [mc_d32 hi, nI_clamp (show i / 32 < 2 ^ 31 by omega), nI_clamp (show i < 2 ^ 31 by omega), nI_clamp (show t < 2 ^ 31 by omega)]
  exact br_c H6 fun h6 => ⟨by decide, pk_in (i / 32) 4 (by omega), br_c (H4 h6) fun h4 => ⟨pk_in i 96 hi, br_c (H5 h6 h4) (H0 h6 h4)⟩⟩
theorem mx_seen {post : Int32 → Prop} {i : Nat} {x : Int32} (hi : i < 96) (hp : post (if h i = x then f i else c i)) : wpX_seenBy post (c, h, f, st, up, dd) x (nI i) := by
  unfold wpX_seenBy; dsimp only
  rw [nI_clamp (show i < 2 ^ 31 by omega)]
  refine ⟨pk_in i 96 hi, ?_⟩
  by_cases z : h i = x
  · rw [if_pos z] at hp; exact br_t z ⟨pk_in i 96 hi, hp⟩
  · rw [if_neg z] at hp; exact br_f z ⟨pk_in i 96 hi, hp⟩
theorem my_get0 {post : Int32 → Prop} {x y : Int32} (hb : (∀ t, t < 4 → x = nI t → r t = 0) ∨ (∀ i, i < 96 → y ≠ nI i)) (hp : post (-1)) : wpY_get post (v, w, g, r, d, up, id, tb) x y := by
  unfold wpY_get; dsimp only
  by_cases hg : ∃ t, t < 4 ∧ x = nI t ∧ r t ≠ 0
  · obtain ⟨t, ht, rfl, hs⟩ := hg
    exact my_g1 _ _ _ _ _ _ _ _ ht hs (br_f (by decide) (my_c1 _ _ _ _ _ _ _ _ (hb.resolve_left fun q => hs (q t ht rfl)) (br_f (by decide) hp)))
  · exact my_g0 _ _ _ _ _ _ _ _ (fun t ht e => Decidable.byContradiction fun q => hg ⟨t, ht, e, q⟩) (br_t rfl hp)
theorem my_get {post : Int32 → Prop} {t i : Nat} (ht : t < 4) (hr : r t ≠ 0) (hi : i < 96) (H6 : d t ≠ 0 → post (-6)) (H4 : d t = 0 → up (i / 32) = 0 → post (-4)) (H5 : d t = 0 → up (i / 32) ≠ 0 → id (i / 32) ≠ 0 → w (384 + i) ≠ 0 → post (-5)) (H0 : d t = 0 → up (i / 32) ≠ 0 → (id (i / 32) = 0 ∨ w (384 + i) = 0) → post (if 0 ≤ mc_sn v w g t i then mc_sn v w g t i else -2)) : wpY_get post (v, w, g, r, d, up, id, tb) (nI t) (nI i) := by
  unfold wpY_get; dsimp only
  refine my_g1 _ _ _ _ _ _ _ _ ht hr (br_f (by decide) (my_c0 _ _ _ _ _ _ _ _ hi (br_t rfl ⟨pk_in t 4 ht, ?_⟩)))
  rw [mc_d32 hi, nI_clamp (show i / 32 < 2 ^ 31 by omega), nI_clamp (show t < 2 ^ 31 by omega)]
  refine br_c (fun h6 => ⟨by decide, pk_in (i / 32) 4 (by omega), br_c (H4 h6) fun h4 => ?_⟩) H6
  by_cases z1 : id (i / 32) = 0 ∨ w (384 + i) = 0
  · refine my_dbt0 _ _ _ _ _ _ _ _ hi z1 (br_t rfl (my_seen _ _ _ _ _ _ _ _ ht hi ?_))
    have := H0 h6 h4 z1
    by_cases z : 0 ≤ mc_sn v w g t i
    · rw [if_pos z] at this; exact br_t z this
    · rw [if_neg z] at this; exact br_f z this
  · have z2 : id (i / 32) ≠ 0 := fun q => z1 (Or.inl q)
    have z3 : w (384 + i) ≠ 0 := fun q => z1 (Or.inr q)
    exact my_dbt1 _ _ _ _ _ _ _ _ hi z2 z3 (br_f (by decide) (H5 h6 h4 z2 z3))
end
theorem mc_snE {c h f st v w g : Nat → Int32} {t i : Nat} (HH : mc_H h f st w g i t) (HV : mc_V c v i) : (if 0 ≤ mc_sn v w g t i then mc_sn v w g t i else -2) = (if h i = nI t then f i else c i) := by
  rcases HH with ⟨a, _, ⟨b1, b2, b3⟩ | ⟨b1, b2⟩⟩ | ⟨a, b⟩
  · have e : mc_sn v w g t i = f i := by
      unfold mc_sn
      rw [b1]; exact b2
    rw [if_pos a, e, if_pos b3]
  · have e : mc_sn v w g t i = -1 := by
      unfold mc_sn
      rw [b1]; rfl
    rw [if_pos a, e, b2]; exact if_neg (by decide)
  · have e : mc_sn v w g t i = v i := if_pos b
    rw [if_neg a, e]; exact mc_Vi HV
theorem i_vc_get {k : Nat} {u : SX} {v : SY} (I : i_Rel k u v) (hk : k + 5 ≤ 2560) (v1 : Int32) (v2 : Int32) : wpX_get (fun r => wpY_get (fun r' => r' = r ∧ i_Rel (k + 5) u v) v v1 v2) u v1 v2 := by
  have I' := I
  obtain ⟨c, h, f, st, up0, dd⟩ := u
  obtain ⟨vv, w, g, r, d, up, id, tb⟩ := v
  obtain ⟨hu, K, F1, F2, F3⟩ := I
  subst hu
  unfold wpX_get
  dsimp only
  by_cases hg : ∃ t, t < 4 ∧ v1 = nI t ∧ st t ≠ 0
  · by_cases hs : ∃ i, i < 96 ∧ v2 = nI i
    · obtain ⟨t, ht, rfl, hst⟩ := hg
      obtain ⟨i, hi, rfl⟩ := hs
      have hr : r t ≠ 0 := fun q => hst ((mc_Tr (K.2.1 t ht)).mpr q)
      have hd := mc_Td (K.2.1 t ht)
      have hD := mc_Dw (K.2.2.2.1 i hi)
      refine mx_rtr _ _ _ _ _ _ ht hst hi (fun h6 => br_f (by decide) ?_) (fun h6 h4 => br_f (by decide) ?_) (fun h6 h4 h5 => br_f (by decide) ?_) (fun h6 h4 h5 => br_t rfl (mx_seen _ _ _ _ _ _ hi ?_))
      · exact my_get _ _ _ _ _ _ _ _ ht hr hi (fun _ => ⟨rfl, I'⟩) (fun q => absurd q (hd.mp h6)) (fun q => absurd q (hd.mp h6)) (fun q => absurd q (hd.mp h6))
      · exact my_get _ _ _ _ _ _ _ _ ht hr hi (fun q => absurd (hd.mpr q) h6) (fun _ _ => ⟨rfl, I'⟩) (fun _ q => absurd h4 q) (fun _ q => absurd h4 q)
      · exact my_get _ _ _ _ _ _ _ _ ht hr hi (fun q => absurd (hd.mpr q) h6) (fun _ q => absurd q h4) (fun _ _ _ _ => ⟨rfl, I'⟩) (fun _ _ q => q.elim (fun x => absurd x (hD.mp h5).1) (fun x => absurd x (hD.mp h5).2))
      · exact my_get _ _ _ _ _ _ _ _ ht hr hi (fun q => absurd (hd.mpr q) h6) (fun _ q => absurd q h4) (fun _ _ x y => absurd (hD.mpr ⟨x, y⟩) h5) (fun _ _ _ => ⟨mc_snE (K.2.2.1 i hi t ht) (K.1 i hi), I'⟩)
    · have hb : ∀ i, i < 96 → v2 ≠ nI i := fun s h3 e => hs ⟨s, h3, e⟩
      exact mx_rtr0 _ _ _ _ _ _ (Or.inr hb) (br_f (by decide) (my_get0 _ _ _ _ _ _ _ _ (Or.inr hb) ⟨rfl, I'⟩))
  · have hb : ∀ t, t < 4 → v1 = nI t → st t = 0 := fun t ht e => Decidable.byContradiction fun q => hg ⟨t, ht, e, q⟩
    exact mx_rtr0 _ _ _ _ _ _ (Or.inl hb) (br_f (by decide) (my_get0 _ _ _ _ _ _ _ _ (Or.inl fun t ht e => (mc_Tr (K.2.1 t ht)).mp (hb t ht e)) ⟨rfl, I'⟩))
/-! the refusals of a write -/
section
variable (c h f st up dd v w g r d id tb : Nat → Int32)
theorem mx_rtw0 {post : Int32 → Prop} {x y : Int32} (hb : (∀ t, t < 4 → x = nI t → st t = 0) ∨ (∀ i, i < 96 → y ≠ nI i)) (hp : post (-1)) : wpX_refusalToWrite post (c, h, f, st, up, dd) x y := by
  unfold wpX_refusalToWrite; dsimp only
  exact mx_rtr0 _ _ _ _ _ _ hb (br_f (by decide) hp)
theorem mx_rtwR {post : Int32 → Prop} {t i : Nat} {q : Int32} (hq : q ≠ 0) (hR : ∀ post : Int32 → Prop, post q → wpX_refusalToRead post (c, h, f, st, up, dd) (nI t) (nI i)) (hp : post q) : wpX_refusalToWrite post (c, h, f, st, up, dd) (nI t) (nI i) := by
  unfold wpX_refusalToWrite; dsimp only
  exact hR _ (br_f hq hp)
theorem mx_rtwM {post : Int32 → Prop} {t i : Nat} (hi : i < 96) (hR : ∀ post : Int32 → Prop, post 0 → wpX_refusalToRead post (c, h, f, st, up, dd) (nI t) (nI i)) (hm : h i = nI t) (hp : post 0) : wpX_refusalToWrite post (c, h, f, st, up, dd) (nI t) (nI i) := by
  unfold wpX_refusalToWrite; dsimp only
  refine hR _ (br_t rfl ⟨pk_in i 96 hi, br_t ?_ hp⟩)
  rw [nI_clamp (by omega)]; exact hm
theorem mx_rtwB {post : Int32 → Prop} {t i : Nat} (hi : i < 96) (hR : ∀ post : Int32 → Prop, post 0 → wpX_refusalToRead post (c, h, f, st, up, dd) (nI t) (nI i)) (hm : h i ≠ nI t) (hn : h i ≠ -1) (hp : post (-3)) : wpX_refusalToWrite post (c, h, f, st, up, dd) (nI t) (nI i) := by
  unfold wpX_refusalToWrite; dsimp only
  have cl : (nI i).toNatClampNeg = i := nI_clamp (by omega)
  exact hR _ (br_t rfl ⟨pk_in i 96 hi, br_f (by rw [cl]; exact hm) ⟨pk_in i 96 hi, br_f (by rw [cl]; exact hn) hp⟩⟩)
theorem mx_rtwF {post : Int32 → Prop} {t i : Nat} (hi : i < 96) (hR : ∀ post : Int32 → Prop, post 0 → wpX_refusalToRead post (c, h, f, st, up, dd) (nI t) (nI i)) (hm : h i ≠ nI t) (hn : h i = -1) (hp : post (if mc_cn h (nI t) (32 * (i / 32)) 32 < 6 then 0 else -7)) : wpX_refusalToWrite post (c, h, f, st, up, dd) (nI t) (nI i) := by
  unfold wpX_refusalToWrite; dsimp only
  have cl : (nI i).toNatClampNeg = i := nI_clamp (by omega)
  refine hR _ (br_t rfl ⟨pk_in i 96 hi, br_f (by rw [cl]; exact hm) ⟨pk_in i 96 hi, br_t (by rw [cl]; exact hn) ⟨by decide, ?_⟩⟩⟩)
  rw [mc_d32 hi]
  refine mx_held _ _ _ _ _ _ (by omega) ?_
  have hl := mc_cnL h (nI t) (32 * (i / 32)) 32
  by_cases z : mc_cn h (nI t) (32 * (i / 32)) 32 < 6
  · rw [if_pos z] at hp; exact br_t (nI_lt (b := 6) z (by decide)) hp
  · rw [if_neg z] at hp; exact br_f (nI_nlt (b := 6) (by omega) (by omega)) hp
theorem my_rf6 {post : Int32 → Prop} {t : Nat} {y : Int32} (ht : t < 4) (h6 : d t ≠ 0) (hp : post (-6)) : wpY_refused post (v, w, g, r, d, up, id, tb) (nI t) y := by
  unfold wpY_refused; dsimp only
  exact ⟨pk_in t 4 ht, br_f (by rw [nI_clamp (by omega)]; exact h6) hp⟩
theorem my_rf4 {post : Int32 → Prop} {t i : Nat} (ht : t < 4) (hi : i < 96) (h6 : d t = 0) (h4 : up (i / 32) = 0) (hp : post (-4)) : wpY_refused post (v, w, g, r, d, up, id, tb) (nI t) (nI i) := by
  unfold wpY_refused; dsimp only
  exact ⟨pk_in t 4 ht, br_t (by rw [nI_clamp (by omega)]; exact h6) ⟨by decide, nm_r (mc_d32 hi) ⟨pk_in (i / 32) 4 (by omega), br_t (by rw [nI_clamp (by omega)]; exact h4) hp⟩⟩⟩
theorem my_rf5 {post : Int32 → Prop} {t i : Nat} (ht : t < 4) (hi : i < 96) (h6 : d t = 0) (h4 : up (i / 32) ≠ 0) (h5 : id (i / 32) ≠ 0) (h7 : w (384 + i) ≠ 0) (hp : post (-5)) : wpY_refused post (v, w, g, r, d, up, id, tb) (nI t) (nI i) := by
  unfold wpY_refused; dsimp only
  exact ⟨pk_in t 4 ht, br_t (by rw [nI_clamp (by omega)]; exact h6) ⟨by decide, nm_r (mc_d32 hi) ⟨pk_in (i / 32) 4 (by omega), br_f (by rw [nI_clamp (by omega)]; exact h4) (my_dbt1 _ _ _ _ _ _ _ _ hi h5 h7 (br_f (by decide) hp))⟩⟩⟩
theorem my_rfL {post : Int32 → Prop} {t i : Nat} (ht : t < 4) (hi : i < 96) (h6 : d t = 0) (h4 : up (i / 32) ≠ 0) (h5 : id (i / 32) = 0 ∨ w (384 + i) = 0) (hp : ∃ n, wY_refused_43 post (nI t) (nI i) (nI (i / 32)) v w g r d up id tb n 0) : wpY_refused post (v, w, g, r, d, up, id, tb) (nI t) (nI i) := by
  unfold wpY_refused; dsimp only
  exact ⟨pk_in t 4 ht, br_t (by rw [nI_clamp (by omega)]; exact h6) ⟨by decide, nm_r (mc_d32 hi) ⟨pk_in (i / 32) 4 (by omega), br_f (by rw [nI_clamp (by omega)]; exact h4) (my_dbt0 _ _ _ _ _ _ _ _ hi h5 (br_t rfl hp))⟩⟩⟩
theorem my_rfB {post : Int32 → Prop} {t i o : Nat} (ht : t < 4) (hi : i < 96) (ho : o < 4) (hot : o ≠ t) (hw : w (96 * o + i) ≠ 0) (hp : post (-3)) : ∀ e j, j + e = 4 → j ≤ o → wY_refused_43 post (nI t) (nI i) (nI (i / 32)) v w g r d up id tb (e + 1) (nI j) := by
  intro e
  induction e with
  | zero => intro j hj hjo; omega
  | succ e ih =>
    intro j hj hjo
    have g4 : ¬ (4 : Int32) ≤ nI j := nI_ge (b := 4) (by omega) (by decide)
    have ee := mc_ix9 j i
    have ec : (96 * nI j + nI i : Int32).toNatClampNeg = 96 * j + i := by rw [ee]; exact nI_clamp (by omega)
    refine br_f g4 ?_
    by_cases z : j = t
    · exact br_t (by rw [z]) (nm_r (nI_1 j) (ih (j + 1) (by omega) (by omega)))
    · refine br_f (fun q => z (mc_inj (by omega) ht q)) ⟨pk_in (96 * j + i) 480 (by omega) ee, ?_⟩
      by_cases y : w (96 * j + i) = 0
      · have : j ≠ o := fun q => hw (by rw [← q]; exact y)
        exact br_t (by rw [ec]; exact y) (nm_r (nI_1 j) (ih (j + 1) (by omega) (by omega)))
      · exact br_f (by rw [ec]; exact y) hp
theorem my_rfF {post : Int32 → Prop} {t i : Nat} (ht : t < 4) (hi : i < 96) (hw : ∀ o, o < 4 → o ≠ t → w (96 * o + i) = 0) (hp : post (if w (96 * t + i) = 0 ∧ mc_cz w (96 * t + 32 * (i / 32)) 32 = 6 then -7 else 0)) : ∀ e j, j + e = 4 → wY_refused_43 post (nI t) (nI i) (nI (i / 32)) v w g r d up id tb (e + 1) (nI j) := by
  intro e
  induction e with
  | zero =>
    intro j hj
    obtain rfl : j = 4 := by omega
    have ee := mc_ix9 t i
    have ec : (96 * nI t + nI i : Int32).toNatClampNeg = 96 * t + i := by rw [ee]; exact nI_clamp (by omega)
    refine br_t (by decide) ⟨pk_in (96 * t + i) 480 (by omega) ee, ?_⟩
    by_cases z : w (96 * t + i) = 0
    · refine br_t (by rw [ec]; exact z) (my_wf _ _ _ _ _ _ _ _ (mc_96 t) (by omega) ?_)
      have hl := mc_czL w (96 * t + 32 * (i / 32)) 32
      by_cases y : mc_cz w (96 * t + 32 * (i / 32)) 32 = 6
      · rw [if_pos ⟨z, y⟩] at hp
        exact br_t (by rw [y]; rfl) hp
      · rw [if_neg (fun q => y q.2)] at hp
        exact br_f (fun q => y ((nI_eq (b := 6) (by omega) (by decide)).mp q)) hp
    · rw [if_neg (fun q => z q.1)] at hp
      exact br_f (by rw [ec]; exact z) hp
  | succ e ih =>
    intro j hj
    have g4 : ¬ (4 : Int32) ≤ nI j := nI_ge (b := 4) (by omega) (by decide)
    have ee := mc_ix9 j i
    have ec : (96 * nI j + nI i : Int32).toNatClampNeg = 96 * j + i := by rw [ee]; exact nI_clamp (by omega)
    refine br_f g4 ?_
    by_cases z : j = t
    · exact br_t (by rw [z]) (nm_r (nI_1 j) (ih (j + 1) (by omega)))
    · exact br_f (fun q => z (mc_inj (by omega) ht q)) ⟨pk_in (96 * j + i) 480 (by omega) ee, br_t (by rw [ec]; exact hw j (by omega) z) (nm_r (nI_1 j) (ih (j + 1) (by omega)))⟩
end
/-- both sides refuse a write alike; where they don't refuse it, it may be done -/
theorem mc_ref {c h f st dd v w g r d id tb : Nat → Int32} (up : Nat → Int32) (K : mc_Core c h f st dd v w g r d id tb) {t i : Nat} (ht : t < 4) (hst : st t ≠ 0) (hi : i < 96) : ∃ q : Int32,
    (∀ post : Int32 → Prop, post q → wpX_refusalToWrite post (c, h, f, st, up, dd) (nI t) (nI i)) ∧ (∀ post : Int32 → Prop, post q → wpY_refused post (v, w, g, r, d, up, id, tb) (nI t) (nI i)) ∧
    (q = 0 → st t = 1 ∧ up (i / 32) ≠ 0 ∧ (h i = nI t ∨ (h i = -1 ∧ mc_cn h (nI t) (32 * (i / 32)) 32 < 6))) := by
  have hd := mc_Td (K.2.1 t ht)
  have hD := mc_Dw (K.2.2.2.1 i hi)
  by_cases h6 : st t = 2
  · exact ⟨-6, fun post hp => mx_rtwR _ _ _ _ _ _ (q := -6) (by decide) (fun post hp => mx_rtr _ _ _ _ _ _ ht hst hi (fun _ => hp) (fun q => absurd h6 q) (fun q => absurd h6 q) (fun q => absurd h6 q)) hp, fun post hp => my_rf6 _ _ _ _ _ _ _ _ ht (hd.mp h6) hp, fun q => absurd q (by decide)⟩
  · have d0 : d t = 0 := Decidable.byContradiction fun q => h6 (hd.mpr q)
    have s1 : st t = 1 := by
      rcases K.2.1 t ht with ⟨_, _, q⟩ | ⟨_, _, q⟩ | ⟨_, _, q⟩
      · exact absurd q hst
      · exact q
      · exact absurd q h6
    by_cases h4 : up (i / 32) = 0
    · exact ⟨-4, fun post hp => mx_rtwR _ _ _ _ _ _ (q := -4) (by decide) (fun post hp => mx_rtr _ _ _ _ _ _ ht hst hi (fun q => absurd q h6) (fun _ _ => hp) (fun _ q => absurd h4 q) (fun _ q => absurd h4 q)) hp, fun post hp => my_rf4 _ _ _ _ _ _ _ _ ht hi d0 h4 hp, fun q => absurd q (by decide)⟩
    · by_cases h5 : h i = -2
      · exact ⟨-5, fun post hp => mx_rtwR _ _ _ _ _ _ (q := -5) (by decide) (fun post hp => mx_rtr _ _ _ _ _ _ ht hst hi (fun q => absurd q h6) (fun _ q => absurd q h4) (fun _ _ _ => hp) (fun _ _ q => absurd h5 q)) hp, fun post hp => my_rf5 _ _ _ _ _ _ _ _ ht hi d0 h4 (hD.mp h5).1 (hD.mp h5).2 hp, fun q => absurd q (by decide)⟩
      · have hR : ∀ post : Int32 → Prop, post 0 → wpX_refusalToRead post (c, h, f, st, up, dd) (nI t) (nI i) := fun post hp => mx_rtr _ _ _ _ _ _ ht hst hi (fun q => absurd q h6) (fun _ q => absurd q h4) (fun _ _ q => absurd q h5) (fun _ _ _ => hp)
        have h5' := mc_Dn (K.2.2.2.1 i hi) h5
        by_cases hm : h i = nI t
        · refine ⟨0, fun post hp => mx_rtwM _ _ _ _ _ _ hi hR hm hp, fun post hp => my_rfL _ _ _ _ _ _ _ _ ht hi d0 h4 h5' ⟨5, my_rfF _ _ _ _ _ _ _ _ ht hi ?_ ?_ 4 0 (by omega)⟩, fun _ => ⟨s1, h4, Or.inl hm⟩⟩
          · intro o ho hot
            exact Decidable.byContradiction fun q => hot (mc_inj ho ht (((mc_Hw (K.2.2.1 i hi o ho)).mpr q).symm.trans hm))
          · rw [if_neg (fun q => (mc_Hw (K.2.2.1 i hi t ht)).mp hm q.1)]; exact hp
        · by_cases hn : h i = -1
          · have hno : ∀ o, o < 4 → w (96 * o + i) = 0 := fun o ho => Decidable.byContradiction fun q => mc_m1 o ho (((mc_Hw (K.2.2.1 i hi o ho)).mpr q).symm.trans hn)
            have e1 : (if mc_cn h (nI t) (32 * (i / 32)) 32 < 6 then (0 : Int32) else -7) = (if w (96 * t + i) = 0 ∧ mc_cz w (96 * t + 32 * (i / 32)) 32 = 6 then -7 else 0) := by
              have hle := K.2.2.2.2.2.2 t ht (i / 32) (by omega)
              rw [mc_cnt K ht (by omega)] at hle ⊢
              by_cases z : mc_cz w (96 * t + 32 * (i / 32)) 32 < 6
              · rw [if_pos z, if_neg (by omega)]
              · rw [if_neg z, if_pos ⟨hno t ht, by omega⟩]
            refine ⟨_, fun post hp => mx_rtwF _ _ _ _ _ _ hi hR hm hn hp, fun post hp => my_rfL _ _ _ _ _ _ _ _ ht hi d0 h4 h5' ⟨5, my_rfF _ _ _ _ _ _ _ _ ht hi (fun o ho _ => hno o ho) ?_ 4 0 (by omega)⟩, fun q => ⟨s1, h4, Or.inr ⟨hn, ?_⟩⟩⟩
            · rw [← e1]; exact hp
            · refine Decidable.byContradiction fun z => ?_
              rw [if_neg z] at q; exact absurd q (by decide)
          · obtain ⟨o, ho, eo⟩ : ∃ o, o < 4 ∧ h i = nI o := by
              rcases K.2.2.2.2.1 i hi with q | q | q
              · exact absurd q hn
              · exact absurd q h5
              · exact q
            exact ⟨-3, fun post hp => mx_rtwB _ _ _ _ _ _ hi hR hm hn hp, fun post hp => my_rfL _ _ _ _ _ _ _ _ ht hi d0 h4 h5' ⟨5, my_rfB _ _ _ _ _ _ _ _ ht hi ho (fun q => hm (by rw [← q]; exact eo)) ((mc_Hw (K.2.2.1 i hi o ho)).mp eo) hp 4 0 (by omega) (by omega)⟩, fun q => absurd q (by decide)⟩
end
section
/-! put, remove, abort, crash, start, crashLeader, startLeader -/
section
variable (c h f st up dd v w g r d id tb : Nat → Int32)
theorem mx_write {post : Int32 → SX → Prop} {i : Nat} {x y : Int32} (hi : i < 96) (hp : post (nI (mc_cn (upd h i x) x (32 * (i / 32)) 32)) (c, upd h i x, upd f i y, st, up, dd)) : wpX_write post (c, h, f, st, up, dd) x (nI i) y := by
  unfold wpX_write; dsimp only
  have cl : (nI i).toNatClampNeg = i := nI_clamp (by omega)
  refine ⟨pk_in i 96 hi, nm_r (e' := upd h i x) (by rw [cl]) ⟨pk_in i 96 hi, nm_r (e' := upd f i y) (by rw [cl]) ⟨by decide, ?_⟩⟩⟩
  rw [mc_d32 hi]
  exact mx_held _ _ _ _ _ _ (by omega) hp
theorem mx_putV {post : Int32 → SX → Prop} {x y p : Int32} (hv : p < 0 ∨ ¬ p ≤ 999) (hp : post (-1) (c, h, f, st, up, dd)) : wpX_put post (c, h, f, st, up, dd) x y p := by
  unfold wpX_put; dsimp only
  by_cases z : p < 0
  · exact br_t z hp
  · exact br_f z (br_f (hv.resolve_left z) hp)
theorem mx_putR {post : Int32 → SX → Prop} {x y p q : Int32} (h0 : ¬ p < 0) (h9 : p ≤ 999) (hq : q ≠ 0) (hR : ∀ post : Int32 → Prop, post q → wpX_refusalToWrite post (c, h, f, st, up, dd) x y) (hp : post q (c, h, f, st, up, dd)) : wpX_put post (c, h, f, st, up, dd) x y p := by
  unfold wpX_put; dsimp only
  exact br_f h0 (br_t h9 (hR _ (br_f hq hp)))
theorem mx_put {post : Int32 → SX → Prop} {i : Nat} {x p : Int32} (hi : i < 96) (h0 : ¬ p < 0) (h9 : p ≤ 999) (hR : ∀ post : Int32 → Prop, post 0 → wpX_refusalToWrite post (c, h, f, st, up, dd) x (nI i)) (hp : post (nI (mc_cn (upd h i x) x (32 * (i / 32)) 32)) (c, upd h i x, upd f i p, st, up, dd)) : wpX_put post (c, h, f, st, up, dd) x (nI i) p := by
  unfold wpX_put; dsimp only
  exact br_f h0 (br_t h9 (hR _ (br_t rfl (mx_write _ _ _ _ _ _ hi hp))))
theorem my_put0 {post : Int32 → SY → Prop} {x y p : Int32} (hb : (∀ t, t < 4 → x = nI t → r t = 0) ∨ (∀ i, i < 96 → y ≠ nI i) ∨ p < 0 ∨ ¬ p ≤ 999) (hp : post (-1) (v, w, g, r, d, up, id, tb)) : wpY_put post (v, w, g, r, d, up, id, tb) x y p := by
  unfold wpY_put; dsimp only
  by_cases hg : ∃ t, t < 4 ∧ x = nI t ∧ r t ≠ 0
  · obtain ⟨t, ht, rfl, hs⟩ := hg
    have hb1 := hb.resolve_left fun q => hs (q t ht rfl)
    by_cases hc : ∃ i, i < 96 ∧ y = nI i
    · obtain ⟨i, hi, rfl⟩ := hc
      have hb2 := hb1.resolve_left fun q => q i hi rfl
      refine my_g1 _ _ _ _ _ _ _ _ ht hs (br_f (by decide) (my_c0 _ _ _ _ _ _ _ _ hi (br_t rfl ?_)))
      by_cases z : p < 0
      · exact br_t z hp
      · exact br_f z (br_f (hb2.resolve_left z) hp)
    · exact my_g1 _ _ _ _ _ _ _ _ ht hs (br_f (by decide) (my_c1 _ _ _ _ _ _ _ _ (fun i hi e => hc ⟨i, hi, e⟩) (br_f (by decide) hp)))
  · exact my_g0 _ _ _ _ _ _ _ _ (fun t ht e => Decidable.byContradiction fun q => hg ⟨t, ht, e, q⟩) (br_t rfl hp)
theorem my_putR {post : Int32 → SY → Prop} {t i : Nat} {p q : Int32} (ht : t < 4) (hr : r t ≠ 0) (hi : i < 96) (h0 : ¬ p < 0) (h9 : p ≤ 999) (hq : q ≠ 0) (hR : ∀ post : Int32 → Prop, post q → wpY_refused post (v, w, g, r, d, up, id, tb) (nI t) (nI i)) (hp : post q (v, w, g, r, d, up, id, tb)) : wpY_put post (v, w, g, r, d, up, id, tb) (nI t) (nI i) p := by
  unfold wpY_put; dsimp only
  exact my_g1 _ _ _ _ _ _ _ _ ht hr (br_f (by decide) (my_c0 _ _ _ _ _ _ _ _ hi (br_t rfl (br_f h0 (br_t h9 (hR _ (br_f hq hp)))))))
theorem my_put {post : Int32 → SY → Prop} {t i : Nat} {p : Int32} (ht : t < 4) (hr : r t ≠ 0) (hi : i < 96) (h0 : ¬ p < 0) (h9 : p ≤ 999) (hR : ∀ post : Int32 → Prop, post 0 → wpY_refused post (v, w, g, r, d, up, id, tb) (nI t) (nI i)) (hp : post (nI (mc_cz (upd w (96 * t + i) 1) (96 * t + 32 * (i / 32)) 32)) (v, upd w (96 * t + i) 1, upd g (96 * t + i) p, r, d, up, id, tb)) : wpY_put post (v, w, g, r, d, up, id, tb) (nI t) (nI i) p := by
  unfold wpY_put; dsimp only
  have ee := mc_ix9 t i
  have ec : (96 * nI t + nI i : Int32).toNatClampNeg = 96 * t + i := by rw [ee]; exact nI_clamp (by omega)
  have hin : vp_in (96 * nI t + nI i : Int32) 480 := pk_in (96 * t + i) 480 (by omega) ee
  refine my_g1 _ _ _ _ _ _ _ _ ht hr (br_f (by decide) (my_c0 _ _ _ _ _ _ _ _ hi (br_t rfl (br_f h0 (br_t h9 (hR _ (br_t rfl ⟨hin, nm_r (e' := upd w (96 * t + i) 1) (by rw [ec]) ⟨hin, nm_r (e' := upd g (96 * t + i) p) (by rw [ec]) ⟨by decide, ?_⟩⟩⟩)))))))
  rw [mc_d32 hi]
  exact my_wf _ _ _ _ _ _ _ _ (mc_96 t) (by omega) hp
theorem mx_rem0 {post : Int32 → SX → Prop} {x y : Int32} {q : Int32} (hq : q ≠ 0) (hR : ∀ post : Int32 → Prop, post q → wpX_refusalToWrite post (c, h, f, st, up, dd) x y) (hp : post q (c, h, f, st, up, dd)) : wpX_remove post (c, h, f, st, up, dd) x y := by
  unfold wpX_remove; dsimp only
  exact hR _ (br_f hq hp)
theorem mx_remN {post : Int32 → SX → Prop} {i : Nat} {x : Int32} (hi : i < 96) (hR : ∀ post : Int32 → Prop, post 0 → wpX_refusalToWrite post (c, h, f, st, up, dd) x (nI i)) (hz : (if h i = x then f i else c i) = -2) (hp : post (-2) (c, h, f, st, up, dd)) : wpX_remove post (c, h, f, st, up, dd) x (nI i) := by
  unfold wpX_remove; dsimp only
  exact hR _ (br_t rfl (mx_seen _ _ _ _ _ _ hi (br_t hz hp)))
theorem mx_rem {post : Int32 → SX → Prop} {i : Nat} {x : Int32} (hi : i < 96) (hR : ∀ post : Int32 → Prop, post 0 → wpX_refusalToWrite post (c, h, f, st, up, dd) x (nI i)) (hz : ¬ (if h i = x then f i else c i) = -2) (hp : post (nI (mc_cn (upd h i x) x (32 * (i / 32)) 32)) (c, upd h i x, upd f i (-2), st, up, dd)) : wpX_remove post (c, h, f, st, up, dd) x (nI i) := by
  unfold wpX_remove; dsimp only
  exact hR _ (br_t rfl (mx_seen _ _ _ _ _ _ hi (br_f hz (mx_write _ _ _ _ _ _ hi hp))))
theorem my_rem0 {post : Int32 → SY → Prop} {x y : Int32} (hb : (∀ t, t < 4 → x = nI t → r t = 0) ∨ (∀ i, i < 96 → y ≠ nI i)) (hp : post (-1) (v, w, g, r, d, up, id, tb)) : wpY_remove post (v, w, g, r, d, up, id, tb) x y := by
  unfold wpY_remove; dsimp only
  by_cases hg : ∃ t, t < 4 ∧ x = nI t ∧ r t ≠ 0
  · obtain ⟨t, ht, rfl, hs⟩ := hg
    exact my_g1 _ _ _ _ _ _ _ _ ht hs (br_f (by decide) (my_c1 _ _ _ _ _ _ _ _ (hb.resolve_left fun q => hs (q t ht rfl)) (br_f (by decide) hp)))
  · exact my_g0 _ _ _ _ _ _ _ _ (fun t ht e => Decidable.byContradiction fun q => hg ⟨t, ht, e, q⟩) (br_t rfl hp)
theorem my_remR {post : Int32 → SY → Prop} {t i : Nat} {q : Int32} (ht : t < 4) (hr : r t ≠ 0) (hi : i < 96) (hq : q ≠ 0) (hR : ∀ post : Int32 → Prop, post q → wpY_refused post (v, w, g, r, d, up, id, tb) (nI t) (nI i)) (hp : post q (v, w, g, r, d, up, id, tb)) : wpY_remove post (v, w, g, r, d, up, id, tb) (nI t) (nI i) := by
  unfold wpY_remove; dsimp only
  exact my_g1 _ _ _ _ _ _ _ _ ht hr (br_f (by decide) (my_c0 _ _ _ _ _ _ _ _ hi (br_t rfl (hR _ (br_f hq hp)))))
theorem my_remN {post : Int32 → SY → Prop} {t i : Nat} (ht : t < 4) (hr : r t ≠ 0) (hi : i < 96) (hR : ∀ post : Int32 → Prop, post 0 → wpY_refused post (v, w, g, r, d, up, id, tb) (nI t) (nI i)) (hz : ¬ 0 ≤ mc_sn v w g t i) (hp : post (-2) (v, w, g, r, d, up, id, tb)) : wpY_remove post (v, w, g, r, d, up, id, tb) (nI t) (nI i) := by
  unfold wpY_remove; dsimp only
  exact my_g1 _ _ _ _ _ _ _ _ ht hr (br_f (by decide) (my_c0 _ _ _ _ _ _ _ _ hi (br_t rfl (hR _ (br_t rfl (my_seen _ _ _ _ _ _ _ _ ht hi (br_f hz hp)))))))
theorem my_rem {post : Int32 → SY → Prop} {t i : Nat} (ht : t < 4) (hr : r t ≠ 0) (hi : i < 96) (hR : ∀ post : Int32 → Prop, post 0 → wpY_refused post (v, w, g, r, d, up, id, tb) (nI t) (nI i)) (hz : 0 ≤ mc_sn v w g t i) (hp : post (nI (mc_cz (upd w (96 * t + i) 2) (96 * t + 32 * (i / 32)) 32)) (v, upd w (96 * t + i) 2, g, r, d, up, id, tb)) : wpY_remove post (v, w, g, r, d, up, id, tb) (nI t) (nI i) := by
  unfold wpY_remove; dsimp only
  have ee := mc_ix9 t i
  have ec : (96 * nI t + nI i : Int32).toNatClampNeg = 96 * t + i := by rw [ee]; exact nI_clamp (by omega)
  have hin : vp_in (96 * nI t + nI i : Int32) 480 := pk_in (96 * t + i) 480 (by omega) ee
  refine my_g1 _ _ _ _ _ _ _ _ ht hr (br_f (by decide) (my_c0 _ _ _ _ _ _ _ _ hi (br_t rfl (hR _ (br_t rfl (my_seen _ _ _ _ _ _ _ _ ht hi (br_t hz ⟨hin, nm_r (e' := upd w (96 * t + i) 2) (by rw [ec]) ⟨by decide, ?_⟩⟩)))))))
  rw [mc_d32 hi]
  exact my_wf _ _ _ _ _ _ _ _ (mc_96 t) (by omega) hp
end
theorem mc_F3w {up h : Nat → Int32} (F3 : mc_F3 up h) {i : Nat} {x : Int32} (hu : up (i / 32) ≠ 0) : mc_F3 up (upd h i x) := by
  intro j hj q hq e
  by_cases z : j = i
  · rw [z]; exact hu
  · rw [pk_un z] at e; exact F3 j hj q hq e
theorem i_vc_put {k : Nat} {u : SX} {v : SY} (I : i_Rel k u v) (hk : k + 5 ≤ 2560) (v1 : Int32) (v2 : Int32) (v3 : Int32) : wpX_put (fun r u' => wpY_put (fun r' v' => r' = r ∧ i_Rel (k + 5) u' v') v v1 v2 v3) u v1 v2 v3 := by
  have I' := I
  obtain ⟨c, h, f, st, up0, dd⟩ := u
  obtain ⟨vv, w, g, r, d, up, id, tb⟩ := v
  obtain ⟨hu, K, F1, F2, F3⟩ := I
  subst hu
  by_cases hv : v3 < 0 ∨ ¬ v3 ≤ 999
  · exact mx_putV _ _ _ _ _ _ hv (my_put0 _ _ _ _ _ _ _ _ (Or.inr (Or.inr hv)) ⟨rfl, I'⟩)
  · have h0 : ¬ v3 < 0 := fun q => hv (Or.inl q)
    have h9 : v3 ≤ 999 := Decidable.byContradiction fun q => hv (Or.inr q)
    by_cases hg : ∃ t, t < 4 ∧ v1 = nI t ∧ st t ≠ 0
    · by_cases hs : ∃ i, i < 96 ∧ v2 = nI i
      · obtain ⟨t, ht, rfl, hst⟩ := hg
        obtain ⟨i, hi, rfl⟩ := hs
        have hr : r t ≠ 0 := fun q => hst ((mc_Tr (K.2.1 t ht)).mpr q)
        obtain ⟨q, rX, rY, hq⟩ := mc_ref up K ht hst hi
        by_cases z : q = 0
        · subst z
          obtain ⟨s1, hup, hf⟩ := hq rfl
          have K2 : mc_Core c (upd h i (nI t)) (upd f i v3) st dd vv (upd w (96 * t + i) 1) (upd g (96 * t + i) v3) r d id tb :=
            mc_wr K ht hi s1 hf (fun k hk => ⟨pk_un hk, pk_un hk⟩) (Or.inl ⟨pk_us, pk_us.trans pk_us.symm, by rw [pk_us]; exact Int32.not_lt.mp h0⟩)
          exact mx_put _ _ _ _ _ _ hi h0 h9 rX (my_put _ _ _ _ _ _ _ _ ht hr hi h0 h9 rY ⟨by rw [mc_cnt K2 ht (by omega)], rfl, K2, F1, F2, mc_F3w F3 hup⟩)
        · exact mx_putR _ _ _ _ _ _ h0 h9 z rX (my_putR _ _ _ _ _ _ _ _ ht hr hi h0 h9 z rY ⟨rfl, I'⟩)
      · have hb : ∀ i, i < 96 → v2 ≠ nI i := fun s h3 e => hs ⟨s, h3, e⟩
        exact mx_putR _ _ _ _ _ _ h0 h9 (q := -1) (by decide) (fun post hp => mx_rtw0 _ _ _ _ _ _ (Or.inr hb) hp) (my_put0 _ _ _ _ _ _ _ _ (Or.inr (Or.inl hb)) ⟨rfl, I'⟩)
    · have hb : ∀ t, t < 4 → v1 = nI t → st t = 0 := fun t ht e => Decidable.byContradiction fun q => hg ⟨t, ht, e, q⟩
      exact mx_putR _ _ _ _ _ _ h0 h9 (q := -1) (by decide) (fun post hp => mx_rtw0 _ _ _ _ _ _ (Or.inl hb) hp) (my_put0 _ _ _ _ _ _ _ _ (Or.inl fun t ht e => (mc_Tr (K.2.1 t ht)).mp (hb t ht e)) ⟨rfl, I'⟩)
theorem i_vc_remove {k : Nat} {u : SX} {v : SY} (I : i_Rel k u v) (hk : k + 5 ≤ 2560) (v1 : Int32) (v2 : Int32) : wpX_remove (fun r u' => wpY_remove (fun r' v' => r' = r ∧ i_Rel (k + 5) u' v') v v1 v2) u v1 v2 := by
  have I' := I
  obtain ⟨c, h, f, st, up0, dd⟩ := u
  obtain ⟨vv, w, g, r, d, up, id, tb⟩ := v
  obtain ⟨hu, K, F1, F2, F3⟩ := I
  subst hu
  by_cases hg : ∃ t, t < 4 ∧ v1 = nI t ∧ st t ≠ 0
  · by_cases hs : ∃ i, i < 96 ∧ v2 = nI i
    · obtain ⟨t, ht, rfl, hst⟩ := hg
      obtain ⟨i, hi, rfl⟩ := hs
      have hr : r t ≠ 0 := fun q => hst ((mc_Tr (K.2.1 t ht)).mpr q)
      obtain ⟨q, rX, rY, hq⟩ := mc_ref up K ht hst hi
      by_cases z : q = 0
      · subst z
        obtain ⟨s1, hup, hf⟩ := hq rfl
        have e := mc_snE (K.2.2.1 i hi t ht) (K.1 i hi)
        by_cases y : 0 ≤ mc_sn vv w g t i
        · have K2 : mc_Core c (upd h i (nI t)) (upd f i (-2)) st dd vv (upd w (96 * t + i) 2) g r d id tb :=
            mc_wr K ht hi s1 hf (fun k hk => ⟨pk_un hk, rfl⟩) (Or.inr ⟨pk_us, pk_us⟩)
          rw [if_pos y] at e
          refine mx_rem _ _ _ _ _ _ hi rX (fun z2 => ?_) (my_rem _ _ _ _ _ _ _ _ ht hr hi rY y ⟨by rw [mc_cnt K2 ht (by omega)], rfl, K2, F1, F2, mc_F3w F3 hup⟩)
          rw [← e] at z2
          rw [z2] at y
          exact absurd y (by decide)
        · rw [if_neg y] at e
          exact mx_remN _ _ _ _ _ _ hi rX e.symm (my_remN _ _ _ _ _ _ _ _ ht hr hi rY y ⟨rfl, I'⟩)
      · exact mx_rem0 _ _ _ _ _ _ z rX (my_remR _ _ _ _ _ _ _ _ ht hr hi z rY ⟨rfl, I'⟩)
    · have hb : ∀ i, i < 96 → v2 ≠ nI i := fun s h3 e => hs ⟨s, h3, e⟩
      exact mx_rem0 _ _ _ _ _ _ (q := -1) (by decide) (fun post hp => mx_rtw0 _ _ _ _ _ _ (Or.inr hb) hp) (my_rem0 _ _ _ _ _ _ _ _ (Or.inr hb) ⟨rfl, I'⟩)
  · have hb : ∀ t, t < 4 → v1 = nI t → st t = 0 := fun t ht e => Decidable.byContradiction fun q => hg ⟨t, ht, e, q⟩
    exact mx_rem0 _ _ _ _ _ _ (q := -1) (by decide) (fun post hp => mx_rtw0 _ _ _ _ _ _ (Or.inl hb) hp) (my_rem0 _ _ _ _ _ _ _ _ (Or.inl fun t ht e => (mc_Tr (K.2.1 t ht)).mp (hb t ht e)) ⟨rfl, I'⟩)
/-! abort -/
def mc_sm (h : Nat → Int32) (x : Int32) : Nat → Nat → Int32 → Int32
  | 0, _, a => a
  | e + 1, j, a => mc_sm h x e (j + 1) (a + nI (mc_cn h x (32 * j) 32))
theorem mx_ab14 (c h f st up dd : Nat → Int32) {post : Int32 → SX → Prop} {t : Nat} (ht : t < 4) : ∀ e j, j + e = 3 → ∀ a : Int32, post (mc_sm h (nI t) e j a) (c, mc_up 0 96 h (mc_dr h (nI t)), f, upd st t 0, up, dd) → wX_abort_14 post (nI t) c h f st up dd (e + 1) a (nI j) := by
  intro e
  induction e with
  | zero =>
    intro j hj a hp
    obtain rfl : j = 3 := by omega
    exact br_t (by decide) (mx_end _ _ _ _ _ _ ht hp)
  | succ e ih =>
    intro j hj a hp
    exact br_f (nI_ge (b := 3) (by omega) (by decide)) (mx_held _ _ _ _ _ _ (by omega) (nm_e (nm_r (nI_1 j) (ih (j + 1) (by omega) _ hp))))
/-- what ending one transaction on both sides leaves of the rest of the relation -/
theorem mc_F2u {up st : Nat → Int32} (F2 : mc_F2 up st) {t : Nat} : mc_F2 up (upd st t 0) := by
  intro z q hq
  by_cases y : q = t
  · rw [y]; exact pk_us
  · rw [pk_un y]; exact F2 z q hq
theorem mc_F3d {up h : Nat → Int32} (F3 : mc_F3 up h) {x : Int32} : mc_F3 up (mc_up 0 96 h (mc_dr h x)) :=
  fun i hi t ht e => F3 i hi t ht (mc_drO ht hi e).1
theorem i_vc_abort {k : Nat} {u : SX} {v : SY} (I : i_Rel k u v) (hk : k + 5 ≤ 2560) (v1 : Int32) : wpX_abort (fun r u' => wpY_abort (fun r' v' => r' = r ∧ i_Rel (k + 5) u' v') v v1) u v1 := by
  have I' := I
  obtain ⟨c, h, f, st, up0, dd⟩ := u
  obtain ⟨vv, w, g, r, d, up, id, tb⟩ := v
  obtain ⟨hu, K, F1, F2, F3⟩ := I
  subst hu
  unfold wpX_abort wpY_abort
  dsimp only
  by_cases hg : ∃ t, t < 4 ∧ v1 = nI t ∧ st t ≠ 0
  · obtain ⟨t, ht, rfl, hst⟩ := hg
    have hr : r t ≠ 0 := fun q => hst ((mc_Tr (K.2.1 t ht)).mpr q)
    refine mx_g1 _ _ _ _ _ _ ht hst (br_f (by decide) ⟨4, mx_ab14 _ _ _ _ _ _ ht 3 0 (by omega) 0 ?_⟩)
    refine my_g1 _ _ _ _ _ _ _ _ ht hr (br_f (by decide) ?_)
    unfold wpY_writtenBy
    dsimp only
    refine my_wf _ _ _ _ _ _ _ _ (s := 0) (mc_96 t) (by omega) (my_wf _ _ _ _ _ _ _ _ (s := 1) (mc_96 t) (by omega) (my_wf _ _ _ _ _ _ _ _ (s := 2) (mc_96 t) (by omega) (my_end _ _ _ _ _ _ _ _ ht ⟨?_, rfl, mc_end2 K ht, F1, mc_F2u F2, mc_F3d F3⟩)))
    rw [← mc_cnt K ht (s := 0) (by omega), ← mc_cnt K ht (s := 1) (by omega), ← mc_cnt K ht (s := 2) (by omega)]
    show _ = ((0 + nI (mc_cn h (nI t) (32 * 0) 32)) + nI (mc_cn h (nI t) (32 * 1) 32)) + nI (mc_cn h (nI t) (32 * 2) 32)
    rw [Int32.zero_add]
  · have hb : ∀ t, t < 4 → v1 = nI t → st t = 0 := fun t ht e => Decidable.byContradiction fun q => hg ⟨t, ht, e, q⟩
    exact mx_g0 _ _ _ _ _ _ hb (br_t rfl (my_g0 _ _ _ _ _ _ _ _ (fun t ht e => (mc_Tr (K.2.1 t ht)).mp (hb t ht e)) (br_t rfl ⟨rfl, I'⟩)))
/-! a store is lost, the leader is lost -/
theorem mc_fall {c h f st dd v w g r d id tb : Nat → Int32} (up : Nat → Int32) (K : mc_Core c h f st dd v w g r d id tb) {s : Nat} (hs : s < 3) (F1 : ∀ q, q < 3 → q ≠ s → id q = 0 ∨ up q = 0 ∨ up 3 = 0) (F2 : mc_F2 up st) (F3 : mc_F3 up h) : ∃ (q : Int32) (X : SX) (Y : SY),
    (∀ k, i_Rel k X Y) ∧ (∀ post : Int32 → SX → Prop, post q X → wpX_loseStore post (c, h, f, st, up, dd) (nI s)) ∧ (∀ post : Int32 → SY → Prop, post q Y → wpY_fall post (v, w, g, r, d, up, id, tb) (nI s)) := by
  obtain ⟨q, h', st', w', d', K', a1, a2, a3, bX, bY⟩ := mc_fall11 c f dd v g id tb (upd up s 0) r hs 4 0 (by omega) 0 h st w d K (fun t ht => absurd ht (by omega))
  have u3 : upd up s 0 3 = up 3 := pk_un (by omega)
  refine ⟨q, (c, h', f, st', upd up s 0, dd), (v, w', g, r, d', upd up s 0, id, tb), fun k => ⟨rfl, K', ?_, ?_, ?_⟩, fun post hp => ?_, fun post hp => ?_⟩
  · intro p hp
    by_cases z : p = s
    · rw [z]; exact Or.inr (Or.inl pk_us)
    · rw [u3, pk_un z]; exact F1 p hp z
  · intro z t ht
    exact a3 t ht (F2 (u3.symm.trans z) t ht)
  · intro i hi t ht e
    rw [pk_un (fun z => a1 t ht i hi z e)]
    exact F3 i hi t ht (a2 i hi t ht e)
  · unfold wpX_loseStore; dsimp only
    exact ⟨pk_in s 4 (by omega), nm_r (e' := upd up s 0) (by rw [nI_clamp (by omega), mc_b0]) ⟨5, bX post hp⟩⟩
  · unfold wpY_fall; dsimp only
    exact ⟨pk_in s 4 (by omega), nm_r (e' := upd up s 0) (by rw [nI_clamp (by omega), mc_b0]) ⟨5, bY post hp⟩⟩
theorem mc_lead {c h f st sz dd v w g r d id tb : Nat → Int32} (up : Nat → Int32) (K : mc_Core c h f sz dd v w g r d id tb) (hz : ∀ t, t < 4 → sz t = st t ∨ sz t = 0) : ∃ (q q' : Int32) (h' st' w' r' d' : Nat → Int32),
    ((∀ t, t < 4 → sz t = st t) → q' = q) ∧ mc_Core c h' f st' dd v w' g r' d' id tb ∧ (∀ t, t < 4 → st' t = 0) ∧
    (∀ post : Int32 → SX → Prop, post q (c, h', f, st', upd up 3 0, dd) → wpX_loseLeader post (c, h, f, st, up, dd)) ∧ (∀ post : Int32 → SY → Prop, post q' (v, w', g, r', d', upd up 3 0, id, tb) → wpY_fallLeader post (v, w, g, r, d, up, id, tb)) := by
  obtain ⟨q, q', h', st', w', r', d', K', a1, a2, bX, bY⟩ := mc_lead11 c f dd v g id tb (upd up 3 0) 4 0 (by omega) 0 0 h st sz w r d K (fun t ht => absurd ht (by omega)) hz
  refine ⟨q, q', h', st', w', r', d', fun z => a2 z rfl, K', a1, fun post hp => ?_, fun post hp => ?_⟩
  · unfold wpX_loseLeader; dsimp only
    exact nm_r (e' := upd up 3 0) (by rw [mc_b0]) ⟨5, bX post hp⟩
  · unfold wpY_fallLeader; dsimp only
    exact nm_r (e' := upd up 3 0) (by rw [mc_b0]) ⟨5, bY post hp⟩
theorem mc_leadF {c h f st dd v w g r d id tb up : Nat → Int32} (K : mc_Core c h f st dd v w g r d id tb) (h0 : ∀ t, t < 4 → st t = 0) (h3 : up 3 = 0) : mc_F1 up id ∧ mc_F2 up st ∧ mc_F3 up h :=
  ⟨fun _ _ => Or.inr (Or.inr h3), fun _ => h0, fun i hi t ht e => absurd e (mc_no K ht (by rw [h0 t ht]; decide) i hi)⟩
theorem i_vc_crash {k : Nat} {u : SX} {v : SY} (I : i_Rel k u v) (hk : k + 5 ≤ 2560) (v1 : Int32) : wpX_crash (fun r u' => wpY_crash (fun r' v' => r' = r ∧ i_Rel (k + 5) u' v') v v1) u v1 := by
  have I' := I
  obtain ⟨c, h, f, st, up0, dd⟩ := u
  obtain ⟨vv, w, g, r, d, up, id, tb⟩ := v
  obtain ⟨hu, K, F1, F2, F3⟩ := I
  subst hu
  unfold wpX_crash wpY_crash
  dsimp only
  by_cases hs : ∃ s, s < 3 ∧ v1 = nI s
  · obtain ⟨s, hs, rfl⟩ := hs
    have cl : (nI s).toNatClampNeg = s := nI_clamp (by omega)
    by_cases h4 : up s = 0
    · exact mx_ros4 _ _ _ _ _ _ hs h4 (br_f (by decide) (my_s0 _ _ _ _ _ _ _ _ hs (br_t rfl ⟨pk_in s 4 (by omega), br_t (by rw [cl]; exact h4) ⟨rfl, I'⟩⟩)))
    · obtain ⟨q, X, Y, hr, bX, bY⟩ := mc_fall up K hs (fun q hq _ => F1 q hq) F2 F3
      exact mx_ros1 _ _ _ _ _ _ hs h4 (br_t rfl (bX _ (my_s0 _ _ _ _ _ _ _ _ hs (br_t rfl ⟨pk_in s 4 (by omega), br_f (by rw [cl]; exact h4) (bY _ ⟨rfl, hr _⟩)⟩))))
  · have hb : ∀ s, s < 3 → v1 ≠ nI s := fun s h3 e => hs ⟨s, h3, e⟩
    exact mx_ros0 _ _ _ _ _ _ hb (br_f (by decide) (my_s1 _ _ _ _ _ _ _ _ hb (br_f (by decide) ⟨rfl, I'⟩)))
theorem i_vc_crashLeader {k : Nat} {u : SX} {v : SY} (I : i_Rel k u v) (hk : k + 5 ≤ 2560) : wpX_crashLeader (fun r u' => wpY_crashLeader (fun r' v' => r' = r ∧ i_Rel (k + 5) u' v') v) u := by
  have I' := I
  obtain ⟨c, h, f, st, up0, dd⟩ := u
  obtain ⟨vv, w, g, r, d, up, id, tb⟩ := v
  obtain ⟨hu, K, F1, F2, F3⟩ := I
  subst hu
  unfold wpX_crashLeader wpY_crashLeader
  dsimp only
  by_cases z : up 3 = 0
  · exact br_t z (br_t z ⟨rfl, I'⟩)
  · obtain ⟨q, q', h', st', w', r', d', e, K', a1, bX, bY⟩ := mc_lead up K (st := st) (fun _ _ => Or.inl rfl)
    exact br_f z (bX _ (br_f z (bY _ ⟨e (fun _ _ => rfl), rfl, K', mc_leadF (up := upd up 3 0) K' a1 pk_us⟩)))
/-! a store or the leader starts -/
theorem my_stail (v w g r d up id tb : Nat → Int32) {post : SY → Prop} (hp : post (v, w, g, r, d, up, id, tb)) : ∀ e j, j + e = 3 → (∀ q, j ≤ q → q < 3 → id q = 0 ∨ up q = 0 ∨ up 3 = 0) → wY_settle_2 post (e + 1) (nI j) v w g r d up id tb := by
  intro e
  induction e with
  | zero =>
    intro j hj _
    obtain rfl : j = 3 := by omega
    exact br_t (by decide) hp
  | succ e ih =>
    intro j hj hz
    exact my_sskip _ _ _ _ _ _ _ _ (by omega) (hz j (by omega) (by omega)) (ih (j + 1) (by omega) (fun q h1 h2 => hz q (by omega) h2))
/-- only store s is there to settle -/
theorem my_sone (v w g r d up id tb : Nat → Int32) {v' id' : Nat → Int32} {s : Nat} (hs : s < 3) {post : SY → Prop} (hz : ∀ q, q < 3 → q ≠ s → id q = 0 ∨ up q = 0 ∨ up 3 = 0) (hio : ∀ q, q ≠ s → id' q = id q)
    (hY : ∀ (post : SY → Prop) (n : Nat), wY_settle_2 post n (nI (s + 1)) v' w g r d up id' tb → wY_settle_2 post (n + 1) (nI s) v w g r d up id tb) (hp : post (v', w, g, r, d, up, id', tb)) : ∀ e j, j + e = 3 → j ≤ s → wY_settle_2 post (e + 1) (nI j) v w g r d up id tb := by
  intro e
  induction e with
  | zero => intro j hj hjs; omega
  | succ e ih =>
    intro j hj hjs
    by_cases z : j = s
    · subst z
      refine hY post _ (my_stail _ _ _ _ _ _ _ _ hp e (j + 1) (by omega) fun q h1 h2 => ?_)
      rw [hio q (by omega)]
      exact hz q h2 (by omega)
    · exact my_sskip _ _ _ _ _ _ _ _ (by omega) (hz j (by omega) z) (ih (j + 1) (by omega) (by omega))
theorem i_vc_start {k : Nat} {u : SX} {v : SY} (I : i_Rel k u v) (hk : k + 5 ≤ 2560) (v1 : Int32) : wpX_start (fun r u' => wpY_start (fun r' v' => r' = r ∧ i_Rel (k + 5) u' v') v v1) u v1 := by
  have I' := I
  obtain ⟨c, h, f, st, up0, dd⟩ := u
  obtain ⟨vv, w, g, r, d, up, id, tb⟩ := v
  obtain ⟨hu, K, F1, F2, F3⟩ := I
  subst hu
  unfold wpX_start wpY_start
  dsimp only
  by_cases hs : ∃ s, s < 3 ∧ v1 = nI s
  · obtain ⟨s, hs, rfl⟩ := hs
    have cl : (nI s).toNatClampNeg = s := nI_clamp (by omega)
    have hi4 : vp_in (nI s) 4 := pk_in s 4 (by omega)
    by_cases h4 : up s = 0
    · have u3 : upd up s 1 3 = up 3 := pk_un (by omega)
      have f1 : ∀ q, q < 3 → q ≠ s → id q = 0 ∨ upd up s 1 q = 0 ∨ upd up s 1 3 = 0 := fun q hq z => by
        rw [u3, pk_un z]; exact F1 q hq
      have f2 : mc_F2 (upd up s 1) st := fun z => F2 (u3.symm.trans z)
      have f3 : ∀ h' : Nat → Int32, (∀ i, i < 96 → ∀ t, t < 4 → h' i = nI t → h i = nI t) → mc_F3 (upd up s 1) h' := fun h' hh i hi t ht e => by
        by_cases z : i / 32 = s
        · rw [z, pk_us]; decide
        · rw [pk_un z]; exact F3 i hi t ht (hh i hi t ht e)
      by_cases z3 : up 3 = 0
      · have z3' : upd up s 1 3 = 0 := u3.trans z3
        have hY : wpY_settle (fun v' => (1 : Int32) = 1 ∧ i_Rel (k + 5) (c, h, f, st, upd up s 1, dd) v') (vv, w, g, r, d, upd up s 1, id, tb) := by
          unfold wpY_settle; dsimp only
          exact ⟨4, my_stail _ _ _ _ _ _ _ _ ⟨rfl, rfl, K, fun _ _ => Or.inr (Or.inr z3'), f2, f3 h (fun _ _ _ _ e => e)⟩ 3 0 (by omega) (fun _ _ _ => Or.inr (Or.inr z3'))⟩
        exact mx_s1 _ _ _ _ _ _ hs (br_f (by decide) ⟨hi4, br_t (by rw [cl]; exact h4) ⟨hi4, nm_r (e' := upd up s 1) (by rw [cl, mc_b1]) (mx_settle0 _ _ _ _ _ _ hs (Or.inr z3') (my_s0 _ _ _ _ _ _ _ _ hs (br_t rfl ⟨hi4, br_t (by rw [cl]; exact h4) ⟨hi4, nm_r (e' := upd up s 1) (by rw [cl, mc_b1]) hY⟩⟩)))⟩⟩)
      · have z3' : upd up s 1 3 ≠ 0 := by rw [u3]; exact z3
        have zs : upd up s 1 s ≠ 0 := by rw [pk_us]; decide
        obtain ⟨c', h', v', id', K', i0, io, hh, bX, bY⟩ := mc_set1 (upd up s 1) K hs zs z3'
        have hY : wpY_settle (fun v' => (1 : Int32) = 1 ∧ i_Rel (k + 5) (c', h', f, st, upd up s 1, dd) v') (vv, w, g, r, d, upd up s 1, id, tb) := by
          unfold wpY_settle; dsimp only
          refine ⟨4, my_sone _ _ _ _ _ _ _ _ hs f1 io bY ⟨rfl, rfl, K', fun q hq => ?_, f2, f3 h' hh⟩ 3 0 (by omega) (by omega)⟩
          by_cases z : q = s
          · rw [z]; exact Or.inl i0
          · rw [io q z]; exact f1 q hq z
        exact mx_s1 _ _ _ _ _ _ hs (br_f (by decide) ⟨hi4, br_t (by rw [cl]; exact h4) ⟨hi4, nm_r (e' := upd up s 1) (by rw [cl, mc_b1]) (bX _ (my_s0 _ _ _ _ _ _ _ _ hs (br_t rfl ⟨hi4, br_t (by rw [cl]; exact h4) ⟨hi4, nm_r (e' := upd up s 1) (by rw [cl, mc_b1]) hY⟩⟩)))⟩⟩)
    · exact mx_s1 _ _ _ _ _ _ hs (br_f (by decide) ⟨hi4, br_f (by rw [cl]; exact h4) (my_s0 _ _ _ _ _ _ _ _ hs (br_t rfl ⟨hi4, br_f (by rw [cl]; exact h4) ⟨rfl, I'⟩⟩))⟩)
  · have hb : ∀ s, s < 3 → v1 ≠ nI s := fun s h3 e => hs ⟨s, h3, e⟩
    exact mx_s0 _ _ _ _ _ _ hb (br_t rfl (my_s1 _ _ _ _ _ _ _ _ hb (br_f (by decide) ⟨rfl, I'⟩)))
theorem i_vc_startLeader {k : Nat} {u : SX} {v : SY} (I : i_Rel k u v) (hk : k + 5 ≤ 2560) : wpX_startLeader (fun r u' => wpY_startLeader (fun r' v' => r' = r ∧ i_Rel (k + 5) u' v') v) u := by
  have I' := I
  obtain ⟨c, h, f, st, up0, dd⟩ := u
  obtain ⟨vv, w, g, r, d, up, id, tb⟩ := v
  obtain ⟨hu, K, F1, F2, F3⟩ := I
  subst hu
  unfold wpX_startLeader wpY_startLeader
  dsimp only
  by_cases z : up 3 = 0
  · have z3 : upd up 3 1 3 ≠ 0 := by rw [pk_us]; decide
    obtain ⟨c', h', v', id', K', a1, a2, bX, bY⟩ := mc_sl20 f st dd w g r d tb (upd up 3 1) z3 3 0 (by omega) c h vv id K (fun s hs => absurd hs (by omega))
    have hY : wpY_settle (fun v' => (1 : Int32) = 1 ∧ i_Rel (k + 5) (c', h', f, st, upd up 3 1, dd) v') (vv, w, g, r, d, upd up 3 1, id, tb) := by
      unfold wpY_settle; dsimp only
      refine ⟨4, bY _ ⟨rfl, rfl, K', fun q hq => ?_, fun q => absurd q z3, fun i hi t ht e => ?_⟩⟩
      · rcases a1 q hq with y | y
        · exact Or.inl y
        · exact Or.inr (Or.inl y)
      · rw [pk_un (by omega)]; exact F3 i hi t ht (a2 i hi t ht e)
    exact br_t z (nm_r (e' := upd up 3 1) (by rw [mc_b1]) ⟨4, bX _ (br_t z (nm_r (e' := upd up 3 1) (by rw [mc_b1]) hY))⟩)
  · exact br_f z (br_f z ⟨rfl, I'⟩)
end
section
/-! commit -/
/-- X has left the stores below j in doubt about x -/
def mc_IX (h dd : Nat → Int32) (x b : Int32) (j : Nat) (h' dd' : Nat → Int32) : Prop :=
  (∀ i, i < 96 → i / 32 < j → h' i = mc_db h x i) ∧ (∀ i, i < 96 → ¬ i / 32 < j → h' i = h i) ∧
  (∀ s, s < 3 → s < j → mc_cn h x (32 * s) 32 ≠ 0 → dd' s = b) ∧ (∀ s, s < 3 → ¬ (s < j ∧ mc_cn h x (32 * s) 32 ≠ 0) → dd' s = dd s)
theorem mx_cl2 (c h f st up dd : Nat → Int32) {x b : Int32} (hb : vp_nar .boolean b = b) : ∀ e j, j + e = 3 → ∀ h' dd', mc_IX h dd x b j h' dd' → ∃ h'' dd'', mc_IX h dd x b 3 h'' dd'' ∧
    ∀ post : Int32 → SX → Prop, (∃ (q : Int32) (X : SX), (∀ post : Int32 → SX → Prop, post q X → wpX_loseLeader post (c, h'', f, st, up, dd'')) ∧ post (-5) X) → wX_commitLosingLeader_2 post x b (e + 1) (nI j) c h' f st up dd' := by
  intro e
  induction e with
  | zero =>
    intro j hj h' dd' H
    obtain rfl : j = 3 := by omega
    refine ⟨h', dd', H, fun post hL => ?_⟩
    obtain ⟨q, ⟨x1, x2, x3, x4, x5, x6⟩, bX, hp⟩ := hL
    exact br_t (by decide) (bX _ hp)
  | succ e ih =>
    intro j hj h' dd' H
    have j3 : j < 3 := by omega
    obtain ⟨H1, H2, H3, H4⟩ := H
    have g3 : ¬ (3 : Int32) ≤ nI j := nI_ge (b := 3) (by omega) (by decide)
    have ec : mc_cn h' x (32 * j) 32 = mc_cn h x (32 * j) 32 := mc_cnE 32 fun k hk => H2 (32 * j + k) (by omega) (by omega)
    by_cases z : mc_cn h x (32 * j) 32 = 0
    · have HH : mc_IX h dd x b (j + 1) h' dd' := by
        refine ⟨?_, ?_, ?_, ?_⟩
        · intro i hi hij
          by_cases y : i / 32 < j
          · exact H1 i hi y
          · rw [H2 i hi y]
            have := mc_cn0 32 z (i - 32 * j) (by omega)
            rw [show 32 * j + (i - 32 * j) = i by omega] at this
            exact (if_neg this).symm
        · exact fun i hi hij => H2 i hi (by omega)
        · intro s hs hsj hn
          by_cases y : s = j
          · rw [y] at hn; exact absurd z hn
          · exact H3 s hs (by omega) hn
        · intro s hs hn
          by_cases y : s = j
          · exact H4 s hs (fun q => absurd q.1 (by omega))
          · exact H4 s hs (fun q => hn ⟨by omega, q.2⟩)
      obtain ⟨h2, dd2, I2, bX⟩ := ih (j + 1) (by omega) h' dd' HH
      exact ⟨h2, dd2, I2, fun post hL => br_f g3 (mx_leave0 _ _ _ _ _ _ j3 (ec.trans z) (nm_r (nI_1 j) (bX post hL)))⟩
    · have HH : mc_IX h dd x b (j + 1) (mc_up (32 * j) 32 h' (mc_db h' x)) (upd dd' j (vp_nar .boolean b)) := by
        refine ⟨?_, ?_, ?_, ?_⟩
        · intro i hi hij
          by_cases y : i / 32 < j
          · rw [mc_upO (by omega)]; exact H1 i hi y
          · rw [mc_upI (by omega) (by omega)]
            unfold mc_db
            rw [H2 i hi y]
        · intro i hi hij
          rw [mc_upO (by omega)]; exact H2 i hi (by omega)
        · intro s hs hsj hn
          by_cases y : s = j
          · rw [y, pk_us]; exact hb
          · rw [pk_un y]; exact H3 s hs (by omega) hn
        · intro s hs hn
          by_cases y : s = j
          · rw [y] at hn; exact absurd ⟨by omega, z⟩ hn
          · rw [pk_un y]; exact H4 s hs (fun q => hn ⟨by omega, q.2⟩)
      obtain ⟨h2, dd2, I2, bX⟩ := ih (j + 1) (by omega) _ _ HH
      exact ⟨h2, dd2, I2, fun post hL => br_f g3 (mx_leave1 _ _ _ _ _ _ j3 (by rw [ec]; exact z) (nm_r (nI_1 j) (bX post hL)))⟩
theorem mx_cl (c h f st up dd : Nat → Int32) {x b : Int32} (hb : vp_nar .boolean b = b) : ∃ h' dd', mc_IX h dd x b 3 h' dd' ∧
    ∀ post : Int32 → SX → Prop, (∃ (q : Int32) (X : SX), (∀ post : Int32 → SX → Prop, post q X → wpX_loseLeader post (c, h', f, st, up, dd')) ∧ post (-5) X) → wpX_commitLosingLeader post (c, h, f, st, up, dd) x b := by
  obtain ⟨h2, dd2, I2, bX⟩ := mx_cl2 c h f st up dd (x := x) hb 3 0 (by omega) h dd ⟨fun i _ z => absurd z (by omega), fun _ _ _ => rfl, fun s _ z => absurd z (by omega), fun _ _ _ => rfl⟩
  refine ⟨h2, dd2, I2, fun post hL => ?_⟩
  unfold wpX_commitLosingLeader; dsimp only
  exact ⟨4, bX post hL⟩
/-- Y's commit loop: in the stores below j, D are left in doubt, A are done -/
def mc_IY (v w g id tb : Nat → Int32) (t : Nat) (b : Int32) (D A : Nat → Prop) (j : Nat) (v' w' g' id' tb' : Nat → Int32) : Prop :=
  (∀ k, k < 384 → w' k = w k ∧ g' k = g k) ∧
  (∀ i, i < 96 → i / 32 < j → D (i / 32) → w' (384 + i) = w (96 * t + i) ∧ g' (384 + i) = g (96 * t + i)) ∧
  (∀ i, i < 96 → ¬ (i / 32 < j ∧ D (i / 32)) → w' (384 + i) = w (384 + i) ∧ g' (384 + i) = g (384 + i)) ∧
  (∀ s, s < 3 → s < j → D s → id' s = 1 ∧ tb' s = b) ∧ (∀ s, s < 3 → ¬ (s < j ∧ D s) → id' s = id s ∧ tb' s = tb s) ∧
  (∀ i, i < 96 → i / 32 < j → A (i / 32) → v' i = mc_ap v w g (96 * t) i) ∧ (∀ i, i < 96 → ¬ (i / 32 < j ∧ A (i / 32)) → v' i = v i)
section
variable {v w g id tb v' w' g' id' tb' : Nat → Int32} {t j : Nat} {b : Int32} {D A : Nat → Prop}
theorem mc_IY0 : mc_IY v w g id tb t b D A 0 v w g id tb :=
  ⟨fun _ _ => ⟨rfl, rfl⟩, fun i _ z => absurd z (by omega), fun _ _ _ => ⟨rfl, rfl⟩, fun s _ z => absurd z (by omega), fun _ _ _ => ⟨rfl, rfl⟩, fun i _ z => absurd z (by omega), fun _ _ _ => rfl⟩
theorem mc_IYn (H : mc_IY v w g id tb t b D A j v' w' g' id' tb') (hD : ¬ D j) (hA : ¬ A j) : mc_IY v w g id tb t b D A (j + 1) v' w' g' id' tb' := by
  obtain ⟨H1, H2, H3, H4, H5, H6, H7⟩ := H
  have hd : ∀ s, s < j + 1 → D s → s < j := fun s z q => by
    by_cases y : s = j
    · rw [y] at q; exact absurd q hD
    · omega
  have ha : ∀ s, s < j + 1 → A s → s < j := fun s z q => by
    by_cases y : s = j
    · rw [y] at q; exact absurd q hA
    · omega
  exact ⟨H1, fun i hi z q => H2 i hi (hd _ z q) q, fun i hi z => H3 i hi (fun q => z ⟨by omega, q.2⟩), fun s hs z q => H4 s hs (hd s z q) q, fun s hs z => H5 s hs (fun q => z ⟨by omega, q.2⟩), fun i hi z q => H6 i hi (ha _ z q) q, fun i hi z => H7 i hi (fun q => z ⟨by omega, q.2⟩)⟩
theorem mc_IYd (ht : t < 4) (hj : j < 3) (H : mc_IY v w g id tb t b D A j v' w' g' id' tb') (hD : D j) (hA : ¬ A j) : mc_IY v w g id tb t b D A (j + 1) v' (mc_up (384 + 32 * j) 32 w' (mc_ov w' t)) (mc_up (384 + 32 * j) 32 g' (mc_ov g' t)) (upd id' j 1) (upd tb' j b) := by
  obtain ⟨H1, H2, H3, H4, H5, H6, H7⟩ := H
  have ha : ∀ s, s < j + 1 → A s → s < j := fun s z q => by
    by_cases y : s = j
    · rw [y] at q; exact absurd q hA
    · omega
  have ov : ∀ (a : Nat → Int32) (i : Nat), mc_ov a t (384 + i) = a (96 * t + i) := fun a i => by
    unfold mc_ov; rw [Nat.add_sub_cancel_left]
  refine ⟨?_, ?_, ?_, ?_, ?_, fun i hi z q => H6 i hi (ha _ z q) q, fun i hi z => H7 i hi (fun q => z ⟨by omega, q.2⟩)⟩
  · intro k hk
    rw [mc_upO (by omega), mc_upO (by omega)]; exact H1 k hk
  · intro i hi hij hd
    by_cases y : i / 32 = j
    · rw [mc_upI (by omega) (by omega), mc_upI (by omega) (by omega), ov, ov]
      exact H1 (96 * t + i) (by omega)
    · rw [mc_upO (by omega), mc_upO (by omega)]
      exact H2 i hi (by omega) hd
  · intro i hi z
    have y : i / 32 ≠ j := fun q => z ⟨by omega, by rw [q]; exact hD⟩
    rw [mc_upO (by omega), mc_upO (by omega)]
    exact H3 i hi (fun q => z ⟨by omega, q.2⟩)
  · intro s hs hsj hd
    by_cases y : s = j
    · rw [y]; exact ⟨pk_us, pk_us⟩
    · rw [pk_un y, pk_un y]; exact H4 s hs (by omega) hd
  · intro s hs z
    have y : s ≠ j := fun q => z ⟨by omega, by rw [q]; exact hD⟩
    rw [pk_un y, pk_un y]; exact H5 s hs (fun q => z ⟨by omega, q.2⟩)
theorem mc_IYa (ht : t < 4) (hj : j < 3) (H : mc_IY v w g id tb t b D A j v' w' g' id' tb') (hD : ¬ D j) (hA : A j) : mc_IY v w g id tb t b D A (j + 1) (mc_up (32 * j) 32 v' (mc_ap v' w' g' (96 * t))) w' g' id' tb' := by
  obtain ⟨H1, H2, H3, H4, H5, H6, H7⟩ := H
  have hd : ∀ s, s < j + 1 → D s → s < j := fun s z q => by
    by_cases y : s = j
    · rw [y] at q; exact absurd q hD
    · omega
  refine ⟨H1, fun i hi z q => H2 i hi (hd _ z q) q, fun i hi z => H3 i hi (fun q => z ⟨by omega, q.2⟩), fun s hs z q => H4 s hs (hd s z q) q, fun s hs z => H5 s hs (fun q => z ⟨by omega, q.2⟩), ?_, ?_⟩
  · intro i hi hij ha
    by_cases y : i / 32 = j
    · rw [mc_upI (by omega) (by omega)]
      unfold mc_ap
      rw [(H1 (96 * t + i) (by omega)).1, (H1 (96 * t + i) (by omega)).2, H7 i hi (fun q => absurd q.1 (by omega))]
    · rw [mc_upO (by omega)]; exact H6 i hi (by omega) ha
  · intro i hi z
    have y : i / 32 ≠ j := fun q => z ⟨by omega, by rw [q]; exact hA⟩
    rw [mc_upO (by omega)]; exact H7 i hi (fun q => z ⟨by omega, q.2⟩)
end
section
variable (v w g r d up id tb : Nat → Int32)
theorem my_153 {post : Int32 → SY → Prop} {J : Int32 → (Nat → Int32) → (Nat → Int32) → (Nat → Int32) → (Nat → Int32) → (Nat → Int32) → (Nat → Int32) → (Nat → Int32) → (Nat → Int32) → Prop} {t j : Nat} {x2 x3 x6 x7 : Int32} (ht : t < 4) (hj : j < 3)
    (hp : J (nI (j + 1)) v (mc_up (384 + 32 * j) 32 w (mc_ov w t)) (mc_up (384 + 32 * j) 32 g (mc_ov g t)) r d up (upd id j 1) (upd tb j (if x2 = 1 then 0 else 1))) : wY_commit_153 post J (nI t) x2 x3 x6 x7 (nI j) v w g r d up id tb := by
  unfold wY_commit_153 wY_commit_167
  by_cases z : x2 = 1
  · rw [if_pos z] at hp
    refine br_t z (my_doubt _ _ _ _ _ _ _ _ ht hj ?_)
    dsimp only
    rw [mc_b0]
    exact nm_r (nI_1 j) hp
  · rw [if_neg z] at hp
    refine br_f z (my_doubt _ _ _ _ _ _ _ _ ht hj ?_)
    dsimp only
    rw [mc_b1]
    exact nm_r (nI_1 j) hp
theorem my_183 {post : Int32 → SY → Prop} {J : Int32 → (Nat → Int32) → (Nat → Int32) → (Nat → Int32) → (Nat → Int32) → (Nat → Int32) → (Nat → Int32) → (Nat → Int32) → (Nat → Int32) → Prop} {t j : Nat} {x2 x3 x6 x7 : Int32} (ht : t < 4) (hj : j < 3)
    (hp : J (nI (j + 1)) (mc_up (32 * j) 32 v (mc_ap v w g (96 * t))) w g r d up id tb) : wY_commit_183 post J (nI t) x2 x3 x6 x7 (nI j) v w g r d up id tb := by
  unfold wY_commit_183
  refine my_apply _ _ _ _ _ _ _ _ (mc_96 t) (by omega) hj ?_
  dsimp only
  exact nm_r (nI_1 j) hp
theorem my_110s {post : Int32 → SY → Prop} {t j n : Nat} {x2 x3 x6 x7 : Int32} (ht : t < 4) (hj : j < 3) (hz : mc_cz w (96 * t + 32 * j) 32 = 0) (hp : wY_commit_110 post (nI t) x2 x3 x6 x7 n (nI (j + 1)) v w g r d up id tb) : wY_commit_110 post (nI t) x2 x3 x6 x7 (n + 1) (nI j) v w g r d up id tb := by
  refine br_f (nI_ge (b := 3) (by omega) (by decide)) (my_wf _ _ _ _ _ _ _ _ (mc_96 t) (by omega) ?_)
  rw [hz]
  exact br_t rfl (nm_r (nI_1 j) hp)
/-- the loop, given how a store that t has written in is met: left in doubt (D), done (A), or passed over -/
theorem my_c110 {t : Nat} {x2 x3 x6 x7 : Int32} (ht : t < 4) (D A : Nat → Prop)
    (hDz : ∀ s, s < 3 → D s → mc_cz w (96 * t + 32 * s) 32 ≠ 0) (hAz : ∀ s, s < 3 → A s → mc_cz w (96 * t + 32 * s) 32 ≠ 0) (hDA : ∀ s, D s → ¬ A s)
    (hB : ∀ (post : Int32 → SY → Prop) (n j : Nat) (v' w' g' id' tb' : Nat → Int32), j < 3 → mc_cz w (96 * t + 32 * j) 32 ≠ 0 → mc_cz w' (96 * t + 32 * j) 32 ≠ 0 →
      (D j → wY_commit_153 post (wY_commit_110 post (nI t) x2 x3 x6 x7 n) (nI t) x2 x3 x6 x7 (nI j) v' w' g' r d up id' tb') →
      (A j → wY_commit_183 post (wY_commit_110 post (nI t) x2 x3 x6 x7 n) (nI t) x2 x3 x6 x7 (nI j) v' w' g' r d up id' tb') →
      (¬ D j → ¬ A j → wY_commit_110 post (nI t) x2 x3 x6 x7 n (nI (j + 1)) v' w' g' r d up id' tb') →
      wY_commit_110 post (nI t) x2 x3 x6 x7 (n + 1) (nI j) v' w' g' r d up id' tb') :
    ∀ e j, j + e = 3 → ∀ v' w' g' id' tb', mc_IY v w g id tb t (if x2 = 1 then 0 else 1) D A j v' w' g' id' tb' →
      ∃ v2 w2 g2 id2 tb2, mc_IY v w g id tb t (if x2 = 1 then 0 else 1) D A 3 v2 w2 g2 id2 tb2 ∧
      ∀ post : Int32 → SY → Prop, wY_commit_110 post (nI t) x2 x3 x6 x7 (0 + 1) (nI 3) v2 w2 g2 r d up id2 tb2 → wY_commit_110 post (nI t) x2 x3 x6 x7 (e + 1) (nI j) v' w' g' r d up id' tb' := by
  intro e
  induction e with
  | zero =>
    intro j hj v' w' g' id' tb' H
    obtain rfl : j = 3 := by omega
    exact ⟨v', w', g', id', tb', H, fun post hp => hp⟩
  | succ e ih =>
    intro j hj v' w' g' id' tb' H
    have j3 : j < 3 := by omega
    have ec : mc_cz w' (96 * t + 32 * j) 32 = mc_cz w (96 * t + 32 * j) 32 := mc_czE 32 fun k hk => (H.1 (96 * t + 32 * j + k) (by omega)).1
    by_cases z : mc_cz w (96 * t + 32 * j) 32 = 0
    · obtain ⟨v2, w2, g2, id2, tb2, I2, bY⟩ := ih (j + 1) (by omega) _ _ _ _ _ (mc_IYn H (fun q => hDz j j3 q z) (fun q => hAz j j3 q z))
      exact ⟨v2, w2, g2, id2, tb2, I2, fun post hp => my_110s _ _ _ _ _ _ _ _ ht j3 (ec.trans z) (bY post hp)⟩
    · have z' : mc_cz w' (96 * t + 32 * j) 32 ≠ 0 := by rw [ec]; exact z
      by_cases q1 : D j
      · obtain ⟨v2, w2, g2, id2, tb2, I2, bY⟩ := ih (j + 1) (by omega) _ _ _ _ _ (mc_IYd ht j3 H q1 (hDA j q1))
        exact ⟨v2, w2, g2, id2, tb2, I2, fun post hp => hB post _ j _ _ _ _ _ j3 z z' (fun _ => my_153 _ _ _ _ _ _ _ _ ht j3 (bY post hp)) (fun q => absurd q (hDA j q1)) (fun q => absurd q1 q)⟩
      · by_cases q2 : A j
        · obtain ⟨v2, w2, g2, id2, tb2, I2, bY⟩ := ih (j + 1) (by omega) _ _ _ _ _ (mc_IYa ht j3 H q1 q2)
          exact ⟨v2, w2, g2, id2, tb2, I2, fun post hp => hB post _ j _ _ _ _ _ j3 z z' (fun q => absurd q q1) (fun _ => my_183 _ _ _ _ _ _ _ _ ht j3 (bY post hp)) (fun _ q => absurd q2 q)⟩
        · obtain ⟨v2, w2, g2, id2, tb2, I2, bY⟩ := ih (j + 1) (by omega) _ _ _ _ _ (mc_IYn H q1 q2)
          exact ⟨v2, w2, g2, id2, tb2, I2, fun post hp => hB post _ j _ _ _ _ _ j3 z z' (fun q => absurd q q1) (fun q => absurd q q2) (fun _ _ => bY post hp)⟩
end
/-- both sides have gone through the stores, and t has ended: related again -/
theorem mc_cmY {c h f st dd v w g r d id tb : Nat → Int32} (K : mc_Core c h f st dd v w g r d id tb) {t : Nat} (ht : t < 4) {b : Int32} {D A : Nat → Prop} {c' h' dd' v' w' g' id' tb' : Nat → Int32}
    (H : mc_IY v w g id tb t b D A 3 v' w' g' id' tb')
    (hh : ∀ i, i < 96 → h i ≠ nI t → h' i = h i) (hh1 : ∀ i, i < 96 → h i = nI t → D (i / 32) → h' i = -2) (hh0 : ∀ i, i < 96 → h i = nI t → ¬ D (i / 32) → h' i = -1)
    (hc1 : ∀ i, i < 96 → A (i / 32) → c' i = mc_co c h f (nI t) i) (hc0 : ∀ i, i < 96 → ¬ A (i / 32) → c' i = c i)
    (hd1 : ∀ s, s < 3 → D s → dd' s = b) (hd0 : ∀ s, s < 3 → ¬ D s → dd' s = dd s) (hD : ∀ s, s < 3 → D s → id s = 0) :
    mc_Core c' h' f (upd st t 0) dd' v' (mc_up (96 * t) 96 w' mc_z) g' (upd r t 0) (upd d t 0) id' tb' := by
  obtain ⟨H1, H2, H3, H4, H5, H6, H7⟩ := H
  refine mc_cm K ht D (fun q _ z => ⟨pk_un z, pk_un z, pk_un z⟩) (Or.inl ⟨pk_us, pk_us, pk_us⟩) hh hh1 hh0 ?_ ?_ ?_ ?_ ?_ ?_
  · intro i hi
    by_cases z : A (i / 32)
    · unfold mc_V
      rw [hc1 i hi z, H6 i hi (by omega) z]
      unfold mc_co mc_ap
      rcases K.2.2.1 i hi t ht with ⟨a, _, ⟨b1, b2, b3⟩ | ⟨b1, b2⟩⟩ | ⟨a, e⟩
      · rw [if_pos a, if_pos b1, b2]; exact Or.inr ⟨b3, rfl⟩
      · rw [if_pos a, if_neg (by rw [b1]; decide), if_pos b1]; exact Or.inl ⟨rfl, b2⟩
      · rw [if_neg a, if_neg (by rw [e]; decide), if_neg (by rw [e]; decide)]; exact K.1 i hi
    · unfold mc_V
      rw [hc0 i hi z, H7 i hi (fun q => z q.2)]; exact K.1 i hi
  · intro q hq z i hi
    rw [mc_upO (by omega)]
    exact H1 (96 * q + i) (by omega)
  · intro i hi
    exact mc_upI (b := mc_z) (by omega) (by omega)
  · intro i hi z
    refine ⟨hD (i / 32) (by omega) z, (H4 (i / 32) (by omega) (by omega) z).1, ?_⟩
    rw [mc_upO (by omega)]
    exact H2 i hi (by omega) z
  · intro i hi z
    refine ⟨(H5 (i / 32) (by omega) (fun q => z q.2)).1, ?_⟩
    rw [mc_upO (by omega)]
    exact H3 i hi (fun q => z q.2)
  · intro s hs
    by_cases z : D s
    · obtain ⟨a, e⟩ := H4 s hs hs z
      exact Or.inr ⟨a, (hd1 s hs z).trans e.symm⟩
    · obtain ⟨a, e⟩ := H5 s hs (fun q => z q.2)
      have := K.2.2.2.2.2.1 s hs
      unfold mc_B at this ⊢
      rw [a, e, hd0 s hs z]; exact this
/-- a store in which a running transaction holds something is in no doubt -/
theorem mc_free {h st id up : Nat → Int32} (F1 : mc_F1 up id) (F2 : mc_F2 up st) (F3 : mc_F3 up h) {t s : Nat} (ht : t < 4) (hs : s < 3) (hst : st t ≠ 0) (hn : mc_cn h (nI t) (32 * s) 32 ≠ 0) : id s = 0 := by
  rcases F1 s hs with z | z | z
  · exact z
  · refine absurd (mc_cnZ 32 fun k hk e => ?_) hn
    have := F3 (32 * s + k) (by omega) t ht e
    rw [show (32 * s + k) / 32 = s by omega] at this
    exact this z
  · exact absurd (F2 z t ht) hst
end
section
/-! commit, kind by kind -/
section
variable (c h f st up dd v w g r d id tb : Nat → Int32)
theorem mx_cmB {post : Int32 → SX → Prop} {x y z p : Int32} (hb : (∀ t, t < 4 → x = nI t → st t = 0) ∨ y < 0 ∨ 5 < y ∨ (∀ s, s < 3 → z ≠ nI s)) (hp : post (-1) (c, h, f, st, up, dd)) : wpX_commit post (c, h, f, st, up, dd) x y z p := by
  unfold wpX_commit; dsimp only
  by_cases hg : ∃ t, t < 4 ∧ x = nI t ∧ st t ≠ 0
  · obtain ⟨t, ht, rfl, hs⟩ := hg
    have hb1 := hb.resolve_left fun q => hs (q t ht rfl)
    refine mx_g1 _ _ _ _ _ _ ht hs (br_f (by decide) ?_)
    by_cases y0 : y < 0
    · exact br_t y0 hp
    · refine br_f y0 ?_
      by_cases y5 : 5 < y
      · exact br_t y5 hp
      · exact br_f y5 (mx_s0 _ _ _ _ _ _ ((hb1.resolve_left y0).resolve_left y5) (br_t rfl hp))
  · exact mx_g0 _ _ _ _ _ _ (fun t ht e => Decidable.byContradiction fun q => hg ⟨t, ht, e, q⟩) (br_t rfl hp)
theorem my_cmB {post : Int32 → SY → Prop} {x y z p : Int32} (hb : (∀ t, t < 4 → x = nI t → r t = 0) ∨ y < 0 ∨ 5 < y ∨ (∀ s, s < 3 → z ≠ nI s)) (hp : post (-1) (v, w, g, r, d, up, id, tb)) : wpY_commit post (v, w, g, r, d, up, id, tb) x y z p := by
  unfold wpY_commit; dsimp only
  by_cases hg : ∃ t, t < 4 ∧ x = nI t ∧ r t ≠ 0
  · obtain ⟨t, ht, rfl, hs⟩ := hg
    have hb1 := hb.resolve_left fun q => hs (q t ht rfl)
    refine my_g1 _ _ _ _ _ _ _ _ ht hs (br_f (by decide) ?_)
    by_cases y0 : y < 0
    · exact br_t y0 hp
    · refine br_f y0 ?_
      by_cases y5 : 5 < y
      · exact br_t y5 hp
      · exact br_f y5 (my_s1 _ _ _ _ _ _ _ _ ((hb1.resolve_left y0).resolve_left y5) (br_f (by decide) hp))
  · exact my_g0 _ _ _ _ _ _ _ _ (fun t ht e => Decidable.byContradiction fun q => hg ⟨t, ht, e, q⟩) (br_t rfl hp)
theorem mx_cmD {post : Int32 → SX → Prop} {t s : Nat} {y p : Int32} (ht : t < 4) (h2 : st t = 2) (y0 : ¬ y < 0) (y5 : ¬ 5 < y) (hs : s < 3) (hp : post (-6) (c, mc_up 0 96 h (mc_dr h (nI t)), f, upd st t 0, up, dd)) : wpX_commit post (c, h, f, st, up, dd) (nI t) y (nI s) p := by
  unfold wpX_commit; dsimp only
  exact mx_g1 _ _ _ _ _ _ ht (by rw [h2]; decide) (br_f (by decide) (br_f y0 (br_f y5 (mx_s1 _ _ _ _ _ _ hs (br_f (by decide) ⟨pk_in t 4 ht, br_t (by rw [nI_clamp (by omega)]; exact h2) (mx_end _ _ _ _ _ _ ht hp)⟩)))))
theorem my_cmD {post : Int32 → SY → Prop} {t s : Nat} {y p : Int32} (ht : t < 4) (hr : r t ≠ 0) (h2 : d t ≠ 0) (y0 : ¬ y < 0) (y5 : ¬ 5 < y) (hs : s < 3) (hp : post (-6) (v, mc_up (96 * t) 96 w mc_z, g, upd r t 0, upd d t 0, up, id, tb)) : wpY_commit post (v, w, g, r, d, up, id, tb) (nI t) y (nI s) p := by
  unfold wpY_commit; dsimp only
  exact my_g1 _ _ _ _ _ _ _ _ ht hr (br_f (by decide) (br_f y0 (br_f y5 (my_s0 _ _ _ _ _ _ _ _ hs (br_t rfl ⟨pk_in t 4 ht, br_f (by rw [nI_clamp (by omega)]; exact h2) (my_end _ _ _ _ _ _ _ _ ht hp)⟩)))))
theorem mx_cm59 {post : Int32 → SX → Prop} {t s : Nat} {y p : Int32} (ht : t < 4) (h0 : st t ≠ 0) (h2 : st t ≠ 2) (y0 : ¬ y < 0) (y5 : ¬ 5 < y) (hs : s < 3) (hp : wX_commit_59 post (nI t) y (nI s) (if mc_cn h (nI t) (32 * s) 32 = 0 then 0 else 1) c h f st up dd) : wpX_commit post (c, h, f, st, up, dd) (nI t) y (nI s) p := by
  unfold wpX_commit; dsimp only
  refine mx_g1 _ _ _ _ _ _ ht h0 (br_f (by decide) (br_f y0 (br_f y5 (mx_s1 _ _ _ _ _ _ hs (br_f (by decide) ⟨pk_in t 4 ht, br_f (by rw [nI_clamp (by omega)]; exact h2) (mx_held _ _ _ _ _ _ hs ?_)⟩)))))
  have hl := mc_cnL h (nI t) (32 * s) 32
  by_cases z : mc_cn h (nI t) (32 * s) 32 = 0
  · rw [if_pos z] at hp; rw [z]; exact br_t (by decide) hp
  · rw [if_neg z] at hp; exact br_f (nI_nle (by omega) (by omega)) hp
theorem my_cm61 {post : Int32 → SY → Prop} {t s : Nat} {y p : Int32} (ht : t < 4) (hr : r t ≠ 0) (h2 : d t = 0) (y0 : ¬ y < 0) (y5 : ¬ 5 < y) (hs : s < 3) (hp : wY_commit_61 post (nI t) y (nI s) (if mc_cz w (96 * t + 32 * s) 32 = 0 then 0 else 1) v w g r d up id tb) : wpY_commit post (v, w, g, r, d, up, id, tb) (nI t) y (nI s) p := by
  unfold wpY_commit; dsimp only
  refine my_g1 _ _ _ _ _ _ _ _ ht hr (br_f (by decide) (br_f y0 (br_f y5 (my_s0 _ _ _ _ _ _ _ _ hs (br_t rfl ⟨pk_in t 4 ht, br_t (by rw [nI_clamp (by omega)]; exact h2) (my_wf _ _ _ _ _ _ _ _ (mc_96 t) (by omega) ?_)⟩)))))
  have hl := mc_czL w (96 * t + 32 * s) 32
  by_cases z : mc_cz w (96 * t + 32 * s) 32 = 0
  · rw [if_pos z] at hp; rw [z]; exact br_t (by decide) hp
  · rw [if_neg z] at hp; exact br_f (nI_nle (by omega) (by omega)) hp
theorem my_61L {post : Int32 → SY → Prop} {x1 x2 x3 z0 : Int32} (hk : x2 = 1 ∨ x2 = 2 ∨ x2 = 5) (hp : ∃ n, wY_commit_110 post x1 x2 x3 0 1 n 0 v w g r d up id tb) : wY_commit_61 post x1 x2 x3 z0 v w g r d up id tb := by
  have hq : wY_commit_82 post x1 x2 x3 v w g r d up id tb := by
    unfold wY_commit_82 wY_commit_83
    rcases hk with rfl | rfl | rfl
    · exact br_t rfl hp
    · exact br_f (by decide) (br_t rfl hp)
    · exact br_f (by decide) (br_f (by decide) (br_t rfl hp))
  unfold wY_commit_61
  refine br_c (fun _ => hq) (fun _ => br_f ?_ (br_f ?_ hq))
  · rcases hk with rfl | rfl | rfl <;> decide
  · rcases hk with rfl | rfl | rfl <;> decide
theorem my_61P {post : Int32 → SY → Prop} {x1 x2 x3 z0 : Int32} (hk : x2 = 0 ∨ ((x2 = 3 ∨ x2 = 4) ∧ z0 = 0)) (hp : ∃ n, wY_commit_110 post x1 x2 x3 0 0 n 0 v w g r d up id tb) : wY_commit_61 post x1 x2 x3 z0 v w g r d up id tb := by
  have hq : wY_commit_82 post x1 x2 x3 v w g r d up id tb := by
    unfold wY_commit_82 wY_commit_83
    rcases hk with rfl | ⟨rfl | rfl, _⟩
    · exact br_f (by decide) (br_f (by decide) (br_f (by decide) hp))
    · exact br_f (by decide) (br_f (by decide) (br_f (by decide) hp))
    · exact br_f (by decide) (br_f (by decide) (br_f (by decide) hp))
  unfold wY_commit_61
  rcases hk with rfl | ⟨_, rfl⟩
  · exact br_c (fun _ => hq) (fun _ => br_f (by decide) (br_f (by decide) hq))
  · exact br_t rfl hq
theorem my_61F {post : Int32 → SY → Prop} {x1 x2 x3 : Int32} (hk : x2 = 3 ∨ x2 = 4) (hp : ∃ n, wY_commit_110 post x1 x2 x3 1 0 n 0 v w g r d up id tb) : wY_commit_61 post x1 x2 x3 1 v w g r d up id tb := by
  have hq : wY_commit_78 post x1 x2 x3 v w g r d up id tb := by
    unfold wY_commit_78 wY_commit_83
    rcases hk with rfl | rfl
    · exact br_f (by decide) (br_f (by decide) (br_f (by decide) hp))
    · exact br_f (by decide) (br_f (by decide) (br_f (by decide) hp))
  unfold wY_commit_61
  refine br_f (by decide) ?_
  rcases hk with rfl | rfl
  · exact br_t rfl hq
  · exact br_f (by decide) (br_t rfl hq)
theorem mx_59P {post : Int32 → SX → Prop} {x1 x2 x3 z0 : Int32} (hk : x2 = 0 ∨ ((x2 = 3 ∨ x2 = 4) ∧ z0 = 0)) (hp : wX_commit_119 post x1 x2 x3 c h f st up dd) : wX_commit_59 post x1 x2 x3 z0 c h f st up dd := by
  unfold wX_commit_59 wX_commit_102
  rcases hk with rfl | ⟨rfl | rfl, rfl⟩
  · exact br_f (by decide) (br_f (by decide) (br_f (by decide) (br_f (by decide) hp)))
  · exact br_f (by decide) (br_f (by decide) (br_t rfl (br_t rfl (br_f (by decide) hp))))
  · exact br_f (by decide) (br_f (by decide) (br_f (by decide) (br_t rfl (br_t rfl hp))))
end
theorem mc_cnNe {h : Nat → Int32} {x : Int32} {i : Nat} (e : h i = x) : mc_cn h x (32 * (i / 32)) 32 ≠ 0 := fun z => by
  have := mc_cn0 32 z (i - 32 * (i / 32)) (by omega)
  rw [show 32 * (i / 32) + (i - 32 * (i / 32)) = i by omega] at this
  exact this e
section
variable {c h f st up dd v w g r d id tb : Nat → Int32}
/-- kinds 0, 3 and 4 where the store has no part: all is done -/
theorem mc_cB (K : mc_Core c h f st dd v w g r d id tb) (F1 : mc_F1 up id) (F2 : mc_F2 up st) (F3 : mc_F3 up h) {t s : Nat} (ht : t < 4) {x2 z0 : Int32} (hk : x2 = 0 ∨ ((x2 = 3 ∨ x2 = 4) ∧ z0 = 0)) : ∃ (X : SX) (Y : SY), (∀ k, i_Rel k X Y) ∧
    (∀ post : Int32 → SX → Prop, post 1 X → wX_commit_59 post (nI t) x2 (nI s) z0 c h f st up dd) ∧ (∀ post : Int32 → SY → Prop, post 1 Y → wY_commit_61 post (nI t) x2 (nI s) z0 v w g r d up id tb) := by
  have n5 : ¬ x2 = 5 := by rcases hk with rfl | ⟨rfl | rfl, _⟩ <;> decide
  obtain ⟨v2, w2, g2, id2, tb2, IY, bY⟩ := my_c110 v w g r d up id tb (x2 := x2) (x3 := nI s) (x6 := 0) (x7 := 0) ht (fun _ => False) (fun q => mc_cz w (96 * t + 32 * q) 32 ≠ 0)
    (fun _ _ z => z.elim) (fun _ _ z => z) (fun _ z => z.elim)
    (fun post n j v' w' g' id' tb' hj z z' _ hA _ => by
      have hl := mc_czL w' (96 * t + 32 * j) 32
      refine br_f (nI_ge (b := 3) (by omega) (by decide)) (my_wf _ _ _ _ _ _ _ _ (mc_96 t) (by omega) (br_f (nI_ne0 (by omega) (by omega)) (br_t rfl (br_t rfl ?_))))
      unfold wY_commit_173
      exact br_t rfl (hA z)) 3 0 (by omega) v w g id tb mc_IY0
  have K2 : mc_Core (mc_up 0 96 c (mc_co c h f (nI t))) (mc_up 0 96 h (mc_dr h (nI t))) f (upd st t 0) dd v2 (mc_up (96 * t) 96 w2 mc_z) g2 (upd r t 0) (upd d t 0) id2 tb2 := by
    refine mc_cmY K ht IY ?_ ?_ ?_ ?_ ?_ ?_ ?_ ?_
    · intro i hi z; rw [mc_upI (by omega) (by omega)]; exact if_neg z
    · intro _ _ _ z; exact z.elim
    · intro i hi z _; rw [mc_upI (by omega) (by omega)]; exact if_pos z
    · intro i hi _; exact mc_upI (by omega) (by omega)
    · intro i hi z
      rw [mc_upI (by omega) (by omega)]
      refine if_neg fun e => z ?_
      rw [← mc_cnt K ht (by omega)]
      exact mc_cnNe e
    · intro _ _ z; exact z.elim
    · intro _ _ _; rfl
    · intro _ _ z; exact z.elim
  refine ⟨(mc_up 0 96 c (mc_co c h f (nI t)), mc_up 0 96 h (mc_dr h (nI t)), f, upd st t 0, up, dd), (v2, mc_up (96 * t) 96 w2 mc_z, g2, upd r t 0, upd d t 0, up, id2, tb2), fun k => ⟨rfl, K2, fun q hq => ?_, mc_F2u F2, mc_F3d F3⟩, fun post hp => mx_59P _ _ _ _ _ _ hk ?_, fun post hp => my_61P _ _ _ _ _ _ _ _ hk ⟨4, bY post ?_⟩⟩
  · rw [(IY.2.2.2.2.1 q hq (fun z => z.2)).1]; exact F1 q hq
  · unfold wX_commit_119
    exact br_f n5 (mx_peace _ _ _ _ _ _ ht hp)
  · refine br_t (by decide) (my_end _ _ _ _ _ _ _ _ ht (br_t rfl ?_))
    unfold wY_commit_214 wY_commit_230
    exact br_t rfl (br_f n5 (br_t rfl (br_t rfl hp)))
/-- kind 4, the store has a part: nothing is done, and the store is lost -/
theorem mc_cD (K : mc_Core c h f st dd v w g r d id tb) (F1 : mc_F1 up id) (F2 : mc_F2 up st) (F3 : mc_F3 up h) {t s : Nat} (ht : t < 4) (hs : s < 3) : ∃ (X : SX) (Y : SY), (∀ k, i_Rel k X Y) ∧
    (∀ post : Int32 → SX → Prop, post 0 X → wX_commit_59 post (nI t) 4 (nI s) 1 c h f st up dd) ∧ (∀ post : Int32 → SY → Prop, post 0 Y → wY_commit_61 post (nI t) 4 (nI s) 1 v w g r d up id tb) := by
  obtain ⟨v2, w2, g2, id2, tb2, IY, bY⟩ := my_c110 v w g r d up id tb (x2 := 4) (x3 := nI s) (x6 := 1) (x7 := 0) ht (fun _ => False) (fun _ => False)
    (fun _ _ z => z.elim) (fun _ _ z => z.elim) (fun _ z => z.elim)
    (fun post n j v' w' g' id' tb' hj z z' _ _ hN => by
      have hl := mc_czL w' (96 * t + 32 * j) 32
      refine br_f (nI_ge (b := 3) (by omega) (by decide)) (my_wf _ _ _ _ _ _ _ _ (mc_96 t) (by omega) (br_f (nI_ne0 (by omega) (by omega)) (br_t rfl (br_f (by decide) (br_f (by decide) ?_)))))
      unfold wY_commit_173
      exact br_f (by decide) (br_f (by decide) (nm_r (nI_1 j) (hN (fun q => q) (fun q => q))))) 3 0 (by omega) v w g id tb mc_IY0
  have K2 : mc_Core c (mc_up 0 96 h (mc_dr h (nI t))) f (upd st t 0) dd v2 (mc_up (96 * t) 96 w2 mc_z) g2 (upd r t 0) (upd d t 0) id2 tb2 := by
    refine mc_cmY K ht IY ?_ ?_ ?_ ?_ ?_ ?_ ?_ ?_
    · intro i hi z; rw [mc_upI (by omega) (by omega)]; exact if_neg z
    · intro _ _ _ z; exact z.elim
    · intro i hi z _; rw [mc_upI (by omega) (by omega)]; exact if_pos z
    · intro _ _ z; exact z.elim
    · intro _ _ _; rfl
    · intro _ _ z; exact z.elim
    · intro _ _ _; rfl
    · intro _ _ z; exact z.elim
  obtain ⟨q, ⟨x1, x2, x3, x4, x5, x6⟩, ⟨y1, y2, y3, y4, y5, y6, y7, y8⟩, hr, lX, lY⟩ := mc_fall up K2 hs (fun q hq _ => by rw [(IY.2.2.2.2.1 q hq (fun z => z.2)).1]; exact F1 q hq) (mc_F2u F2) (mc_F3d F3)
  refine ⟨_, _, hr, fun post hp => ?_, fun post hp => my_61F _ _ _ _ _ _ _ _ (Or.inr rfl) ⟨4, bY post ?_⟩⟩
  · unfold wX_commit_59 wX_commit_102 wpX_commitLosingUnreadyStore
    exact br_f (by decide) (br_f (by decide) (br_f (by decide) (br_t rfl (br_f (by decide) (mx_end _ _ _ _ _ _ ht (lX _ hp))))))
  · refine br_t (by decide) (my_end _ _ _ _ _ _ _ _ ht (br_t rfl ?_))
    unfold wY_commit_214 wY_commit_224 wY_commit_230
    exact br_f (by decide) (lY _ (br_t rfl (br_f (by decide) (br_t rfl hp))))
/-- kind 3, the store has a part: it is left in doubt and lost, the rest is done -/
theorem mc_cC (K : mc_Core c h f st dd v w g r d id tb) (F1 : mc_F1 up id) (F2 : mc_F2 up st) (F3 : mc_F3 up h) {t s : Nat} (ht : t < 4) (hst : st t ≠ 0) (hs : s < 3) (hn : mc_cn h (nI t) (32 * s) 32 ≠ 0) : ∃ (X : SX) (Y : SY), (∀ k, i_Rel k X Y) ∧
    (∀ post : Int32 → SX → Prop, post 1 X → wX_commit_59 post (nI t) 3 (nI s) 1 c h f st up dd) ∧ (∀ post : Int32 → SY → Prop, post 1 Y → wY_commit_61 post (nI t) 3 (nI s) 1 v w g r d up id tb) := by
  have hn' : mc_cz w (96 * t + 32 * s) 32 ≠ 0 := by rw [← mc_cnt K ht hs]; exact hn
  obtain ⟨v2, w2, g2, id2, tb2, IY, bY⟩ := my_c110 v w g r d up id tb (x2 := 3) (x3 := nI s) (x6 := 1) (x7 := 0) ht (fun q => q = s) (fun q => q ≠ s ∧ mc_cz w (96 * t + 32 * q) 32 ≠ 0)
    (fun _ _ z => by rw [z]; exact hn') (fun _ _ z => z.2) (fun _ z q => q.1 z)
    (fun post n j v' w' g' id' tb' hj z z' hD hA _ => by
      have hl := mc_czL w' (96 * t + 32 * j) 32
      refine br_f (nI_ge (b := 3) (by omega) (by decide)) (my_wf _ _ _ _ _ _ _ _ (mc_96 t) (by omega) (br_f (nI_ne0 (by omega) (by omega)) (br_t rfl (br_f (by decide) (br_t rfl ?_)))))
      by_cases y : j = s
      · exact br_t (by rw [y]) (hD y)
      · refine br_f (fun q => y ((nI_eq (by omega) (by omega)).mp q)) ?_
        unfold wY_commit_173
        exact br_f (by decide) (br_t rfl (hA ⟨y, z⟩))) 3 0 (by omega) v w g id tb mc_IY0
  have h1s : ∀ i, i / 32 = s → mc_up (32 * s) 32 h (mc_db h (nI t)) i = mc_db h (nI t) i := fun i z => mc_upI (by omega) (by omega)
  have h1o : ∀ i, i / 32 ≠ s → mc_up (32 * s) 32 h (mc_db h (nI t)) i = h i := fun i z => mc_upO (by omega)
  have h1n : ∀ i, h i ≠ nI t → mc_up (32 * s) 32 h (mc_db h (nI t)) i = h i := fun i z => by
    by_cases y : i / 32 = s
    · rw [h1s i y]; exact if_neg z
    · exact h1o i y
  have K2 : mc_Core (mc_up 0 96 c (mc_co c (mc_up (32 * s) 32 h (mc_db h (nI t))) f (nI t))) (mc_up 0 96 (mc_up (32 * s) 32 h (mc_db h (nI t))) (mc_dr (mc_up (32 * s) 32 h (mc_db h (nI t))) (nI t))) f (upd st t 0) (upd dd s 1) v2 (mc_up (96 * t) 96 w2 mc_z) g2 (upd r t 0) (upd d t 0) id2 tb2 := by
    refine mc_cmY K ht IY ?_ ?_ ?_ ?_ ?_ ?_ ?_ ?_
    · intro i hi z
      rw [mc_upI (by omega) (by omega)]
      unfold mc_dr
      rw [h1n i z]
      exact if_neg z
    · intro i hi z y
      rw [mc_upI (by omega) (by omega)]
      unfold mc_dr
      rw [h1s i y, show mc_db h (nI t) i = -2 from if_pos z]
      exact if_neg (fun q => mc_m2 t ht q.symm)
    · intro i hi z y
      rw [mc_upI (by omega) (by omega)]
      unfold mc_dr
      rw [h1o i y]
      exact if_pos z
    · intro i hi y
      rw [mc_upI (by omega) (by omega)]
      unfold mc_co
      rw [h1o i y.1]
    · intro i hi y
      rw [mc_upI (by omega) (by omega)]
      unfold mc_co
      refine if_neg fun e => ?_
      by_cases x : i / 32 = s
      · rw [h1s i x] at e
        by_cases z : h i = nI t
        · rw [show mc_db h (nI t) i = -2 from if_pos z] at e; exact mc_m2 t ht e.symm
        · rw [show mc_db h (nI t) i = h i from if_neg z] at e; exact z e
      · rw [h1o i x] at e
        refine y ⟨x, ?_⟩
        rw [← mc_cnt K ht (by omega)]
        exact mc_cnNe e
    · intro q _ z; rw [z]; exact pk_us
    · intro q _ z; exact pk_un z
    · intro q _ z; rw [z]; exact mc_free F1 F2 F3 ht hs hst hn
  have F3' : mc_F3 up (mc_up 0 96 (mc_up (32 * s) 32 h (mc_db h (nI t))) (mc_dr (mc_up (32 * s) 32 h (mc_db h (nI t))) (nI t))) := by
    intro i hi q hq e
    have e1 := (mc_drO hq hi e).1
    refine F3 i hi q hq ?_
    by_cases x : i / 32 = s
    · rw [h1s i x] at e1
      by_cases z : h i = nI t
      · rw [show mc_db h (nI t) i = -2 from if_pos z] at e1; exact absurd e1.symm (mc_m2 q hq)
      · rw [show mc_db h (nI t) i = h i from if_neg z] at e1; exact e1
    · rw [h1o i x] at e1; exact e1
  obtain ⟨q, ⟨x1, x2, x3, x4, x5, x6⟩, ⟨y1, y2, y3, y4, y5, y6, y7, y8⟩, hr, lX, lY⟩ := mc_fall up K2 hs (fun q hq y => by rw [(IY.2.2.2.2.1 q hq (fun z => y z.2)).1]; exact F1 q hq) (mc_F2u F2) F3'
  refine ⟨_, _, hr, fun post hp => ?_, fun post hp => my_61F _ _ _ _ _ _ _ _ (Or.inl rfl) ⟨4, bY post ?_⟩⟩
  · unfold wX_commit_59 wpX_commitLosingReadyStore
    exact br_f (by decide) (br_f (by decide) (br_t rfl (br_f (by decide) (mx_leave1 _ _ _ _ _ _ hs hn (mx_peace _ _ _ _ _ _ ht (lX _ hp))))))
  · refine br_t (by decide) (my_end _ _ _ _ _ _ _ _ ht (br_t rfl ?_))
    unfold wY_commit_214 wY_commit_224 wY_commit_230
    exact br_f (by decide) (lY _ (br_t rfl (br_f (by decide) (br_f (by decide) hp))))
/-- kinds 1, 2, 5: every store with a part is left in doubt, and the leader is lost -/
theorem mc_cA (K : mc_Core c h f st dd v w g r d id tb) (F1 : mc_F1 up id) (F2 : mc_F2 up st) (F3 : mc_F3 up h) {t : Nat} (s : Nat) (ht : t < 4) (hst : st t ≠ 0) {x2 : Int32} (hk : x2 = 1 ∨ x2 = 2 ∨ x2 = 5) : ∃ (q q' : Int32) (c3 h3 f3 st3 dd3 v3 w3 g3 r3 d3 id3 tb3 : Nat → Int32), mc_Core c3 h3 f3 st3 dd3 v3 w3 g3 r3 d3 id3 tb3 ∧ (∀ t, t < 4 → st3 t = 0) ∧
    (∀ post : Int32 → SX → Prop, post (-5) (c3, h3, f3, st3, upd up 3 0, dd3) → wpX_commitLosingLeader post (c, h, f, st, up, dd) (nI t) (if x2 = 1 then 0 else 1)) ∧
    (∀ post : Int32 → SY → Prop, wY_commit_214 post x2 (nI s) 0 1 v3 w3 g3 r3 d3 (upd up 3 0) id3 tb3 → ∃ n, wY_commit_110 post (nI t) x2 (nI s) 0 1 n 0 v w g r d up id tb) := by
  have hb : vp_nar .boolean (if x2 = 1 then 0 else 1) = (if x2 = 1 then 0 else 1) := by
    by_cases z : x2 = 1
    · rw [if_pos z]; rfl
    · rw [if_neg z]; rfl
  obtain ⟨h1, dd1, IX, bX⟩ := mx_cl c h f st up dd (x := nI t) hb
  obtain ⟨v2, w2, g2, id2, tb2, IY, bY⟩ := my_c110 v w g r d up id tb (x2 := x2) (x3 := nI s) (x6 := 0) (x7 := 1) ht (fun q => mc_cz w (96 * t + 32 * q) 32 ≠ 0) (fun _ => False)
    (fun _ _ z => z) (fun _ _ z => z.elim) (fun _ _ z => z)
    (fun post n j v' w' g' id' tb' hj z z' hD _ _ => by
      have hl := mc_czL w' (96 * t + 32 * j) 32
      exact br_f (nI_ge (b := 3) (by omega) (by decide)) (my_wf _ _ _ _ _ _ _ _ (mc_96 t) (by omega) (br_f (nI_ne0 (by omega) (by omega)) (br_f (by decide) (hD z))))) 3 0 (by omega) v w g id tb mc_IY0
  obtain ⟨X1, X2, X3, X4⟩ := IX
  have K2 : mc_Core c h1 f (upd st t 0) dd1 v2 (mc_up (96 * t) 96 w2 mc_z) g2 (upd r t 0) (upd d t 0) id2 tb2 := by
    refine mc_cmY K ht IY ?_ ?_ ?_ ?_ ?_ ?_ ?_ ?_
    · intro i hi z; rw [X1 i hi (by omega)]; exact if_neg z
    · intro i hi z _; rw [X1 i hi (by omega)]; exact if_pos z
    · intro i hi z y
      refine absurd ?_ y
      rw [← mc_cnt K ht (by omega)]
      exact mc_cnNe z
    · intro _ _ z; exact z.elim
    · intro _ _ _; rfl
    · intro q hq z
      rw [← mc_cnt K ht hq] at z
      exact X3 q hq hq z
    · intro q hq z
      rw [← mc_cnt K ht hq] at z
      exact X4 q hq (fun y => z y.2)
    · intro q hq z
      rw [← mc_cnt K ht hq] at z
      exact mc_free F1 F2 F3 ht hq hst z
  obtain ⟨q, q', h3, st3, w3, r3, d3, _, K3, z3, lX, lY⟩ := mc_lead up K2 (st := st) (fun p _ => by
    by_cases y : p = t
    · rw [y]; exact Or.inr pk_us
    · exact Or.inl (pk_un y))
  refine ⟨q, q', c, h3, f, st3, dd1, v2, w3, g2, r3, d3, id2, tb2, K3, z3, fun post hp => bX post ⟨q, _, lX, hp⟩, fun post hp => ⟨4, bY post ?_⟩⟩
  exact br_t (by decide) (my_end _ _ _ _ _ _ _ _ ht (br_f (by decide) (lY _ hp)))
end
theorem i_vc_commit {k : Nat} {u : SX} {v : SY} (I : i_Rel k u v) (hk : k + 5 ≤ 2560) (v1 : Int32) (v2 : Int32) (v3 : Int32) (v4 : Int32) : wpX_commit (fun r u' => wpY_commit (fun r' v' => r' = r ∧ i_Rel (k + 5) u' v') v v1 v2 v3 v4) u v1 v2 v3 v4 := by
  have I' := I
  obtain ⟨c, h, f, st, up0, dd⟩ := u
  obtain ⟨vv, w, g, r, d, up, id, tb⟩ := v
  obtain ⟨hu, K, F1, F2, F3⟩ := I
  subst hu
  by_cases hg : ∃ t, t < 4 ∧ v1 = nI t ∧ st t ≠ 0
  · obtain ⟨t, ht, rfl, hst⟩ := hg
    have hr : r t ≠ 0 := fun q => hst ((mc_Tr (K.2.1 t ht)).mpr q)
    by_cases hb : v2 < 0 ∨ 5 < v2 ∨ (∀ s, s < 3 → v3 ≠ nI s)
    · exact mx_cmB _ _ _ _ _ _ (Or.inr hb) (my_cmB _ _ _ _ _ _ _ _ (Or.inr hb) ⟨rfl, I'⟩)
    · have y0 : ¬ v2 < 0 := fun q => hb (Or.inl q)
      have y5 : ¬ 5 < v2 := fun q => hb (Or.inr (Or.inl q))
      obtain ⟨s, hs, rfl⟩ : ∃ s, s < 3 ∧ v3 = nI s := Classical.byContradiction fun q => hb (Or.inr (Or.inr fun s h3 e => q ⟨s, h3, e⟩))
      by_cases h2 : st t = 2
      · exact mx_cmD _ _ _ _ _ _ ht h2 y0 y5 hs (my_cmD _ _ _ _ _ _ _ _ ht hr ((mc_Td (K.2.1 t ht)).mp h2) y0 y5 hs ⟨rfl, rfl, mc_end2 K ht, F1, mc_F2u F2, mc_F3d F3⟩)
      · have d0 : d t = 0 := Decidable.byContradiction fun q => h2 ((mc_Td (K.2.1 t ht)).mpr q)
        have bc : (if mc_cz w (96 * t + 32 * s) 32 = 0 then (0 : Int32) else 1) = (if mc_cn h (nI t) (32 * s) 32 = 0 then 0 else 1) := by rw [mc_cnt K ht hs]
        have fin : ∀ (q : Int32) (X : SX) (Y : SY), (∀ k, i_Rel k X Y) → (∀ post : Int32 → SX → Prop, post q X → wX_commit_59 post (nI t) v2 (nI s) (if mc_cn h (nI t) (32 * s) 32 = 0 then 0 else 1) c h f st up dd) → (∀ post : Int32 → SY → Prop, post q Y → wY_commit_61 post (nI t) v2 (nI s) (if mc_cn h (nI t) (32 * s) 32 = 0 then 0 else 1) vv w g r d up id tb) → wpX_commit (fun r1 u' => wpY_commit (fun r' v' => r' = r1 ∧ i_Rel (k + 5) u' v') (vv, w, g, r, d, up, id, tb) (nI t) v2 (nI s) v4) (c, h, f, st, up, dd) (nI t) v2 (nI s) v4 := by
          intro q X Y hXY bX bY
          exact mx_cm59 _ _ _ _ _ _ ht hst h2 y0 y5 hs (bX _ (my_cm61 _ _ _ _ _ _ _ _ ht hr d0 y0 y5 hs (by rw [bc]; exact bY _ ⟨rfl, hXY _⟩)))
        have hkind : v2 = 0 ∨ v2 = 1 ∨ v2 = 2 ∨ v2 = 3 ∨ v2 = 4 ∨ v2 = 5 := by
          obtain ⟨j, hj, rfl⟩ := nI_of2 (n := 5) (M := 5) (by decide) y0 (Int32.not_lt.mp y5)
          have : j = 0 ∨ j = 1 ∨ j = 2 ∨ j = 3 ∨ j = 4 ∨ j = 5 := by omega
          rcases this with rfl | rfl | rfl | rfl | rfl | rfl <;> decide
        rcases hkind with rfl | rfl | rfl | rfl | rfl | rfl
        · obtain ⟨X, Y, hXY, bX, bY⟩ := mc_cB K F1 F2 F3 (s := s) ht (x2 := 0) (z0 := if mc_cn h (nI t) (32 * s) 32 = 0 then 0 else 1) (Or.inl rfl)
          exact fin 1 X Y hXY bX bY
        · obtain ⟨_, _, c3, h3, f3, st3, dd3, v3, w3, g3, r3, d3, id3, tb3, K3, z3, lX, lY⟩ := mc_cA K F1 F2 F3 s ht hst (x2 := 1) (Or.inl rfl)
          refine fin (-5) (c3, h3, f3, st3, upd up 3 0, dd3) (v3, w3, g3, r3, d3, upd up 3 0, id3, tb3) (fun k => ⟨rfl, K3, mc_leadF K3 z3 pk_us⟩) (fun post hp => ?_) (fun post hp => my_61L _ _ _ _ _ _ _ _ (Or.inl rfl) (lY post ?_))
          · unfold wX_commit_59
            exact br_t rfl (lX _ hp)
          · unfold wY_commit_214 wY_commit_230
            exact br_t rfl (br_f (by decide) (br_f (by decide) hp))
        · obtain ⟨_, _, c3, h3, f3, st3, dd3, v3, w3, g3, r3, d3, id3, tb3, K3, z3, lX, lY⟩ := mc_cA K F1 F2 F3 s ht hst (x2 := 2) (Or.inr (Or.inl rfl))
          refine fin (-5) (c3, h3, f3, st3, upd up 3 0, dd3) (v3, w3, g3, r3, d3, upd up 3 0, id3, tb3) (fun k => ⟨rfl, K3, mc_leadF K3 z3 pk_us⟩) (fun post hp => ?_) (fun post hp => my_61L _ _ _ _ _ _ _ _ (Or.inr (Or.inl rfl)) (lY post ?_))
          · unfold wX_commit_59
            exact br_f (by decide) (br_t rfl (lX _ hp))
          · unfold wY_commit_214 wY_commit_230
            exact br_t rfl (br_f (by decide) (br_f (by decide) hp))
        · by_cases z : mc_cn h (nI t) (32 * s) 32 = 0
          · obtain ⟨X, Y, hXY, bX, bY⟩ := mc_cB K F1 F2 F3 (s := s) ht (x2 := 3) (z0 := 0) (Or.inr ⟨Or.inl rfl, rfl⟩)
            rw [if_pos z] at fin
            exact fin 1 X Y hXY bX bY
          · obtain ⟨X, Y, hXY, bX, bY⟩ := mc_cC K F1 F2 F3 ht hst hs z
            rw [if_neg z] at fin
            exact fin 1 X Y hXY bX bY
        · by_cases z : mc_cn h (nI t) (32 * s) 32 = 0
          · obtain ⟨X, Y, hXY, bX, bY⟩ := mc_cB K F1 F2 F3 (s := s) ht (x2 := 4) (z0 := 0) (Or.inr ⟨Or.inr rfl, rfl⟩)
            rw [if_pos z] at fin
            exact fin 1 X Y hXY bX bY
          · obtain ⟨X, Y, hXY, bX, bY⟩ := mc_cD K F1 F2 F3 ht hs
            rw [if_neg z] at fin
            exact fin 0 X Y hXY bX bY
        · obtain ⟨_, _, c3, h3, f3, st3, dd3, v3, w3, g3, r3, d3, id3, tb3, K3, z3, lX, lY⟩ := mc_cA K F1 F2 F3 s ht hst (x2 := 5) (Or.inr (Or.inr rfl))
          obtain ⟨g1, g2, g3'⟩ := mc_leadF (up := upd up 3 0) K3 z3 pk_us
          obtain ⟨q, ⟨x1, x2, x3, x4, x5, x6⟩, ⟨y1, y2, y3, y4, y5', y6, y7, y8⟩, hXY, aX, aY⟩ := mc_fall (upd up 3 0) K3 hs (fun q hq _ => g1 q hq) g2 g3'
          refine fin (-5) _ _ hXY (fun post hp => ?_) (fun post hp => my_61L _ _ _ _ _ _ _ _ (Or.inr (Or.inr rfl)) (lY post ?_))
          · unfold wX_commit_59 wX_commit_102 wX_commit_119
            exact br_f (by decide) (br_f (by decide) (br_f (by decide) (br_f (by decide) (br_t rfl (lX _ (aX _ hp))))))
          · unfold wY_commit_214 wY_commit_224 wY_commit_230
            exact br_t rfl (br_t rfl (aY _ (br_f (by decide) hp)))
  · have hb : ∀ t, t < 4 → v1 = nI t → st t = 0 := fun t ht e => Decidable.byContradiction fun q => hg ⟨t, ht, e, q⟩
    exact mx_cmB _ _ _ _ _ _ (Or.inl hb) (my_cmB _ _ _ _ _ _ _ _ (Or.inl fun t ht e => (mc_Tr (K.2.1 t ht)).mp (hb t ht e)) ⟨rfl, I'⟩)
end
