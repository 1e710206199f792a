section
theorem pk_us {f : Nat → Int32} {k : Nat} {x : Int32} : upd f k x k = x := if_pos rfl
theorem pk_un {f : Nat → Int32} {k j : Nat} {x : Int32} (h : j ≠ k) : upd f k x j = f j := if_neg h
theorem pk_mul (a b : Nat) : nI a * nI b = nI (a * b) := (Int32.ofNat_mul a b).symm
theorem pk_div {a d : Nat} (ha : a < 2 ^ 31) (h0 : 0 < d) (hd : d < 2 ^ 31) : nI a / nI d = nI (a / d) := by
  apply Int32.toInt_inj.mp
  rw [lg_idiv_nonneg (by rw [nI_toInt ha]; omega) (by rw [nI_toInt hd]; omega), nI_toInt ha, nI_toInt hd, nI_toInt (Nat.lt_of_le_of_lt (Nat.div_le_self a d) ha)]
  first | rfl | exact (Int.natCast_ediv _ _).symm
theorem pk_ix (x : Int32) {n : Nat} (hn : n < 2 ^ 31) : x < 0 ∨ nI n ≤ x ∨ ∃ j : Nat, j < n ∧ x = nI j := by
  by_cases h : x < 0
  · exact Or.inl h
  · obtain ⟨j, hj, rfl⟩ := nI_of h
    by_cases h2 : j < n
    · exact Or.inr (Or.inr ⟨j, h2, rfl⟩)
    · exact Or.inr (Or.inl (nI_le (by omega) hj))
theorem pk_le {x y : Int32} {A B : Prop} (a b : Nat) (f : a ≤ b → A) (g : b < a → B) (hx : x = nI a := by rfl) (hy : y = nI b := by rfl) (ha : a < 2 ^ 31 := by omega) (hb : b < 2 ^ 31 := by omega) : (x ≤ y → A) ∧ (¬ x ≤ y → B) := by
  subst hx hy
  rw [nI_leI ha hb]
  exact ⟨f, fun z => g (by omega)⟩
theorem pk_lt {x y : Int32} {A B : Prop} (a b : Nat) (f : a < b → A) (g : b ≤ a → B) (hx : x = nI a := by rfl) (hy : y = nI b := by rfl) (ha : a < 2 ^ 31 := by omega) (hb : b < 2 ^ 31 := by omega) : (x < y → A) ∧ (¬ x < y → B) := by
  subst hx hy
  rw [nI_ltI ha hb]
  exact ⟨f, fun z => g (by omega)⟩
theorem pk_eq {x y : Int32} {A B : Prop} (a b : Nat) (f : a = b → A) (g : a ≠ b → B) (hx : x = nI a := by rfl) (hy : y = nI b := by rfl) (ha : a < 2 ^ 31 := by omega) (hb : b < 2 ^ 31 := by omega) : (x = y → A) ∧ (¬ x = y → B) := by
  subst hx hy
  rw [nI_eq ha hb]
  exact ⟨f, g⟩
theorem pk_in {x : Int32} (n N : Nat) (h : n < N) (hx : x = nI n := by rfl) (hN : N < 2 ^ 31 := by omega) : vp_in x N := by
  subst hx
  exact vp_in_nI h hN
theorem pk_cl {x : Int32} (n : Nat) (hx : x = nI n := by rfl) (h : n < 2 ^ 31 := by omega) : x.toNatClampNeg = n := by
  subst hx
  exact nI_clamp h
/-! arrays overwritten on an interval; counts -/
def mc_up (lo n : Nat) (a b : Nat → Int32) : Nat → Int32 := fun i => if lo ≤ i ∧ i < lo + n then b i else a i
theorem mc_up0 {lo : Nat} {a b : Nat → Int32} : mc_up lo 0 a b = a := by
  funext i; unfold mc_up; rw [if_neg (by omega)]
theorem mc_upI {lo n i : Nat} {a b : Nat → Int32} (h1 : lo ≤ i) (h2 : i < lo + n) : mc_up lo n a b i = b i := if_pos ⟨h1, h2⟩
theorem mc_upO {lo n i : Nat} {a b : Nat → Int32} (h : ¬ (lo ≤ i ∧ i < lo + n)) : mc_up lo n a b i = a i := if_neg h
theorem mc_upS {lo j k : Nat} {a b : Nat → Int32} {x : Int32} (hk : k = lo + j) (e : b k = x) : upd (mc_up lo j a b) k x = mc_up lo (j + 1) a b := by
  funext i
  by_cases hi : i = k
  · subst hi; rw [pk_us, mc_upI (by omega) (by omega), e]
  · rw [pk_un hi]
    by_cases h : lo ≤ i ∧ i < lo + j
    · rw [mc_upI h.1 h.2, mc_upI h.1 (by omega)]
    · rw [mc_upO h, mc_upO (by omega)]
theorem mc_upK {lo j k : Nat} {a b : Nat → Int32} (hk : k = lo + j) (e : b k = a k) : mc_up lo (j + 1) a b = mc_up lo j a b := by
  funext i
  by_cases hi : i = k
  · subst hi; rw [mc_upI (by omega) (by omega), mc_upO (by omega), e]
  · by_cases h : lo ≤ i ∧ i < lo + j
    · rw [mc_upI h.1 h.2, mc_upI h.1 (by omega)]
    · rw [mc_upO h, mc_upO (by omega)]
theorem mc_upA {lo j k : Nat} {a b : Nat → Int32} (hk : k = lo + j) : mc_up lo j a b k = a k := mc_upO (by omega)
/-- how many of the n cells from b hold x -/
def mc_cn (a : Nat → Int32) (x : Int32) (b : Nat) : Nat → Nat
  | 0 => 0
  | n + 1 => mc_cn a x b n + (if a (b + n) = x then 1 else 0)
/-- how many of the n cells from b don't hold 0 -/
def mc_cz (a : Nat → Int32) (b : Nat) : Nat → Nat
  | 0 => 0
  | n + 1 => mc_cz a b n + (if a (b + n) = 0 then 0 else 1)
theorem mc_cnT {a : Nat → Int32} {x : Int32} {b n : Nat} (h : a (b + n) = x) : mc_cn a x b (n + 1) = mc_cn a x b n + 1 := by
  show _ + _ = _; rw [if_pos h]
theorem mc_cnF {a : Nat → Int32} {x : Int32} {b n : Nat} (h : ¬ a (b + n) = x) : mc_cn a x b (n + 1) = mc_cn a x b n := by
  show _ + _ = _; rw [if_neg h]; rfl
theorem mc_czF {a : Nat → Int32} {b n : Nat} (h : a (b + n) = 0) : mc_cz a b (n + 1) = mc_cz a b n := by
  show _ + _ = _; rw [if_pos h]; rfl
theorem mc_czT {a : Nat → Int32} {b n : Nat} (h : ¬ a (b + n) = 0) : mc_cz a b (n + 1) = mc_cz a b n + 1 := by
  show _ + _ = _; rw [if_neg h]
theorem mc_cnL (a : Nat → Int32) (x : Int32) (b : Nat) : ∀ n, mc_cn a x b n ≤ n := by
  intro n
  induction n with
  | zero => exact Nat.le_refl 0
  | succ n ih =>
    by_cases h : a (b + n) = x
    · rw [mc_cnT h]; omega
    · rw [mc_cnF h]; omega
theorem mc_czL (a : Nat → Int32) (b : Nat) : ∀ n, mc_cz a b n ≤ n := by
  intro n
  induction n with
  | zero => exact Nat.le_refl 0
  | succ n ih =>
    by_cases h : a (b + n) = 0
    · rw [mc_czF h]; omega
    · rw [mc_czT h]; omega
theorem mc_cn0 {a : Nat → Int32} {x : Int32} {b : Nat} : ∀ n, mc_cn a x b n = 0 → ∀ k, k < n → a (b + k) ≠ x := by
  intro n
  induction n with
  | zero => intro _ k hk; omega
  | succ n ih =>
    intro h0 k hk e
    by_cases h : a (b + n) = x
    · rw [mc_cnT h] at h0; omega
    · rw [mc_cnF h] at h0
      by_cases hkn : k = n
      · subst hkn; exact h e
      · exact ih h0 k (by omega) e
theorem mc_cnZ {a : Nat → Int32} {x : Int32} {b : Nat} : ∀ n, (∀ k, k < n → a (b + k) ≠ x) → mc_cn a x b n = 0 := by
  intro n
  induction n with
  | zero => intro _; rfl
  | succ n ih => intro h; rw [mc_cnF (h n (by omega))]; exact ih (fun k hk => h k (by omega))
theorem mc_cz0 {a : Nat → Int32} {b : Nat} : ∀ n, mc_cz a b n = 0 → ∀ k, k < n → a (b + k) = 0 := by
  intro n
  induction n with
  | zero => intro _ k hk; omega
  | succ n ih =>
    intro h0 k hk
    by_cases h : a (b + n) = 0
    · rw [mc_czF h] at h0
      by_cases hkn : k = n
      · subst hkn; exact h
      · exact ih h0 k (by omega)
    · rw [mc_czT h] at h0; omega
/-- the two counts agree where the cells do -/
theorem mc_cnz {a w : Nat → Int32} {x : Int32} {b b' : Nat} : ∀ n, (∀ k, k < n → (a (b + k) = x ↔ w (b' + k) ≠ 0)) → mc_cn a x b n = mc_cz w b' n := by
  intro n
  induction n with
  | zero => intro _; rfl
  | succ n ih =>
    intro h
    by_cases hx : a (b + n) = x
    · rw [mc_cnT hx, mc_czT ((h n (by omega)).mp hx), ih (fun k hk => h k (by omega))]
    · have h0 : w (b' + n) = 0 := Decidable.byContradiction (fun z => hx ((h n (by omega)).mpr z))
      rw [mc_cnF hx, mc_czF h0, ih (fun k hk => h k (by omega))]
theorem mc_cnM {a a' : Nat → Int32} {x : Int32} {b : Nat} : ∀ n, (∀ k, k < n → a' (b + k) = x → a (b + k) = x) → mc_cn a' x b n ≤ mc_cn a x b n := by
  intro n
  induction n with
  | zero => intro _; exact Nat.le_refl 0
  | succ n ih =>
    intro h
    have i1 := ih (fun k hk => h k (by omega))
    by_cases hx : a' (b + n) = x
    · rw [mc_cnT hx, mc_cnT (h n (by omega) hx)]; omega
    · rw [mc_cnF hx]
      by_cases hy : a (b + n) = x
      · rw [mc_cnT hy]; omega
      · rw [mc_cnF hy]; omega
theorem mc_cnE {a a' : Nat → Int32} {x : Int32} {b : Nat} (n : Nat) (h : ∀ k, k < n → a' (b + k) = a (b + k)) : mc_cn a' x b n = mc_cn a x b n :=
  Nat.le_antisymm (mc_cnM n fun k hk e => (h k hk).symm.trans e) (mc_cnM n fun k hk e => (h k hk).trans e)
theorem mc_czE {a a' : Nat → Int32} {b : Nat} : ∀ n, (∀ k, k < n → a' (b + k) = a (b + k)) → mc_cz a' b n = mc_cz a b n := by
  intro n
  induction n with
  | zero => intro _; rfl
  | succ n ih =>
    intro h
    have i1 := ih (fun k hk => h k (by omega))
    have e := h n (by omega)
    by_cases hx : a (b + n) = 0
    · rw [mc_czF hx, mc_czF (e.trans hx), i1]
    · rw [mc_czT hx, mc_czT (by rw [e]; exact hx), i1]
/-- one cell written: at most one more, and none more outside -/
theorem mc_cnU {a : Nat → Int32} {x : Int32} {b i : Nat} : ∀ n, mc_cn (upd a i x) x b n ≤ mc_cn a x b n + (if b ≤ i ∧ i < b + n then 1 else 0) := by
  intro n
  induction n with
  | zero => exact Nat.zero_le _
  | succ n ih =>
    by_cases hi : i = b + n
    · have h1 : ¬ (b ≤ i ∧ i < b + n) := by omega
      have h2 : b ≤ i ∧ i < b + (n + 1) := by omega
      rw [if_neg h1] at ih
      rw [if_pos h2, mc_cnT (a := upd a i x) (by rw [← hi]; exact pk_us)]
      by_cases hy : a (b + n) = x
      · rw [mc_cnT hy]; omega
      · rw [mc_cnF hy]; omega
    · have e : upd a i x (b + n) = a (b + n) := pk_un (fun z => hi z.symm)
      have hh : (if b ≤ i ∧ i < b + (n + 1) then 1 else 0) = (if b ≤ i ∧ i < b + n then 1 else 0) := by
        by_cases h : b ≤ i ∧ i < b + n
        · rw [if_pos h, if_pos (by omega)]
        · rw [if_neg h, if_neg (by omega)]
      rw [hh]
      by_cases hy : a (b + n) = x
      · rw [mc_cnT hy, mc_cnT (e.trans hy)]; omega
      · rw [mc_cnF hy, mc_cnF (a := upd a i x) (by rw [e]; exact hy)]; exact ih
theorem mc_m1 : ∀ t, t < 4 → nI t ≠ -1 := by decide
theorem mc_m2 : ∀ t, t < 4 → nI t ≠ -2 := by decide
theorem mc_inj {a b : Nat} (ha : a < 4) (hb : b < 4) (h : nI a = nI b) : a = b := (nI_eq (by omega) (by omega)).mp h
theorem mc_ix (s k : Nat) : (32 * nI s + nI k : Int32) = nI (32 * s + k) := by
  rw [show (32 : Int32) = nI 32 from rfl, pk_mul, nI_add]
theorem mc_ix9 (s k : Nat) : (96 * nI s + nI k : Int32) = nI (96 * s + k) := by
  rw [show (96 : Int32) = nI 96 from rfl, pk_mul, nI_add]
theorem mc_96 (s : Nat) : (96 * nI s : Int32) = nI (96 * s) := by
  rw [show (96 : Int32) = nI 96 from rfl, pk_mul]
theorem mc_32 (s : Nat) : (32 * nI s : Int32) = nI (32 * s) := by
  rw [show (32 : Int32) = nI 32 from rfl, pk_mul]
theorem mc_384 (k : Nat) : (384 + nI k : Int32) = nI (384 + k) := by
  rw [show (384 : Int32) = nI 384 from rfl, nI_add]
theorem mc_d32 {i : Nat} (hi : i < 96) : (nI i / 32 : Int32) = nI (i / 32) := pk_div (d := 32) (by omega) (by decide) (by decide)
theorem mc_b0 : vp_nar .boolean 0 = 0 := rfl
theorem mc_b1 : vp_nar .boolean 1 = 1 := rfl
end
section
/-! the component's own small walks, each with a general post -/
section
variable (c h f st up dd : Nat → Int32)
theorem mx_g1 {post : Int32 → Prop} {t : Nat} (ht : t < 4) (hs : st t ≠ 0) (hp : post 1) : wpX_isGood post (c, h, f, st, up, dd) (nI t) := by
  unfold wpX_isGood; dsimp only
  refine br_f (nI_pos (by omega)) (br_f (nI_ge (b := 4) (by omega) (by decide)) ⟨pk_in t 4 ht, br_f ?_ hp⟩)
  rw [nI_clamp (by omega)]; exact hs
theorem mx_g0 {post : Int32 → Prop} {x : Int32} (hn : ∀ t, t < 4 → x = nI t → st t = 0) (hp : post 0) : wpX_isGood post (c, h, f, st, up, dd) x := by
  unfold wpX_isGood; dsimp only
  refine br_c (fun _ => hp) (fun h0 => br_c (fun _ => hp) (fun h4 => ?_))
  rcases pk_ix x (n := 4) (by decide) with hx | hx | ⟨t, ht, rfl⟩
  · exact absurd hx h0
  · exact absurd hx h4
  · refine ⟨pk_in t 4 ht, br_t ?_ hp⟩
    rw [nI_clamp (by omega)]; exact hn t ht rfl
theorem mx_s1 {post : Int32 → Prop} {s : Nat} (hs : s < 3) (hp : post 1) : wpX_isStore post (c, h, f, st, up, dd) (nI s) := by
  unfold wpX_isStore; dsimp only
  exact br_f (nI_pos (by omega)) (br_f (nI_ge (b := 3) (by omega) (by decide)) hp)
theorem mx_s0 {post : Int32 → Prop} {x : Int32} (hn : ∀ s, s < 3 → x ≠ nI s) (hp : post 0) : wpX_isStore post (c, h, f, st, up, dd) x := by
  unfold wpX_isStore; dsimp only
  refine br_c (fun _ => hp) (fun h0 => br_c (fun _ => hp) (fun h4 => ?_))
  rcases pk_ix x (n := 3) (by decide) with hx | hx | ⟨t, ht, rfl⟩
  · exact absurd hx h0
  · exact absurd hx h4
  · exact absurd rfl (hn t ht)
theorem mx_c1 {post : Int32 → Prop} {i : Nat} (hi : i < 96) (hp : post 1) : wpX_isCode post (c, h, f, st, up, dd) (nI i) := by
  unfold wpX_isCode; dsimp only
  exact br_f (nI_pos (by omega)) (br_f (nI_ge (b := 96) (by omega) (by decide)) hp)
theorem mx_c0 {post : Int32 → Prop} {x : Int32} (hn : ∀ i, i < 96 → x ≠ nI i) (hp : post 0) : wpX_isCode post (c, h, f, st, up, dd) x := by
  unfold wpX_isCode; dsimp only
  refine br_c (fun _ => hp) (fun h0 => br_c (fun _ => hp) (fun h4 => ?_))
  rcases pk_ix x (n := 96) (by decide) with hx | hx | ⟨t, ht, rfl⟩
  · exact absurd hx h0
  · exact absurd hx h4
  · exact absurd rfl (hn t ht)
theorem mx_held5 {post : Int32 → Prop} {x : Int32} {s : Nat} (hs : s < 3) (hp : post (nI (mc_cn h x (32 * s) 32))) : ∀ d j, j + d = 32 → wX_heldIn_5 post x (nI s) c h f st up dd (d + 1) (nI (mc_cn h x (32 * s) j)) (nI j) := by
  intro d
  induction d with
  | zero =>
    intro j hj
    obtain rfl : j = 32 := by omega
    exact br_t (by decide) hp
  | succ d ih =>
    intro j hj
    have e := mc_ix s j
    have ec : (32 * nI s + nI j : Int32).toNatClampNeg = 32 * s + j := by rw [e]; exact nI_clamp (by omega)
    refine br_f (nI_ge (b := 32) (by omega) (by decide)) ⟨pk_in (32 * s + j) 96 (by omega) e, ?_⟩
    by_cases z : h (32 * s + j) = x
    · refine br_t (by rw [ec]; exact z) (nm_r (e' := nI (mc_cn h x (32 * s) (j + 1))) ?_ (nm_r (nI_1 j) (ih (j + 1) (by omega))))
      rw [mc_cnT z, nI_1]
    · refine br_f (by rw [ec]; exact z) (nm_r (nI_1 j) ?_)
      have := ih (j + 1) (by omega)
      rw [mc_cnF z] at this
      exact this
theorem mx_held {post : Int32 → Prop} {x : Int32} {s : Nat} (hs : s < 3) (hp : post (nI (mc_cn h x (32 * s) 32))) : wpX_heldIn post (c, h, f, st, up, dd) x (nI s) := by
  unfold wpX_heldIn; dsimp only
  exact ⟨33, mx_held5 c h f st up dd hs hp 32 0 (by omega)⟩
/-- what a holder's cell becomes when x lets go -/
def mc_dr (h : Nat → Int32) (x : Int32) : Nat → Int32 := fun i => if h i = x then -1 else h i
/-- .. when x is left in doubt -/
def mc_db (h : Nat → Int32) (x : Int32) : Nat → Int32 := fun i => if h i = x then -2 else h i
/-- .. what a content becomes when x's writes are done -/
def mc_co (c h f : Nat → Int32) (x : Int32) : Nat → Int32 := fun i => if h i = x then f i else c i
theorem mx_drop2 {post : SX → Prop} {x : Int32} (hp : post (c, mc_up 0 96 h (mc_dr h x), f, st, up, dd)) : ∀ d j, j + d = 96 → wX_dropAll_2 post x (d + 1) (nI j) c (mc_up 0 j h (mc_dr h x)) f st up dd := by
  intro d
  induction d with
  | zero =>
    intro j hj
    obtain rfl : j = 96 := by omega
    exact br_t (by decide) hp
  | succ d ih =>
    intro j hj
    have ec : (nI j).toNatClampNeg = j := nI_clamp (by omega)
    have ea : mc_up 0 j h (mc_dr h x) j = h j := mc_upA (by omega)
    refine br_f (nI_ge (b := 96) (by omega) (by decide)) ⟨pk_in j 96 (by omega), ?_⟩
    by_cases z : h j = x
    · refine br_t (by rw [ec, ea]; exact z) ⟨pk_in j 96 (by omega), nm_r (e' := mc_up 0 (j + 1) h (mc_dr h x)) ?_ (nm_r (nI_1 j) (ih (j + 1) (by omega)))⟩
      rw [ec]; exact mc_upS (by omega) (if_pos z)
    · refine br_f (by rw [ec, ea]; exact z) (nm_r (nI_1 j) ?_)
      have := ih (j + 1) (by omega)
      rw [mc_upK (k := j) (by omega) (if_neg z)] at this
      exact this
theorem mx_drop {post : SX → Prop} {x : Int32} (hp : post (c, mc_up 0 96 h (mc_dr h x), f, st, up, dd)) : wpX_dropAll post (c, h, f, st, up, dd) x := by
  unfold wpX_dropAll; dsimp only
  have := mx_drop2 c h f st up dd hp 96 0 (by omega)
  rw [mc_up0] at this
  exact ⟨97, this⟩
theorem mx_end {post : SX → Prop} {t : Nat} (ht : t < 4) (hp : post (c, mc_up 0 96 h (mc_dr h (nI t)), f, upd st t 0, up, dd)) : wpX_end post (c, h, f, st, up, dd) (nI t) := by
  unfold wpX_end; dsimp only
  refine mx_drop c h f st up dd ?_
  dsimp only
  exact ⟨pk_in t 4 ht, nm_r (e' := upd st t 0) (by rw [nI_clamp (by omega)]) hp⟩
theorem mx_leave20 {post : SX → Prop} {x : Int32} {s : Nat} (hs : s < 3) (hp : post (c, mc_up (32 * s) 32 h (mc_db h x), f, st, up, dd)) : ∀ d j, j + d = 32 → wX_leaveInDoubt_20 post x (nI s) (d + 1) (nI j) c (mc_up (32 * s) j h (mc_db h x)) f st up dd := by
  intro d
  induction d with
  | zero =>
    intro j hj
    obtain rfl : j = 32 := by omega
    exact br_t (by decide) hp
  | succ d ih =>
    intro j hj
    have ec : (nI (32 * s + j)).toNatClampNeg = 32 * s + j := nI_clamp (by omega)
    have ea : mc_up (32 * s) j h (mc_db h x) (32 * s + j) = h (32 * s + j) := mc_upA (by omega)
    refine br_f (nI_ge (b := 32) (by omega) (by decide)) (nm_r (mc_ix s j) ⟨pk_in (32 * s + j) 96 (by omega), ?_⟩)
    by_cases z : h (32 * s + j) = x
    · refine br_t (by rw [ec, ea]; exact z) ⟨pk_in (32 * s + j) 96 (by omega), nm_r (e' := mc_up (32 * s) (j + 1) h (mc_db h x)) ?_ (nm_r (nI_1 j) (ih (j + 1) (by omega)))⟩
      rw [ec]; exact mc_upS (by omega) (if_pos z)
    · refine br_f (by rw [ec, ea]; exact z) (nm_r (nI_1 j) ?_)
      have := ih (j + 1) (by omega)
      rw [mc_upK (k := 32 * s + j) (by omega) (if_neg z)] at this
      exact this
/-- nothing held: nothing happens -/
theorem mx_leave0 {post : SX → Prop} {x b : Int32} {s : Nat} (hs : s < 3) (h0 : mc_cn h x (32 * s) 32 = 0) (hp : post (c, h, f, st, up, dd)) : wpX_leaveInDoubt post (c, h, f, st, up, dd) x (nI s) b := by
  unfold wpX_leaveInDoubt; dsimp only
  refine mx_held c h f st up dd hs ?_
  rw [h0]
  exact br_t nI_0 hp
theorem mx_leave1 {post : SX → Prop} {x b : Int32} {s : Nat} (hs : s < 3) (h0 : mc_cn h x (32 * s) 32 ≠ 0) (hp : post (c, mc_up (32 * s) 32 h (mc_db h x), f, st, up, upd dd s (vp_nar .boolean b))) : wpX_leaveInDoubt post (c, h, f, st, up, dd) x (nI s) b := by
  unfold wpX_leaveInDoubt; dsimp only
  refine mx_held c h f st up dd hs ?_
  have hl := mc_cnL h x (32 * s) 32
  refine br_f (nI_ne0 (by omega) (by omega)) ⟨pk_in s 3 hs, nm_r (e' := upd dd s (vp_nar .boolean b)) (by rw [nI_clamp (by omega)]) ⟨33, ?_⟩⟩
  have := mx_leave20 c h f st up (upd dd s (vp_nar .boolean b)) hs hp 32 0 (by omega)
  rw [mc_up0] at this
  exact this
theorem mx_peace2 {post : Int32 → SX → Prop} {t : Nat} (ht : t < 4) (hp : post 1 (mc_up 0 96 c (mc_co c h f (nI t)), mc_up 0 96 h (mc_dr h (nI t)), f, upd st t 0, up, dd)) : ∀ d j, j + d = 96 → wX_commitInPeace_2 post (nI t) (d + 1) (nI j) (mc_up 0 j c (mc_co c h f (nI t))) h f st up dd := by
  intro d
  induction d with
  | zero =>
    intro j hj
    obtain rfl : j = 96 := by omega
    refine br_t (by decide) ?_
    exact mx_end _ h f st up dd ht hp
  | succ d ih =>
    intro j hj
    have ec : (nI j).toNatClampNeg = j := nI_clamp (by omega)
    refine br_f (nI_ge (b := 96) (by omega) (by decide)) ⟨pk_in j 96 (by omega), ?_⟩
    by_cases z : h j = nI t
    · refine br_t (by rw [ec]; exact z) ⟨pk_in j 96 (by omega), pk_in j 96 (by omega), nm_r (e' := mc_up 0 (j + 1) c (mc_co c h f (nI t))) ?_ (nm_r (nI_1 j) (ih (j + 1) (by omega)))⟩
      rw [ec]; exact mc_upS (by omega) (if_pos z)
    · refine br_f (by rw [ec]; exact z) (nm_r (nI_1 j) ?_)
      have := ih (j + 1) (by omega)
      rw [mc_upK (k := j) (by omega) (if_neg z)] at this
      exact this
theorem mx_peace {post : Int32 → SX → Prop} {t : Nat} (ht : t < 4) (hp : post 1 (mc_up 0 96 c (mc_co c h f (nI t)), mc_up 0 96 h (mc_dr h (nI t)), f, upd st t 0, up, dd)) : wpX_commitInPeace post (c, h, f, st, up, dd) (nI t) := by
  unfold wpX_commitInPeace; dsimp only
  have := mx_peace2 c h f st up dd ht hp 96 0 (by omega)
  rw [mc_up0] at this
  exact ⟨97, this⟩
/-- what settling a store makes of the contents: b says whether the doubtful writes are done -/
def mc_se (c h f : Nat → Int32) (b : Int32) : Nat → Int32 := fun i => if h i = -2 ∧ b ≠ 0 then f i else c i
theorem mx_settle21 {post : SX → Prop} {s : Nat} (hs : s < 3) (hp : post (mc_up (32 * s) 32 c (mc_se c h f (dd s)), mc_up (32 * s) 32 h (mc_dr h (-2)), f, st, up, dd)) : ∀ d j, j + d = 32 → wX_settle_21 post (nI s) (d + 1) (nI j) (mc_up (32 * s) j c (mc_se c h f (dd s))) (mc_up (32 * s) j h (mc_dr h (-2))) f st up dd := by
  intro d
  induction d with
  | zero =>
    intro j hj
    obtain rfl : j = 32 := by omega
    exact br_t (by decide) hp
  | succ d ih =>
    intro j hj
    have ec : (nI (32 * s + j)).toNatClampNeg = 32 * s + j := nI_clamp (by omega)
    have es : (nI s).toNatClampNeg = s := nI_clamp (by omega)
    have hi : vp_in (nI (32 * s + j)) 96 := pk_in (32 * s + j) 96 (by omega)
    have ea : mc_up (32 * s) j h (mc_dr h (-2)) (32 * s + j) = h (32 * s + j) := mc_upA (by omega)
    refine br_f (nI_ge (b := 32) (by omega) (by decide)) (nm_r (mc_ix s j) ⟨hi, ?_⟩)
    by_cases z : h (32 * s + j) = -2
    · refine br_t (by rw [ec, ea]; exact z) ⟨pk_in s 3 hs, ?_⟩
      by_cases y : dd s = 0
      · refine br_t (by rw [es]; exact y) ⟨hi, nm_r (e' := mc_up (32 * s) (j + 1) h (mc_dr h (-2))) (by rw [ec]; exact mc_upS (by omega) (if_pos z)) (nm_r (nI_1 j) ?_)⟩
        have := ih (j + 1) (by omega)
        rw [mc_upK (a := c) (k := 32 * s + j) (by omega) (if_neg (fun q => q.2 y))] at this
        exact this
      · exact br_f (by rw [es]; exact y) ⟨hi, hi, nm_r (e' := mc_up (32 * s) (j + 1) c (mc_se c h f (dd s))) (by rw [ec]; exact mc_upS (by omega) (if_pos ⟨z, y⟩)) ⟨hi, nm_r (e' := mc_up (32 * s) (j + 1) h (mc_dr h (-2))) (by rw [ec]; exact mc_upS (by omega) (if_pos z)) (nm_r (nI_1 j) (ih (j + 1) (by omega)))⟩⟩
    · refine br_f (by rw [ec, ea]; exact z) (nm_r (nI_1 j) ?_)
      have := ih (j + 1) (by omega)
      rw [mc_upK (a := c) (k := 32 * s + j) (by omega) (if_neg (fun q => z q.1)), mc_upK (a := h) (k := 32 * s + j) (by omega) (if_neg z)] at this
      exact this
theorem mx_settle1 {post : SX → Prop} {s : Nat} (hs : s < 3) (h1 : up s ≠ 0) (h3 : up 3 ≠ 0) (hp : post (mc_up (32 * s) 32 c (mc_se c h f (dd s)), mc_up (32 * s) 32 h (mc_dr h (-2)), f, st, up, dd)) : wpX_settle post (c, h, f, st, up, dd) (nI s) := by
  unfold wpX_settle; dsimp only
  refine ⟨pk_in s 4 (by omega), br_f (by rw [nI_clamp (by omega)]; exact h1) (br_f h3 ?_)⟩
  have := mx_settle21 c h f st up dd hs hp 32 0 (by omega)
  rw [mc_up0, mc_up0] at this
  exact ⟨33, this⟩
theorem mx_settle0 {post : SX → Prop} {s : Nat} (hs : s < 3) (h0 : up s = 0 ∨ up 3 = 0) (hp : post (c, h, f, st, up, dd)) : wpX_settle post (c, h, f, st, up, dd) (nI s) := by
  unfold wpX_settle; dsimp only
  refine ⟨pk_in s 4 (by omega), ?_⟩
  have es : (nI s).toNatClampNeg = s := nI_clamp (by omega)
  rw [es]
  by_cases h1 : up s = 0
  · exact br_t h1 hp
  · exact br_f h1 (br_t (h0.resolve_left h1) hp)
end
end
