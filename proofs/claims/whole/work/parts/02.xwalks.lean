/-! the component's own small walks, each with a general post -/
section
variable (c h f st up dd : Nat → Int32)
theorem mx_g1 {post : Int32 → Prop} {t : Nat} (ht : t < 4) (hs : st t ≠ 0) (hp : post 1) : wpX_isGood post (c, h, f, st, up, dd) (nI t) := by
  unfold wpX_isGood; dsimp only
  refine br_f (nI_pos (by omega)) (br_f (nI_ge (b := 4) (by omega) (by decide)) ⟨pk_in t 4 ht, br_f ?_ hp⟩)
  rw [nI_clamp (by omega)]; exact hs
theorem mx_g0 {post : Int32 → Prop} {x : Int32} (hn : ∀ t, t < 4 → x = nI t → st t = 0) (hp : post 0) : wpX_isGood post (c, h, f, st, up, dd) x := by
  unfold wpX_isGood; dsimp only
  refine br_c (fun _ => hp) (fun h0 => br_c (fun _ => hp) (fun h4 => ?_))
  rcases pk_ix x (n := 4) (by decide) with hx | hx | ⟨t, ht, rfl⟩
  · exact absurd hx h0
  · exact absurd hx h4
  · refine ⟨pk_in t 4 ht, br_t ?_ hp⟩
    rw [nI_clamp (by omega)]; exact hn t ht rfl
theorem mx_s1 {post : Int32 → Prop} {s : Nat} (hs : s < 3) (hp : post 1) : wpX_isStore post (c, h, f, st, up, dd) (nI s) := by
  unfold wpX_isStore; dsimp only
  exact br_f (nI_pos (by omega)) (br_f (nI_ge (b := 3) (by omega) (by decide)) hp)
theorem mx_s0 {post : Int32 → Prop} {x : Int32} (hn : ∀ s, s < 3 → x ≠ nI s) (hp : post 0) : wpX_isStore post (c, h, f, st, up, dd) x := by
  unfold wpX_isStore; dsimp only
  refine br_c (fun _ => hp) (fun h0 => br_c (fun _ => hp) (fun h4 => ?_))
  rcases pk_ix x (n := 3) (by decide) with hx | hx | ⟨t, ht, rfl⟩
  · exact absurd hx h0
  · exact absurd hx h4
  · exact absurd rfl (hn t ht)
theorem mx_c1 {post : Int32 → Prop} {i : Nat} (hi : i < 96) (hp : post 1) : wpX_isCode post (c, h, f, st, up, dd) (nI i) := by
  unfold wpX_isCode; dsimp only
  exact br_f (nI_pos (by omega)) (br_f (nI_ge (b := 96) (by omega) (by decide)) hp)
theorem mx_c0 {post : Int32 → Prop} {x : Int32} (hn : ∀ i, i < 96 → x ≠ nI i) (hp : post 0) : wpX_isCode post (c, h, f, st, up, dd) x := by
  unfold wpX_isCode; dsimp only
  refine br_c (fun _ => hp) (fun h0 => br_c (fun _ => hp) (fun h4 => ?_))
  rcases pk_ix x (n := 96) (by decide) with hx | hx | ⟨t, ht, rfl⟩
  · exact absurd hx h0
  · exact absurd hx h4
  · exact absurd rfl (hn t ht)
theorem mx_held5 {post : Int32 → Prop} {x : Int32} {s : Nat} (hs : s < 3) (hp : post (nI (mc_cn h x (32 * s) 32))) : ∀ d j, j + d = 32 → wX_heldIn_5 post x (nI s) c h f st up dd (d + 1) (nI (mc_cn h x (32 * s) j)) (nI j) := by
  intro d
  induction d with
  | zero =>
    intro j hj
    obtain rfl : j = 32 := by omega
    exact br_t (by decide) hp
  | succ d ih =>
    intro j hj
    have e := mc_ix s j
    have ec : (32 * nI s + nI j : Int32).toNatClampNeg = 32 * s + j := by rw [e]; exact nI_clamp (by omega)
    refine br_f (nI_ge (b := 32) (by omega) (by decide)) ⟨pk_in (32 * s + j) 96 (by omega) e, ?_⟩
    by_cases z : h (32 * s + j) = x
    · refine br_t (by rw [ec]; exact z) (nm_r (e' := nI (mc_cn h x (32 * s) (j + 1))) ?_ (nm_r (nI_1 j) (ih (j + 1) (by omega))))
      rw [mc_cnT z, nI_1]
    · refine br_f (by rw [ec]; exact z) (nm_r (nI_1 j) ?_)
      have := ih (j + 1) (by omega)
      rw [mc_cnF z] at this
      exact this
theorem mx_held {post : Int32 → Prop} {x : Int32} {s : Nat} (hs : s < 3) (hp : post (nI (mc_cn h x (32 * s) 32))) : wpX_heldIn post (c, h, f, st, up, dd) x (nI s) := by
  unfold wpX_heldIn; dsimp only
  exact ⟨33, mx_held5 c h f st up dd hs hp 32 0 (by omega)⟩
/-- what a holder's cell becomes when x lets go -/
def mc_dr (h : Nat → Int32) (x : Int32) : Nat → Int32 := fun i => if h i = x then -1 else h i
/-- .. when x is left in doubt -/
def mc_db (h : Nat → Int32) (x : Int32) : Nat → Int32 := fun i => if h i = x then -2 else h i
/-- .. what a content becomes when x's writes are done -/
def mc_co (c h f : Nat → Int32) (x : Int32) : Nat → Int32 := fun i => if h i = x then f i else c i
theorem mx_drop2 {post : SX → Prop} {x : Int32} (hp : post (c, mc_up 0 96 h (mc_dr h x), f, st, up, dd)) : ∀ d j, j + d = 96 → wX_dropAll_2 post x (d + 1) (nI j) c (mc_up 0 j h (mc_dr h x)) f st up dd := by
  intro d
  induction d with
  | zero =>
    intro j hj
    obtain rfl : j = 96 := by omega
    exact br_t (by decide) hp
  | succ d ih =>
    intro j hj
    have ec : (nI j).toNatClampNeg = j := nI_clamp (by omega)
    have ea : mc_up 0 j h (mc_dr h x) j = h j := mc_upA (by omega)
    refine br_f (nI_ge (b := 96) (by omega) (by decide)) ⟨pk_in j 96 (by omega), ?_⟩
    by_cases z : h j = x
    · refine br_t (by rw [ec, ea]; exact z) ⟨pk_in j 96 (by omega), nm_r (e' := mc_up 0 (j + 1) h (mc_dr h x)) ?_ (nm_r (nI_1 j) (ih (j + 1) (by omega)))⟩
      rw [ec]; exact mc_upS (by omega) (if_pos z)
    · refine br_f (by rw [ec, ea]; exact z) (nm_r (nI_1 j) ?_)
      have := ih (j + 1) (by omega)
      rw [mc_upK (k := j) (by omega) (if_neg z)] at this
      exact this
theorem mx_drop {post : SX → Prop} {x : Int32} (hp : post (c, mc_up 0 96 h (mc_dr h x), f, st, up, dd)) : wpX_dropAll post (c, h, f, st, up, dd) x := by
  unfold wpX_dropAll; dsimp only
  have := mx_drop2 c h f st up dd hp 96 0 (by omega)
  rw [mc_up0] at this
  exact ⟨97, this⟩
theorem mx_end {post : SX → Prop} {t : Nat} (ht : t < 4) (hp : post (c, mc_up 0 96 h (mc_dr h (nI t)), f, upd st t 0, up, dd)) : wpX_end post (c, h, f, st, up, dd) (nI t) := by
  unfold wpX_end; dsimp only
  refine mx_drop c h f st up dd ?_
  dsimp only
  exact ⟨pk_in t 4 ht, nm_r (e' := upd st t 0) (by rw [nI_clamp (by omega)]) hp⟩
theorem mx_leave20 {post : SX → Prop} {x : Int32} {s : Nat} (hs : s < 3) (hp : post (c, mc_up (32 * s) 32 h (mc_db h x), f, st, up, dd)) : ∀ d j, j + d = 32 → wX_leaveInDoubt_20 post x (nI s) (d + 1) (nI j) c (mc_up (32 * s) j h (mc_db h x)) f st up dd := by
  intro d
  induction d with
  | zero =>
    intro j hj
    obtain rfl : j = 32 := by omega
    exact br_t (by decide) hp
  | succ d ih =>
    intro j hj
    have ec : (nI (32 * s + j)).toNatClampNeg = 32 * s + j := nI_clamp (by omega)
    have ea : mc_up (32 * s) j h (mc_db h x) (32 * s + j) = h (32 * s + j) := mc_upA (by omega)
    refine br_f (nI_ge (b := 32) (by omega) (by decide)) (nm_r (mc_ix s j) ⟨pk_in (32 * s + j) 96 (by omega), ?_⟩)
    by_cases z : h (32 * s + j) = x
    · refine br_t (by rw [ec, ea]; exact z) ⟨pk_in (32 * s + j) 96 (by omega), nm_r (e' := mc_up (32 * s) (j + 1) h (mc_db h x)) ?_ (nm_r (nI_1 j) (ih (j + 1) (by omega)))⟩
      rw [ec]; exact mc_upS (by omega) (if_pos z)
    · refine br_f (by rw [ec, ea]; exact z) (nm_r (nI_1 j) ?_)
      have := ih (j + 1) (by omega)
      rw [mc_upK (k := 32 * s + j) (by omega) (if_neg z)] at this
      exact this
/-- nothing held: nothing happens -/
theorem mx_leave0 {post : SX → Prop} {x b : Int32} {s : Nat} (hs : s < 3) (h0 : mc_cn h x (32 * s) 32 = 0) (hp : post (c, h, f, st, up, dd)) : wpX_leaveInDoubt post (c, h, f, st, up, dd) x (nI s) b := by
  unfold wpX_leaveInDoubt; dsimp only
  refine mx_held c h f st up dd hs ?_
  rw [h0]
  exact br_t nI_0 hp
theorem mx_leave1 {post : SX → Prop} {x b : Int32} {s : Nat} (hs : s < 3) (h0 : mc_cn h x (32 * s) 32 ≠ 0) (hp : post (c, mc_up (32 * s) 32 h (mc_db h x), f, st, up, upd dd s (vp_nar .boolean b))) : wpX_leaveInDoubt post (c, h, f, st, up, dd) x (nI s) b := by
  unfold wpX_leaveInDoubt; dsimp only
  refine mx_held c h f st up dd hs ?_
  have hl := mc_cnL h x (32 * s) 32
  refine br_f (nI_ne0 (by omega) (by omega)) ⟨pk_in s 3 hs, nm_r (e' := upd dd s (vp_nar .boolean b)) (by rw [nI_clamp (by omega)]) ⟨33, ?_⟩⟩
  have := mx_leave20 c h f st up (upd dd s (vp_nar .boolean b)) hs hp 32 0 (by omega)
  rw [mc_up0] at this
  exact this
theorem mx_peace2 {post : Int32 → SX → Prop} {t : Nat} (ht : t < 4) (hp : post 1 (mc_up 0 96 c (mc_co c h f (nI t)), mc_up 0 96 h (mc_dr h (nI t)), f, upd st t 0, up, dd)) : ∀ d j, j + d = 96 → wX_commitInPeace_2 post (nI t) (d + 1) (nI j) (mc_up 0 j c (mc_co c h f (nI t))) h f st up dd := by
  intro d
  induction d with
  | zero =>
    intro j hj
    obtain rfl : j = 96 := by omega
    refine br_t (by decide) ?_
    exact mx_end _ h f st up dd ht hp
  | succ d ih =>
    intro j hj
    have ec : (nI j).toNatClampNeg = j := nI_clamp (by omega)
    refine br_f (nI_ge (b := 96) (by omega) (by decide)) ⟨pk_in j 96 (by omega), ?_⟩
    by_cases z : h j = nI t
    · refine br_t (by rw [ec]; exact z) ⟨pk_in j 96 (by omega), pk_in j 96 (by omega), nm_r (e' := mc_up 0 (j + 1) c (mc_co c h f (nI t))) ?_ (nm_r (nI_1 j) (ih (j + 1) (by omega)))⟩
      rw [ec]; exact mc_upS (by omega) (if_pos z)
    · refine br_f (by rw [ec]; exact z) (nm_r (nI_1 j) ?_)
      have := ih (j + 1) (by omega)
      rw [mc_upK (k := j) (by omega) (if_neg z)] at this
      exact this
theorem mx_peace {post : Int32 → SX → Prop} {t : Nat} (ht : t < 4) (hp : post 1 (mc_up 0 96 c (mc_co c h f (nI t)), mc_up 0 96 h (mc_dr h (nI t)), f, upd st t 0, up, dd)) : wpX_commitInPeace post (c, h, f, st, up, dd) (nI t) := by
  unfold wpX_commitInPeace; dsimp only
  have := mx_peace2 c h f st up dd ht hp 96 0 (by omega)
  rw [mc_up0] at this
  exact ⟨97, this⟩
/-- what settling a store makes of the contents: b says whether the doubtful writes are done -/
def mc_se (c h f : Nat → Int32) (b : Int32) : Nat → Int32 := fun i => if h i = -2 ∧ b ≠ 0 then f i else c i
theorem mx_settle21 {post : SX → Prop} {s : Nat} (hs : s < 3) (hp : post (mc_up (32 * s) 32 c (mc_se c h f (dd s)), mc_up (32 * s) 32 h (mc_dr h (-2)), f, st, up, dd)) : ∀ d j, j + d = 32 → wX_settle_21 post (nI s) (d + 1) (nI j) (mc_up (32 * s) j c (mc_se c h f (dd s))) (mc_up (32 * s) j h (mc_dr h (-2))) f st up dd := by
  intro d
  induction d with
  | zero =>
    intro j hj
    obtain rfl : j = 32 := by omega
    exact br_t (by decide) hp
  | succ d ih =>
    intro j hj
    have ec : (nI (32 * s + j)).toNatClampNeg = 32 * s + j := nI_clamp (by omega)
    have es : (nI s).toNatClampNeg = s := nI_clamp (by omega)
    have hi : vp_in (nI (32 * s + j)) 96 := pk_in (32 * s + j) 96 (by omega)
    have ea : mc_up (32 * s) j h (mc_dr h (-2)) (32 * s + j) = h (32 * s + j) := mc_upA (by omega)
    refine br_f (nI_ge (b := 32) (by omega) (by decide)) (nm_r (mc_ix s j) ⟨hi, ?_⟩)
    by_cases z : h (32 * s + j) = -2
    · refine br_t (by rw [ec, ea]; exact z) ⟨pk_in s 3 hs, ?_⟩
      by_cases y : dd s = 0
      · refine br_t (by rw [es]; exact y) ⟨hi, nm_r (e' := mc_up (32 * s) (j + 1) h (mc_dr h (-2))) (by rw [ec]; exact mc_upS (by omega) (if_pos z)) (nm_r (nI_1 j) ?_)⟩
        have := ih (j + 1) (by omega)
        rw [mc_upK (a := c) (k := 32 * s + j) (by omega) (if_neg (fun q => q.2 y))] at this
        exact this
      · exact br_f (by rw [es]; exact y) ⟨hi, hi, nm_r (e' := mc_up (32 * s) (j + 1) c (mc_se c h f (dd s))) (by rw [ec]; exact mc_upS (by omega) (if_pos ⟨z, y⟩)) ⟨hi, nm_r (e' := mc_up (32 * s) (j + 1) h (mc_dr h (-2))) (by rw [ec]; exact mc_upS (by omega) (if_pos z)) (nm_r (nI_1 j) (ih (j + 1) (by omega)))⟩⟩
    · refine br_f (by rw [ec, ea]; exact z) (nm_r (nI_1 j) ?_)
      have := ih (j + 1) (by omega)
      rw [mc_upK (a := c) (k := 32 * s + j) (by omega) (if_neg (fun q => z q.1)), mc_upK (a := h) (k := 32 * s + j) (by omega) (if_neg z)] at this
      exact this
theorem mx_settle1 {post : SX → Prop} {s : Nat} (hs : s < 3) (h1 : up s ≠ 0) (h3 : up 3 ≠ 0) (hp : post (mc_up (32 * s) 32 c (mc_se c h f (dd s)), mc_up (32 * s) 32 h (mc_dr h (-2)), f, st, up, dd)) : wpX_settle post (c, h, f, st, up, dd) (nI s) := by
  unfold wpX_settle; dsimp only
  refine ⟨pk_in s 4 (by omega), br_f (by rw [nI_clamp (by omega)]; exact h1) (br_f h3 ?_)⟩
  have := mx_settle21 c h f st up dd hs hp 32 0 (by omega)
  rw [mc_up0, mc_up0] at this
  exact ⟨33, this⟩
theorem mx_settle0 {post : SX → Prop} {s : Nat} (hs : s < 3) (h0 : up s = 0 ∨ up 3 = 0) (hp : post (c, h, f, st, up, dd)) : wpX_settle post (c, h, f, st, up, dd) (nI s) := by
  unfold wpX_settle; dsimp only
  refine ⟨pk_in s 4 (by omega), ?_⟩
  have es : (nI s).toNatClampNeg = s := nI_clamp (by omega)
  rw [es]
  by_cases h1 : up s = 0
  · exact br_t h1 hp
  · exact br_f h1 (br_t (h0.resolve_left h1) hp)
end
