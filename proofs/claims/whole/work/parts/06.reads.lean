/-! the constructors, and the calls that only read -/
section
variable (c h f st up dd : Nat → Int32)
def mc_o : Nat → Int32 := fun _ => 1
def mc_n1 : Nat → Int32 := fun _ => -1
def mc_n2 : Nat → Int32 := fun _ => -2
theorem mx_i80 {post : SX → Prop} (hp : post (c, h, f, st, mc_up 0 4 up mc_o, dd)) : ∀ e j, j + e = 4 → wX_init_80 post (e + 1) (nI j) c h f st (mc_up 0 j up mc_o) dd := by
  intro e
  induction e with
  | zero =>
    intro j hj
    obtain rfl : j = 4 := by omega
    exact br_t (by decide) hp
  | succ e ih =>
    intro j hj
    have cl : (nI j).toNatClampNeg = j := nI_clamp (by omega)
    exact br_f (nI_ge (b := 4) (by omega) (by decide)) ⟨pk_in j 4 (by omega), nm_r (e' := mc_up 0 (j + 1) up mc_o) (by rw [cl, mc_b1]; exact mc_upS (by omega) rfl) (nm_r (nI_1 j) (ih (j + 1) (by omega)))⟩
theorem mx_i51 {post : SX → Prop} (hp : post (mc_up 0 96 c mc_n2, mc_up 0 96 h mc_n1, f, st, mc_up 0 4 up mc_o, dd)) : ∀ e j, j + e = 96 → wX_init_51 post (e + 1) (nI j) (mc_up 0 j c mc_n2) (mc_up 0 j h mc_n1) f st up dd := by
  intro e
  induction e with
  | zero =>
    intro j hj
    obtain rfl : j = 96 := by omega
    have := mx_i80 _ _ f st up dd hp 4 0 (by omega)
    rw [mc_up0] at this
    exact br_t (by decide) ⟨5, this⟩
  | succ e ih =>
    intro j hj
    have cl : (nI j).toNatClampNeg = j := nI_clamp (by omega)
    exact br_f (nI_ge (b := 96) (by omega) (by decide)) ⟨pk_in j 96 (by omega), nm_r (e' := mc_up 0 (j + 1) c mc_n2) (by rw [cl]; exact mc_upS (by omega) rfl) ⟨pk_in j 96 (by omega), nm_r (e' := mc_up 0 (j + 1) h mc_n1) (by rw [cl]; exact mc_upS (by omega) rfl) (nm_r (nI_1 j) (ih (j + 1) (by omega)))⟩⟩
end
section
variable (v w g r d up id tb : Nat → Int32)
theorem my_i88 {post : SY → Prop} (hp : post (v, w, g, r, d, mc_up 0 4 up mc_o, id, tb)) : ∀ e j, j + e = 4 → wY_init_88 post (e + 1) (nI j) v w g r d (mc_up 0 j up mc_o) id tb := by
  intro e
  induction e with
  | zero =>
    intro j hj
    obtain rfl : j = 4 := by omega
    exact br_t (by decide) hp
  | succ e ih =>
    intro j hj
    have cl : (nI j).toNatClampNeg = j := nI_clamp (by omega)
    exact br_f (nI_ge (b := 4) (by omega) (by decide)) ⟨pk_in j 4 (by omega), nm_r (e' := mc_up 0 (j + 1) up mc_o) (by rw [cl, mc_b1]; exact mc_upS (by omega) rfl) (nm_r (nI_1 j) (ih (j + 1) (by omega)))⟩
theorem my_i67 {post : SY → Prop} (hp : post (mc_up 0 96 v mc_n1, w, g, r, d, mc_up 0 4 up mc_o, id, tb)) : ∀ e j, j + e = 96 → wY_init_67 post (e + 1) (nI j) (mc_up 0 j v mc_n1) w g r d up id tb := by
  intro e
  induction e with
  | zero =>
    intro j hj
    obtain rfl : j = 96 := by omega
    have := my_i88 _ w g r d up id tb hp 4 0 (by omega)
    rw [mc_up0] at this
    exact br_t (by decide) ⟨5, this⟩
  | succ e ih =>
    intro j hj
    have cl : (nI j).toNatClampNeg = j := nI_clamp (by omega)
    exact br_f (nI_ge (b := 96) (by omega) (by decide)) ⟨pk_in j 96 (by omega), nm_r (e' := mc_up 0 (j + 1) v mc_n1) (by rw [cl]; exact mc_upS (by omega) rfl) (nm_r (nI_1 j) (ih (j + 1) (by omega)))⟩
end
theorem mc_rel0 : i_Rel 0 (mc_up 0 96 mc_z mc_n2, mc_up 0 96 mc_z mc_n1, mc_z, mc_z, mc_up 0 4 mc_z mc_o, mc_z) (mc_up 0 96 mc_z mc_n1, mc_z, mc_z, mc_z, mc_z, mc_up 0 4 mc_z mc_o, mc_z, mc_z) := by
  have hh : ∀ i, i < 96 → mc_up 0 96 mc_z mc_n1 i = -1 := fun i hi => mc_upI (b := mc_n1) (by omega) (by omega)
  have hc : ∀ i, i < 96 → mc_up 0 96 mc_z mc_n2 i = -2 := fun i hi => mc_upI (b := mc_n2) (by omega) (by omega)
  have hn : ∀ i, i < 96 → ∀ t, t < 4 → mc_up 0 96 mc_z mc_n1 i ≠ nI t := fun i hi t ht e => mc_m1 t ht (e.symm.trans (hh i hi))
  refine ⟨rfl, ⟨?_, ?_, ?_, ?_, ?_, ?_, ?_⟩, ?_, ?_, ?_⟩
  · exact fun i hi => Or.inl ⟨hh i hi, hc i hi⟩
  · exact fun t _ => Or.inl ⟨rfl, rfl, rfl⟩
  · exact fun i hi t ht => Or.inr ⟨hn i hi t ht, rfl⟩
  · exact fun i hi => Or.inr ⟨by rw [hh i hi]; decide, Or.inl rfl⟩
  · exact fun i hi => Or.inl (hh i hi)
  · exact fun s _ => Or.inl rfl
  · intro t ht s hs
    rw [mc_cnZ 32 fun k hk => hn (32 * s + k) (by omega) t ht]
    exact Nat.zero_le 6
  · exact fun s _ => Or.inl rfl
  · exact fun _ t _ => rfl
  · exact fun i hi t ht e => absurd e (hn i hi t ht)
theorem i_vc0 : wpX_init (fun u => wpY_init (fun v => i_Rel 0 u v)) := by
  have hY : wpY_init (fun v => i_Rel 0 (mc_up 0 96 mc_z mc_n2, mc_up 0 96 mc_z mc_n1, mc_z, mc_z, mc_up 0 4 mc_z mc_o, mc_z) v) := by
    have := my_i67 mc_z mc_z mc_z mc_z mc_z mc_z mc_z mc_z (post := fun v => i_Rel 0 (mc_up 0 96 mc_z mc_n2, mc_up 0 96 mc_z mc_n1, mc_z, mc_z, mc_up 0 4 mc_z mc_o, mc_z) v) mc_rel0 96 0 (by omega)
    rw [mc_up0] at this
    exact ⟨97, this⟩
  have := mx_i51 mc_z mc_z mc_z mc_z mc_z mc_z (post := fun u => wpY_init (fun v => i_Rel 0 u v)) hY 96 0 (by omega)
  rw [mc_up0, mc_up0] at this
  exact ⟨97, this⟩
/-! status, isUp, idle, faults -/
theorem i_vc_status {k : Nat} {u : SX} {v : SY} (I : i_Rel k u v) (hk : k + 5 ≤ 2560) (v1 : Int32) : wpX_status (fun r => wpY_status (fun r' => r' = r ∧ i_Rel (k + 5) u v) v v1) u v1 := by
  have I' := I
  obtain ⟨c, h, f, st, up0, dd⟩ := u
  obtain ⟨vv, w, g, r, d, up, id, tb⟩ := v
  obtain ⟨hu, K, F1, F2, F3⟩ := I
  subst hu
  unfold wpX_status wpY_status
  dsimp only
  by_cases h0 : v1 < 0
  · exact br_t h0 (br_t h0 ⟨rfl, I'⟩)
  · obtain ⟨t, ht, rfl⟩ := nI_of h0
    have cl : (nI t).toNatClampNeg = t := nI_clamp ht
    by_cases h4 : t < 4
    · refine br_f h0 (br_t (nI_lt (b := 4) h4 (by decide)) ⟨pk_in t 4 h4, br_f h0 (br_t (nI_le (b := 3) (by omega) (by decide)) ⟨pk_in t 4 h4, ?_⟩)⟩)
      rw [cl]
      rcases K.2.1 t h4 with ⟨a, b, e⟩ | ⟨a, b, e⟩ | ⟨a, b, e⟩
      · exact br_t a ⟨e.symm, I'⟩
      · exact br_f (by rw [a]; decide) ⟨pk_in t 4 h4, br_t b ⟨e.symm, I'⟩⟩
      · exact br_f (by rw [a]; decide) ⟨pk_in t 4 h4, br_f (by rw [b]; decide) ⟨e.symm, I'⟩⟩
    · exact br_f h0 (br_f (nI_nlt (b := 4) (by omega) ht) (br_f h0 (br_f (nI_ge (a := 3) (by omega) ht) ⟨rfl, I'⟩)))
theorem i_vc_isUp {k : Nat} {u : SX} {v : SY} (I : i_Rel k u v) (hk : k + 5 ≤ 2560) (v1 : Int32) : wpX_isUp (fun r => wpY_isUp (fun r' => r' = r ∧ i_Rel (k + 5) u v) v v1) u v1 := by
  have I' := I
  obtain ⟨c, h, f, st, up0, dd⟩ := u
  obtain ⟨vv, w, g, r, d, up, id, tb⟩ := v
  obtain ⟨hu, K, F1, F2, F3⟩ := I
  subst hu
  unfold wpX_isUp wpY_isUp
  dsimp only
  by_cases h0 : v1 < 0
  · exact br_t h0 (br_t h0 ⟨rfl, I'⟩)
  · obtain ⟨t, ht, rfl⟩ := nI_of h0
    by_cases h4 : t < 4
    · refine br_f h0 (br_t (nI_lt (b := 4) h4 (by decide)) ⟨pk_in t 4 h4, ?_⟩)
      have l3 : nI t ≤ 3 := nI_le (b := 3) (by omega) (by decide)
      by_cases z : up (nI t).toNatClampNeg = 0
      · exact br_t z (br_f h0 (br_t l3 ⟨pk_in t 4 h4, br_t z ⟨rfl, I'⟩⟩))
      · exact br_f z (br_f h0 (br_t l3 ⟨pk_in t 4 h4, br_f z ⟨rfl, I'⟩⟩))
    · exact br_f h0 (br_f (nI_nlt (b := 4) (by omega) ht) (br_f h0 (br_f (nI_ge (a := 3) (by omega) ht) ⟨rfl, I'⟩)))
theorem i_vc_idle {k : Nat} {u : SX} {v : SY} (I : i_Rel k u v) (hk : k + 5 ≤ 2560) (v1 : Int32) (v2 : Int32) : wpX_idle (fun u' => wpY_idle (fun v' => i_Rel (k + 5) u' v') v v1 v2) u v1 v2 := by
  obtain ⟨c, h, f, st, up0, dd⟩ := u
  obtain ⟨vv, w, g, r, d, up, id, tb⟩ := v
  exact I
theorem i_vc_faults {k : Nat} {u : SX} {v : SY} (I : i_Rel k u v) (hk : k + 5 ≤ 2560) : wpX_faults (fun r => wpY_faults (fun r' => r' = r ∧ i_Rel (k + 5) u v) v) u := by
  obtain ⟨c, h, f, st, up0, dd⟩ := u
  obtain ⟨vv, w, g, r, d, up, id, tb⟩ := v
  exact ⟨rfl, I⟩
/-! written -/
section
variable (c h f st up dd v w g r d id tb : Nat → Int32)
theorem mx_wrt0 {post : Int32 → Prop} {x y : Int32} (hb : (∀ t, t < 4 → x = nI t → st t = 0) ∨ (∀ s, s < 3 → y ≠ nI s)) (hp : post (-1)) : wpX_written post (c, h, f, st, up, dd) x y := by
  unfold wpX_written; dsimp only
  by_cases hg : ∃ t, t < 4 ∧ x = nI t ∧ st t ≠ 0
  · obtain ⟨t, ht, rfl, hs⟩ := hg
    exact mx_g1 _ _ _ _ _ _ ht hs (br_f (by decide) (mx_s0 _ _ _ _ _ _ (hb.resolve_left fun q => hs (q t ht rfl)) (br_t rfl hp)))
  · exact mx_g0 _ _ _ _ _ _ (fun t ht e => Decidable.byContradiction fun q => hg ⟨t, ht, e, q⟩) (br_t rfl hp)
theorem mx_wrt {post : Int32 → Prop} {t s : Nat} (ht : t < 4) (hst : st t ≠ 0) (hs : s < 3) (hp : post (nI (mc_cn h (nI t) (32 * s) 32))) : wpX_written post (c, h, f, st, up, dd) (nI t) (nI s) := by
  unfold wpX_written; dsimp only
  exact mx_g1 _ _ _ _ _ _ ht hst (br_f (by decide) (mx_s1 _ _ _ _ _ _ hs (br_f (by decide) (mx_held _ _ _ _ _ _ hs hp))))
theorem my_wrt0 {post : Int32 → Prop} {x y : Int32} (hb : (∀ t, t < 4 → x = nI t → r t = 0) ∨ (∀ s, s < 3 → y ≠ nI s)) (hp : post (-1)) : wpY_written post (v, w, g, r, d, up, id, tb) x y := by
  unfold wpY_written; dsimp only
  by_cases hg : ∃ t, t < 4 ∧ x = nI t ∧ r t ≠ 0
  · obtain ⟨t, ht, rfl, hs⟩ := hg
    exact my_g1 _ _ _ _ _ _ _ _ ht hs (br_f (by decide) (my_s1 _ _ _ _ _ _ _ _ (hb.resolve_left fun q => hs (q t ht rfl)) (br_f (by decide) hp)))
  · exact my_g0 _ _ _ _ _ _ _ _ (fun t ht e => Decidable.byContradiction fun q => hg ⟨t, ht, e, q⟩) (br_t rfl hp)
theorem my_wrt {post : Int32 → Prop} {t s : Nat} (ht : t < 4) (hr : r t ≠ 0) (hs : s < 3) (hp : post (nI (mc_cz w (96 * t + 32 * s) 32))) : wpY_written post (v, w, g, r, d, up, id, tb) (nI t) (nI s) := by
  unfold wpY_written; dsimp only
  exact my_g1 _ _ _ _ _ _ _ _ ht hr (br_f (by decide) (my_s0 _ _ _ _ _ _ _ _ hs (br_t rfl (my_wf _ _ _ _ _ _ _ _ (mc_96 t) (by omega) hp))))
end
theorem i_vc_written {k : Nat} {u : SX} {v : SY} (I : i_Rel k u v) (hk : k + 5 ≤ 2560) (v1 : Int32) (v2 : Int32) : wpX_written (fun r => wpY_written (fun r' => r' = r ∧ i_Rel (k + 5) u v) v v1 v2) u v1 v2 := by
  have I' := I
  obtain ⟨c, h, f, st, up0, dd⟩ := u
  obtain ⟨vv, w, g, r, d, up, id, tb⟩ := v
  obtain ⟨hu, K, F1, F2, F3⟩ := I
  subst hu
  by_cases hg : ∃ t, t < 4 ∧ v1 = nI t ∧ st t ≠ 0
  · by_cases hs : ∃ s, s < 3 ∧ v2 = nI s
    · obtain ⟨t, ht, rfl, hst⟩ := hg
      obtain ⟨s, hs, rfl⟩ := hs
      refine mx_wrt _ _ _ _ _ _ ht hst hs (my_wrt _ _ _ _ _ _ _ _ ht (fun q => hst ((mc_Tr (K.2.1 t ht)).mpr q)) hs ⟨?_, I'⟩)
      rw [mc_cnt K ht hs]
    · have hb : ∀ s, s < 3 → v2 ≠ nI s := fun s h3 e => hs ⟨s, h3, e⟩
      exact mx_wrt0 _ _ _ _ _ _ (Or.inr hb) (my_wrt0 _ _ _ _ _ _ _ _ (Or.inr hb) ⟨rfl, I'⟩)
  · have hb : ∀ t, t < 4 → v1 = nI t → st t = 0 := fun t ht e => Decidable.byContradiction fun q => hg ⟨t, ht, e, q⟩
    exact mx_wrt0 _ _ _ _ _ _ (Or.inl hb) (my_wrt0 _ _ _ _ _ _ _ _ (Or.inl fun t ht e => (mc_Tr (K.2.1 t ht)).mp (hb t ht e)) ⟨rfl, I'⟩)
/-! look -/
section
variable (c h f st up dd v w g r d id tb : Nat → Int32)
theorem mx_look0 {post : Int32 → Prop} {x : Int32} (hb : ∀ i, i < 96 → x ≠ nI i) (hp : post (-1)) : wpX_look post (c, h, f, st, up, dd) x := by
  unfold wpX_look; dsimp only
  exact mx_c0 _ _ _ _ _ _ hb (br_t rfl hp)
theorem mx_look {post : Int32 → Prop} {i : Nat} (hi : i < 96) (H4 : up (i / 32) = 0 → post (-4)) (H5 : up (i / 32) ≠ 0 → h i = -2 → post (-5)) (H0 : up (i / 32) ≠ 0 → h i ≠ -2 → post (c i)) : wpX_look post (c, h, f, st, up, dd) (nI i) := by
  unfold wpX_look; dsimp only
  refine mx_c1 _ _ _ _ _ _ hi (br_f (by decide) ⟨by decide, ?_⟩)
  rw [mc_d32 hi, nI_clamp (show i / 32 < 2 ^ 31 by omega), nI_clamp (show i < 2 ^ 31 by omega)]
  exact ⟨pk_in (i / 32) 4 (by omega), br_c H4 fun h4 => ⟨pk_in i 96 hi, br_c (H5 h4) fun h5 => ⟨pk_in i 96 hi, H0 h4 h5⟩⟩⟩
theorem my_look0 {post : Int32 → Prop} {x : Int32} (hb : ∀ i, i < 96 → x ≠ nI i) (hp : post (-1)) : wpY_look post (v, w, g, r, d, up, id, tb) x := by
  unfold wpY_look; dsimp only
  exact my_c1 _ _ _ _ _ _ _ _ hb (br_f (by decide) hp)
theorem my_look4 {post : Int32 → Prop} {i : Nat} (hi : i < 96) (h4 : up (i / 32) = 0) (hp : post (-4)) : wpY_look post (v, w, g, r, d, up, id, tb) (nI i) := by
  unfold wpY_look; dsimp only
  refine my_c0 _ _ _ _ _ _ _ _ hi (br_t rfl ⟨by decide, ?_⟩)
  rw [mc_d32 hi, nI_clamp (show i / 32 < 2 ^ 31 by omega)]
  exact ⟨pk_in (i / 32) 4 (by omega), br_t h4 hp⟩
theorem my_look5 {post : Int32 → Prop} {i : Nat} (hi : i < 96) (h4 : up (i / 32) ≠ 0) (h5 : id (i / 32) ≠ 0) (h6 : w (384 + i) ≠ 0) (hp : post (-5)) : wpY_look post (v, w, g, r, d, up, id, tb) (nI i) := by
  unfold wpY_look; dsimp only
  refine my_c0 _ _ _ _ _ _ _ _ hi (br_t rfl ⟨by decide, ?_⟩)
  rw [mc_d32 hi, nI_clamp (show i / 32 < 2 ^ 31 by omega)]
  exact ⟨pk_in (i / 32) 4 (by omega), br_f h4 (my_dbt1 _ _ _ _ _ _ _ _ hi h5 h6 (br_f (by decide) hp))⟩
theorem my_look1 {post : Int32 → Prop} {i : Nat} (hi : i < 96) (h4 : up (i / 32) ≠ 0) (h5 : id (i / 32) = 0 ∨ w (384 + i) = 0) (hp : post (if 0 ≤ v i then v i else -2)) : wpY_look post (v, w, g, r, d, up, id, tb) (nI i) := by
  unfold wpY_look; dsimp only
  refine my_c0 _ _ _ _ _ _ _ _ hi (br_t rfl ⟨by decide, ?_⟩)
  rw [mc_d32 hi, nI_clamp (show i / 32 < 2 ^ 31 by omega), nI_clamp (show i < 2 ^ 31 by omega)]
  refine ⟨pk_in (i / 32) 4 (by omega), br_f h4 (my_dbt0 _ _ _ _ _ _ _ _ hi h5 (br_t rfl ⟨pk_in i 96 hi, ?_⟩))⟩
  by_cases z : 0 ≤ v i
  · rw [if_pos z] at hp; exact br_t z ⟨pk_in i 96 hi, hp⟩
  · rw [if_neg z] at hp; exact br_f z hp
theorem mc_Vi {c v : Nat → Int32} {i : Nat} (h : mc_V c v i) : (if 0 ≤ v i then v i else -2) = c i := by
  rcases h with ⟨a, b⟩ | ⟨a, b⟩
  · rw [a, b]; exact if_neg (by decide)
  · rw [if_pos a, b]
theorem mc_Vn {c v : Nat → Int32} {i : Nat} (h : mc_V c v i) : c i = -2 ↔ v i < 0 := by
  rcases h with ⟨a, b⟩ | ⟨a, b⟩
  · rw [a, b]; decide
  · rw [b]
    constructor
    · intro e; rw [e]; decide
    · intro e; exact absurd a (Int32.not_le.mpr e)
end
theorem i_vc_look {k : Nat} {u : SX} {v : SY} (I : i_Rel k u v) (hk : k + 5 ≤ 2560) (v1 : Int32) : wpX_look (fun r => wpY_look (fun r' => r' = r ∧ i_Rel (k + 5) u v) v v1) u v1 := by
  have I' := I
  obtain ⟨c, h, f, st, up0, dd⟩ := u
  obtain ⟨vv, w, g, r, d, up, id, tb⟩ := v
  obtain ⟨hu, K, F1, F2, F3⟩ := I
  subst hu
  by_cases hi : ∃ i, i < 96 ∧ v1 = nI i
  · obtain ⟨i, hi, rfl⟩ := hi
    refine mx_look _ _ _ _ _ _ hi (fun h4 => my_look4 _ _ _ _ _ _ _ _ hi h4 ⟨rfl, I'⟩) (fun h4 h5 => ?_) (fun h4 h5 => my_look1 _ _ _ _ _ _ _ _ hi h4 (mc_Dn (K.2.2.2.1 i hi) h5) ⟨mc_Vi (K.1 i hi), I'⟩)
    obtain ⟨a, b⟩ := (mc_Dw (K.2.2.2.1 i hi)).mp h5
    exact my_look5 _ _ _ _ _ _ _ _ hi h4 a b ⟨rfl, I'⟩
  · have hb : ∀ i, i < 96 → v1 ≠ nI i := fun i h9 e => hi ⟨i, h9, e⟩
    exact mx_look0 _ _ _ _ _ _ hb (my_look0 _ _ _ _ _ _ _ _ hb ⟨rfl, I'⟩)
