/-! begin, get, put, remove, abort -/
section
variable (c h f st up dd v w g r d id tb : Nat → Int32)
theorem mc_beg (HT : ∀ t, t < 4 → mc_T st r d t) : ∀ e j, j + e = 4 →
    ((∀ post : Int32 → SX → Prop, post (-7) (c, h, f, st, up, dd) → wX_begin_14 post c h f st up dd (e + 1) (nI j)) ∧ (∀ post : Int32 → SY → Prop, post (-7) (v, w, g, r, d, up, id, tb) → wY_begin_14 post v w g r d up id tb (e + 1) (nI j))) ∨
    ∃ t, t < 4 ∧ st t = 0 ∧ (∀ post : Int32 → SX → Prop, post (nI t) (c, h, f, upd st t 1, up, dd) → wX_begin_14 post c h f st up dd (e + 1) (nI j)) ∧ (∀ post : Int32 → SY → Prop, post (nI t) (v, w, g, upd r t 1, d, up, id, tb) → wY_begin_14 post v w g r d up id tb (e + 1) (nI j)) := by
  intro e
  induction e with
  | zero =>
    intro j hj
    obtain rfl : j = 4 := by omega
    exact Or.inl ⟨fun post hp => br_t (by decide) hp, fun post hp => br_t (by decide) hp⟩
  | succ e ih =>
    intro j hj
    have h4 : j < 4 := by omega
    have g4 : ¬ (4 : Int32) ≤ nI j := nI_ge (b := 4) (by omega) (by decide)
    have cl : (nI j).toNatClampNeg = j := nI_clamp (by omega)
    have hi : vp_in (nI j) 4 := pk_in j 4 h4
    by_cases z : st j = 0
    · exact Or.inr ⟨j, h4, z, fun post hp => br_f g4 ⟨hi, br_t (by rw [cl]; exact z) ⟨hi, nm_r (e' := upd st j 1) (by rw [cl]) hp⟩⟩, fun post hp => br_f g4 ⟨hi, br_t (by rw [cl]; exact (mc_Tr (HT j h4)).mp z) ⟨hi, nm_r (e' := upd r j 1) (by rw [cl, mc_b1]) hp⟩⟩⟩
    · have zr : ¬ r j = 0 := fun q => z ((mc_Tr (HT j h4)).mpr q)
      rcases ih (j + 1) (by omega) with ⟨a, b⟩ | ⟨t, ht, hs, a, b⟩
      · exact Or.inl ⟨fun post hp => br_f g4 ⟨hi, br_f (by rw [cl]; exact z) (nm_r (nI_1 j) (a post hp))⟩, fun post hp => br_f g4 ⟨hi, br_f (by rw [cl]; exact zr) (nm_r (nI_1 j) (b post hp))⟩⟩
      · exact Or.inr ⟨t, ht, hs, fun post hp => br_f g4 ⟨hi, br_f (by rw [cl]; exact z) (nm_r (nI_1 j) (a post hp))⟩, fun post hp => br_f g4 ⟨hi, br_f (by rw [cl]; exact zr) (nm_r (nI_1 j) (b post hp))⟩⟩
end
theorem mc_begK {c h f st dd v w g r d id tb : Nat → Int32} (K : mc_Core c h f st dd v w g r d id tb) {t : Nat} (ht : t < 4) (h0 : st t = 0) : mc_Core c h f (upd st t 1) dd v w g (upd r t 1) d id tb := by
  have K' := K
  obtain ⟨KV, KT, KH, KD, KN, KB, KC⟩ := K
  refine ⟨KV, ?_, ?_, KD, KN, KB, KC⟩
  · intro q hq
    by_cases z : q = t
    · subst z
      refine Or.inr (Or.inl ⟨pk_us, ?_, pk_us⟩)
      rcases KT q hq with ⟨_, b, _⟩ | ⟨_, b, _⟩ | ⟨_, _, b⟩
      · exact b
      · exact b
      · rw [h0] at b; exact absurd b (by decide)
    · have := KT q hq
      unfold mc_T at this ⊢
      rw [pk_un z, pk_un z]; exact this
  · intro i hi q hq
    by_cases z : q = t
    · subst z
      have hn := mc_no K' hq (by rw [h0]; decide) i hi
      rcases KH i hi q hq with ⟨a, _, _⟩ | b
      · exact absurd a hn
      · exact Or.inr b
    · have := KH i hi q hq
      unfold mc_H at this ⊢
      rw [pk_un z]; exact this
theorem i_vc_begin {k : Nat} {u : SX} {v : SY} (I : i_Rel k u v) (hk : k + 5 ≤ 2560) : wpX_begin (fun r u' => wpY_begin (fun r' v' => r' = r ∧ i_Rel (k + 5) u' v') v) u := by
  have I' := I
  obtain ⟨c, h, f, st, up0, dd⟩ := u
  obtain ⟨vv, w, g, r, d, up, id, tb⟩ := v
  obtain ⟨hu, K, F1, F2, F3⟩ := I
  subst hu
  unfold wpX_begin wpY_begin
  dsimp only
  by_cases z : up 3 = 0
  · exact br_t z (br_t z ⟨rfl, I'⟩)
  · rcases mc_beg c h f st up dd vv w g r d id tb K.2.1 4 0 (by omega) with ⟨a, b⟩ | ⟨t, ht, hs, a, b⟩
    · exact br_f z ⟨5, a _ (br_f z ⟨5, b _ ⟨rfl, I'⟩⟩)⟩
    · exact br_f z ⟨5, a _ (br_f z ⟨5, b _ ⟨rfl, rfl, mc_begK K ht hs, F1, fun q => absurd q z, F3⟩⟩)⟩
/-! get -/
section
variable (c h f st up dd v w g r d id tb : Nat → Int32)
theorem mx_rtr0 {post : Int32 → Prop} {x y : Int32} (hb : (∀ t, t < 4 → x = nI t → st t = 0) ∨ (∀ i, i < 96 → y ≠ nI i)) (hp : post (-1)) : wpX_refusalToRead post (c, h, f, st, up, dd) x y := by
  unfold wpX_refusalToRead; dsimp only
  by_cases hg : ∃ t, t < 4 ∧ x = nI t ∧ st t ≠ 0
  · obtain ⟨t, ht, rfl, hs⟩ := hg
    exact mx_g1 _ _ _ _ _ _ ht hs (br_f (by decide) (mx_c0 _ _ _ _ _ _ (hb.resolve_left fun q => hs (q t ht rfl)) (br_t rfl hp)))
  · exact mx_g0 _ _ _ _ _ _ (fun t ht e => Decidable.byContradiction fun q => hg ⟨t, ht, e, q⟩) (br_t rfl hp)
theorem mx_rtr {post : Int32 → Prop} {t i : Nat} (ht : t < 4) (hs : st t ≠ 0) (hi : i < 96) (H6 : st t = 2 → post (-6)) (H4 : st t ≠ 2 → up (i / 32) = 0 → post (-4)) (H5 : st t ≠ 2 → up (i / 32) ≠ 0 → h i = -2 → post (-5)) (H0 : st t ≠ 2 → up (i / 32) ≠ 0 → h i ≠ -2 → post 0) : wpX_refusalToRead post (c, h, f, st, up, dd) (nI t) (nI i) := by
  unfold wpX_refusalToRead; dsimp only
  refine mx_g1 _ _ _ _ _ _ ht hs (br_f (by decide) (mx_c1 _ _ _ _ _ _ hi (br_f (by decide) ⟨pk_in t 4 ht, ?_⟩)))
  rw [mc_d32 hi, nI_clamp (show i / 32 < 2 ^ 31 by omega), nI_clamp (show i < 2 ^ 31 by omega), nI_clamp (show t < 2 ^ 31 by omega)]
  exact br_c H6 fun h6 => ⟨by decide, pk_in (i / 32) 4 (by omega), br_c (H4 h6) fun h4 => ⟨pk_in i 96 hi, br_c (H5 h6 h4) (H0 h6 h4)⟩⟩
theorem mx_seen {post : Int32 → Prop} {i : Nat} {x : Int32} (hi : i < 96) (hp : post (if h i = x then f i else c i)) : wpX_seenBy post (c, h, f, st, up, dd) x (nI i) := by
  unfold wpX_seenBy; dsimp only
  rw [nI_clamp (show i < 2 ^ 31 by omega)]
  refine ⟨pk_in i 96 hi, ?_⟩
  by_cases z : h i = x
  · rw [if_pos z] at hp; exact br_t z ⟨pk_in i 96 hi, hp⟩
  · rw [if_neg z] at hp; exact br_f z ⟨pk_in i 96 hi, hp⟩
theorem my_get0 {post : Int32 → Prop} {x y : Int32} (hb : (∀ t, t < 4 → x = nI t → r t = 0) ∨ (∀ i, i < 96 → y ≠ nI i)) (hp : post (-1)) : wpY_get post (v, w, g, r, d, up, id, tb) x y := by
  unfold wpY_get; dsimp only
  by_cases hg : ∃ t, t < 4 ∧ x = nI t ∧ r t ≠ 0
  · obtain ⟨t, ht, rfl, hs⟩ := hg
    exact my_g1 _ _ _ _ _ _ _ _ ht hs (br_f (by decide) (my_c1 _ _ _ _ _ _ _ _ (hb.resolve_left fun q => hs (q t ht rfl)) (br_f (by decide) hp)))
  · exact my_g0 _ _ _ _ _ _ _ _ (fun t ht e => Decidable.byContradiction fun q => hg ⟨t, ht, e, q⟩) (br_t rfl hp)
theorem my_get {post : Int32 → Prop} {t i : Nat} (ht : t < 4) (hr : r t ≠ 0) (hi : i < 96) (H6 : d t ≠ 0 → post (-6)) (H4 : d t = 0 → up (i / 32) = 0 → post (-4)) (H5 : d t = 0 → up (i / 32) ≠ 0 → id (i / 32) ≠ 0 → w (384 + i) ≠ 0 → post (-5)) (H0 : d t = 0 → up (i / 32) ≠ 0 → (id (i / 32) = 0 ∨ w (384 + i) = 0) → post (if 0 ≤ mc_sn v w g t i then mc_sn v w g t i else -2)) : wpY_get post (v, w, g, r, d, up, id, tb) (nI t) (nI i) := by
  unfold wpY_get; dsimp only
  refine my_g1 _ _ _ _ _ _ _ _ ht hr (br_f (by decide) (my_c0 _ _ _ _ _ _ _ _ hi (br_t rfl ⟨pk_in t 4 ht, ?_⟩)))
  rw [mc_d32 hi, nI_clamp (show i / 32 < 2 ^ 31 by omega), nI_clamp (show t < 2 ^ 31 by omega)]
  refine br_c (fun h6 => ⟨by decide, pk_in (i / 32) 4 (by omega), br_c (H4 h6) fun h4 => ?_⟩) H6
  by_cases z1 : id (i / 32) = 0 ∨ w (384 + i) = 0
  · refine my_dbt0 _ _ _ _ _ _ _ _ hi z1 (br_t rfl (my_seen _ _ _ _ _ _ _ _ ht hi ?_))
    have := H0 h6 h4 z1
    by_cases z : 0 ≤ mc_sn v w g t i
    · rw [if_pos z] at this; exact br_t z this
    · rw [if_neg z] at this; exact br_f z this
  · have z2 : id (i / 32) ≠ 0 := fun q => z1 (Or.inl q)
    have z3 : w (384 + i) ≠ 0 := fun q => z1 (Or.inr q)
    exact my_dbt1 _ _ _ _ _ _ _ _ hi z2 z3 (br_f (by decide) (H5 h6 h4 z2 z3))
end
theorem mc_snE {c h f st v w g : Nat → Int32} {t i : Nat} (HH : mc_H h f st w g i t) (HV : mc_V c v i) : (if 0 ≤ mc_sn v w g t i then mc_sn v w g t i else -2) = (if h i = nI t then f i else c i) := by
  rcases HH with ⟨a, _, ⟨b1, b2, b3⟩ | ⟨b1, b2⟩⟩ | ⟨a, b⟩
  · have e : mc_sn v w g t i = f i := by
      unfold mc_sn
      rw [b1]; exact b2
    rw [if_pos a, e, if_pos b3]
  · have e : mc_sn v w g t i = -1 := by
      unfold mc_sn
      rw [b1]; rfl
    rw [if_pos a, e, b2]; exact if_neg (by decide)
  · have e : mc_sn v w g t i = v i := if_pos b
    rw [if_neg a, e]; exact mc_Vi HV
theorem i_vc_get {k : Nat} {u : SX} {v : SY} (I : i_Rel k u v) (hk : k + 5 ≤ 2560) (v1 : Int32) (v2 : Int32) : wpX_get (fun r => wpY_get (fun r' => r' = r ∧ i_Rel (k + 5) u v) v v1 v2) u v1 v2 := by
  have I' := I
  obtain ⟨c, h, f, st, up0, dd⟩ := u
  obtain ⟨vv, w, g, r, d, up, id, tb⟩ := v
  obtain ⟨hu, K, F1, F2, F3⟩ := I
  subst hu
  unfold wpX_get
  dsimp only
  by_cases hg : ∃ t, t < 4 ∧ v1 = nI t ∧ st t ≠ 0
  · by_cases hs : ∃ i, i < 96 ∧ v2 = nI i
    · obtain ⟨t, ht, rfl, hst⟩ := hg
      obtain ⟨i, hi, rfl⟩ := hs
      have hr : r t ≠ 0 := fun q => hst ((mc_Tr (K.2.1 t ht)).mpr q)
      have hd := mc_Td (K.2.1 t ht)
      have hD := mc_Dw (K.2.2.2.1 i hi)
      refine mx_rtr _ _ _ _ _ _ ht hst hi (fun h6 => br_f (by decide) ?_) (fun h6 h4 => br_f (by decide) ?_) (fun h6 h4 h5 => br_f (by decide) ?_) (fun h6 h4 h5 => br_t rfl (mx_seen _ _ _ _ _ _ hi ?_))
      · exact my_get _ _ _ _ _ _ _ _ ht hr hi (fun _ => ⟨rfl, I'⟩) (fun q => absurd q (hd.mp h6)) (fun q => absurd q (hd.mp h6)) (fun q => absurd q (hd.mp h6))
      · exact my_get _ _ _ _ _ _ _ _ ht hr hi (fun q => absurd (hd.mpr q) h6) (fun _ _ => ⟨rfl, I'⟩) (fun _ q => absurd h4 q) (fun _ q => absurd h4 q)
      · exact my_get _ _ _ _ _ _ _ _ ht hr hi (fun q => absurd (hd.mpr q) h6) (fun _ q => absurd q h4) (fun _ _ _ _ => ⟨rfl, I'⟩) (fun _ _ q => q.elim (fun x => absurd x (hD.mp h5).1) (fun x => absurd x (hD.mp h5).2))
      · exact my_get _ _ _ _ _ _ _ _ ht hr hi (fun q => absurd (hd.mpr q) h6) (fun _ q => absurd q h4) (fun _ _ x y => absurd (hD.mpr ⟨x, y⟩) h5) (fun _ _ _ => ⟨mc_snE (K.2.2.1 i hi t ht) (K.1 i hi), I'⟩)
    · have hb : ∀ i, i < 96 → v2 ≠ nI i := fun s h3 e => hs ⟨s, h3, e⟩
      exact mx_rtr0 _ _ _ _ _ _ (Or.inr hb) (br_f (by decide) (my_get0 _ _ _ _ _ _ _ _ (Or.inr hb) ⟨rfl, I'⟩))
  · have hb : ∀ t, t < 4 → v1 = nI t → st t = 0 := fun t ht e => Decidable.byContradiction fun q => hg ⟨t, ht, e, q⟩
    exact mx_rtr0 _ _ _ _ _ _ (Or.inl hb) (br_f (by decide) (my_get0 _ _ _ _ _ _ _ _ (Or.inl fun t ht e => (mc_Tr (K.2.1 t ht)).mp (hb t ht e)) ⟨rfl, I'⟩))
/-! the refusals of a write -/
section
variable (c h f st up dd v w g r d id tb : Nat → Int32)
theorem mx_rtw0 {post : Int32 → Prop} {x y : Int32} (hb : (∀ t, t < 4 → x = nI t → st t = 0) ∨ (∀ i, i < 96 → y ≠ nI i)) (hp : post (-1)) : wpX_refusalToWrite post (c, h, f, st, up, dd) x y := by
  unfold wpX_refusalToWrite; dsimp only
  exact mx_rtr0 _ _ _ _ _ _ hb (br_f (by decide) hp)
theorem mx_rtwR {post : Int32 → Prop} {t i : Nat} {q : Int32} (hq : q ≠ 0) (hR : ∀ post : Int32 → Prop, post q → wpX_refusalToRead post (c, h, f, st, up, dd) (nI t) (nI i)) (hp : post q) : wpX_refusalToWrite post (c, h, f, st, up, dd) (nI t) (nI i) := by
  unfold wpX_refusalToWrite; dsimp only
  exact hR _ (br_f hq hp)
theorem mx_rtwM {post : Int32 → Prop} {t i : Nat} (hi : i < 96) (hR : ∀ post : Int32 → Prop, post 0 → wpX_refusalToRead post (c, h, f, st, up, dd) (nI t) (nI i)) (hm : h i = nI t) (hp : post 0) : wpX_refusalToWrite post (c, h, f, st, up, dd) (nI t) (nI i) := by
  unfold wpX_refusalToWrite; dsimp only
  refine hR _ (br_t rfl ⟨pk_in i 96 hi, br_t ?_ hp⟩)
  rw [nI_clamp (by omega)]; exact hm
theorem mx_rtwB {post : Int32 → Prop} {t i : Nat} (hi : i < 96) (hR : ∀ post : Int32 → Prop, post 0 → wpX_refusalToRead post (c, h, f, st, up, dd) (nI t) (nI i)) (hm : h i ≠ nI t) (hn : h i ≠ -1) (hp : post (-3)) : wpX_refusalToWrite post (c, h, f, st, up, dd) (nI t) (nI i) := by
  unfold wpX_refusalToWrite; dsimp only
  have cl : (nI i).toNatClampNeg = i := nI_clamp (by omega)
  exact hR _ (br_t rfl ⟨pk_in i 96 hi, br_f (by rw [cl]; exact hm) ⟨pk_in i 96 hi, br_f (by rw [cl]; exact hn) hp⟩⟩)
theorem mx_rtwF {post : Int32 → Prop} {t i : Nat} (hi : i < 96) (hR : ∀ post : Int32 → Prop, post 0 → wpX_refusalToRead post (c, h, f, st, up, dd) (nI t) (nI i)) (hm : h i ≠ nI t) (hn : h i = -1) (hp : post (if mc_cn h (nI t) (32 * (i / 32)) 32 < 6 then 0 else -7)) : wpX_refusalToWrite post (c, h, f, st, up, dd) (nI t) (nI i) := by
  unfold wpX_refusalToWrite; dsimp only
  have cl : (nI i).toNatClampNeg = i := nI_clamp (by omega)
  refine hR _ (br_t rfl ⟨pk_in i 96 hi, br_f (by rw [cl]; exact hm) ⟨pk_in i 96 hi, br_t (by rw [cl]; exact hn) ⟨by decide, ?_⟩⟩⟩)
  rw [mc_d32 hi]
  refine mx_held _ _ _ _ _ _ (by omega) ?_
  have hl := mc_cnL h (nI t) (32 * (i / 32)) 32
  by_cases z : mc_cn h (nI t) (32 * (i / 32)) 32 < 6
  · rw [if_pos z] at hp; exact br_t (nI_lt (b := 6) z (by decide)) hp
  · rw [if_neg z] at hp; exact br_f (nI_nlt (b := 6) (by omega) (by omega)) hp
theorem my_rf6 {post : Int32 → Prop} {t : Nat} {y : Int32} (ht : t < 4) (h6 : d t ≠ 0) (hp : post (-6)) : wpY_refused post (v, w, g, r, d, up, id, tb) (nI t) y := by
  unfold wpY_refused; dsimp only
  exact ⟨pk_in t 4 ht, br_f (by rw [nI_clamp (by omega)]; exact h6) hp⟩
theorem my_rf4 {post : Int32 → Prop} {t i : Nat} (ht : t < 4) (hi : i < 96) (h6 : d t = 0) (h4 : up (i / 32) = 0) (hp : post (-4)) : wpY_refused post (v, w, g, r, d, up, id, tb) (nI t) (nI i) := by
  unfold wpY_refused; dsimp only
  exact ⟨pk_in t 4 ht, br_t (by rw [nI_clamp (by omega)]; exact h6) ⟨by decide, nm_r (mc_d32 hi) ⟨pk_in (i / 32) 4 (by omega), br_t (by rw [nI_clamp (by omega)]; exact h4) hp⟩⟩⟩
theorem my_rf5 {post : Int32 → Prop} {t i : Nat} (ht : t < 4) (hi : i < 96) (h6 : d t = 0) (h4 : up (i / 32) ≠ 0) (h5 : id (i / 32) ≠ 0) (h7 : w (384 + i) ≠ 0) (hp : post (-5)) : wpY_refused post (v, w, g, r, d, up, id, tb) (nI t) (nI i) := by
  unfold wpY_refused; dsimp only
  exact ⟨pk_in t 4 ht, br_t (by rw [nI_clamp (by omega)]; exact h6) ⟨by decide, nm_r (mc_d32 hi) ⟨pk_in (i / 32) 4 (by omega), br_f (by rw [nI_clamp (by omega)]; exact h4) (my_dbt1 _ _ _ _ _ _ _ _ hi h5 h7 (br_f (by decide) hp))⟩⟩⟩
theorem my_rfL {post : Int32 → Prop} {t i : Nat} (ht : t < 4) (hi : i < 96) (h6 : d t = 0) (h4 : up (i / 32) ≠ 0) (h5 : id (i / 32) = 0 ∨ w (384 + i) = 0) (hp : ∃ n, wY_refused_43 post (nI t) (nI i) (nI (i / 32)) v w g r d up id tb n 0) : wpY_refused post (v, w, g, r, d, up, id, tb) (nI t) (nI i) := by
  unfold wpY_refused; dsimp only
  exact ⟨pk_in t 4 ht, br_t (by rw [nI_clamp (by omega)]; exact h6) ⟨by decide, nm_r (mc_d32 hi) ⟨pk_in (i / 32) 4 (by omega), br_f (by rw [nI_clamp (by omega)]; exact h4) (my_dbt0 _ _ _ _ _ _ _ _ hi h5 (br_t rfl hp))⟩⟩⟩
theorem my_rfB {post : Int32 → Prop} {t i o : Nat} (ht : t < 4) (hi : i < 96) (ho : o < 4) (hot : o ≠ t) (hw : w (96 * o + i) ≠ 0) (hp : post (-3)) : ∀ e j, j + e = 4 → j ≤ o → wY_refused_43 post (nI t) (nI i) (nI (i / 32)) v w g r d up id tb (e + 1) (nI j) := by
  intro e
  induction e with
  | zero => intro j hj hjo; omega
  | succ e ih =>
    intro j hj hjo
    have g4 : ¬ (4 : Int32) ≤ nI j := nI_ge (b := 4) (by omega) (by decide)
    have ee := mc_ix9 j i
    have ec : (96 * nI j + nI i : Int32).toNatClampNeg = 96 * j + i := by rw [ee]; exact nI_clamp (by omega)
    refine br_f g4 ?_
    by_cases z : j = t
    · exact br_t (by rw [z]) (nm_r (nI_1 j) (ih (j + 1) (by omega) (by omega)))
    · refine br_f (fun q => z (mc_inj (by omega) ht q)) ⟨pk_in (96 * j + i) 480 (by omega) ee, ?_⟩
      by_cases y : w (96 * j + i) = 0
      · have : j ≠ o := fun q => hw (by rw [← q]; exact y)
        exact br_t (by rw [ec]; exact y) (nm_r (nI_1 j) (ih (j + 1) (by omega) (by omega)))
      · exact br_f (by rw [ec]; exact y) hp
theorem my_rfF {post : Int32 → Prop} {t i : Nat} (ht : t < 4) (hi : i < 96) (hw : ∀ o, o < 4 → o ≠ t → w (96 * o + i) = 0) (hp : post (if w (96 * t + i) = 0 ∧ mc_cz w (96 * t + 32 * (i / 32)) 32 = 6 then -7 else 0)) : ∀ e j, j + e = 4 → wY_refused_43 post (nI t) (nI i) (nI (i / 32)) v w g r d up id tb (e + 1) (nI j) := by
  intro e
  induction e with
  | zero =>
    intro j hj
    obtain rfl : j = 4 := by omega
    have ee := mc_ix9 t i
    have ec : (96 * nI t + nI i : Int32).toNatClampNeg = 96 * t + i := by rw [ee]; exact nI_clamp (by omega)
    refine br_t (by decide) ⟨pk_in (96 * t + i) 480 (by omega) ee, ?_⟩
    by_cases z : w (96 * t + i) = 0
    · refine br_t (by rw [ec]; exact z) (my_wf _ _ _ _ _ _ _ _ (mc_96 t) (by omega) ?_)
      have hl := mc_czL w (96 * t + 32 * (i / 32)) 32
      by_cases y : mc_cz w (96 * t + 32 * (i / 32)) 32 = 6
      · rw [if_pos ⟨z, y⟩] at hp
        exact br_t (by rw [y]; rfl) hp
      · rw [if_neg (fun q => y q.2)] at hp
        exact br_f (fun q => y ((nI_eq (b := 6) (by omega) (by decide)).mp q)) hp
    · rw [if_neg (fun q => z q.1)] at hp
      exact br_f (by rw [ec]; exact z) hp
  | succ e ih =>
    intro j hj
    have g4 : ¬ (4 : Int32) ≤ nI j := nI_ge (b := 4) (by omega) (by decide)
    have ee := mc_ix9 j i
    have ec : (96 * nI j + nI i : Int32).toNatClampNeg = 96 * j + i := by rw [ee]; exact nI_clamp (by omega)
    refine br_f g4 ?_
    by_cases z : j = t
    · exact br_t (by rw [z]) (nm_r (nI_1 j) (ih (j + 1) (by omega)))
    · exact br_f (fun q => z (mc_inj (by omega) ht q)) ⟨pk_in (96 * j + i) 480 (by omega) ee, br_t (by rw [ec]; exact hw j (by omega) z) (nm_r (nI_1 j) (ih (j + 1) (by omega)))⟩
end
/-- both sides refuse a write alike; where they don't refuse it, it may be done -/
theorem mc_ref {c h f st dd v w g r d id tb : Nat → Int32} (up : Nat → Int32) (K : mc_Core c h f st dd v w g r d id tb) {t i : Nat} (ht : t < 4) (hst : st t ≠ 0) (hi : i < 96) : ∃ q : Int32,
    (∀ post : Int32 → Prop, post q → wpX_refusalToWrite post (c, h, f, st, up, dd) (nI t) (nI i)) ∧ (∀ post : Int32 → Prop, post q → wpY_refused post (v, w, g, r, d, up, id, tb) (nI t) (nI i)) ∧
    (q = 0 → st t = 1 ∧ up (i / 32) ≠ 0 ∧ (h i = nI t ∨ (h i = -1 ∧ mc_cn h (nI t) (32 * (i / 32)) 32 < 6))) := by
  have hd := mc_Td (K.2.1 t ht)
  have hD := mc_Dw (K.2.2.2.1 i hi)
  by_cases h6 : st t = 2
  · exact ⟨-6, fun post hp => mx_rtwR _ _ _ _ _ _ (q := -6) (by decide) (fun post hp => mx_rtr _ _ _ _ _ _ ht hst hi (fun _ => hp) (fun q => absurd h6 q) (fun q => absurd h6 q) (fun q => absurd h6 q)) hp, fun post hp => my_rf6 _ _ _ _ _ _ _ _ ht (hd.mp h6) hp, fun q => absurd q (by decide)⟩
  · have d0 : d t = 0 := Decidable.byContradiction fun q => h6 (hd.mpr q)
    have s1 : st t = 1 := by
      rcases K.2.1 t ht with ⟨_, _, q⟩ | ⟨_, _, q⟩ | ⟨_, _, q⟩
      · exact absurd q hst
      · exact q
      · exact absurd q h6
    by_cases h4 : up (i / 32) = 0
    · exact ⟨-4, fun post hp => mx_rtwR _ _ _ _ _ _ (q := -4) (by decide) (fun post hp => mx_rtr _ _ _ _ _ _ ht hst hi (fun q => absurd q h6) (fun _ _ => hp) (fun _ q => absurd h4 q) (fun _ q => absurd h4 q)) hp, fun post hp => my_rf4 _ _ _ _ _ _ _ _ ht hi d0 h4 hp, fun q => absurd q (by decide)⟩
    · by_cases h5 : h i = -2
      · exact ⟨-5, fun post hp => mx_rtwR _ _ _ _ _ _ (q := -5) (by decide) (fun post hp => mx_rtr _ _ _ _ _ _ ht hst hi (fun q => absurd q h6) (fun _ q => absurd q h4) (fun _ _ _ => hp) (fun _ _ q => absurd h5 q)) hp, fun post hp => my_rf5 _ _ _ _ _ _ _ _ ht hi d0 h4 (hD.mp h5).1 (hD.mp h5).2 hp, fun q => absurd q (by decide)⟩
      · have hR : ∀ post : Int32 → Prop, post 0 → wpX_refusalToRead post (c, h, f, st, up, dd) (nI t) (nI i) := fun post hp => mx_rtr _ _ _ _ _ _ ht hst hi (fun q => absurd q h6) (fun _ q => absurd q h4) (fun _ _ q => absurd q h5) (fun _ _ _ => hp)
        have h5' := mc_Dn (K.2.2.2.1 i hi) h5
        by_cases hm : h i = nI t
        · refine ⟨0, fun post hp => mx_rtwM _ _ _ _ _ _ hi hR hm hp, fun post hp => my_rfL _ _ _ _ _ _ _ _ ht hi d0 h4 h5' ⟨5, my_rfF _ _ _ _ _ _ _ _ ht hi ?_ ?_ 4 0 (by omega)⟩, fun _ => ⟨s1, h4, Or.inl hm⟩⟩
          · intro o ho hot
            exact Decidable.byContradiction fun q => hot (mc_inj ho ht (((mc_Hw (K.2.2.1 i hi o ho)).mpr q).symm.trans hm))
          · rw [if_neg (fun q => (mc_Hw (K.2.2.1 i hi t ht)).mp hm q.1)]; exact hp
        · by_cases hn : h i = -1
          · have hno : ∀ o, o < 4 → w (96 * o + i) = 0 := fun o ho => Decidable.byContradiction fun q => mc_m1 o ho (((mc_Hw (K.2.2.1 i hi o ho)).mpr q).symm.trans hn)
            have e1 : (if mc_cn h (nI t) (32 * (i / 32)) 32 < 6 then (0 : Int32) else -7) = (if w (96 * t + i) = 0 ∧ mc_cz w (96 * t + 32 * (i / 32)) 32 = 6 then -7 else 0) := by
              have hle := K.2.2.2.2.2.2 t ht (i / 32) (by omega)
              rw [mc_cnt K ht (by omega)] at hle ⊢
              by_cases z : mc_cz w (96 * t + 32 * (i / 32)) 32 < 6
              · rw [if_pos z, if_neg (by omega)]
              · rw [if_neg z, if_pos ⟨hno t ht, by omega⟩]
            refine ⟨_, fun post hp => mx_rtwF _ _ _ _ _ _ hi hR hm hn hp, fun post hp => my_rfL _ _ _ _ _ _ _ _ ht hi d0 h4 h5' ⟨5, my_rfF _ _ _ _ _ _ _ _ ht hi (fun o ho _ => hno o ho) ?_ 4 0 (by omega)⟩, fun q => ⟨s1, h4, Or.inr ⟨hn, ?_⟩⟩⟩
            · rw [← e1]; exact hp
            · refine Decidable.byContradiction fun z => ?_
              rw [if_neg z] at q; exact absurd q (by decide)
          · obtain ⟨o, ho, eo⟩ : ∃ o, o < 4 ∧ h i = nI o := by
              rcases K.2.2.2.2.1 i hi with q | q | q
              · exact absurd q hn
              · exact absurd q h5
              · exact q
            exact ⟨-3, fun post hp => mx_rtwB _ _ _ _ _ _ hi hR hm hn hp, fun post hp => my_rfL _ _ _ _ _ _ _ _ ht hi d0 h4 h5' ⟨5, my_rfB _ _ _ _ _ _ _ _ ht hi ho (fun q => hm (by rw [← q]; exact eo)) ((mc_Hw (K.2.2.1 i hi o ho)).mp eo) hp 4 0 (by omega) (by omega)⟩, fun q => absurd q (by decide)⟩
