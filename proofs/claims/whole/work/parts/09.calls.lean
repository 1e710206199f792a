/-! put, remove, abort, crash, start, crashLeader, startLeader -/
section
variable (c h f st up dd v w g r d id tb : Nat → Int32)
theorem mx_write {post : Int32 → SX → Prop} {i : Nat} {x y : Int32} (hi : i < 96) (hp : post (nI (mc_cn (upd h i x) x (32 * (i / 32)) 32)) (c, upd h i x, upd f i y, st, up, dd)) : wpX_write post (c, h, f, st, up, dd) x (nI i) y := by
  unfold wpX_write; dsimp only
  have cl : (nI i).toNatClampNeg = i := nI_clamp (by omega)
  refine ⟨pk_in i 96 hi, nm_r (e' := upd h i x) (by rw [cl]) ⟨pk_in i 96 hi, nm_r (e' := upd f i y) (by rw [cl]) ⟨by decide, ?_⟩⟩⟩
  rw [mc_d32 hi]
  exact mx_held _ _ _ _ _ _ (by omega) hp
theorem mx_putV {post : Int32 → SX → Prop} {x y p : Int32} (hv : p < 0 ∨ ¬ p ≤ 999) (hp : post (-1) (c, h, f, st, up, dd)) : wpX_put post (c, h, f, st, up, dd) x y p := by
  unfold wpX_put; dsimp only
  by_cases z : p < 0
  · exact br_t z hp
  · exact br_f z (br_f (hv.resolve_left z) hp)
theorem mx_putR {post : Int32 → SX → Prop} {x y p q : Int32} (h0 : ¬ p < 0) (h9 : p ≤ 999) (hq : q ≠ 0) (hR : ∀ post : Int32 → Prop, post q → wpX_refusalToWrite post (c, h, f, st, up, dd) x y) (hp : post q (c, h, f, st, up, dd)) : wpX_put post (c, h, f, st, up, dd) x y p := by
  unfold wpX_put; dsimp only
  exact br_f h0 (br_t h9 (hR _ (br_f hq hp)))
theorem mx_put {post : Int32 → SX → Prop} {i : Nat} {x p : Int32} (hi : i < 96) (h0 : ¬ p < 0) (h9 : p ≤ 999) (hR : ∀ post : Int32 → Prop, post 0 → wpX_refusalToWrite post (c, h, f, st, up, dd) x (nI i)) (hp : post (nI (mc_cn (upd h i x) x (32 * (i / 32)) 32)) (c, upd h i x, upd f i p, st, up, dd)) : wpX_put post (c, h, f, st, up, dd) x (nI i) p := by
  unfold wpX_put; dsimp only
  exact br_f h0 (br_t h9 (hR _ (br_t rfl (mx_write _ _ _ _ _ _ hi hp))))
theorem my_put0 {post : Int32 → SY → Prop} {x y p : Int32} (hb : (∀ t, t < 4 → x = nI t → r t = 0) ∨ (∀ i, i < 96 → y ≠ nI i) ∨ p < 0 ∨ ¬ p ≤ 999) (hp : post (-1) (v, w, g, r, d, up, id, tb)) : wpY_put post (v, w, g, r, d, up, id, tb) x y p := by
  unfold wpY_put; dsimp only
  by_cases hg : ∃ t, t < 4 ∧ x = nI t ∧ r t ≠ 0
  · obtain ⟨t, ht, rfl, hs⟩ := hg
    have hb1 := hb.resolve_left fun q => hs (q t ht rfl)
    by_cases hc : ∃ i, i < 96 ∧ y = nI i
    · obtain ⟨i, hi, rfl⟩ := hc
      have hb2 := hb1.resolve_left fun q => q i hi rfl
      refine my_g1 _ _ _ _ _ _ _ _ ht hs (br_f (by decide) (my_c0 _ _ _ _ _ _ _ _ hi (br_t rfl ?_)))
      by_cases z : p < 0
      · exact br_t z hp
      · exact br_f z (br_f (hb2.resolve_left z) hp)
    · exact my_g1 _ _ _ _ _ _ _ _ ht hs (br_f (by decide) (my_c1 _ _ _ _ _ _ _ _ (fun i hi e => hc ⟨i, hi, e⟩) (br_f (by decide) hp)))
  · exact my_g0 _ _ _ _ _ _ _ _ (fun t ht e => Decidable.byContradiction fun q => hg ⟨t, ht, e, q⟩) (br_t rfl hp)
theorem my_putR {post : Int32 → SY → Prop} {t i : Nat} {p q : Int32} (ht : t < 4) (hr : r t ≠ 0) (hi : i < 96) (h0 : ¬ p < 0) (h9 : p ≤ 999) (hq : q ≠ 0) (hR : ∀ post : Int32 → Prop, post q → wpY_refused post (v, w, g, r, d, up, id, tb) (nI t) (nI i)) (hp : post q (v, w, g, r, d, up, id, tb)) : wpY_put post (v, w, g, r, d, up, id, tb) (nI t) (nI i) p := by
  unfold wpY_put; dsimp only
  exact my_g1 _ _ _ _ _ _ _ _ ht hr (br_f (by decide) (my_c0 _ _ _ _ _ _ _ _ hi (br_t rfl (br_f h0 (br_t h9 (hR _ (br_f hq hp)))))))
theorem my_put {post : Int32 → SY → Prop} {t i : Nat} {p : Int32} (ht : t < 4) (hr : r t ≠ 0) (hi : i < 96) (h0 : ¬ p < 0) (h9 : p ≤ 999) (hR : ∀ post : Int32 → Prop, post 0 → wpY_refused post (v, w, g, r, d, up, id, tb) (nI t) (nI i)) (hp : post (nI (mc_cz (upd w (96 * t + i) 1) (96 * t + 32 * (i / 32)) 32)) (v, upd w (96 * t + i) 1, upd g (96 * t + i) p, r, d, up, id, tb)) : wpY_put post (v, w, g, r, d, up, id, tb) (nI t) (nI i) p := by
  unfold wpY_put; dsimp only
  have ee := mc_ix9 t i
  have ec : (96 * nI t + nI i : Int32).toNatClampNeg = 96 * t + i := by rw [ee]; exact nI_clamp (by omega)
  have hin : vp_in (96 * nI t + nI i : Int32) 480 := pk_in (96 * t + i) 480 (by omega) ee
  refine my_g1 _ _ _ _ _ _ _ _ ht hr (br_f (by decide) (my_c0 _ _ _ _ _ _ _ _ hi (br_t rfl (br_f h0 (br_t h9 (hR _ (br_t rfl ⟨hin, nm_r (e' := upd w (96 * t + i) 1) (by rw [ec]) ⟨hin, nm_r (e' := upd g (96 * t + i) p) (by rw [ec]) ⟨by decide, ?_⟩⟩⟩)))))))
  rw [mc_d32 hi]
  exact my_wf _ _ _ _ _ _ _ _ (mc_96 t) (by omega) hp
theorem mx_rem0 {post : Int32 → SX → Prop} {x y : Int32} {q : Int32} (hq : q ≠ 0) (hR : ∀ post : Int32 → Prop, post q → wpX_refusalToWrite post (c, h, f, st, up, dd) x y) (hp : post q (c, h, f, st, up, dd)) : wpX_remove post (c, h, f, st, up, dd) x y := by
  unfold wpX_remove; dsimp only
  exact hR _ (br_f hq hp)
theorem mx_remN {post : Int32 → SX → Prop} {i : Nat} {x : Int32} (hi : i < 96) (hR : ∀ post : Int32 → Prop, post 0 → wpX_refusalToWrite post (c, h, f, st, up, dd) x (nI i)) (hz : (if h i = x then f i else c i) = -2) (hp : post (-2) (c, h, f, st, up, dd)) : wpX_remove post (c, h, f, st, up, dd) x (nI i) := by
  unfold wpX_remove; dsimp only
  exact hR _ (br_t rfl (mx_seen _ _ _ _ _ _ hi (br_t hz hp)))
theorem mx_rem {post : Int32 → SX → Prop} {i : Nat} {x : Int32} (hi : i < 96) (hR : ∀ post : Int32 → Prop, post 0 → wpX_refusalToWrite post (c, h, f, st, up, dd) x (nI i)) (hz : ¬ (if h i = x then f i else c i) = -2) (hp : post (nI (mc_cn (upd h i x) x (32 * (i / 32)) 32)) (c, upd h i x, upd f i (-2), st, up, dd)) : wpX_remove post (c, h, f, st, up, dd) x (nI i) := by
  unfold wpX_remove; dsimp only
  exact hR _ (br_t rfl (mx_seen _ _ _ _ _ _ hi (br_f hz (mx_write _ _ _ _ _ _ hi hp))))
theorem my_rem0 {post : Int32 → SY → Prop} {x y : Int32} (hb : (∀ t, t < 4 → x = nI t → r t = 0) ∨ (∀ i, i < 96 → y ≠ nI i)) (hp : post (-1) (v, w, g, r, d, up, id, tb)) : wpY_remove post (v, w, g, r, d, up, id, tb) x y := by
  unfold wpY_remove; dsimp only
  by_cases hg : ∃ t, t < 4 ∧ x = nI t ∧ r t ≠ 0
  · obtain ⟨t, ht, rfl, hs⟩ := hg
    exact my_g1 _ _ _ _ _ _ _ _ ht hs (br_f (by decide) (my_c1 _ _ _ _ _ _ _ _ (hb.resolve_left fun q => hs (q t ht rfl)) (br_f (by decide) hp)))
  · exact my_g0 _ _ _ _ _ _ _ _ (fun t ht e => Decidable.byContradiction fun q => hg ⟨t, ht, e, q⟩) (br_t rfl hp)
theorem my_remR {post : Int32 → SY → Prop} {t i : Nat} {q : Int32} (ht : t < 4) (hr : r t ≠ 0) (hi : i < 96) (hq : q ≠ 0) (hR : ∀ post : Int32 → Prop, post q → wpY_refused post (v, w, g, r, d, up, id, tb) (nI t) (nI i)) (hp : post q (v, w, g, r, d, up, id, tb)) : wpY_remove post (v, w, g, r, d, up, id, tb) (nI t) (nI i) := by
  unfold wpY_remove; dsimp only
  exact my_g1 _ _ _ _ _ _ _ _ ht hr (br_f (by decide) (my_c0 _ _ _ _ _ _ _ _ hi (br_t rfl (hR _ (br_f hq hp)))))
theorem my_remN {post : Int32 → SY → Prop} {t i : Nat} (ht : t < 4) (hr : r t ≠ 0) (hi : i < 96) (hR : ∀ post : Int32 → Prop, post 0 → wpY_refused post (v, w, g, r, d, up, id, tb) (nI t) (nI i)) (hz : ¬ 0 ≤ mc_sn v w g t i) (hp : post (-2) (v, w, g, r, d, up, id, tb)) : wpY_remove post (v, w, g, r, d, up, id, tb) (nI t) (nI i) := by
  unfold wpY_remove; dsimp only
  exact my_g1 _ _ _ _ _ _ _ _ ht hr (br_f (by decide) (my_c0 _ _ _ _ _ _ _ _ hi (br_t rfl (hR _ (br_t rfl (my_seen _ _ _ _ _ _ _ _ ht hi (br_f hz hp)))))))
theorem my_rem {post : Int32 → SY → Prop} {t i : Nat} (ht : t < 4) (hr : r t ≠ 0) (hi : i < 96) (hR : ∀ post : Int32 → Prop, post 0 → wpY_refused post (v, w, g, r, d, up, id, tb) (nI t) (nI i)) (hz : 0 ≤ mc_sn v w g t i) (hp : post (nI (mc_cz (upd w (96 * t + i) 2) (96 * t + 32 * (i / 32)) 32)) (v, upd w (96 * t + i) 2, g, r, d, up, id, tb)) : wpY_remove post (v, w, g, r, d, up, id, tb) (nI t) (nI i) := by
  unfold wpY_remove; dsimp only
  have ee := mc_ix9 t i
  have ec : (96 * nI t + nI i : Int32).toNatClampNeg = 96 * t + i := by rw [ee]; exact nI_clamp (by omega)
  have hin : vp_in (96 * nI t + nI i : Int32) 480 := pk_in (96 * t + i) 480 (by omega) ee
  refine my_g1 _ _ _ _ _ _ _ _ ht hr (br_f (by decide) (my_c0 _ _ _ _ _ _ _ _ hi (br_t rfl (hR _ (br_t rfl (my_seen _ _ _ _ _ _ _ _ ht hi (br_t hz ⟨hin, nm_r (e' := upd w (96 * t + i) 2) (by rw [ec]) ⟨by decide, ?_⟩⟩)))))))
  rw [mc_d32 hi]
  exact my_wf _ _ _ _ _ _ _ _ (mc_96 t) (by omega) hp
end
theorem mc_F3w {up h : Nat → Int32} (F3 : mc_F3 up h) {i : Nat} {x : Int32} (hu : up (i / 32) ≠ 0) : mc_F3 up (upd h i x) := by
  intro j hj q hq e
  by_cases z : j = i
  · rw [z]; exact hu
  · rw [pk_un z] at e; exact F3 j hj q hq e
theorem i_vc_put {k : Nat} {u : SX} {v : SY} (I : i_Rel k u v) (hk : k + 5 ≤ 2560) (v1 : Int32) (v2 : Int32) (v3 : Int32) : wpX_put (fun r u' => wpY_put (fun r' v' => r' = r ∧ i_Rel (k + 5) u' v') v v1 v2 v3) u v1 v2 v3 := by
  have I' := I
  obtain ⟨c, h, f, st, up0, dd⟩ := u
  obtain ⟨vv, w, g, r, d, up, id, tb⟩ := v
  obtain ⟨hu, K, F1, F2, F3⟩ := I
  subst hu
  by_cases hv : v3 < 0 ∨ ¬ v3 ≤ 999
  · exact mx_putV _ _ _ _ _ _ hv (my_put0 _ _ _ _ _ _ _ _ (Or.inr (Or.inr hv)) ⟨rfl, I'⟩)
  · have h0 : ¬ v3 < 0 := fun q => hv (Or.inl q)
    have h9 : v3 ≤ 999 := Decidable.byContradiction fun q => hv (Or.inr q)
    by_cases hg : ∃ t, t < 4 ∧ v1 = nI t ∧ st t ≠ 0
    · by_cases hs : ∃ i, i < 96 ∧ v2 = nI i
      · obtain ⟨t, ht, rfl, hst⟩ := hg
        obtain ⟨i, hi, rfl⟩ := hs
        have hr : r t ≠ 0 := fun q => hst ((mc_Tr (K.2.1 t ht)).mpr q)
        obtain ⟨q, rX, rY, hq⟩ := mc_ref up K ht hst hi
        by_cases z : q = 0
        · subst z
          obtain ⟨s1, hup, hf⟩ := hq rfl
          have K2 : mc_Core c (upd h i (nI t)) (upd f i v3) st dd vv (upd w (96 * t + i) 1) (upd g (96 * t + i) v3) r d id tb :=
            mc_wr K ht hi s1 hf (fun k hk => ⟨pk_un hk, pk_un hk⟩) (Or.inl ⟨pk_us, pk_us.trans pk_us.symm, by rw [pk_us]; exact Int32.not_lt.mp h0⟩)
          exact mx_put _ _ _ _ _ _ hi h0 h9 rX (my_put _ _ _ _ _ _ _ _ ht hr hi h0 h9 rY ⟨by rw [mc_cnt K2 ht (by omega)], rfl, K2, F1, F2, mc_F3w F3 hup⟩)
        · exact mx_putR _ _ _ _ _ _ h0 h9 z rX (my_putR _ _ _ _ _ _ _ _ ht hr hi h0 h9 z rY ⟨rfl, I'⟩)
      · have hb : ∀ i, i < 96 → v2 ≠ nI i := fun s h3 e => hs ⟨s, h3, e⟩
        exact mx_putR _ _ _ _ _ _ h0 h9 (q := -1) (by decide) (fun post hp => mx_rtw0 _ _ _ _ _ _ (Or.inr hb) hp) (my_put0 _ _ _ _ _ _ _ _ (Or.inr (Or.inl hb)) ⟨rfl, I'⟩)
    · have hb : ∀ t, t < 4 → v1 = nI t → st t = 0 := fun t ht e => Decidable.byContradiction fun q => hg ⟨t, ht, e, q⟩
      exact mx_putR _ _ _ _ _ _ h0 h9 (q := -1) (by decide) (fun post hp => mx_rtw0 _ _ _ _ _ _ (Or.inl hb) hp) (my_put0 _ _ _ _ _ _ _ _ (Or.inl fun t ht e => (mc_Tr (K.2.1 t ht)).mp (hb t ht e)) ⟨rfl, I'⟩)
theorem i_vc_remove {k : Nat} {u : SX} {v : SY} (I : i_Rel k u v) (hk : k + 5 ≤ 2560) (v1 : Int32) (v2 : Int32) : wpX_remove (fun r u' => wpY_remove (fun r' v' => r' = r ∧ i_Rel (k + 5) u' v') v v1 v2) u v1 v2 := by
  have I' := I
  obtain ⟨c, h, f, st, up0, dd⟩ := u
  obtain ⟨vv, w, g, r, d, up, id, tb⟩ := v
  obtain ⟨hu, K, F1, F2, F3⟩ := I
  subst hu
  by_cases hg : ∃ t, t < 4 ∧ v1 = nI t ∧ st t ≠ 0
  · by_cases hs : ∃ i, i < 96 ∧ v2 = nI i
    · obtain ⟨t, ht, rfl, hst⟩ := hg
      obtain ⟨i, hi, rfl⟩ := hs
      have hr : r t ≠ 0 := fun q => hst ((mc_Tr (K.2.1 t ht)).mpr q)
      obtain ⟨q, rX, rY, hq⟩ := mc_ref up K ht hst hi
      by_cases z : q = 0
      · subst z
        obtain ⟨s1, hup, hf⟩ := hq rfl
        have e := mc_snE (K.2.2.1 i hi t ht) (K.1 i hi)
        by_cases y : 0 ≤ mc_sn vv w g t i
        · have K2 : mc_Core c (upd h i (nI t)) (upd f i (-2)) st dd vv (upd w (96 * t + i) 2) g r d id tb :=
            mc_wr K ht hi s1 hf (fun k hk => ⟨pk_un hk, rfl⟩) (Or.inr ⟨pk_us, pk_us⟩)
          rw [if_pos y] at e
          refine mx_rem _ _ _ _ _ _ hi rX (fun z2 => ?_) (my_rem _ _ _ _ _ _ _ _ ht hr hi rY y ⟨by rw [mc_cnt K2 ht (by omega)], rfl, K2, F1, F2, mc_F3w F3 hup⟩)
          rw [← e] at z2
          rw [z2] at y
          exact absurd y (by decide)
        · rw [if_neg y] at e
          exact mx_remN _ _ _ _ _ _ hi rX e.symm (my_remN _ _ _ _ _ _ _ _ ht hr hi rY y ⟨rfl, I'⟩)
      · exact mx_rem0 _ _ _ _ _ _ z rX (my_remR _ _ _ _ _ _ _ _ ht hr hi z rY ⟨rfl, I'⟩)
    · have hb : ∀ i, i < 96 → v2 ≠ nI i := fun s h3 e => hs ⟨s, h3, e⟩
      exact mx_rem0 _ _ _ _ _ _ (q := -1) (by decide) (fun post hp => mx_rtw0 _ _ _ _ _ _ (Or.inr hb) hp) (my_rem0 _ _ _ _ _ _ _ _ (Or.inr hb) ⟨rfl, I'⟩)
  · have hb : ∀ t, t < 4 → v1 = nI t → st t = 0 := fun t ht e => Decidable.byContradiction fun q => hg ⟨t, ht, e, q⟩
    exact mx_rem0 _ _ _ _ _ _ (q := -1) (by decide) (fun post hp => mx_rtw0 _ _ _ _ _ _ (Or.inl hb) hp) (my_rem0 _ _ _ _ _ _ _ _ (Or.inl fun t ht e => (mc_Tr (K.2.1 t ht)).mp (hb t ht e)) ⟨rfl, I'⟩)
/-! abort -/
def mc_sm (h : Nat → Int32) (x : Int32) : Nat → Nat → Int32 → Int32
  | 0, _, a => a
  | e + 1, j, a => mc_sm h x e (j + 1) (a + nI (mc_cn h x (32 * j) 32))
theorem mx_ab14 (c h f st up dd : Nat → Int32) {post : Int32 → SX → Prop} {t : Nat} (ht : t < 4) : ∀ e j, j + e = 3 → ∀ a : Int32, post (mc_sm h (nI t) e j a) (c, mc_up 0 96 h (mc_dr h (nI t)), f, upd st t 0, up, dd) → wX_abort_14 post (nI t) c h f st up dd (e + 1) a (nI j) := by
  intro e
  induction e with
  | zero =>
    intro j hj a hp
    obtain rfl : j = 3 := by omega
    exact br_t (by decide) (mx_end _ _ _ _ _ _ ht hp)
  | succ e ih =>
    intro j hj a hp
    exact br_f (nI_ge (b := 3) (by omega) (by decide)) (mx_held _ _ _ _ _ _ (by omega) (nm_e (nm_r (nI_1 j) (ih (j + 1) (by omega) _ hp))))
/-- what ending one transaction on both sides leaves of the rest of the relation -/
theorem mc_F2u {up st : Nat → Int32} (F2 : mc_F2 up st) {t : Nat} : mc_F2 up (upd st t 0) := by
  intro z q hq
  by_cases y : q = t
  · rw [y]; exact pk_us
  · rw [pk_un y]; exact F2 z q hq
theorem mc_F3d {up h : Nat → Int32} (F3 : mc_F3 up h) {x : Int32} : mc_F3 up (mc_up 0 96 h (mc_dr h x)) :=
  fun i hi t ht e => F3 i hi t ht (mc_drO ht hi e).1
theorem i_vc_abort {k : Nat} {u : SX} {v : SY} (I : i_Rel k u v) (hk : k + 5 ≤ 2560) (v1 : Int32) : wpX_abort (fun r u' => wpY_abort (fun r' v' => r' = r ∧ i_Rel (k + 5) u' v') v v1) u v1 := by
  have I' := I
  obtain ⟨c, h, f, st, up0, dd⟩ := u
  obtain ⟨vv, w, g, r, d, up, id, tb⟩ := v
  obtain ⟨hu, K, F1, F2, F3⟩ := I
  subst hu
  unfold wpX_abort wpY_abort
  dsimp only
  by_cases hg : ∃ t, t < 4 ∧ v1 = nI t ∧ st t ≠ 0
  · obtain ⟨t, ht, rfl, hst⟩ := hg
    have hr : r t ≠ 0 := fun q => hst ((mc_Tr (K.2.1 t ht)).mpr q)
    refine mx_g1 _ _ _ _ _ _ ht hst (br_f (by decide) ⟨4, mx_ab14 _ _ _ _ _ _ ht 3 0 (by omega) 0 ?_⟩)
    refine my_g1 _ _ _ _ _ _ _ _ ht hr (br_f (by decide) ?_)
    unfold wpY_writtenBy
    dsimp only
    refine my_wf _ _ _ _ _ _ _ _ (s := 0) (mc_96 t) (by omega) (my_wf _ _ _ _ _ _ _ _ (s := 1) (mc_96 t) (by omega) (my_wf _ _ _ _ _ _ _ _ (s := 2) (mc_96 t) (by omega) (my_end _ _ _ _ _ _ _ _ ht ⟨?_, rfl, mc_end2 K ht, F1, mc_F2u F2, mc_F3d F3⟩)))
    rw [← mc_cnt K ht (s := 0) (by omega), ← mc_cnt K ht (s := 1) (by omega), ← mc_cnt K ht (s := 2) (by omega)]
    show _ = ((0 + nI (mc_cn h (nI t) (32 * 0) 32)) + nI (mc_cn h (nI t) (32 * 1) 32)) + nI (mc_cn h (nI t) (32 * 2) 32)
    rw [Int32.zero_add]
  · have hb : ∀ t, t < 4 → v1 = nI t → st t = 0 := fun t ht e => Decidable.byContradiction fun q => hg ⟨t, ht, e, q⟩
    exact mx_g0 _ _ _ _ _ _ hb (br_t rfl (my_g0 _ _ _ _ _ _ _ _ (fun t ht e => (mc_Tr (K.2.1 t ht)).mp (hb t ht e)) (br_t rfl ⟨rfl, I'⟩)))
/-! a store is lost, the leader is lost -/
theorem mc_fall {c h f st dd v w g r d id tb : Nat → Int32} (up : Nat → Int32) (K : mc_Core c h f st dd v w g r d id tb) {s : Nat} (hs : s < 3) (F1 : ∀ q, q < 3 → q ≠ s → id q = 0 ∨ up q = 0 ∨ up 3 = 0) (F2 : mc_F2 up st) (F3 : mc_F3 up h) : ∃ (q : Int32) (X : SX) (Y : SY),
    (∀ k, i_Rel k X Y) ∧ (∀ post : Int32 → SX → Prop, post q X → wpX_loseStore post (c, h, f, st, up, dd) (nI s)) ∧ (∀ post : Int32 → SY → Prop, post q Y → wpY_fall post (v, w, g, r, d, up, id, tb) (nI s)) := by
  obtain ⟨q, h', st', w', d', K', a1, a2, a3, bX, bY⟩ := mc_fall11 c f dd v g id tb (upd up s 0) r hs 4 0 (by omega) 0 h st w d K (fun t ht => absurd ht (by omega))
  have u3 : upd up s 0 3 = up 3 := pk_un (by omega)
  refine ⟨q, (c, h', f, st', upd up s 0, dd), (v, w', g, r, d', upd up s 0, id, tb), fun k => ⟨rfl, K', ?_, ?_, ?_⟩, fun post hp => ?_, fun post hp => ?_⟩
  · intro p hp
    by_cases z : p = s
    · rw [z]; exact Or.inr (Or.inl pk_us)
    · rw [u3, pk_un z]; exact F1 p hp z
  · intro z t ht
    exact a3 t ht (F2 (u3.symm.trans z) t ht)
  · intro i hi t ht e
    rw [pk_un (fun z => a1 t ht i hi z e)]
    exact F3 i hi t ht (a2 i hi t ht e)
  · unfold wpX_loseStore; dsimp only
    exact ⟨pk_in s 4 (by omega), nm_r (e' := upd up s 0) (by rw [nI_clamp (by omega), mc_b0]) ⟨5, bX post hp⟩⟩
  · unfold wpY_fall; dsimp only
    exact ⟨pk_in s 4 (by omega), nm_r (e' := upd up s 0) (by rw [nI_clamp (by omega), mc_b0]) ⟨5, bY post hp⟩⟩
theorem mc_lead {c h f st sz dd v w g r d id tb : Nat → Int32} (up : Nat → Int32) (K : mc_Core c h f sz dd v w g r d id tb) (hz : ∀ t, t < 4 → sz t = st t ∨ sz t = 0) : ∃ (q q' : Int32) (h' st' w' r' d' : Nat → Int32),
    ((∀ t, t < 4 → sz t = st t) → q' = q) ∧ mc_Core c h' f st' dd v w' g r' d' id tb ∧ (∀ t, t < 4 → st' t = 0) ∧
    (∀ post : Int32 → SX → Prop, post q (c, h', f, st', upd up 3 0, dd) → wpX_loseLeader post (c, h, f, st, up, dd)) ∧ (∀ post : Int32 → SY → Prop, post q' (v, w', g, r', d', upd up 3 0, id, tb) → wpY_fallLeader post (v, w, g, r, d, up, id, tb)) := by
  obtain ⟨q, q', h', st', w', r', d', K', a1, a2, bX, bY⟩ := mc_lead11 c f dd v g id tb (upd up 3 0) 4 0 (by omega) 0 0 h st sz w r d K (fun t ht => absurd ht (by omega)) hz
  refine ⟨q, q', h', st', w', r', d', fun z => a2 z rfl, K', a1, fun post hp => ?_, fun post hp => ?_⟩
  · unfold wpX_loseLeader; dsimp only
    exact nm_r (e' := upd up 3 0) (by rw [mc_b0]) ⟨5, bX post hp⟩
  · unfold wpY_fallLeader; dsimp only
    exact nm_r (e' := upd up 3 0) (by rw [mc_b0]) ⟨5, bY post hp⟩
theorem mc_leadF {c h f st dd v w g r d id tb up : Nat → Int32} (K : mc_Core c h f st dd v w g r d id tb) (h0 : ∀ t, t < 4 → st t = 0) (h3 : up 3 = 0) : mc_F1 up id ∧ mc_F2 up st ∧ mc_F3 up h :=
  ⟨fun _ _ => Or.inr (Or.inr h3), fun _ => h0, fun i hi t ht e => absurd e (mc_no K ht (by rw [h0 t ht]; decide) i hi)⟩
theorem i_vc_crash {k : Nat} {u : SX} {v : SY} (I : i_Rel k u v) (hk : k + 5 ≤ 2560) (v1 : Int32) : wpX_crash (fun r u' => wpY_crash (fun r' v' => r' = r ∧ i_Rel (k + 5) u' v') v v1) u v1 := by
  have I' := I
  obtain ⟨c, h, f, st, up0, dd⟩ := u
  obtain ⟨vv, w, g, r, d, up, id, tb⟩ := v
  obtain ⟨hu, K, F1, F2, F3⟩ := I
  subst hu
  unfold wpX_crash wpY_crash
  dsimp only
  by_cases hs : ∃ s, s < 3 ∧ v1 = nI s
  · obtain ⟨s, hs, rfl⟩ := hs
    have cl : (nI s).toNatClampNeg = s := nI_clamp (by omega)
    by_cases h4 : up s = 0
    · exact mx_ros4 _ _ _ _ _ _ hs h4 (br_f (by decide) (my_s0 _ _ _ _ _ _ _ _ hs (br_t rfl ⟨pk_in s 4 (by omega), br_t (by rw [cl]; exact h4) ⟨rfl, I'⟩⟩)))
    · obtain ⟨q, X, Y, hr, bX, bY⟩ := mc_fall up K hs (fun q hq _ => F1 q hq) F2 F3
      exact mx_ros1 _ _ _ _ _ _ hs h4 (br_t rfl (bX _ (my_s0 _ _ _ _ _ _ _ _ hs (br_t rfl ⟨pk_in s 4 (by omega), br_f (by rw [cl]; exact h4) (bY _ ⟨rfl, hr _⟩)⟩))))
  · have hb : ∀ s, s < 3 → v1 ≠ nI s := fun s h3 e => hs ⟨s, h3, e⟩
    exact mx_ros0 _ _ _ _ _ _ hb (br_f (by decide) (my_s1 _ _ _ _ _ _ _ _ hb (br_f (by decide) ⟨rfl, I'⟩)))
theorem i_vc_crashLeader {k : Nat} {u : SX} {v : SY} (I : i_Rel k u v) (hk : k + 5 ≤ 2560) : wpX_crashLeader (fun r u' => wpY_crashLeader (fun r' v' => r' = r ∧ i_Rel (k + 5) u' v') v) u := by
  have I' := I
  obtain ⟨c, h, f, st, up0, dd⟩ := u
  obtain ⟨vv, w, g, r, d, up, id, tb⟩ := v
  obtain ⟨hu, K, F1, F2, F3⟩ := I
  subst hu
  unfold wpX_crashLeader wpY_crashLeader
  dsimp only
  by_cases z : up 3 = 0
  · exact br_t z (br_t z ⟨rfl, I'⟩)
  · obtain ⟨q, q', h', st', w', r', d', e, K', a1, bX, bY⟩ := mc_lead up K (st := st) (fun _ _ => Or.inl rfl)
    exact br_f z (bX _ (br_f z (bY _ ⟨e (fun _ _ => rfl), rfl, K', mc_leadF (up := upd up 3 0) K' a1 pk_us⟩)))
/-! a store or the leader starts -/
theorem my_stail (v w g r d up id tb : Nat → Int32) {post : SY → Prop} (hp : post (v, w, g, r, d, up, id, tb)) : ∀ e j, j + e = 3 → (∀ q, j ≤ q → q < 3 → id q = 0 ∨ up q = 0 ∨ up 3 = 0) → wY_settle_2 post (e + 1) (nI j) v w g r d up id tb := by
  intro e
  induction e with
  | zero =>
    intro j hj _
    obtain rfl : j = 3 := by omega
    exact br_t (by decide) hp
  | succ e ih =>
    intro j hj hz
    exact my_sskip _ _ _ _ _ _ _ _ (by omega) (hz j (by omega) (by omega)) (ih (j + 1) (by omega) (fun q h1 h2 => hz q (by omega) h2))
/-- only store s is there to settle -/
theorem my_sone (v w g r d up id tb : Nat → Int32) {v' id' : Nat → Int32} {s : Nat} (hs : s < 3) {post : SY → Prop} (hz : ∀ q, q < 3 → q ≠ s → id q = 0 ∨ up q = 0 ∨ up 3 = 0) (hio : ∀ q, q ≠ s → id' q = id q)
    (hY : ∀ (post : SY → Prop) (n : Nat), wY_settle_2 post n (nI (s + 1)) v' w g r d up id' tb → wY_settle_2 post (n + 1) (nI s) v w g r d up id tb) (hp : post (v', w, g, r, d, up, id', tb)) : ∀ e j, j + e = 3 → j ≤ s → wY_settle_2 post (e + 1) (nI j) v w g r d up id tb := by
  intro e
  induction e with
  | zero => intro j hj hjs; omega
  | succ e ih =>
    intro j hj hjs
    by_cases z : j = s
    · subst z
      refine hY post _ (my_stail _ _ _ _ _ _ _ _ hp e (j + 1) (by omega) fun q h1 h2 => ?_)
      rw [hio q (by omega)]
      exact hz q h2 (by omega)
    · exact my_sskip _ _ _ _ _ _ _ _ (by omega) (hz j (by omega) z) (ih (j + 1) (by omega) (by omega))
theorem i_vc_start {k : Nat} {u : SX} {v : SY} (I : i_Rel k u v) (hk : k + 5 ≤ 2560) (v1 : Int32) : wpX_start (fun r u' => wpY_start (fun r' v' => r' = r ∧ i_Rel (k + 5) u' v') v v1) u v1 := by
  have I' := I
  obtain ⟨c, h, f, st, up0, dd⟩ := u
  obtain ⟨vv, w, g, r, d, up, id, tb⟩ := v
  obtain ⟨hu, K, F1, F2, F3⟩ := I
  subst hu
  unfold wpX_start wpY_start
  dsimp only
  by_cases hs : ∃ s, s < 3 ∧ v1 = nI s
  · obtain ⟨s, hs, rfl⟩ := hs
    have cl : (nI s).toNatClampNeg = s := nI_clamp (by omega)
    have hi4 : vp_in (nI s) 4 := pk_in s 4 (by omega)
    by_cases h4 : up s = 0
    · have u3 : upd up s 1 3 = up 3 := pk_un (by omega)
      have f1 : ∀ q, q < 3 → q ≠ s → id q = 0 ∨ upd up s 1 q = 0 ∨ upd up s 1 3 = 0 := fun q hq z => by
        rw [u3, pk_un z]; exact F1 q hq
      have f2 : mc_F2 (upd up s 1) st := fun z => F2 (u3.symm.trans z)
      have f3 : ∀ h' : Nat → Int32, (∀ i, i < 96 → ∀ t, t < 4 → h' i = nI t → h i = nI t) → mc_F3 (upd up s 1) h' := fun h' hh i hi t ht e => by
        by_cases z : i / 32 = s
        · rw [z, pk_us]; decide
        · rw [pk_un z]; exact F3 i hi t ht (hh i hi t ht e)
      by_cases z3 : up 3 = 0
      · have z3' : upd up s 1 3 = 0 := u3.trans z3
        have hY : wpY_settle (fun v' => (1 : Int32) = 1 ∧ i_Rel (k + 5) (c, h, f, st, upd up s 1, dd) v') (vv, w, g, r, d, upd up s 1, id, tb) := by
          unfold wpY_settle; dsimp only
          exact ⟨4, my_stail _ _ _ _ _ _ _ _ ⟨rfl, rfl, K, fun _ _ => Or.inr (Or.inr z3'), f2, f3 h (fun _ _ _ _ e => e)⟩ 3 0 (by omega) (fun _ _ _ => Or.inr (Or.inr z3'))⟩
        exact mx_s1 _ _ _ _ _ _ hs (br_f (by decide) ⟨hi4, br_t (by rw [cl]; exact h4) ⟨hi4, nm_r (e' := upd up s 1) (by rw [cl, mc_b1]) (mx_settle0 _ _ _ _ _ _ hs (Or.inr z3') (my_s0 _ _ _ _ _ _ _ _ hs (br_t rfl ⟨hi4, br_t (by rw [cl]; exact h4) ⟨hi4, nm_r (e' := upd up s 1) (by rw [cl, mc_b1]) hY⟩⟩)))⟩⟩)
      · have z3' : upd up s 1 3 ≠ 0 := by rw [u3]; exact z3
        have zs : upd up s 1 s ≠ 0 := by rw [pk_us]; decide
        obtain ⟨c', h', v', id', K', i0, io, hh, bX, bY⟩ := mc_set1 (upd up s 1) K hs zs z3'
        have hY : wpY_settle (fun v' => (1 : Int32) = 1 ∧ i_Rel (k + 5) (c', h', f, st, upd up s 1, dd) v') (vv, w, g, r, d, upd up s 1, id, tb) := by
          unfold wpY_settle; dsimp only
          refine ⟨4, my_sone _ _ _ _ _ _ _ _ hs f1 io bY ⟨rfl, rfl, K', fun q hq => ?_, f2, f3 h' hh⟩ 3 0 (by omega) (by omega)⟩
          by_cases z : q = s
          · rw [z]; exact Or.inl i0
          · rw [io q z]; exact f1 q hq z
        exact mx_s1 _ _ _ _ _ _ hs (br_f (by decide) ⟨hi4, br_t (by rw [cl]; exact h4) ⟨hi4, nm_r (e' := upd up s 1) (by rw [cl, mc_b1]) (bX _ (my_s0 _ _ _ _ _ _ _ _ hs (br_t rfl ⟨hi4, br_t (by rw [cl]; exact h4) ⟨hi4, nm_r (e' := upd up s 1) (by rw [cl, mc_b1]) hY⟩⟩)))⟩⟩)
    · exact mx_s1 _ _ _ _ _ _ hs (br_f (by decide) ⟨hi4, br_f (by rw [cl]; exact h4) (my_s0 _ _ _ _ _ _ _ _ hs (br_t rfl ⟨hi4, br_f (by rw [cl]; exact h4) ⟨rfl, I'⟩⟩))⟩)
  · have hb : ∀ s, s < 3 → v1 ≠ nI s := fun s h3 e => hs ⟨s, h3, e⟩
    exact mx_s0 _ _ _ _ _ _ hb (br_t rfl (my_s1 _ _ _ _ _ _ _ _ hb (br_f (by decide) ⟨rfl, I'⟩)))
theorem i_vc_startLeader {k : Nat} {u : SX} {v : SY} (I : i_Rel k u v) (hk : k + 5 ≤ 2560) : wpX_startLeader (fun r u' => wpY_startLeader (fun r' v' => r' = r ∧ i_Rel (k + 5) u' v') v) u := by
  have I' := I
  obtain ⟨c, h, f, st, up0, dd⟩ := u
  obtain ⟨vv, w, g, r, d, up, id, tb⟩ := v
  obtain ⟨hu, K, F1, F2, F3⟩ := I
  subst hu
  unfold wpX_startLeader wpY_startLeader
  dsimp only
  by_cases z : up 3 = 0
  · have z3 : upd up 3 1 3 ≠ 0 := by rw [pk_us]; decide
    obtain ⟨c', h', v', id', K', a1, a2, bX, bY⟩ := mc_sl20 f st dd w g r d tb (upd up 3 1) z3 3 0 (by omega) c h vv id K (fun s hs => absurd hs (by omega))
    have hY : wpY_settle (fun v' => (1 : Int32) = 1 ∧ i_Rel (k + 5) (c', h', f, st, upd up 3 1, dd) v') (vv, w, g, r, d, upd up 3 1, id, tb) := by
      unfold wpY_settle; dsimp only
      refine ⟨4, bY _ ⟨rfl, rfl, K', fun q hq => ?_, fun q => absurd q z3, fun i hi t ht e => ?_⟩⟩
      · rcases a1 q hq with y | y
        · exact Or.inl y
        · exact Or.inr (Or.inl y)
      · rw [pk_un (by omega)]; exact F3 i hi t ht (a2 i hi t ht e)
    exact br_t z (nm_r (e' := upd up 3 1) (by rw [mc_b1]) ⟨4, bX _ (br_t z (nm_r (e' := upd up 3 1) (by rw [mc_b1]) hY))⟩)
  · exact br_f z (br_f z ⟨rfl, I'⟩)
