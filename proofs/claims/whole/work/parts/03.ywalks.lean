/-! the reference's own small walks, each with a general post -/
section
variable (v w g r d up id tb : Nat → Int32)
theorem my_g1 {post : Int32 → Prop} {t : Nat} (ht : t < 4) (hs : r t ≠ 0) (hp : post 1) : wpY_good post (v, w, g, r, d, up, id, tb) (nI t) := by
  unfold wpY_good; dsimp only
  refine br_f (nI_pos (by omega)) (br_f (nI_ge (b := 4) (by omega) (by decide)) ⟨pk_in t 4 ht, br_f ?_ hp⟩)
  rw [nI_clamp (by omega)]; exact hs
theorem my_g0 {post : Int32 → Prop} {x : Int32} (hn : ∀ t, t < 4 → x = nI t → r t = 0) (hp : post 0) : wpY_good post (v, w, g, r, d, up, id, tb) x := by
  unfold wpY_good; dsimp only
  refine br_c (fun _ => hp) (fun h0 => br_c (fun _ => hp) (fun h4 => ?_))
  rcases pk_ix x (n := 4) (by decide) with hx | hx | ⟨t, ht, rfl⟩
  · exact absurd hx h0
  · exact absurd hx h4
  · refine ⟨pk_in t 4 ht, br_t ?_ hp⟩
    rw [nI_clamp (by omega)]; exact hn t ht rfl
theorem my_s0 {post : Int32 → Prop} {s : Nat} (hs : s < 3) (hp : post 0) : wpY_badStore post (v, w, g, r, d, up, id, tb) (nI s) := by
  unfold wpY_badStore; dsimp only
  exact br_f (nI_pos (by omega)) (br_t (nI_le (b := 2) (by omega) (by decide)) hp)
theorem my_s1 {post : Int32 → Prop} {x : Int32} (hn : ∀ s, s < 3 → x ≠ nI s) (hp : post 1) : wpY_badStore post (v, w, g, r, d, up, id, tb) x := by
  unfold wpY_badStore; dsimp only
  refine br_c (fun _ => hp) (fun h0 => br_c (fun h4 => ?_) (fun _ => hp))
  obtain ⟨j, hj, rfl⟩ := nI_of2 (n := 2) (by decide) h0 h4
  exact absurd rfl (hn j (by omega))
theorem my_c0 {post : Int32 → Prop} {i : Nat} (hi : i < 96) (hp : post 0) : wpY_badCode post (v, w, g, r, d, up, id, tb) (nI i) := by
  unfold wpY_badCode; dsimp only
  exact br_f (nI_pos (by omega)) (br_t (nI_le (b := 95) (by omega) (by decide)) hp)
theorem my_c1 {post : Int32 → Prop} {x : Int32} (hn : ∀ i, i < 96 → x ≠ nI i) (hp : post 1) : wpY_badCode post (v, w, g, r, d, up, id, tb) x := by
  unfold wpY_badCode; dsimp only
  refine br_c (fun _ => hp) (fun h0 => br_c (fun h4 => ?_) (fun _ => hp))
  obtain ⟨j, hj, rfl⟩ := nI_of2 (n := 95) (by decide) h0 h4
  exact absurd rfl (hn j (by omega))
theorem my_wf5 {post : Int32 → Prop} {a s : Nat} (hs : a + 32 * s + 32 ≤ 480) (hp : post (nI (mc_cz w (a + 32 * s) 32))) : ∀ e j, j + e = 32 → wY_writtenFrom_5 post (nI a) (nI s) v w g r d up id tb (e + 1) (nI (mc_cz w (a + 32 * s) j)) (nI j) := by
  intro e
  induction e with
  | zero =>
    intro j hj
    obtain rfl : j = 32 := by omega
    exact br_t (by decide) hp
  | succ e ih =>
    intro j hj
    have ee : ((nI a + 32 * nI s) + nI j : Int32) = nI (a + 32 * s + j) := by rw [mc_32, nI_add, nI_add]
    have ec : ((nI a + 32 * nI s) + nI j : Int32).toNatClampNeg = a + 32 * s + j := by rw [ee]; exact nI_clamp (by omega)
    refine br_f (nI_ge (b := 32) (by omega) (by decide)) ⟨pk_in (a + 32 * s + j) 480 (by omega) ee, ?_⟩
    by_cases z : w (a + 32 * s + j) = 0
    · refine br_t (by rw [ec]; exact z) (nm_r (nI_1 j) ?_)
      have := ih (j + 1) (by omega)
      rw [mc_czF z] at this
      exact this
    · refine br_f (by rw [ec]; exact z) (nm_r (e' := nI (mc_cz w (a + 32 * s) (j + 1))) ?_ (nm_r (nI_1 j) (ih (j + 1) (by omega))))
      rw [mc_czT z, nI_1]
theorem my_wf {post : Int32 → Prop} {x : Int32} {a s : Nat} (hx : x = nI a) (hs : a + 32 * s + 32 ≤ 480) (hp : post (nI (mc_cz w (a + 32 * s) 32))) : wpY_writtenFrom post (v, w, g, r, d, up, id, tb) x (nI s) := by
  subst hx
  unfold wpY_writtenFrom; dsimp only
  exact ⟨33, my_wf5 v w g r d up id tb hs hp 32 0 (by omega)⟩
def mc_z : Nat → Int32 := fun _ => 0
theorem my_forget2 {post : SY → Prop} {t : Nat} (ht : t < 4) (hp : post (v, mc_up (96 * t) 96 w mc_z, g, r, d, up, id, tb)) : ∀ e j, j + e = 96 → wY_forget_2 post (nI t) (e + 1) (nI j) v (mc_up (96 * t) j w mc_z) g r d up id tb := by
  intro e
  induction e with
  | zero =>
    intro j hj
    obtain rfl : j = 96 := by omega
    exact br_t (by decide) hp
  | succ e ih =>
    intro j hj
    have ee := mc_ix9 t j
    have ec : (96 * nI t + nI j : Int32).toNatClampNeg = 96 * t + j := by rw [ee]; exact nI_clamp (by omega)
    exact br_f (nI_ge (b := 96) (by omega) (by decide)) ⟨pk_in (96 * t + j) 480 (by omega) ee, nm_r (e' := mc_up (96 * t) (j + 1) w mc_z) (by rw [ec]; exact mc_upS (by omega) rfl) (nm_r (nI_1 j) (ih (j + 1) (by omega)))⟩
theorem my_forget {post : SY → Prop} {t : Nat} (ht : t < 4) (hp : post (v, mc_up (96 * t) 96 w mc_z, g, r, d, up, id, tb)) : wpY_forget post (v, w, g, r, d, up, id, tb) (nI t) := by
  unfold wpY_forget; dsimp only
  have := my_forget2 v w g r d up id tb ht hp 96 0 (by omega)
  rw [mc_up0] at this
  exact ⟨97, this⟩
theorem my_end {post : SY → Prop} {t : Nat} (ht : t < 4) (hp : post (v, mc_up (96 * t) 96 w mc_z, g, upd r t 0, upd d t 0, up, id, tb)) : wpY_end post (v, w, g, r, d, up, id, tb) (nI t) := by
  unfold wpY_end; dsimp only
  refine my_forget v w g r d up id tb ht ?_
  dsimp only
  exact ⟨pk_in t 4 ht, nm_r (e' := upd r t 0) (by rw [nI_clamp (by omega), mc_b0]) ⟨pk_in t 4 ht, nm_r (e' := upd d t 0) (by rw [nI_clamp (by omega), mc_b0]) hp⟩⟩
/-- what a value becomes when the writes that stand from a on are done -/
def mc_ap (v w g : Nat → Int32) (a : Nat) : Nat → Int32 := fun i => if w (a + i) = 1 then g (a + i) else if w (a + i) = 2 then -1 else v i
theorem my_apply5 {post : SY → Prop} {a s : Nat} (ha : a ≤ 384) (hs : s < 3) (hp : post (mc_up (32 * s) 32 v (mc_ap v w g a), w, g, r, d, up, id, tb)) : ∀ e j, j + e = 32 → wY_apply_5 post (nI a) (nI s) (e + 1) (nI (32 * s + j)) (mc_up (32 * s) j v (mc_ap v w g a)) w g r d up id tb := by
  have e32 : (32 * nI s + 32 : Int32) = nI (32 * s + 32) := by rw [mc_32]; exact nI_add (32 * s) 32
  intro e
  induction e with
  | zero =>
    intro j hj
    obtain rfl : j = 32 := by omega
    exact br_t (by rw [e32]; exact Int32.le_refl _) hp
  | succ e ih =>
    intro j hj
    have ec : (nI (32 * s + j)).toNatClampNeg = 32 * s + j := nI_clamp (by omega)
    have ee : (nI a + nI (32 * s + j) : Int32) = nI (a + (32 * s + j)) := nI_add _ _
    have ew : (nI a + nI (32 * s + j) : Int32).toNatClampNeg = a + (32 * s + j) := by rw [ee]; exact nI_clamp (by omega)
    have hin : vp_in (nI a + nI (32 * s + j) : Int32) 480 := pk_in (a + (32 * s + j)) 480 (by omega) ee
    have hi : vp_in (nI (32 * s + j)) 96 := pk_in (32 * s + j) 96 (by omega)
    refine br_f (by rw [e32]; exact nI_ge (by omega) (by omega)) ⟨hin, ?_⟩
    by_cases z1 : w (a + (32 * s + j)) = 1
    · refine br_t (by rw [ew]; exact z1) ⟨hin, hi, nm_r (e' := mc_up (32 * s) (j + 1) v (mc_ap v w g a)) (by rw [ec, ew]; exact mc_upS (by omega) (if_pos z1)) ?_⟩
      unfold wY_apply_42
      exact ⟨hin, br_f (by rw [ew, z1]; decide) (nm_r (nI_1 _) (ih (j + 1) (by omega)))⟩
    · refine br_f (by rw [ew]; exact z1) ?_
      unfold wY_apply_42
      refine ⟨hin, ?_⟩
      by_cases z2 : w (a + (32 * s + j)) = 2
      · exact br_t (by rw [ew]; exact z2) ⟨hi, nm_r (e' := mc_up (32 * s) (j + 1) v (mc_ap v w g a)) (by rw [ec]; exact mc_upS (by omega) ((if_neg z1).trans (if_pos z2))) (nm_r (nI_1 _) (ih (j + 1) (by omega)))⟩
      · refine br_f (by rw [ew]; exact z2) (nm_r (nI_1 _) ?_)
        have := ih (j + 1) (by omega)
        rw [mc_upK (a := v) (k := 32 * s + j) (by omega) ((if_neg z1).trans (if_neg z2))] at this
        exact this
theorem my_apply {post : SY → Prop} {x : Int32} {a s : Nat} (hx : x = nI a) (ha : a ≤ 384) (hs : s < 3) (hp : post (mc_up (32 * s) 32 v (mc_ap v w g a), w, g, r, d, up, id, tb)) : wpY_apply post (v, w, g, r, d, up, id, tb) x (nI s) := by
  subst hx
  unfold wpY_apply; dsimp only
  have := my_apply5 v w g r d up id tb ha hs hp 32 0 (by omega)
  rw [mc_up0] at this
  exact nm_r (mc_32 s) ⟨33, this⟩
/-- the cells that doubt takes over from transaction t -/
def mc_ov (w : Nat → Int32) (t : Nat) : Nat → Int32 := fun k => w (96 * t + (k - 384))
theorem my_doubt20 {post : SY → Prop} {t s : Nat} (ht : t < 4) (hs : s < 3) (hp : post (v, mc_up (384 + 32 * s) 32 w (mc_ov w t), mc_up (384 + 32 * s) 32 g (mc_ov g t), r, d, up, id, tb)) : ∀ e j, j + e = 32 → wY_doubt_20 post (nI t) (nI s) (e + 1) (nI (32 * s + j)) v (mc_up (384 + 32 * s) j w (mc_ov w t)) (mc_up (384 + 32 * s) j g (mc_ov g t)) r d up id tb := by
  have e32 : (32 * nI s + 32 : Int32) = nI (32 * s + 32) := by rw [mc_32]; exact nI_add (32 * s) 32
  intro e
  induction e with
  | zero =>
    intro j hj
    obtain rfl : j = 32 := by omega
    exact br_t (by rw [e32]; exact Int32.le_refl _) hp
  | succ e ih =>
    intro j hj
    have e1 := mc_ix9 t (32 * s + j)
    have c1 : (96 * nI t + nI (32 * s + j) : Int32).toNatClampNeg = 96 * t + (32 * s + j) := by rw [e1]; exact nI_clamp (by omega)
    have i1 : vp_in (96 * nI t + nI (32 * s + j) : Int32) 480 := pk_in (96 * t + (32 * s + j)) 480 (by omega) e1
    have e2 := mc_384 (32 * s + j)
    have c2 : (384 + nI (32 * s + j) : Int32).toNatClampNeg = 384 + (32 * s + j) := by rw [e2]; exact nI_clamp (by omega)
    have i2 : vp_in (384 + nI (32 * s + j) : Int32) 480 := pk_in (384 + (32 * s + j)) 480 (by omega) e2
    have hk : ∀ a : Nat → Int32, mc_ov a t (384 + (32 * s + j)) = mc_up (384 + 32 * s) j a (mc_ov a t) (96 * t + (32 * s + j)) := by
      intro a
      rw [mc_upO (by omega)]
      unfold mc_ov
      rw [Nat.add_sub_cancel_left]
    exact br_f (by rw [e32]; exact nI_ge (by omega) (by omega)) ⟨i1, i2, nm_r (e' := mc_up (384 + 32 * s) (j + 1) w (mc_ov w t)) (by rw [c1, c2]; exact mc_upS (by omega) (hk w)) ⟨i1, i2, nm_r (e' := mc_up (384 + 32 * s) (j + 1) g (mc_ov g t)) (by rw [c1, c2]; exact mc_upS (by omega) (hk g)) (nm_r (nI_1 _) (ih (j + 1) (by omega)))⟩⟩
theorem my_doubt {post : SY → Prop} {t s : Nat} {b : Int32} (ht : t < 4) (hs : s < 3) (hp : post (v, mc_up (384 + 32 * s) 32 w (mc_ov w t), mc_up (384 + 32 * s) 32 g (mc_ov g t), r, d, up, upd id s 1, upd tb s (vp_nar .boolean b))) : wpY_doubt post (v, w, g, r, d, up, id, tb) (nI t) (nI s) b := by
  unfold wpY_doubt; dsimp only
  have := my_doubt20 v w g r d up (upd id s 1) (upd tb s (vp_nar .boolean b)) ht hs hp 32 0 (by omega)
  rw [mc_up0, mc_up0] at this
  exact ⟨pk_in s 3 hs, nm_r (e' := upd id s 1) (by rw [nI_clamp (by omega), mc_b1]) ⟨pk_in s 3 hs, nm_r (e' := upd tb s (vp_nar .boolean b)) (by rw [nI_clamp (by omega)]) (nm_r (mc_32 s) ⟨33, this⟩)⟩⟩
theorem my_dbt0 {post : Int32 → Prop} {i : Nat} (hi : i < 96) (h : id (i / 32) = 0 ∨ w (384 + i) = 0) (hp : post 0) : wpY_isDoubtful post (v, w, g, r, d, up, id, tb) (nI i) := by
  unfold wpY_isDoubtful; dsimp only
  rw [mc_d32 hi, nI_clamp (show i / 32 < 2 ^ 31 by omega)]
  refine ⟨by decide, pk_in (i / 32) 3 (by omega), ?_⟩
  by_cases z : id (i / 32) = 0
  · exact br_t z hp
  · have c2 : (384 + nI i : Int32).toNatClampNeg = 384 + i := by rw [mc_384]; exact nI_clamp (by omega)
    exact br_f z ⟨pk_in (384 + i) 480 (by omega) (mc_384 i), br_t (by rw [c2]; exact h.resolve_left z) hp⟩
theorem my_dbt1 {post : Int32 → Prop} {i : Nat} (hi : i < 96) (h : id (i / 32) ≠ 0) (h' : w (384 + i) ≠ 0) (hp : post 1) : wpY_isDoubtful post (v, w, g, r, d, up, id, tb) (nI i) := by
  unfold wpY_isDoubtful; dsimp only
  rw [mc_d32 hi, nI_clamp (show i / 32 < 2 ^ 31 by omega)]
  have c2 : (384 + nI i : Int32).toNatClampNeg = 384 + i := by rw [mc_384]; exact nI_clamp (by omega)
  exact ⟨by decide, pk_in (i / 32) 3 (by omega), br_f h ⟨pk_in (384 + i) 480 (by omega) (mc_384 i), br_f (by rw [c2]; exact h') hp⟩⟩
/-- what t sees at i -/
def mc_sn (v w g : Nat → Int32) (t i : Nat) : Int32 := if w (96 * t + i) = 0 then v i else if w (96 * t + i) = 1 then g (96 * t + i) else -1
theorem my_seen {post : Int32 → Prop} {t i : Nat} (ht : t < 4) (hi : i < 96) (hp : post (mc_sn v w g t i)) : wpY_seen post (v, w, g, r, d, up, id, tb) (nI t) (nI i) := by
  unfold wpY_seen; dsimp only
  have e1 := mc_ix9 t i
  have c1 : (96 * nI t + nI i : Int32).toNatClampNeg = 96 * t + i := by rw [e1]; exact nI_clamp (by omega)
  have i1 : vp_in (96 * nI t + nI i : Int32) 480 := pk_in (96 * t + i) 480 (by omega) e1
  refine ⟨i1, nm_r (e' := w (96 * t + i)) (by rw [c1]) ?_⟩
  unfold mc_sn at hp
  by_cases z0 : w (96 * t + i) = 0
  · rw [if_pos z0] at hp
    exact br_t z0 ⟨pk_in i 96 hi, by rw [nI_clamp (by omega)]; exact hp⟩
  · rw [if_neg z0] at hp
    by_cases z1 : w (96 * t + i) = 1
    · rw [if_pos z1] at hp
      exact br_f z0 (br_t z1 ⟨i1, by rw [c1]; exact hp⟩)
    · rw [if_neg z1] at hp
      exact br_f z0 (br_f z1 hp)
end
