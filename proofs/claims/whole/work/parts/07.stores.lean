/-! count, next, total, doubtful: a store is read -/
section
variable (c h f st up dd v w g r d id tb : Nat → Int32)
theorem mx_ros0 {post : Int32 → Prop} {x : Int32} (hb : ∀ s, s < 3 → x ≠ nI s) (hp : post (-1)) : wpX_refusalOfStore post (c, h, f, st, up, dd) x := by
  unfold wpX_refusalOfStore; dsimp only
  exact mx_s0 _ _ _ _ _ _ hb (br_t rfl hp)
theorem mx_ros4 {post : Int32 → Prop} {s : Nat} (hs : s < 3) (h4 : up s = 0) (hp : post (-4)) : wpX_refusalOfStore post (c, h, f, st, up, dd) (nI s) := by
  unfold wpX_refusalOfStore; dsimp only
  exact mx_s1 _ _ _ _ _ _ hs (br_f (by decide) ⟨pk_in s 4 (by omega), br_t (by rw [nI_clamp (by omega)]; exact h4) hp⟩)
theorem mx_ros1 {post : Int32 → Prop} {s : Nat} (hs : s < 3) (h4 : up s ≠ 0) (hp : post 0) : wpX_refusalOfStore post (c, h, f, st, up, dd) (nI s) := by
  unfold wpX_refusalOfStore; dsimp only
  exact mx_s1 _ _ _ _ _ _ hs (br_f (by decide) ⟨pk_in s 4 (by omega), br_f (by rw [nI_clamp (by omega)]; exact h4) hp⟩)
theorem mc_count {s : Nat} (hs : s < 3) (HV : ∀ i, i < 96 → mc_V c v i) : ∀ e j, j + e = 32 → ∀ n : Int32, ∃ q : Int32, (∀ post : Int32 → Prop, post q → wX_count_17 post (nI s) c h f st up dd (e + 1) n (nI j)) ∧ (∀ post : Int32 → Prop, post q → wY_count_26 post (nI s) v w g r d up id tb (e + 1) n (nI j)) := by
  intro e
  induction e with
  | zero =>
    intro j hj n
    obtain rfl : j = 32 := by omega
    exact ⟨n, fun post hp => br_t (by decide) hp, fun post hp => br_t (by decide) hp⟩
  | succ e ih =>
    intro j hj n
    have g3 : ¬ (32 : Int32) ≤ nI j := nI_ge (b := 32) (by omega) (by decide)
    have ee := mc_ix s j
    have ec : (32 * nI s + nI j : Int32).toNatClampNeg = 32 * s + j := by rw [ee]; exact nI_clamp (by omega)
    have hin : vp_in (32 * nI s + nI j : Int32) 96 := pk_in (32 * s + j) 96 (by omega) ee
    have V := mc_Vn (HV (32 * s + j) (by omega))
    by_cases z : c (32 * s + j) = -2
    · obtain ⟨q, a, b⟩ := ih (j + 1) (by omega) n
      exact ⟨q, fun post hp => br_f g3 ⟨hin, br_t (by rw [ec]; exact z) (nm_r (nI_1 j) (a post hp))⟩, fun post hp => br_f g3 ⟨hin, br_t (by rw [ec]; exact V.mp z) (nm_r (nI_1 j) (b post hp))⟩⟩
    · obtain ⟨q, a, b⟩ := ih (j + 1) (by omega) (n + 1)
      exact ⟨q, fun post hp => br_f g3 ⟨hin, br_f (by rw [ec]; exact z) (nm_e (nm_r (nI_1 j) (a post hp)))⟩, fun post hp => br_f g3 ⟨hin, br_f (by rw [ec]; exact fun y => z (V.mpr y)) (nm_e (nm_r (nI_1 j) (b post hp)))⟩⟩
theorem mc_total {s : Nat} (hs : s < 3) (HV : ∀ i, i < 96 → mc_V c v i) : ∀ e j, j + e = 32 → ∀ n : Int32, ∃ q : Int32, (∀ post : Int32 → Prop, post q → wX_total_17 post (nI s) c h f st up dd (e + 1) n (nI j)) ∧ (∀ post : Int32 → Prop, post q → wY_total_26 post (nI s) v w g r d up id tb (e + 1) n (nI j)) := by
  intro e
  induction e with
  | zero =>
    intro j hj n
    obtain rfl : j = 32 := by omega
    exact ⟨n, fun post hp => br_t (by decide) hp, fun post hp => br_t (by decide) hp⟩
  | succ e ih =>
    intro j hj n
    have g3 : ¬ (32 : Int32) ≤ nI j := nI_ge (b := 32) (by omega) (by decide)
    have ee := mc_ix s j
    have ec : (32 * nI s + nI j : Int32).toNatClampNeg = 32 * s + j := by rw [ee]; exact nI_clamp (by omega)
    have hin : vp_in (32 * nI s + nI j : Int32) 96 := pk_in (32 * s + j) 96 (by omega) ee
    have V := mc_Vn (HV (32 * s + j) (by omega))
    by_cases z : c (32 * s + j) = -2
    · obtain ⟨q, a, b⟩ := ih (j + 1) (by omega) n
      exact ⟨q, fun post hp => br_f g3 ⟨hin, nm_r (e' := c (32 * s + j)) (by rw [ec]) (br_t z (nm_r (nI_1 j) (a post hp)))⟩, fun post hp => br_f g3 ⟨hin, br_t (by rw [ec]; exact V.mp z) (nm_r (nI_1 j) (b post hp))⟩⟩
    · have e2 : c (32 * s + j) = v (32 * s + j) := by
        rcases HV (32 * s + j) (by omega) with ⟨_, y⟩ | ⟨_, y⟩
        · exact absurd y z
        · exact y
      obtain ⟨q, a, b⟩ := ih (j + 1) (by omega) (n + c (32 * s + j))
      exact ⟨q, fun post hp => br_f g3 ⟨hin, nm_r (e' := c (32 * s + j)) (by rw [ec]) (br_f z (nm_e (nm_r (nI_1 j) (a post hp))))⟩, fun post hp => br_f g3 ⟨hin, br_f (by rw [ec]; exact fun y => z (V.mpr y)) ⟨hin, nm_r (e' := n + c (32 * s + j)) (by rw [ec, e2]) (nm_r (nI_1 j) (b post hp))⟩⟩⟩
theorem mc_next {s : Nat} {y : Int32} (hs : s < 3) (HV : ∀ i, i < 96 → mc_V c v i) : ∀ e j, j + e = 32 → ∃ q : Int32, (∀ post : Int32 → Prop, post q → wX_next_15 post (nI s) y c h f st up dd (e + 1) (nI j)) ∧ (∀ post : Int32 → Prop, post q → wY_next_24 post (nI s) y v w g r d up id tb (e + 1) (nI j)) := by
  intro e
  induction e with
  | zero =>
    intro j hj
    obtain rfl : j = 32 := by omega
    exact ⟨-2, fun post hp => br_t (by decide) hp, fun post hp => br_t (by decide) hp⟩
  | succ e ih =>
    intro j hj
    have g3 : ¬ (32 : Int32) ≤ nI j := nI_ge (b := 32) (by omega) (by decide)
    have ee := mc_ix s j
    have ec : (32 * nI s + nI j : Int32).toNatClampNeg = 32 * s + j := by rw [ee]; exact nI_clamp (by omega)
    have hin : vp_in (32 * nI s + nI j : Int32) 96 := pk_in (32 * s + j) 96 (by omega) ee
    have V := mc_Vn (HV (32 * s + j) (by omega))
    obtain ⟨q, a, b⟩ := ih (j + 1) (by omega)
    by_cases x : nI j ≤ y
    · exact ⟨q, fun post hp => br_f g3 (br_t x (nm_r (nI_1 j) (a post hp))), fun post hp => br_f g3 (br_t x (nm_r (nI_1 j) (b post hp)))⟩
    · by_cases z : c (32 * s + j) = -2
      · exact ⟨q, fun post hp => br_f g3 (br_f x ⟨hin, br_t (by rw [ec]; exact z) (nm_r (nI_1 j) (a post hp))⟩), fun post hp => br_f g3 (br_f x ⟨hin, br_t (by rw [ec]; exact V.mp z) (nm_r (nI_1 j) (b post hp))⟩)⟩
      · exact ⟨nI j, fun post hp => br_f g3 (br_f x ⟨hin, br_f (by rw [ec]; exact z) hp⟩), fun post hp => br_f g3 (br_f x ⟨hin, br_f (by rw [ec]; exact fun y => z (V.mpr y)) hp⟩)⟩
end
theorem i_vc_count {k : Nat} {u : SX} {v : SY} (I : i_Rel k u v) (hk : k + 5 ≤ 2560) (v1 : Int32) : wpX_count (fun r => wpY_count (fun r' => r' = r ∧ i_Rel (k + 5) u v) v v1) u v1 := by
  have I' := I
  obtain ⟨c, h, f, st, up0, dd⟩ := u
  obtain ⟨vv, w, g, r, d, up, id, tb⟩ := v
  obtain ⟨hu, K, F1, F2, F3⟩ := I
  subst hu
  unfold wpX_count wpY_count
  dsimp only
  by_cases hs : ∃ s, s < 3 ∧ v1 = nI s
  · obtain ⟨s, hs, rfl⟩ := hs
    have cl : (nI s).toNatClampNeg = s := nI_clamp (by omega)
    by_cases h4 : up s = 0
    · exact mx_ros4 _ _ _ _ _ _ hs h4 (br_f (by decide) (my_s0 _ _ _ _ _ _ _ _ hs (br_t rfl ⟨pk_in s 4 (by omega), br_t (by rw [cl]; exact h4) ⟨rfl, I'⟩⟩)))
    · obtain ⟨q, a, b⟩ := mc_count c h f st up dd vv w g r d id tb hs K.1 32 0 (by omega) 0
      exact mx_ros1 _ _ _ _ _ _ hs h4 (br_t rfl ⟨33, a _ (my_s0 _ _ _ _ _ _ _ _ hs (br_t rfl ⟨pk_in s 4 (by omega), br_f (by rw [cl]; exact h4) ⟨33, b _ ⟨rfl, I'⟩⟩⟩))⟩)
  · have hb : ∀ s, s < 3 → v1 ≠ nI s := fun s h3 e => hs ⟨s, h3, e⟩
    exact mx_ros0 _ _ _ _ _ _ hb (br_f (by decide) (my_s1 _ _ _ _ _ _ _ _ hb (br_f (by decide) ⟨rfl, I'⟩)))
theorem i_vc_total {k : Nat} {u : SX} {v : SY} (I : i_Rel k u v) (hk : k + 5 ≤ 2560) (v1 : Int32) : wpX_total (fun r => wpY_total (fun r' => r' = r ∧ i_Rel (k + 5) u v) v v1) u v1 := by
  have I' := I
  obtain ⟨c, h, f, st, up0, dd⟩ := u
  obtain ⟨vv, w, g, r, d, up, id, tb⟩ := v
  obtain ⟨hu, K, F1, F2, F3⟩ := I
  subst hu
  unfold wpX_total wpY_total
  dsimp only
  by_cases hs : ∃ s, s < 3 ∧ v1 = nI s
  · obtain ⟨s, hs, rfl⟩ := hs
    have cl : (nI s).toNatClampNeg = s := nI_clamp (by omega)
    by_cases h4 : up s = 0
    · exact mx_ros4 _ _ _ _ _ _ hs h4 (br_f (by decide) (my_s0 _ _ _ _ _ _ _ _ hs (br_t rfl ⟨pk_in s 4 (by omega), br_t (by rw [cl]; exact h4) ⟨rfl, I'⟩⟩)))
    · obtain ⟨q, a, b⟩ := mc_total c h f st up dd vv w g r d id tb hs K.1 32 0 (by omega) 0
      exact mx_ros1 _ _ _ _ _ _ hs h4 (br_t rfl ⟨33, a _ (my_s0 _ _ _ _ _ _ _ _ hs (br_t rfl ⟨pk_in s 4 (by omega), br_f (by rw [cl]; exact h4) ⟨33, b _ ⟨rfl, I'⟩⟩⟩))⟩)
  · have hb : ∀ s, s < 3 → v1 ≠ nI s := fun s h3 e => hs ⟨s, h3, e⟩
    exact mx_ros0 _ _ _ _ _ _ hb (br_f (by decide) (my_s1 _ _ _ _ _ _ _ _ hb (br_f (by decide) ⟨rfl, I'⟩)))
theorem i_vc_next {k : Nat} {u : SX} {v : SY} (I : i_Rel k u v) (hk : k + 5 ≤ 2560) (v1 : Int32) (v2 : Int32) : wpX_next (fun r => wpY_next (fun r' => r' = r ∧ i_Rel (k + 5) u v) v v1 v2) u v1 v2 := by
  have I' := I
  obtain ⟨c, h, f, st, up0, dd⟩ := u
  obtain ⟨vv, w, g, r, d, up, id, tb⟩ := v
  obtain ⟨hu, K, F1, F2, F3⟩ := I
  subst hu
  unfold wpX_next wpY_next
  dsimp only
  by_cases hs : ∃ s, s < 3 ∧ v1 = nI s
  · obtain ⟨s, hs, rfl⟩ := hs
    have cl : (nI s).toNatClampNeg = s := nI_clamp (by omega)
    by_cases h4 : up s = 0
    · exact mx_ros4 _ _ _ _ _ _ hs h4 (br_f (by decide) (my_s0 _ _ _ _ _ _ _ _ hs (br_t rfl ⟨pk_in s 4 (by omega), br_t (by rw [cl]; exact h4) ⟨rfl, I'⟩⟩)))
    · obtain ⟨q, a, b⟩ := mc_next c h f st up dd vv w g r d id tb (y := v2) hs K.1 32 0 (by omega)
      exact mx_ros1 _ _ _ _ _ _ hs h4 (br_t rfl ⟨33, a _ (my_s0 _ _ _ _ _ _ _ _ hs (br_t rfl ⟨pk_in s 4 (by omega), br_f (by rw [cl]; exact h4) ⟨33, b _ ⟨rfl, I'⟩⟩⟩))⟩)
  · have hb : ∀ s, s < 3 → v1 ≠ nI s := fun s h3 e => hs ⟨s, h3, e⟩
    exact mx_ros0 _ _ _ _ _ _ hb (br_f (by decide) (my_s1 _ _ _ _ _ _ _ _ hb (br_f (by decide) ⟨rfl, I'⟩)))
theorem i_vc_doubtful {k : Nat} {u : SX} {v : SY} (I : i_Rel k u v) (hk : k + 5 ≤ 2560) (v1 : Int32) : wpX_doubtful (fun r => wpY_doubtful (fun r' => r' = r ∧ i_Rel (k + 5) u v) v v1) u v1 := by
  have I' := I
  obtain ⟨c, h, f, st, up0, dd⟩ := u
  obtain ⟨vv, w, g, r, d, up, id, tb⟩ := v
  obtain ⟨hu, K, F1, F2, F3⟩ := I
  subst hu
  unfold wpX_doubtful wpY_doubtful
  dsimp only
  by_cases hs : ∃ s, s < 3 ∧ v1 = nI s
  · obtain ⟨s, hs, rfl⟩ := hs
    have cl : (nI s).toNatClampNeg = s := nI_clamp (by omega)
    by_cases h4 : up s = 0
    · exact mx_ros4 _ _ _ _ _ _ hs h4 (br_f (by decide) (my_s0 _ _ _ _ _ _ _ _ hs (br_t rfl ⟨pk_in s 4 (by omega), br_t (by rw [cl]; exact h4) ⟨rfl, I'⟩⟩)))
    · refine mx_ros1 _ _ _ _ _ _ hs h4 (br_t rfl (mx_held _ _ _ _ _ _ hs (my_s0 _ _ _ _ _ _ _ _ hs (br_t rfl ⟨pk_in s 4 (by omega), br_f (by rw [cl]; exact h4) ⟨pk_in s 3 hs, ?_⟩⟩))))
      rw [cl]
      by_cases z : id s = 0
      · rw [mc_cntD0 K hs z]; exact br_t z ⟨rfl, I'⟩
      · rw [mc_cntD K hs z]; exact br_f z (my_wf _ _ _ _ _ _ _ _ (a := 384) rfl (by omega) ⟨rfl, I'⟩)
  · have hb : ∀ s, s < 3 → v1 ≠ nI s := fun s h3 e => hs ⟨s, h3, e⟩
    exact mx_ros0 _ _ _ _ _ _ hb (br_f (by decide) (my_s1 _ _ _ _ _ _ _ _ hb (br_f (by decide) ⟨rfl, I'⟩)))
