/-! commit, kind by kind -/
section
variable (c h f st up dd v w g r d id tb : Nat → Int32)
theorem mx_cmB {post : Int32 → SX → Prop} {x y z p : Int32} (hb : (∀ t, t < 4 → x = nI t → st t = 0) ∨ y < 0 ∨ 5 < y ∨ (∀ s, s < 3 → z ≠ nI s)) (hp : post (-1) (c, h, f, st, up, dd)) : wpX_commit post (c, h, f, st, up, dd) x y z p := by
  unfold wpX_commit; dsimp only
  by_cases hg : ∃ t, t < 4 ∧ x = nI t ∧ st t ≠ 0
  · obtain ⟨t, ht, rfl, hs⟩ := hg
    have hb1 := hb.resolve_left fun q => hs (q t ht rfl)
    refine mx_g1 _ _ _ _ _ _ ht hs (br_f (by decide) ?_)
    by_cases y0 : y < 0
    · exact br_t y0 hp
    · refine br_f y0 ?_
      by_cases y5 : 5 < y
      · exact br_t y5 hp
      · exact br_f y5 (mx_s0 _ _ _ _ _ _ ((hb1.resolve_left y0).resolve_left y5) (br_t rfl hp))
  · exact mx_g0 _ _ _ _ _ _ (fun t ht e => Decidable.byContradiction fun q => hg ⟨t, ht, e, q⟩) (br_t rfl hp)
theorem my_cmB {post : Int32 → SY → Prop} {x y z p : Int32} (hb : (∀ t, t < 4 → x = nI t → r t = 0) ∨ y < 0 ∨ 5 < y ∨ (∀ s, s < 3 → z ≠ nI s)) (hp : post (-1) (v, w, g, r, d, up, id, tb)) : wpY_commit post (v, w, g, r, d, up, id, tb) x y z p := by
  unfold wpY_commit; dsimp only
  by_cases hg : ∃ t, t < 4 ∧ x = nI t ∧ r t ≠ 0
  · obtain ⟨t, ht, rfl, hs⟩ := hg
    have hb1 := hb.resolve_left fun q => hs (q t ht rfl)
    refine my_g1 _ _ _ _ _ _ _ _ ht hs (br_f (by decide) ?_)
    by_cases y0 : y < 0
    · exact br_t y0 hp
    · refine br_f y0 ?_
      by_cases y5 : 5 < y
      · exact br_t y5 hp
      · exact br_f y5 (my_s1 _ _ _ _ _ _ _ _ ((hb1.resolve_left y0).resolve_left y5) (br_f (by decide) hp))
  · exact my_g0 _ _ _ _ _ _ _ _ (fun t ht e => Decidable.byContradiction fun q => hg ⟨t, ht, e, q⟩) (br_t rfl hp)
theorem mx_cmD {post : Int32 → SX → Prop} {t s : Nat} {y p : Int32} (ht : t < 4) (h2 : st t = 2) (y0 : ¬ y < 0) (y5 : ¬ 5 < y) (hs : s < 3) (hp : post (-6) (c, mc_up 0 96 h (mc_dr h (nI t)), f, upd st t 0, up, dd)) : wpX_commit post (c, h, f, st, up, dd) (nI t) y (nI s) p := by
  unfold wpX_commit; dsimp only
  exact mx_g1 _ _ _ _ _ _ ht (by rw [h2]; decide) (br_f (by decide) (br_f y0 (br_f y5 (mx_s1 _ _ _ _ _ _ hs (br_f (by decide) ⟨pk_in t 4 ht, br_t (by rw [nI_clamp (by omega)]; exact h2) (mx_end _ _ _ _ _ _ ht hp)⟩)))))
theorem my_cmD {post : Int32 → SY → Prop} {t s : Nat} {y p : Int32} (ht : t < 4) (hr : r t ≠ 0) (h2 : d t ≠ 0) (y0 : ¬ y < 0) (y5 : ¬ 5 < y) (hs : s < 3) (hp : post (-6) (v, mc_up (96 * t) 96 w mc_z, g, upd r t 0, upd d t 0, up, id, tb)) : wpY_commit post (v, w, g, r, d, up, id, tb) (nI t) y (nI s) p := by
  unfold wpY_commit; dsimp only
  exact my_g1 _ _ _ _ _ _ _ _ ht hr (br_f (by decide) (br_f y0 (br_f y5 (my_s0 _ _ _ _ _ _ _ _ hs (br_t rfl ⟨pk_in t 4 ht, br_f (by rw [nI_clamp (by omega)]; exact h2) (my_end _ _ _ _ _ _ _ _ ht hp)⟩)))))
theorem mx_cm59 {post : Int32 → SX → Prop} {t s : Nat} {y p : Int32} (ht : t < 4) (h0 : st t ≠ 0) (h2 : st t ≠ 2) (y0 : ¬ y < 0) (y5 : ¬ 5 < y) (hs : s < 3) (hp : wX_commit_59 post (nI t) y (nI s) (if mc_cn h (nI t) (32 * s) 32 = 0 then 0 else 1) c h f st up dd) : wpX_commit post (c, h, f, st, up, dd) (nI t) y (nI s) p := by
  unfold wpX_commit; dsimp only
  refine mx_g1 _ _ _ _ _ _ ht h0 (br_f (by decide) (br_f y0 (br_f y5 (mx_s1 _ _ _ _ _ _ hs (br_f (by decide) ⟨pk_in t 4 ht, br_f (by rw [nI_clamp (by omega)]; exact h2) (mx_held _ _ _ _ _ _ hs ?_)⟩)))))
  have hl := mc_cnL h (nI t) (32 * s) 32
  by_cases z : mc_cn h (nI t) (32 * s) 32 = 0
  · rw [if_pos z] at hp; rw [z]; exact br_t (by decide) hp
  · rw [if_neg z] at hp; exact br_f (nI_nle (by omega) (by omega)) hp
theorem my_cm61 {post : Int32 → SY → Prop} {t s : Nat} {y p : Int32} (ht : t < 4) (hr : r t ≠ 0) (h2 : d t = 0) (y0 : ¬ y < 0) (y5 : ¬ 5 < y) (hs : s < 3) (hp : wY_commit_61 post (nI t) y (nI s) (if mc_cz w (96 * t + 32 * s) 32 = 0 then 0 else 1) v w g r d up id tb) : wpY_commit post (v, w, g, r, d, up, id, tb) (nI t) y (nI s) p := by
  unfold wpY_commit; dsimp only
  refine my_g1 _ _ _ _ _ _ _ _ ht hr (br_f (by decide) (br_f y0 (br_f y5 (my_s0 _ _ _ _ _ _ _ _ hs (br_t rfl ⟨pk_in t 4 ht, br_t (by rw [nI_clamp (by omega)]; exact h2) (my_wf _ _ _ _ _ _ _ _ (mc_96 t) (by omega) ?_)⟩)))))
  have hl := mc_czL w (96 * t + 32 * s) 32
  by_cases z : mc_cz w (96 * t + 32 * s) 32 = 0
  · rw [if_pos z] at hp; rw [z]; exact br_t (by decide) hp
  · rw [if_neg z] at hp; exact br_f (nI_nle (by omega) (by omega)) hp
theorem my_61L {post : Int32 → SY → Prop} {x1 x2 x3 z0 : Int32} (hk : x2 = 1 ∨ x2 = 2 ∨ x2 = 5) (hp : ∃ n, wY_commit_110 post x1 x2 x3 0 1 n 0 v w g r d up id tb) : wY_commit_61 post x1 x2 x3 z0 v w g r d up id tb := by
  have hq : wY_commit_82 post x1 x2 x3 v w g r d up id tb := by
    unfold wY_commit_82 wY_commit_83
    rcases hk with rfl | rfl | rfl
    · exact br_t rfl hp
    · exact br_f (by decide) (br_t rfl hp)
    · exact br_f (by decide) (br_f (by decide) (br_t rfl hp))
  unfold wY_commit_61
  refine br_c (fun _ => hq) (fun _ => br_f ?_ (br_f ?_ hq))
  · rcases hk with rfl | rfl | rfl <;> decide
  · rcases hk with rfl | rfl | rfl <;> decide
theorem my_61P {post : Int32 → SY → Prop} {x1 x2 x3 z0 : Int32} (hk : x2 = 0 ∨ ((x2 = 3 ∨ x2 = 4) ∧ z0 = 0)) (hp : ∃ n, wY_commit_110 post x1 x2 x3 0 0 n 0 v w g r d up id tb) : wY_commit_61 post x1 x2 x3 z0 v w g r d up id tb := by
  have hq : wY_commit_82 post x1 x2 x3 v w g r d up id tb := by
    unfold wY_commit_82 wY_commit_83
    rcases hk with rfl | ⟨rfl | rfl, _⟩
    · exact br_f (by decide) (br_f (by decide) (br_f (by decide) hp))
    · exact br_f (by decide) (br_f (by decide) (br_f (by decide) hp))
    · exact br_f (by decide) (br_f (by decide) (br_f (by decide) hp))
  unfold wY_commit_61
  rcases hk with rfl | ⟨_, rfl⟩
  · exact br_c (fun _ => hq) (fun _ => br_f (by decide) (br_f (by decide) hq))
  · exact br_t rfl hq
theorem my_61F {post : Int32 → SY → Prop} {x1 x2 x3 : Int32} (hk : x2 = 3 ∨ x2 = 4) (hp : ∃ n, wY_commit_110 post x1 x2 x3 1 0 n 0 v w g r d up id tb) : wY_commit_61 post x1 x2 x3 1 v w g r d up id tb := by
  have hq : wY_commit_78 post x1 x2 x3 v w g r d up id tb := by
    unfold wY_commit_78 wY_commit_83
    rcases hk with rfl | rfl
    · exact br_f (by decide) (br_f (by decide) (br_f (by decide) hp))
    · exact br_f (by decide) (br_f (by decide) (br_f (by decide) hp))
  unfold wY_commit_61
  refine br_f (by decide) ?_
  rcases hk with rfl | rfl
  · exact br_t rfl hq
  · exact br_f (by decide) (br_t rfl hq)
theorem mx_59P {post : Int32 → SX → Prop} {x1 x2 x3 z0 : Int32} (hk : x2 = 0 ∨ ((x2 = 3 ∨ x2 = 4) ∧ z0 = 0)) (hp : wX_commit_119 post x1 x2 x3 c h f st up dd) : wX_commit_59 post x1 x2 x3 z0 c h f st up dd := by
  unfold wX_commit_59 wX_commit_102
  rcases hk with rfl | ⟨rfl | rfl, rfl⟩
  · exact br_f (by decide) (br_f (by decide) (br_f (by decide) (br_f (by decide) hp)))
  · exact br_f (by decide) (br_f (by decide) (br_t rfl (br_t rfl (br_f (by decide) hp))))
  · exact br_f (by decide) (br_f (by decide) (br_f (by decide) (br_t rfl (br_t rfl hp))))
end
theorem mc_cnNe {h : Nat → Int32} {x : Int32} {i : Nat} (e : h i = x) : mc_cn h x (32 * (i / 32)) 32 ≠ 0 := fun z => by
  have := mc_cn0 32 z (i - 32 * (i / 32)) (by omega)
  rw [show 32 * (i / 32) + (i - 32 * (i / 32)) = i by omega] at this
  exact this e
section
variable {c h f st up dd v w g r d id tb : Nat → Int32}
/-- kinds 0, 3 and 4 where the store has no part: all is done -/
theorem mc_cB (K : mc_Core c h f st dd v w g r d id tb) (F1 : mc_F1 up id) (F2 : mc_F2 up st) (F3 : mc_F3 up h) {t s : Nat} (ht : t < 4) {x2 z0 : Int32} (hk : x2 = 0 ∨ ((x2 = 3 ∨ x2 = 4) ∧ z0 = 0)) : ∃ (X : SX) (Y : SY), (∀ k, i_Rel k X Y) ∧
    (∀ post : Int32 → SX → Prop, post 1 X → wX_commit_59 post (nI t) x2 (nI s) z0 c h f st up dd) ∧ (∀ post : Int32 → SY → Prop, post 1 Y → wY_commit_61 post (nI t) x2 (nI s) z0 v w g r d up id tb) := by
  have n5 : ¬ x2 = 5 := by rcases hk with rfl | ⟨rfl | rfl, _⟩ <;> decide
  obtain ⟨v2, w2, g2, id2, tb2, IY, bY⟩ := my_c110 v w g r d up id tb (x2 := x2) (x3 := nI s) (x6 := 0) (x7 := 0) ht (fun _ => False) (fun q => mc_cz w (96 * t + 32 * q) 32 ≠ 0)
    (fun _ _ z => z.elim) (fun _ _ z => z) (fun _ z => z.elim)
    (fun post n j v' w' g' id' tb' hj z z' _ hA _ => by
      have hl := mc_czL w' (96 * t + 32 * j) 32
      refine br_f (nI_ge (b := 3) (by omega) (by decide)) (my_wf _ _ _ _ _ _ _ _ (mc_96 t) (by omega) (br_f (nI_ne0 (by omega) (by omega)) (br_t rfl (br_t rfl ?_))))
      unfold wY_commit_173
      exact br_t rfl (hA z)) 3 0 (by omega) v w g id tb mc_IY0
  have K2 : mc_Core (mc_up 0 96 c (mc_co c h f (nI t))) (mc_up 0 96 h (mc_dr h (nI t))) f (upd st t 0) dd v2 (mc_up (96 * t) 96 w2 mc_z) g2 (upd r t 0) (upd d t 0) id2 tb2 := by
    refine mc_cmY K ht IY ?_ ?_ ?_ ?_ ?_ ?_ ?_ ?_
    · intro i hi z; rw [mc_upI (by omega) (by omega)]; exact if_neg z
    · intro _ _ _ z; exact z.elim
    · intro i hi z _; rw [mc_upI (by omega) (by omega)]; exact if_pos z
    · intro i hi _; exact mc_upI (by omega) (by omega)
    · intro i hi z
      rw [mc_upI (by omega) (by omega)]
      refine if_neg fun e => z ?_
      rw [← mc_cnt K ht (by omega)]
      exact mc_cnNe e
    · intro _ _ z; exact z.elim
    · intro _ _ _; rfl
    · intro _ _ z; exact z.elim
  refine ⟨(mc_up 0 96 c (mc_co c h f (nI t)), mc_up 0 96 h (mc_dr h (nI t)), f, upd st t 0, up, dd), (v2, mc_up (96 * t) 96 w2 mc_z, g2, upd r t 0, upd d t 0, up, id2, tb2), fun k => ⟨rfl, K2, fun q hq => ?_, mc_F2u F2, mc_F3d F3⟩, fun post hp => mx_59P _ _ _ _ _ _ hk ?_, fun post hp => my_61P _ _ _ _ _ _ _ _ hk ⟨4, bY post ?_⟩⟩
  · rw [(IY.2.2.2.2.1 q hq (fun z => z.2)).1]; exact F1 q hq
  · unfold wX_commit_119
    exact br_f n5 (mx_peace _ _ _ _ _ _ ht hp)
  · refine br_t (by decide) (my_end _ _ _ _ _ _ _ _ ht (br_t rfl ?_))
    unfold wY_commit_214 wY_commit_230
    exact br_t rfl (br_f n5 (br_t rfl (br_t rfl hp)))
/-- kind 4, the store has a part: nothing is done, and the store is lost -/
theorem mc_cD (K : mc_Core c h f st dd v w g r d id tb) (F1 : mc_F1 up id) (F2 : mc_F2 up st) (F3 : mc_F3 up h) {t s : Nat} (ht : t < 4) (hs : s < 3) : ∃ (X : SX) (Y : SY), (∀ k, i_Rel k X Y) ∧
    (∀ post : Int32 → SX → Prop, post 0 X → wX_commit_59 post (nI t) 4 (nI s) 1 c h f st up dd) ∧ (∀ post : Int32 → SY → Prop, post 0 Y → wY_commit_61 post (nI t) 4 (nI s) 1 v w g r d up id tb) := by
  obtain ⟨v2, w2, g2, id2, tb2, IY, bY⟩ := my_c110 v w g r d up id tb (x2 := 4) (x3 := nI s) (x6 := 1) (x7 := 0) ht (fun _ => False) (fun _ => False)
    (fun _ _ z => z.elim) (fun _ _ z => z.elim) (fun _ z => z.elim)
    (fun post n j v' w' g' id' tb' hj z z' _ _ hN => by
      have hl := mc_czL w' (96 * t + 32 * j) 32
      refine br_f (nI_ge (b := 3) (by omega) (by decide)) (my_wf _ _ _ _ _ _ _ _ (mc_96 t) (by omega) (br_f (nI_ne0 (by omega) (by omega)) (br_t rfl (br_f (by decide) (br_f (by decide) ?_)))))
      unfold wY_commit_173
      exact br_f (by decide) (br_f (by decide) (nm_r (nI_1 j) (hN (fun q => q) (fun q => q))))) 3 0 (by omega) v w g id tb mc_IY0
  have K2 : mc_Core c (mc_up 0 96 h (mc_dr h (nI t))) f (upd st t 0) dd v2 (mc_up (96 * t) 96 w2 mc_z) g2 (upd r t 0) (upd d t 0) id2 tb2 := by
    refine mc_cmY K ht IY ?_ ?_ ?_ ?_ ?_ ?_ ?_ ?_
    · intro i hi z; rw [mc_upI (by omega) (by omega)]; exact if_neg z
    · intro _ _ _ z; exact z.elim
    · intro i hi z _; rw [mc_upI (by omega) (by omega)]; exact if_pos z
    · intro _ _ z; exact z.elim
    · intro _ _ _; rfl
    · intro _ _ z; exact z.elim
    · intro _ _ _; rfl
    · intro _ _ z; exact z.elim
  obtain ⟨q, ⟨x1, x2, x3, x4, x5, x6⟩, ⟨y1, y2, y3, y4, y5, y6, y7, y8⟩, hr, lX, lY⟩ := mc_fall up K2 hs (fun q hq _ => by rw [(IY.2.2.2.2.1 q hq (fun z => z.2)).1]; exact F1 q hq) (mc_F2u F2) (mc_F3d F3)
  refine ⟨_, _, hr, fun post hp => ?_, fun post hp => my_61F _ _ _ _ _ _ _ _ (Or.inr rfl) ⟨4, bY post ?_⟩⟩
  · unfold wX_commit_59 wX_commit_102 wpX_commitLosingUnreadyStore
    exact br_f (by decide) (br_f (by decide) (br_f (by decide) (br_t rfl (br_f (by decide) (mx_end _ _ _ _ _ _ ht (lX _ hp))))))
  · refine br_t (by decide) (my_end _ _ _ _ _ _ _ _ ht (br_t rfl ?_))
    unfold wY_commit_214 wY_commit_224 wY_commit_230
    exact br_f (by decide) (lY _ (br_t rfl (br_f (by decide) (br_t rfl hp))))
/-- kind 3, the store has a part: it is left in doubt and lost, the rest is done -/
theorem mc_cC (K : mc_Core c h f st dd v w g r d id tb) (F1 : mc_F1 up id) (F2 : mc_F2 up st) (F3 : mc_F3 up h) {t s : Nat} (ht : t < 4) (hst : st t ≠ 0) (hs : s < 3) (hn : mc_cn h (nI t) (32 * s) 32 ≠ 0) : ∃ (X : SX) (Y : SY), (∀ k, i_Rel k X Y) ∧
    (∀ post : Int32 → SX → Prop, post 1 X → wX_commit_59 post (nI t) 3 (nI s) 1 c h f st up dd) ∧ (∀ post : Int32 → SY → Prop, post 1 Y → wY_commit_61 post (nI t) 3 (nI s) 1 v w g r d up id tb) := by
  have hn' : mc_cz w (96 * t + 32 * s) 32 ≠ 0 := by rw [← mc_cnt K ht hs]; exact hn
  obtain ⟨v2, w2, g2, id2, tb2, IY, bY⟩ := my_c110 v w g r d up id tb (x2 := 3) (x3 := nI s) (x6 := 1) (x7 := 0) ht (fun q => q = s) (fun q => q ≠ s ∧ mc_cz w (96 * t + 32 * q) 32 ≠ 0)
    (fun _ _ z => by rw [z]; exact hn') (fun _ _ z => z.2) (fun _ z q => q.1 z)
    (fun post n j v' w' g' id' tb' hj z z' hD hA _ => by
      have hl := mc_czL w' (96 * t + 32 * j) 32
      refine br_f (nI_ge (b := 3) (by omega) (by decide)) (my_wf _ _ _ _ _ _ _ _ (mc_96 t) (by omega) (br_f (nI_ne0 (by omega) (by omega)) (br_t rfl (br_f (by decide) (br_t rfl ?_)))))
      by_cases y : j = s
      · exact br_t (by rw [y]) (hD y)
      · refine br_f (fun q => y ((nI_eq (by omega) (by omega)).mp q)) ?_
        unfold wY_commit_173
        exact br_f (by decide) (br_t rfl (hA ⟨y, z⟩))) 3 0 (by omega) v w g id tb mc_IY0
  have h1s : ∀ i, i / 32 = s → mc_up (32 * s) 32 h (mc_db h (nI t)) i = mc_db h (nI t) i := fun i z => mc_upI (by omega) (by omega)
  have h1o : ∀ i, i / 32 ≠ s → mc_up (32 * s) 32 h (mc_db h (nI t)) i = h i := fun i z => mc_upO (by omega)
  have h1n : ∀ i, h i ≠ nI t → mc_up (32 * s) 32 h (mc_db h (nI t)) i = h i := fun i z => by
    by_cases y : i / 32 = s
    · rw [h1s i y]; exact if_neg z
    · exact h1o i y
  have K2 : mc_Core (mc_up 0 96 c (mc_co c (mc_up (32 * s) 32 h (mc_db h (nI t))) f (nI t))) (mc_up 0 96 (mc_up (32 * s) 32 h (mc_db h (nI t))) (mc_dr (mc_up (32 * s) 32 h (mc_db h (nI t))) (nI t))) f (upd st t 0) (upd dd s 1) v2 (mc_up (96 * t) 96 w2 mc_z) g2 (upd r t 0) (upd d t 0) id2 tb2 := by
    refine mc_cmY K ht IY ?_ ?_ ?_ ?_ ?_ ?_ ?_ ?_
    · intro i hi z
      rw [mc_upI (by omega) (by omega)]
      unfold mc_dr
      rw [h1n i z]
      exact if_neg z
    · intro i hi z y
      rw [mc_upI (by omega) (by omega)]
      unfold mc_dr
      rw [h1s i y, show mc_db h (nI t) i = -2 from if_pos z]
      exact if_neg (fun q => mc_m2 t ht q.symm)
    · intro i hi z y
      rw [mc_upI (by omega) (by omega)]
      unfold mc_dr
      rw [h1o i y]
      exact if_pos z
    · intro i hi y
      rw [mc_upI (by omega) (by omega)]
      unfold mc_co
      rw [h1o i y.1]
    · intro i hi y
      rw [mc_upI (by omega) (by omega)]
      unfold mc_co
      refine if_neg fun e => ?_
      by_cases x : i / 32 = s
      · rw [h1s i x] at e
        by_cases z : h i = nI t
        · rw [show mc_db h (nI t) i = -2 from if_pos z] at e; exact mc_m2 t ht e.symm
        · rw [show mc_db h (nI t) i = h i from if_neg z] at e; exact z e
      · rw [h1o i x] at e
        refine y ⟨x, ?_⟩
        rw [← mc_cnt K ht (by omega)]
        exact mc_cnNe e
    · intro q _ z; rw [z]; exact pk_us
    · intro q _ z; exact pk_un z
    · intro q _ z; rw [z]; exact mc_free F1 F2 F3 ht hs hst hn
  have F3' : mc_F3 up (mc_up 0 96 (mc_up (32 * s) 32 h (mc_db h (nI t))) (mc_dr (mc_up (32 * s) 32 h (mc_db h (nI t))) (nI t))) := by
    intro i hi q hq e
    have e1 := (mc_drO hq hi e).1
    refine F3 i hi q hq ?_
    by_cases x : i / 32 = s
    · rw [h1s i x] at e1
      by_cases z : h i = nI t
      · rw [show mc_db h (nI t) i = -2 from if_pos z] at e1; exact absurd e1.symm (mc_m2 q hq)
      · rw [show mc_db h (nI t) i = h i from if_neg z] at e1; exact e1
    · rw [h1o i x] at e1; exact e1
  obtain ⟨q, ⟨x1, x2, x3, x4, x5, x6⟩, ⟨y1, y2, y3, y4, y5, y6, y7, y8⟩, hr, lX, lY⟩ := mc_fall up K2 hs (fun q hq y => by rw [(IY.2.2.2.2.1 q hq (fun z => y z.2)).1]; exact F1 q hq) (mc_F2u F2) F3'
  refine ⟨_, _, hr, fun post hp => ?_, fun post hp => my_61F _ _ _ _ _ _ _ _ (Or.inl rfl) ⟨4, bY post ?_⟩⟩
  · unfold wX_commit_59 wpX_commitLosingReadyStore
    exact br_f (by decide) (br_f (by decide) (br_t rfl (br_f (by decide) (mx_leave1 _ _ _ _ _ _ hs hn (mx_peace _ _ _ _ _ _ ht (lX _ hp))))))
  · refine br_t (by decide) (my_end _ _ _ _ _ _ _ _ ht (br_t rfl ?_))
    unfold wY_commit_214 wY_commit_224 wY_commit_230
    exact br_f (by decide) (lY _ (br_t rfl (br_f (by decide) (br_f (by decide) hp))))
/-- kinds 1, 2, 5: every store with a part is left in doubt, and the leader is lost -/
theorem mc_cA (K : mc_Core c h f st dd v w g r d id tb) (F1 : mc_F1 up id) (F2 : mc_F2 up st) (F3 : mc_F3 up h) {t : Nat} (s : Nat) (ht : t < 4) (hst : st t ≠ 0) {x2 : Int32} (hk : x2 = 1 ∨ x2 = 2 ∨ x2 = 5) : ∃ (q q' : Int32) (c3 h3 f3 st3 dd3 v3 w3 g3 r3 d3 id3 tb3 : Nat → Int32), mc_Core c3 h3 f3 st3 dd3 v3 w3 g3 r3 d3 id3 tb3 ∧ (∀ t, t < 4 → st3 t = 0) ∧
    (∀ post : Int32 → SX → Prop, post (-5) (c3, h3, f3, st3, upd up 3 0, dd3) → wpX_commitLosingLeader post (c, h, f, st, up, dd) (nI t) (if x2 = 1 then 0 else 1)) ∧
    (∀ post : Int32 → SY → Prop, wY_commit_214 post x2 (nI s) 0 1 v3 w3 g3 r3 d3 (upd up 3 0) id3 tb3 → ∃ n, wY_commit_110 post (nI t) x2 (nI s) 0 1 n 0 v w g r d up id tb) := by
  have hb : vp_nar .boolean (if x2 = 1 then 0 else 1) = (if x2 = 1 then 0 else 1) := by
    by_cases z : x2 = 1
    · rw [if_pos z]; rfl
    · rw [if_neg z]; rfl
  obtain ⟨h1, dd1, IX, bX⟩ := mx_cl c h f st up dd (x := nI t) hb
  obtain ⟨v2, w2, g2, id2, tb2, IY, bY⟩ := my_c110 v w g r d up id tb (x2 := x2) (x3 := nI s) (x6 := 0) (x7 := 1) ht (fun q => mc_cz w (96 * t + 32 * q) 32 ≠ 0) (fun _ => False)
    (fun _ _ z => z) (fun _ _ z => z.elim) (fun _ _ z => z)
    (fun post n j v' w' g' id' tb' hj z z' hD _ _ => by
      have hl := mc_czL w' (96 * t + 32 * j) 32
      exact br_f (nI_ge (b := 3) (by omega) (by decide)) (my_wf _ _ _ _ _ _ _ _ (mc_96 t) (by omega) (br_f (nI_ne0 (by omega) (by omega)) (br_f (by decide) (hD z))))) 3 0 (by omega) v w g id tb mc_IY0
  obtain ⟨X1, X2, X3, X4⟩ := IX
  have K2 : mc_Core c h1 f (upd st t 0) dd1 v2 (mc_up (96 * t) 96 w2 mc_z) g2 (upd r t 0) (upd d t 0) id2 tb2 := by
    refine mc_cmY K ht IY ?_ ?_ ?_ ?_ ?_ ?_ ?_ ?_
    · intro i hi z; rw [X1 i hi (by omega)]; exact if_neg z
    · intro i hi z _; rw [X1 i hi (by omega)]; exact if_pos z
    · intro i hi z y
      refine absurd ?_ y
      rw [← mc_cnt K ht (by omega)]
      exact mc_cnNe z
    · intro _ _ z; exact z.elim
    · intro _ _ _; rfl
    · intro q hq z
      rw [← mc_cnt K ht hq] at z
      exact X3 q hq hq z
    · intro q hq z
      rw [← mc_cnt K ht hq] at z
      exact X4 q hq (fun y => z y.2)
    · intro q hq z
      rw [← mc_cnt K ht hq] at z
      exact mc_free F1 F2 F3 ht hq hst z
  obtain ⟨q, q', h3, st3, w3, r3, d3, _, K3, z3, lX, lY⟩ := mc_lead up K2 (st := st) (fun p _ => by
    by_cases y : p = t
    · rw [y]; exact Or.inr pk_us
    · exact Or.inl (pk_un y))
  refine ⟨q, q', c, h3, f, st3, dd1, v2, w3, g2, r3, d3, id2, tb2, K3, z3, fun post hp => bX post ⟨q, _, lX, hp⟩, fun post hp => ⟨4, bY post ?_⟩⟩
  exact br_t (by decide) (my_end _ _ _ _ _ _ _ _ ht (br_f (by decide) (lY _ hp)))
end
theorem i_vc_commit {k : Nat} {u : SX} {v : SY} (I : i_Rel k u v) (hk : k + 5 ≤ 2560) (v1 : Int32) (v2 : Int32) (v3 : Int32) (v4 : Int32) : wpX_commit (fun r u' => wpY_commit (fun r' v' => r' = r ∧ i_Rel (k + 5) u' v') v v1 v2 v3 v4) u v1 v2 v3 v4 := by
  have I' := I
  obtain ⟨c, h, f, st, up0, dd⟩ := u
  obtain ⟨vv, w, g, r, d, up, id, tb⟩ := v
  obtain ⟨hu, K, F1, F2, F3⟩ := I
  subst hu
  by_cases hg : ∃ t, t < 4 ∧ v1 = nI t ∧ st t ≠ 0
  · obtain ⟨t, ht, rfl, hst⟩ := hg
    have hr : r t ≠ 0 := fun q => hst ((mc_Tr (K.2.1 t ht)).mpr q)
    by_cases hb : v2 < 0 ∨ 5 < v2 ∨ (∀ s, s < 3 → v3 ≠ nI s)
    · exact mx_cmB _ _ _ _ _ _ (Or.inr hb) (my_cmB _ _ _ _ _ _ _ _ (Or.inr hb) ⟨rfl, I'⟩)
    · have y0 : ¬ v2 < 0 := fun q => hb (Or.inl q)
      have y5 : ¬ 5 < v2 := fun q => hb (Or.inr (Or.inl q))
      obtain ⟨s, hs, rfl⟩ : ∃ s, s < 3 ∧ v3 = nI s := Classical.byContradiction fun q => hb (Or.inr (Or.inr fun s h3 e => q ⟨s, h3, e⟩))
      by_cases h2 : st t = 2
      · exact mx_cmD _ _ _ _ _ _ ht h2 y0 y5 hs (my_cmD _ _ _ _ _ _ _ _ ht hr ((mc_Td (K.2.1 t ht)).mp h2) y0 y5 hs ⟨rfl, rfl, mc_end2 K ht, F1, mc_F2u F2, mc_F3d F3⟩)
      · have d0 : d t = 0 := Decidable.byContradiction fun q => h2 ((mc_Td (K.2.1 t ht)).mpr q)
        have bc : (if mc_cz w (96 * t + 32 * s) 32 = 0 then (0 : Int32) else 1) = (if mc_cn h (nI t) (32 * s) 32 = 0 then 0 else 1) := by rw [mc_cnt K ht hs]
        have fin : ∀ (q : Int32) (X : SX) (Y : SY), (∀ k, i_Rel k X Y) → (∀ post : Int32 → SX → Prop, post q X → wX_commit_59 post (nI t) v2 (nI s) (if mc_cn h (nI t) (32 * s) 32 = 0 then 0 else 1) c h f st up dd) → (∀ post : Int32 → SY → Prop, post q Y → wY_commit_61 post (nI t) v2 (nI s) (if mc_cn h (nI t) (32 * s) 32 = 0 then 0 else 1) vv w g r d up id tb) → wpX_commit (fun r1 u' => wpY_commit (fun r' v' => r' = r1 ∧ i_Rel (k + 5) u' v') (vv, w, g, r, d, up, id, tb) (nI t) v2 (nI s) v4) (c, h, f, st, up, dd) (nI t) v2 (nI s) v4 := by
          intro q X Y hXY bX bY
          exact mx_cm59 _ _ _ _ _ _ ht hst h2 y0 y5 hs (bX _ (my_cm61 _ _ _ _ _ _ _ _ ht hr d0 y0 y5 hs (by rw [bc]; exact bY _ ⟨rfl, hXY _⟩)))
        have hkind : v2 = 0 ∨ v2 = 1 ∨ v2 = 2 ∨ v2 = 3 ∨ v2 = 4 ∨ v2 = 5 := by
          obtain ⟨j, hj, rfl⟩ := nI_of2 (n := 5) (M := 5) (by decide) y0 (Int32.not_lt.mp y5)
          have : j = 0 ∨ j = 1 ∨ j = 2 ∨ j = 3 ∨ j = 4 ∨ j = 5 := by omega
          rcases this with rfl | rfl | rfl | rfl | rfl | rfl <;> decide
        rcases hkind with rfl | rfl | rfl | rfl | rfl | rfl
        · obtain ⟨X, Y, hXY, bX, bY⟩ := mc_cB K F1 F2 F3 (s := s) ht (x2 := 0) (z0 := if mc_cn h (nI t) (32 * s) 32 = 0 then 0 else 1) (Or.inl rfl)
          exact fin 1 X Y hXY bX bY
        · obtain ⟨_, _, c3, h3, f3, st3, dd3, v3, w3, g3, r3, d3, id3, tb3, K3, z3, lX, lY⟩ := mc_cA K F1 F2 F3 s ht hst (x2 := 1) (Or.inl rfl)
          refine fin (-5) (c3, h3, f3, st3, upd up 3 0, dd3) (v3, w3, g3, r3, d3, upd up 3 0, id3, tb3) (fun k => ⟨rfl, K3, mc_leadF K3 z3 pk_us⟩) (fun post hp => ?_) (fun post hp => my_61L _ _ _ _ _ _ _ _ (Or.inl rfl) (lY post ?_))
          · unfold wX_commit_59
            exact br_t rfl (lX _ hp)
          · unfold wY_commit_214 wY_commit_230
            exact br_t rfl (br_f (by decide) (br_f (by decide) hp))
        · obtain ⟨_, _, c3, h3, f3, st3, dd3, v3, w3, g3, r3, d3, id3, tb3, K3, z3, lX, lY⟩ := mc_cA K F1 F2 F3 s ht hst (x2 := 2) (Or.inr (Or.inl rfl))
          refine fin (-5) (c3, h3, f3, st3, upd up 3 0, dd3) (v3, w3, g3, r3, d3, upd up 3 0, id3, tb3) (fun k => ⟨rfl, K3, mc_leadF K3 z3 pk_us⟩) (fun post hp => ?_) (fun post hp => my_61L _ _ _ _ _ _ _ _ (Or.inr (Or.inl rfl)) (lY post ?_))
          · unfold wX_commit_59
            exact br_f (by decide) (br_t rfl (lX _ hp))
          · unfold wY_commit_214 wY_commit_230
            exact br_t rfl (br_f (by decide) (br_f (by decide) hp))
        · by_cases z : mc_cn h (nI t) (32 * s) 32 = 0
          · obtain ⟨X, Y, hXY, bX, bY⟩ := mc_cB K F1 F2 F3 (s := s) ht (x2 := 3) (z0 := 0) (Or.inr ⟨Or.inl rfl, rfl⟩)
            rw [if_pos z] at fin
            exact fin 1 X Y hXY bX bY
          · obtain ⟨X, Y, hXY, bX, bY⟩ := mc_cC K F1 F2 F3 ht hst hs z
            rw [if_neg z] at fin
            exact fin 1 X Y hXY bX bY
        · by_cases z : mc_cn h (nI t) (32 * s) 32 = 0
          · obtain ⟨X, Y, hXY, bX, bY⟩ := mc_cB K F1 F2 F3 (s := s) ht (x2 := 4) (z0 := 0) (Or.inr ⟨Or.inr rfl, rfl⟩)
            rw [if_pos z] at fin
            exact fin 1 X Y hXY bX bY
          · obtain ⟨X, Y, hXY, bX, bY⟩ := mc_cD K F1 F2 F3 ht hs
            rw [if_neg z] at fin
            exact fin 0 X Y hXY bX bY
        · obtain ⟨_, _, c3, h3, f3, st3, dd3, v3, w3, g3, r3, d3, id3, tb3, K3, z3, lX, lY⟩ := mc_cA K F1 F2 F3 s ht hst (x2 := 5) (Or.inr (Or.inr rfl))
          obtain ⟨g1, g2, g3'⟩ := mc_leadF (up := upd up 3 0) K3 z3 pk_us
          obtain ⟨q, ⟨x1, x2, x3, x4, x5, x6⟩, ⟨y1, y2, y3, y4, y5', y6, y7, y8⟩, hXY, aX, aY⟩ := mc_fall (upd up 3 0) K3 hs (fun q hq _ => g1 q hq) g2 g3'
          refine fin (-5) _ _ hXY (fun post hp => ?_) (fun post hp => my_61L _ _ _ _ _ _ _ _ (Or.inr (Or.inr rfl)) (lY post ?_))
          · unfold wX_commit_59 wX_commit_102 wX_commit_119
            exact br_f (by decide) (br_f (by decide) (br_f (by decide) (br_f (by decide) (br_t rfl (lX _ (aX _ hp))))))
          · unfold wY_commit_214 wY_commit_224 wY_commit_230
            exact br_t rfl (br_t rfl (aY _ (br_f (by decide) hp)))
  · have hb : ∀ t, t < 4 → v1 = nI t → st t = 0 := fun t ht e => Decidable.byContradiction fun q => hg ⟨t, ht, e, q⟩
    exact mx_cmB _ _ _ _ _ _ (Or.inl hb) (my_cmB _ _ _ _ _ _ _ _ (Or.inl fun t ht e => (mc_Tr (K.2.1 t ht)).mp (hb t ht e)) ⟨rfl, I'⟩)
