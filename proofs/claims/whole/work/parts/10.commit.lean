/-! commit -/
/-- X has left the stores below j in doubt about x -/
def mc_IX (h dd : Nat → Int32) (x b : Int32) (j : Nat) (h' dd' : Nat → Int32) : Prop :=
  (∀ i, i < 96 → i / 32 < j → h' i = mc_db h x i) ∧ (∀ i, i < 96 → ¬ i / 32 < j → h' i = h i) ∧
  (∀ s, s < 3 → s < j → mc_cn h x (32 * s) 32 ≠ 0 → dd' s = b) ∧ (∀ s, s < 3 → ¬ (s < j ∧ mc_cn h x (32 * s) 32 ≠ 0) → dd' s = dd s)
theorem mx_cl2 (c h f st up dd : Nat → Int32) {x b : Int32} (hb : vp_nar .boolean b = b) : ∀ e j, j + e = 3 → ∀ h' dd', mc_IX h dd x b j h' dd' → ∃ h'' dd'', mc_IX h dd x b 3 h'' dd'' ∧
    ∀ post : Int32 → SX → Prop, (∃ (q : Int32) (X : SX), (∀ post : Int32 → SX → Prop, post q X → wpX_loseLeader post (c, h'', f, st, up, dd'')) ∧ post (-5) X) → wX_commitLosingLeader_2 post x b (e + 1) (nI j) c h' f st up dd' := by
  intro e
  induction e with
  | zero =>
    intro j hj h' dd' H
    obtain rfl : j = 3 := by omega
    refine ⟨h', dd', H, fun post hL => ?_⟩
    obtain ⟨q, ⟨x1, x2, x3, x4, x5, x6⟩, bX, hp⟩ := hL
    exact br_t (by decide) (bX _ hp)
  | succ e ih =>
    intro j hj h' dd' H
    have j3 : j < 3 := by omega
    obtain ⟨H1, H2, H3, H4⟩ := H
    have g3 : ¬ (3 : Int32) ≤ nI j := nI_ge (b := 3) (by omega) (by decide)
    have ec : mc_cn h' x (32 * j) 32 = mc_cn h x (32 * j) 32 := mc_cnE 32 fun k hk => H2 (32 * j + k) (by omega) (by omega)
    by_cases z : mc_cn h x (32 * j) 32 = 0
    · have HH : mc_IX h dd x b (j + 1) h' dd' := by
        refine ⟨?_, ?_, ?_, ?_⟩
        · intro i hi hij
          by_cases y : i / 32 < j
          · exact H1 i hi y
          · rw [H2 i hi y]
            have := mc_cn0 32 z (i - 32 * j) (by omega)
            rw [show 32 * j + (i - 32 * j) = i by omega] at this
            exact (if_neg this).symm
        · exact fun i hi hij => H2 i hi (by omega)
        · intro s hs hsj hn
          by_cases y : s = j
          · rw [y] at hn; exact absurd z hn
          · exact H3 s hs (by omega) hn
        · intro s hs hn
          by_cases y : s = j
          · exact H4 s hs (fun q => absurd q.1 (by omega))
          · exact H4 s hs (fun q => hn ⟨by omega, q.2⟩)
      obtain ⟨h2, dd2, I2, bX⟩ := ih (j + 1) (by omega) h' dd' HH
      exact ⟨h2, dd2, I2, fun post hL => br_f g3 (mx_leave0 _ _ _ _ _ _ j3 (ec.trans z) (nm_r (nI_1 j) (bX post hL)))⟩
    · have HH : mc_IX h dd x b (j + 1) (mc_up (32 * j) 32 h' (mc_db h' x)) (upd dd' j (vp_nar .boolean b)) := by
        refine ⟨?_, ?_, ?_, ?_⟩
        · intro i hi hij
          by_cases y : i / 32 < j
          · rw [mc_upO (by omega)]; exact H1 i hi y
          · rw [mc_upI (by omega) (by omega)]
            unfold mc_db
            rw [H2 i hi y]
        · intro i hi hij
          rw [mc_upO (by omega)]; exact H2 i hi (by omega)
        · intro s hs hsj hn
          by_cases y : s = j
          · rw [y, pk_us]; exact hb
          · rw [pk_un y]; exact H3 s hs (by omega) hn
        · intro s hs hn
          by_cases y : s = j
          · rw [y] at hn; exact absurd ⟨by omega, z⟩ hn
          · rw [pk_un y]; exact H4 s hs (fun q => hn ⟨by omega, q.2⟩)
      obtain ⟨h2, dd2, I2, bX⟩ := ih (j + 1) (by omega) _ _ HH
      exact ⟨h2, dd2, I2, fun post hL => br_f g3 (mx_leave1 _ _ _ _ _ _ j3 (by rw [ec]; exact z) (nm_r (nI_1 j) (bX post hL)))⟩
theorem mx_cl (c h f st up dd : Nat → Int32) {x b : Int32} (hb : vp_nar .boolean b = b) : ∃ h' dd', mc_IX h dd x b 3 h' dd' ∧
    ∀ post : Int32 → SX → Prop, (∃ (q : Int32) (X : SX), (∀ post : Int32 → SX → Prop, post q X → wpX_loseLeader post (c, h', f, st, up, dd')) ∧ post (-5) X) → wpX_commitLosingLeader post (c, h, f, st, up, dd) x b := by
  obtain ⟨h2, dd2, I2, bX⟩ := mx_cl2 c h f st up dd (x := x) hb 3 0 (by omega) h dd ⟨fun i _ z => absurd z (by omega), fun _ _ _ => rfl, fun s _ z => absurd z (by omega), fun _ _ _ => rfl⟩
  refine ⟨h2, dd2, I2, fun post hL => ?_⟩
  unfold wpX_commitLosingLeader; dsimp only
  exact ⟨4, bX post hL⟩
/-- Y's commit loop: in the stores below j, D are left in doubt, A are done -/
def mc_IY (v w g id tb : Nat → Int32) (t : Nat) (b : Int32) (D A : Nat → Prop) (j : Nat) (v' w' g' id' tb' : Nat → Int32) : Prop :=
  (∀ k, k < 384 → w' k = w k ∧ g' k = g k) ∧
  (∀ i, i < 96 → i / 32 < j → D (i / 32) → w' (384 + i) = w (96 * t + i) ∧ g' (384 + i) = g (96 * t + i)) ∧
  (∀ i, i < 96 → ¬ (i / 32 < j ∧ D (i / 32)) → w' (384 + i) = w (384 + i) ∧ g' (384 + i) = g (384 + i)) ∧
  (∀ s, s < 3 → s < j → D s → id' s = 1 ∧ tb' s = b) ∧ (∀ s, s < 3 → ¬ (s < j ∧ D s) → id' s = id s ∧ tb' s = tb s) ∧
  (∀ i, i < 96 → i / 32 < j → A (i / 32) → v' i = mc_ap v w g (96 * t) i) ∧ (∀ i, i < 96 → ¬ (i / 32 < j ∧ A (i / 32)) → v' i = v i)
section
variable {v w g id tb v' w' g' id' tb' : Nat → Int32} {t j : Nat} {b : Int32} {D A : Nat → Prop}
theorem mc_IY0 : mc_IY v w g id tb t b D A 0 v w g id tb :=
  ⟨fun _ _ => ⟨rfl, rfl⟩, fun i _ z => absurd z (by omega), fun _ _ _ => ⟨rfl, rfl⟩, fun s _ z => absurd z (by omega), fun _ _ _ => ⟨rfl, rfl⟩, fun i _ z => absurd z (by omega), fun _ _ _ => rfl⟩
theorem mc_IYn (H : mc_IY v w g id tb t b D A j v' w' g' id' tb') (hD : ¬ D j) (hA : ¬ A j) : mc_IY v w g id tb t b D A (j + 1) v' w' g' id' tb' := by
  obtain ⟨H1, H2, H3, H4, H5, H6, H7⟩ := H
  have hd : ∀ s, s < j + 1 → D s → s < j := fun s z q => by
    by_cases y : s = j
    · rw [y] at q; exact absurd q hD
    · omega
  have ha : ∀ s, s < j + 1 → A s → s < j := fun s z q => by
    by_cases y : s = j
    · rw [y] at q; exact absurd q hA
    · omega
  exact ⟨H1, fun i hi z q => H2 i hi (hd _ z q) q, fun i hi z => H3 i hi (fun q => z ⟨by omega, q.2⟩), fun s hs z q => H4 s hs (hd s z q) q, fun s hs z => H5 s hs (fun q => z ⟨by omega, q.2⟩), fun i hi z q => H6 i hi (ha _ z q) q, fun i hi z => H7 i hi (fun q => z ⟨by omega, q.2⟩)⟩
theorem mc_IYd (ht : t < 4) (hj : j < 3) (H : mc_IY v w g id tb t b D A j v' w' g' id' tb') (hD : D j) (hA : ¬ A j) : mc_IY v w g id tb t b D A (j + 1) v' (mc_up (384 + 32 * j) 32 w' (mc_ov w' t)) (mc_up (384 + 32 * j) 32 g' (mc_ov g' t)) (upd id' j 1) (upd tb' j b) := by
  obtain ⟨H1, H2, H3, H4, H5, H6, H7⟩ := H
  have ha : ∀ s, s < j + 1 → A s → s < j := fun s z q => by
    by_cases y : s = j
    · rw [y] at q; exact absurd q hA
    · omega
  have ov : ∀ (a : Nat → Int32) (i : Nat), mc_ov a t (384 + i) = a (96 * t + i) := fun a i => by
    unfold mc_ov; rw [Nat.add_sub_cancel_left]
  refine ⟨?_, ?_, ?_, ?_, ?_, fun i hi z q => H6 i hi (ha _ z q) q, fun i hi z => H7 i hi (fun q => z ⟨by omega, q.2⟩)⟩
  · intro k hk
    rw [mc_upO (by omega), mc_upO (by omega)]; exact H1 k hk
  · intro i hi hij hd
    by_cases y : i / 32 = j
    · rw [mc_upI (by omega) (by omega), mc_upI (by omega) (by omega), ov, ov]
      exact H1 (96 * t + i) (by omega)
    · rw [mc_upO (by omega), mc_upO (by omega)]
      exact H2 i hi (by omega) hd
  · intro i hi z
    have y : i / 32 ≠ j := fun q => z ⟨by omega, by rw [q]; exact hD⟩
    rw [mc_upO (by omega), mc_upO (by omega)]
    exact H3 i hi (fun q => z ⟨by omega, q.2⟩)
  · intro s hs hsj hd
    by_cases y : s = j
    · rw [y]; exact ⟨pk_us, pk_us⟩
    · rw [pk_un y, pk_un y]; exact H4 s hs (by omega) hd
  · intro s hs z
    have y : s ≠ j := fun q => z ⟨by omega, by rw [q]; exact hD⟩
    rw [pk_un y, pk_un y]; exact H5 s hs (fun q => z ⟨by omega, q.2⟩)
theorem mc_IYa (ht : t < 4) (hj : j < 3) (H : mc_IY v w g id tb t b D A j v' w' g' id' tb') (hD : ¬ D j) (hA : A j) : mc_IY v w g id tb t b D A (j + 1) (mc_up (32 * j) 32 v' (mc_ap v' w' g' (96 * t))) w' g' id' tb' := by
  obtain ⟨H1, H2, H3, H4, H5, H6, H7⟩ := H
  have hd : ∀ s, s < j + 1 → D s → s < j := fun s z q => by
    by_cases y : s = j
    · rw [y] at q; exact absurd q hD
    · omega
  refine ⟨H1, fun i hi z q => H2 i hi (hd _ z q) q, fun i hi z => H3 i hi (fun q => z ⟨by omega, q.2⟩), fun s hs z q => H4 s hs (hd s z q) q, fun s hs z => H5 s hs (fun q => z ⟨by omega, q.2⟩), ?_, ?_⟩
  · intro i hi hij ha
    by_cases y : i / 32 = j
    · rw [mc_upI (by omega) (by omega)]
      unfold mc_ap
      rw [(H1 (96 * t + i) (by omega)).1, (H1 (96 * t + i) (by omega)).2, H7 i hi (fun q => absurd q.1 (by omega))]
    · rw [mc_upO (by omega)]; exact H6 i hi (by omega) ha
  · intro i hi z
    have y : i / 32 ≠ j := fun q => z ⟨by omega, by rw [q]; exact hA⟩
    rw [mc_upO (by omega)]; exact H7 i hi (fun q => z ⟨by omega, q.2⟩)
end
section
variable (v w g r d up id tb : Nat → Int32)
theorem my_153 {post : Int32 → SY → Prop} {J : Int32 → (Nat → Int32) → (Nat → Int32) → (Nat → Int32) → (Nat → Int32) → (Nat → Int32) → (Nat → Int32) → (Nat → Int32) → (Nat → Int32) → Prop} {t j : Nat} {x2 x3 x6 x7 : Int32} (ht : t < 4) (hj : j < 3)
    (hp : J (nI (j + 1)) v (mc_up (384 + 32 * j) 32 w (mc_ov w t)) (mc_up (384 + 32 * j) 32 g (mc_ov g t)) r d up (upd id j 1) (upd tb j (if x2 = 1 then 0 else 1))) : wY_commit_153 post J (nI t) x2 x3 x6 x7 (nI j) v w g r d up id tb := by
  unfold wY_commit_153 wY_commit_167
  by_cases z : x2 = 1
  · rw [if_pos z] at hp
    refine br_t z (my_doubt _ _ _ _ _ _ _ _ ht hj ?_)
    dsimp only
    rw [mc_b0]
    exact nm_r (nI_1 j) hp
  · rw [if_neg z] at hp
    refine br_f z (my_doubt _ _ _ _ _ _ _ _ ht hj ?_)
    dsimp only
    rw [mc_b1]
    exact nm_r (nI_1 j) hp
theorem my_183 {post : Int32 → SY → Prop} {J : Int32 → (Nat → Int32) → (Nat → Int32) → (Nat → Int32) → (Nat → Int32) → (Nat → Int32) → (Nat → Int32) → (Nat → Int32) → (Nat → Int32) → Prop} {t j : Nat} {x2 x3 x6 x7 : Int32} (ht : t < 4) (hj : j < 3)
    (hp : J (nI (j + 1)) (mc_up (32 * j) 32 v (mc_ap v w g (96 * t))) w g r d up id tb) : wY_commit_183 post J (nI t) x2 x3 x6 x7 (nI j) v w g r d up id tb := by
  unfold wY_commit_183
  refine my_apply _ _ _ _ _ _ _ _ (mc_96 t) (by omega) hj ?_
  dsimp only
  exact nm_r (nI_1 j) hp
theorem my_110s {post : Int32 → SY → Prop} {t j n : Nat} {x2 x3 x6 x7 : Int32} (ht : t < 4) (hj : j < 3) (hz : mc_cz w (96 * t + 32 * j) 32 = 0) (hp : wY_commit_110 post (nI t) x2 x3 x6 x7 n (nI (j + 1)) v w g r d up id tb) : wY_commit_110 post (nI t) x2 x3 x6 x7 (n + 1) (nI j) v w g r d up id tb := by
  refine br_f (nI_ge (b := 3) (by omega) (by decide)) (my_wf _ _ _ _ _ _ _ _ (mc_96 t) (by omega) ?_)
  rw [hz]
  exact br_t rfl (nm_r (nI_1 j) hp)
/-- the loop, given how a store that t has written in is met: left in doubt (D), done (A), or passed over -/
theorem my_c110 {t : Nat} {x2 x3 x6 x7 : Int32} (ht : t < 4) (D A : Nat → Prop)
    (hDz : ∀ s, s < 3 → D s → mc_cz w (96 * t + 32 * s) 32 ≠ 0) (hAz : ∀ s, s < 3 → A s → mc_cz w (96 * t + 32 * s) 32 ≠ 0) (hDA : ∀ s, D s → ¬ A s)
    (hB : ∀ (post : Int32 → SY → Prop) (n j : Nat) (v' w' g' id' tb' : Nat → Int32), j < 3 → mc_cz w (96 * t + 32 * j) 32 ≠ 0 → mc_cz w' (96 * t + 32 * j) 32 ≠ 0 →
      (D j → wY_commit_153 post (wY_commit_110 post (nI t) x2 x3 x6 x7 n) (nI t) x2 x3 x6 x7 (nI j) v' w' g' r d up id' tb') →
      (A j → wY_commit_183 post (wY_commit_110 post (nI t) x2 x3 x6 x7 n) (nI t) x2 x3 x6 x7 (nI j) v' w' g' r d up id' tb') →
      (¬ D j → ¬ A j → wY_commit_110 post (nI t) x2 x3 x6 x7 n (nI (j + 1)) v' w' g' r d up id' tb') →
      wY_commit_110 post (nI t) x2 x3 x6 x7 (n + 1) (nI j) v' w' g' r d up id' tb') :
    ∀ e j, j + e = 3 → ∀ v' w' g' id' tb', mc_IY v w g id tb t (if x2 = 1 then 0 else 1) D A j v' w' g' id' tb' →
      ∃ v2 w2 g2 id2 tb2, mc_IY v w g id tb t (if x2 = 1 then 0 else 1) D A 3 v2 w2 g2 id2 tb2 ∧
      ∀ post : Int32 → SY → Prop, wY_commit_110 post (nI t) x2 x3 x6 x7 (0 + 1) (nI 3) v2 w2 g2 r d up id2 tb2 → wY_commit_110 post (nI t) x2 x3 x6 x7 (e + 1) (nI j) v' w' g' r d up id' tb' := by
  intro e
  induction e with
  | zero =>
    intro j hj v' w' g' id' tb' H
    obtain rfl : j = 3 := by omega
    exact ⟨v', w', g', id', tb', H, fun post hp => hp⟩
  | succ e ih =>
    intro j hj v' w' g' id' tb' H
    have j3 : j < 3 := by omega
    have ec : mc_cz w' (96 * t + 32 * j) 32 = mc_cz w (96 * t + 32 * j) 32 := mc_czE 32 fun k hk => (H.1 (96 * t + 32 * j + k) (by omega)).1
    by_cases z : mc_cz w (96 * t + 32 * j) 32 = 0
    · obtain ⟨v2, w2, g2, id2, tb2, I2, bY⟩ := ih (j + 1) (by omega) _ _ _ _ _ (mc_IYn H (fun q => hDz j j3 q z) (fun q => hAz j j3 q z))
      exact ⟨v2, w2, g2, id2, tb2, I2, fun post hp => my_110s _ _ _ _ _ _ _ _ ht j3 (ec.trans z) (bY post hp)⟩
    · have z' : mc_cz w' (96 * t + 32 * j) 32 ≠ 0 := by rw [ec]; exact z
      by_cases q1 : D j
      · obtain ⟨v2, w2, g2, id2, tb2, I2, bY⟩ := ih (j + 1) (by omega) _ _ _ _ _ (mc_IYd ht j3 H q1 (hDA j q1))
        exact ⟨v2, w2, g2, id2, tb2, I2, fun post hp => hB post _ j _ _ _ _ _ j3 z z' (fun _ => my_153 _ _ _ _ _ _ _ _ ht j3 (bY post hp)) (fun q => absurd q (hDA j q1)) (fun q => absurd q1 q)⟩
      · by_cases q2 : A j
        · obtain ⟨v2, w2, g2, id2, tb2, I2, bY⟩ := ih (j + 1) (by omega) _ _ _ _ _ (mc_IYa ht j3 H q1 q2)
          exact ⟨v2, w2, g2, id2, tb2, I2, fun post hp => hB post _ j _ _ _ _ _ j3 z z' (fun q => absurd q q1) (fun _ => my_183 _ _ _ _ _ _ _ _ ht j3 (bY post hp)) (fun _ q => absurd q2 q)⟩
        · obtain ⟨v2, w2, g2, id2, tb2, I2, bY⟩ := ih (j + 1) (by omega) _ _ _ _ _ (mc_IYn H q1 q2)
          exact ⟨v2, w2, g2, id2, tb2, I2, fun post hp => hB post _ j _ _ _ _ _ j3 z z' (fun q => absurd q q1) (fun q => absurd q q2) (fun _ _ => bY post hp)⟩
end
/-- both sides have gone through the stores, and t has ended: related again -/
theorem mc_cmY {c h f st dd v w g r d id tb : Nat → Int32} (K : mc_Core c h f st dd v w g r d id tb) {t : Nat} (ht : t < 4) {b : Int32} {D A : Nat → Prop} {c' h' dd' v' w' g' id' tb' : Nat → Int32}
    (H : mc_IY v w g id tb t b D A 3 v' w' g' id' tb')
    (hh : ∀ i, i < 96 → h i ≠ nI t → h' i = h i) (hh1 : ∀ i, i < 96 → h i = nI t → D (i / 32) → h' i = -2) (hh0 : ∀ i, i < 96 → h i = nI t → ¬ D (i / 32) → h' i = -1)
    (hc1 : ∀ i, i < 96 → A (i / 32) → c' i = mc_co c h f (nI t) i) (hc0 : ∀ i, i < 96 → ¬ A (i / 32) → c' i = c i)
    (hd1 : ∀ s, s < 3 → D s → dd' s = b) (hd0 : ∀ s, s < 3 → ¬ D s → dd' s = dd s) (hD : ∀ s, s < 3 → D s → id s = 0) :
    mc_Core c' h' f (upd st t 0) dd' v' (mc_up (96 * t) 96 w' mc_z) g' (upd r t 0) (upd d t 0) id' tb' := by
  obtain ⟨H1, H2, H3, H4, H5, H6, H7⟩ := H
  refine mc_cm K ht D (fun q _ z => ⟨pk_un z, pk_un z, pk_un z⟩) (Or.inl ⟨pk_us, pk_us, pk_us⟩) hh hh1 hh0 ?_ ?_ ?_ ?_ ?_ ?_
  · intro i hi
    by_cases z : A (i / 32)
    · unfold mc_V
      rw [hc1 i hi z, H6 i hi (by omega) z]
      unfold mc_co mc_ap
      rcases K.2.2.1 i hi t ht with ⟨a, _, ⟨b1, b2, b3⟩ | ⟨b1, b2⟩⟩ | ⟨a, e⟩
      · rw [if_pos a, if_pos b1, b2]; exact Or.inr ⟨b3, rfl⟩
      · rw [if_pos a, if_neg (by rw [b1]; decide), if_pos b1]; exact Or.inl ⟨rfl, b2⟩
      · rw [if_neg a, if_neg (by rw [e]; decide), if_neg (by rw [e]; decide)]; exact K.1 i hi
    · unfold mc_V
      rw [hc0 i hi z, H7 i hi (fun q => z q.2)]; exact K.1 i hi
  · intro q hq z i hi
    rw [mc_upO (by omega)]
    exact H1 (96 * q + i) (by omega)
  · intro i hi
    exact mc_upI (b := mc_z) (by omega) (by omega)
  · intro i hi z
    refine ⟨hD (i / 32) (by omega) z, (H4 (i / 32) (by omega) (by omega) z).1, ?_⟩
    rw [mc_upO (by omega)]
    exact H2 i hi (by omega) z
  · intro i hi z
    refine ⟨(H5 (i / 32) (by omega) (fun q => z q.2)).1, ?_⟩
    rw [mc_upO (by omega)]
    exact H3 i hi (fun q => z q.2)
  · intro s hs
    by_cases z : D s
    · obtain ⟨a, e⟩ := H4 s hs hs z
      exact Or.inr ⟨a, (hd1 s hs z).trans e.symm⟩
    · obtain ⟨a, e⟩ := H5 s hs (fun q => z q.2)
      have := K.2.2.2.2.2.1 s hs
      unfold mc_B at this ⊢
      rw [a, e, hd0 s hs z]; exact this
/-- a store in which a running transaction holds something is in no doubt -/
theorem mc_free {h st id up : Nat → Int32} (F1 : mc_F1 up id) (F2 : mc_F2 up st) (F3 : mc_F3 up h) {t s : Nat} (ht : t < 4) (hs : s < 3) (hst : st t ≠ 0) (hn : mc_cn h (nI t) (32 * s) 32 ≠ 0) : id s = 0 := by
  rcases F1 s hs with z | z | z
  · exact z
  · refine absurd (mc_cnZ 32 fun k hk e => ?_) hn
    have := F3 (32 * s + k) (by omega) t ht e
    rw [show (32 * s + k) / 32 = s by omega] at this
    exact this z
  · exact absurd (F2 z t ht) hst
