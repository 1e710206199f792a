/-! both sides at once: a transaction lets go, a store or the leader is lost, a store is settled -/
section
variable {c h f st dd v w g r d id tb : Nat → Int32}
theorem mc_let (K : mc_Core c h f st dd v w g r d id tb) {t : Nat} (ht : t < 4) {st' r' d' : Nat → Int32}
    (hN : ∀ q, q < 4 → q ≠ t → st' q = st q ∧ r' q = r q ∧ d' q = d q) (hT : mc_T st' r' d' t) :
    mc_Core c (mc_up 0 96 h (mc_dr h (nI t))) f st' dd v (mc_up (96 * t) 96 w mc_z) g r' d' id tb :=
  mc_cm K ht (fun _ => False) hN hT
    (fun i hi z => by rw [mc_upI (by omega) (by omega)]; exact if_neg z)
    (fun _ _ _ z => z.elim)
    (fun i hi z _ => by rw [mc_upI (by omega) (by omega)]; exact if_pos z)
    K.1
    (fun q hq z i hi => ⟨mc_upO (by omega), rfl⟩)
    (fun i hi => mc_upI (b := mc_z) (by omega) (by omega))
    (fun _ _ z => z.elim)
    (fun i hi _ => ⟨rfl, mc_upO (by omega), rfl⟩)
    K.2.2.2.2.2.1
theorem mc_end2 (K : mc_Core c h f st dd v w g r d id tb) {t : Nat} (ht : t < 4) :
    mc_Core c (mc_up 0 96 h (mc_dr h (nI t))) f (upd st t 0) dd v (mc_up (96 * t) 96 w mc_z) g (upd r t 0) (upd d t 0) id tb :=
  mc_let K ht (fun q _ z => ⟨pk_un z, pk_un z, pk_un z⟩) (Or.inl ⟨pk_us, pk_us, pk_us⟩)
theorem mc_doom2 (K : mc_Core c h f st dd v w g r d id tb) {t : Nat} (ht : t < 4) (h1 : r t = 1) :
    mc_Core c (mc_up 0 96 h (mc_dr h (nI t))) f (upd st t 2) dd v (mc_up (96 * t) 96 w mc_z) g r (upd d t 1) id tb :=
  mc_let K ht (fun q _ z => ⟨pk_un z, rfl, pk_un z⟩) (Or.inr (Or.inr ⟨h1, pk_us, pk_us⟩))
theorem mc_drO {x : Int32} {i t : Nat} (ht : t < 4) (hi : i < 96) (e : mc_up 0 96 h (mc_dr h x) i = nI t) : h i = nI t ∧ h i ≠ x := by
  rw [mc_upI (by omega) (by omega)] at e
  unfold mc_dr at e
  by_cases z : h i = x
  · rw [if_pos z] at e; exact absurd e.symm (mc_m1 t ht)
  · rw [if_neg z] at e; exact ⟨e, z⟩
theorem mc_drI {x : Int32} (hz : ∀ i, i < 96 → h i ≠ x) : mc_up 0 96 h (mc_dr h x) = h := by
  funext i
  by_cases hi : i < 96
  · rw [mc_upI (by omega) (by omega)]; exact if_neg (hz i hi)
  · exact mc_upO (by omega)
theorem mc_stE (K : mc_Core c h f st dd v w g r d id tb) {st' : Nat → Int32} (e : ∀ t, t < 4 → st' t = st t) : mc_Core c h f st' dd v w g r d id tb := by
  obtain ⟨KV, KT, KH, KD, KN, KB, KC⟩ := K
  refine ⟨KV, ?_, ?_, KD, KN, KB, KC⟩
  · intro t ht
    have := KT t ht
    unfold mc_T at this ⊢
    rw [e t ht]; exact this
  · intro i hi t ht
    have := KH i hi t ht
    unfold mc_H at this ⊢
    rw [e t ht]; exact this
end
section
variable (c f dd v g id tb up : Nat → Int32)
theorem mc_fall11 (r : Nat → Int32) {s : Nat} (hs : s < 3) : ∀ e j, j + e = 4 → ∀ (n : Int32) (h st w d : Nat → Int32), mc_Core c h f st dd v w g r d id tb →
    (∀ t, t < j → ∀ i, i < 96 → i / 32 = s → h i ≠ nI t) → ∃ (k : Int32) (h' st' w' d' : Nat → Int32), mc_Core c h' f st' dd v w' g r d' id tb ∧
    (∀ t, t < 4 → ∀ i, i < 96 → i / 32 = s → h' i ≠ nI t) ∧ (∀ i, i < 96 → ∀ t, t < 4 → h' i = nI t → h i = nI t) ∧ (∀ t, t < 4 → st t = 0 → st' t = 0) ∧
    (∀ post : Int32 → SX → Prop, post k (c, h', f, st', up, dd) → wX_loseStore_11 post (nI s) (e + 1) n (nI j) c h f st up dd) ∧
    (∀ post : Int32 → SY → Prop, post k (v, w', g, r, d', up, id, tb) → wY_fall_11 post (nI s) (e + 1) n (nI j) v w g r d up id tb) := by
  intro e
  induction e with
  | zero =>
    intro j hj n h st w d K hz
    obtain rfl : j = 4 := by omega
    exact ⟨n, h, st, w, d, K, hz, fun _ _ _ _ z => z, fun _ _ z => z, fun post hp => br_t (by decide) hp, fun post hp => br_t (by decide) hp⟩
  | succ e ih =>
    intro j hj n h st w d K hz
    have h4 : j < 4 := by omega
    have g4 : ¬ (4 : Int32) ≤ nI j := nI_ge (b := 4) (by omega) (by decide)
    have cl : (nI j).toNatClampNeg = j := nI_clamp (by omega)
    by_cases hc : mc_cn h (nI j) (32 * s) 32 = 0
    · obtain ⟨k, h', st', w', d', K', a1, a2, a3, bX, bY⟩ := ih (j + 1) (by omega) n h st w d K (by
        intro t ht i hi hs2
        by_cases z : t = j
        · subst z
          have := mc_cn0 32 hc (i - 32 * s) (by omega)
          rw [show 32 * s + (i - 32 * s) = i by omega] at this
          exact this
        · exact hz t (by omega) i hi hs2)
      refine ⟨k, h', st', w', d', K', a1, a2, a3, fun post hp => br_f g4 ?_, fun post hp => br_f g4 ⟨pk_in j 4 h4, ?_⟩⟩
      · refine mx_held c h f st up dd hs ?_
        rw [hc]
        exact br_t (by decide) (nm_r (nI_1 j) (bX post hp))
      · by_cases z : r j = 0
        · exact br_t (by rw [cl]; exact z) (nm_r (nI_1 j) (bY post hp))
        · refine br_f (by rw [cl]; exact z) (my_wf v w g r d up id tb (mc_96 j) (by omega) ?_)
          rw [← mc_cnt K h4 hs, hc]
          exact br_t (by decide) (nm_r (nI_1 j) (bY post hp))
    · have hst : st j = 1 := Decidable.byContradiction fun z => hc (mc_no0 K h4 hs z)
      have hr : r j = 1 := by
        rcases K.2.1 j h4 with ⟨_, _, x⟩ | ⟨x, _, _⟩ | ⟨x, _, _⟩
        · exact absurd (x.symm.trans hst) (by decide)
        · exact x
        · exact x
      have hr0 : ¬ r j = 0 := by rw [hr]; decide
      have hl := mc_cnL h (nI j) (32 * s) 32
      have hn0 : ¬ nI (mc_cn h (nI j) (32 * s) 32) ≤ 0 := nI_nle (by omega) (by omega)
      obtain ⟨k, h', st', w', d', K', a1, a2, a3, bX, bY⟩ := ih (j + 1) (by omega) (n + 1) _ _ _ _ (mc_doom2 K h4 hr) (by
        intro t ht i hi hs2 e
        obtain ⟨e1, e2⟩ := mc_drO (by omega) hi e
        by_cases z : t = j
        · subst z; exact e2 e1
        · exact hz t (by omega) i hi hs2 e1)
      refine ⟨k, h', st', w', d', K', a1, fun i hi t ht e => (mc_drO ht hi (a2 i hi t ht e)).1, ?_, fun post hp => br_f g4 ?_, fun post hp => br_f g4 ⟨pk_in j 4 h4, br_f (by rw [cl]; exact hr0) ?_⟩⟩
      · intro t ht e
        refine a3 t ht ?_
        rw [pk_un]
        · exact e
        · intro z; rw [z, hst] at e; exact absurd e (by decide)
      · refine mx_held c h f st up dd hs (br_f hn0 (mx_drop c h f st up dd ?_))
        dsimp only
        exact ⟨pk_in j 4 h4, nm_r (e' := upd st j 2) (by rw [cl]) (nm_e (nm_r (nI_1 j) (bX post hp)))⟩
      · refine my_wf v w g r d up id tb (mc_96 j) (by omega) ?_
        rw [← mc_cnt K h4 hs]
        refine br_f hn0 (my_forget v w g r d up id tb h4 ?_)
        dsimp only
        exact ⟨pk_in j 4 h4, nm_r (e' := upd d j 1) (by rw [cl, mc_b1]) (nm_e (nm_r (nI_1 j) (bY post hp)))⟩
theorem mc_lead11 : ∀ e j, j + e = 4 → ∀ (n n' : Int32) (h st sz w r d : Nat → Int32), mc_Core c h f sz dd v w g r d id tb →
    (∀ t, t < j → st t = 0) → (∀ t, t < 4 → sz t = st t ∨ sz t = 0) → ∃ (k k' : Int32) (h' st' w' r' d' : Nat → Int32), mc_Core c h' f st' dd v w' g r' d' id tb ∧
    (∀ t, t < 4 → st' t = 0) ∧ ((∀ t, t < 4 → sz t = st t) → n' = n → k' = k) ∧
    (∀ post : Int32 → SX → Prop, post k (c, h', f, st', up, dd) → wX_loseLeader_11 post (e + 1) n (nI j) c h f st up dd) ∧
    (∀ post : Int32 → SY → Prop, post k' (v, w', g, r', d', up, id, tb) → wY_fallLeader_11 post (e + 1) n' (nI j) v w g r d up id tb) := by
  intro e
  induction e with
  | zero =>
    intro j hj n n' h st sz w r d K hz hs
    obtain rfl : j = 4 := by omega
    exact ⟨n, n', h, st, w, r, d, mc_stE K (fun t ht => (hs t ht).elim (fun q => q.symm) (fun q => (hz t ht).trans q.symm)), hz, fun _ q => q, fun post hp => br_t (by decide) hp, fun post hp => br_t (by decide) hp⟩
  | succ e ih =>
    intro j hj n n' h st sz w r d K hz hs
    have h4 : j < 4 := by omega
    have g4 : ¬ (4 : Int32) ≤ nI j := nI_ge (b := 4) (by omega) (by decide)
    have cl : (nI j).toNatClampNeg = j := nI_clamp (by omega)
    by_cases h0 : st j = 0
    · have z0 : sz j = 0 := (hs j h4).elim (fun q => q.trans h0) (fun q => q)
      have r0 : r j = 0 := (mc_Tr (K.2.1 j h4)).mp z0
      obtain ⟨k, k', h', st', w', r', d', K', a1, a2, bX, bY⟩ := ih (j + 1) (by omega) n n' h st sz w r d K (by
        intro t ht
        by_cases z : t = j
        · rw [z]; exact h0
        · exact hz t (by omega)) hs
      exact ⟨k, k', h', st', w', r', d', K', a1, a2, fun post hp => br_f g4 ⟨pk_in j 4 h4, br_t (by rw [cl]; exact h0) (nm_r (nI_1 j) (bX post hp))⟩, fun post hp => br_f g4 ⟨pk_in j 4 h4, br_t (by rw [cl]; exact r0) (nm_r (nI_1 j) (bY post hp))⟩⟩
    · by_cases y : sz j = st j
      · have r0 : ¬ r j = 0 := fun q => h0 (y.symm.trans ((mc_Tr (K.2.1 j h4)).mpr q))
        obtain ⟨k, k', h', st', w', r', d', K', a1, a2, bX, bY⟩ := ih (j + 1) (by omega) (n + 1) (n' + 1) _ (upd st j 0) _ _ _ _ (mc_end2 K h4) (by
          intro t ht
          by_cases z : t = j
          · rw [z]; exact pk_us
          · rw [pk_un z]; exact hz t (by omega)) (by
          intro t ht
          by_cases z : t = j
          · rw [z, pk_us, pk_us]; exact Or.inl rfl
          · rw [pk_un z, pk_un z]; exact hs t ht)
        refine ⟨k, k', h', st', w', r', d', K', a1, ?_, fun post hp => br_f g4 ⟨pk_in j 4 h4, br_f (by rw [cl]; exact h0) ?_⟩, fun post hp => br_f g4 ⟨pk_in j 4 h4, br_f (by rw [cl]; exact r0) ?_⟩⟩
        · intro q en
          refine a2 ?_ (by rw [en])
          intro t ht
          by_cases z : t = j
          · rw [z, pk_us, pk_us]
          · rw [pk_un z, pk_un z]; exact q t ht
        · refine mx_end c h f st up dd h4 ?_
          dsimp only
          exact nm_e (nm_r (nI_1 j) (bX post hp))
        · refine my_end v w g r d up id tb h4 ?_
          dsimp only
          exact nm_e (nm_r (nI_1 j) (bY post hp))
      · have z0 : sz j = 0 := (hs j h4).resolve_left y
        have r0 : r j = 0 := (mc_Tr (K.2.1 j h4)).mp z0
        obtain ⟨k, k', h', st', w', r', d', K', a1, a2, bX, bY⟩ := ih (j + 1) (by omega) (n + 1) n' h (upd st j 0) sz w r d K (by
          intro t ht
          by_cases z : t = j
          · rw [z]; exact pk_us
          · rw [pk_un z]; exact hz t (by omega)) (by
          intro t ht
          by_cases z : t = j
          · rw [z]; exact Or.inr z0
          · rw [pk_un z]; exact hs t ht)
        refine ⟨k, k', h', st', w', r', d', K', a1, fun q => absurd (q j h4) y, fun post hp => br_f g4 ⟨pk_in j 4 h4, br_f (by rw [cl]; exact h0) ?_⟩, fun post hp => br_f g4 ⟨pk_in j 4 h4, br_t (by rw [cl]; exact r0) (nm_r (nI_1 j) (bY post hp))⟩⟩
        refine mx_end c h f st up dd h4 ?_
        rw [mc_drI (mc_no K h4 (by rw [z0]; decide))]
        dsimp only
        exact nm_e (nm_r (nI_1 j) (bX post hp))
end
section
variable (v w g r d up id tb : Nat → Int32)
theorem my_sskip {post : SY → Prop} {n j : Nat} (hj : j < 3) (h0 : id j = 0 ∨ up j = 0 ∨ up 3 = 0) (hp : wY_settle_2 post n (nI (j + 1)) v w g r d up id tb) : wY_settle_2 post (n + 1) (nI j) v w g r d up id tb := by
  have cl : (nI j).toNatClampNeg = j := nI_clamp (by omega)
  refine br_f (nI_ge (b := 3) (by omega) (by decide)) ⟨pk_in j 3 hj, ?_⟩
  rw [cl]
  by_cases z : id j = 0
  · exact br_t z (nm_r (nI_1 j) hp)
  · refine br_f z ⟨pk_in j 4 (by omega), ?_⟩
    by_cases y : up j = 0
    · exact br_t y (nm_r (nI_1 j) hp)
    · exact br_f y (br_t ((h0.resolve_left z).resolve_left y) (nm_r (nI_1 j) hp))
theorem my_sdo0 {post : SY → Prop} {n j : Nat} (hj : j < 3) (h1 : id j ≠ 0) (h2 : up j ≠ 0) (h3 : up 3 ≠ 0) (h4 : tb j = 0) (hp : wY_settle_2 post n (nI (j + 1)) v w g r d up (upd id j 0) tb) : wY_settle_2 post (n + 1) (nI j) v w g r d up id tb := by
  have cl : (nI j).toNatClampNeg = j := nI_clamp (by omega)
  refine br_f (nI_ge (b := 3) (by omega) (by decide)) ⟨pk_in j 3 hj, ?_⟩
  rw [cl]
  exact br_f h1 ⟨pk_in j 4 (by omega), br_f h2 (br_f h3 ⟨pk_in j 3 hj, br_t h4 ⟨pk_in j 3 hj, nm_r (e' := upd id j 0) (by rw [mc_b0]) (nm_r (nI_1 j) hp)⟩⟩)⟩
theorem my_sdo1 {post : SY → Prop} {n j : Nat} (hj : j < 3) (h1 : id j ≠ 0) (h2 : up j ≠ 0) (h3 : up 3 ≠ 0) (h4 : tb j ≠ 0) (hp : wY_settle_2 post n (nI (j + 1)) (mc_up (32 * j) 32 v (mc_ap v w g 384)) w g r d up (upd id j 0) tb) : wY_settle_2 post (n + 1) (nI j) v w g r d up id tb := by
  have cl : (nI j).toNatClampNeg = j := nI_clamp (by omega)
  refine br_f (nI_ge (b := 3) (by omega) (by decide)) ⟨pk_in j 3 hj, ?_⟩
  refine br_f (by rw [cl]; exact h1) ⟨pk_in j 4 (by omega), br_f (by rw [cl]; exact h2) (br_f h3 ⟨pk_in j 3 hj, br_f (by rw [cl]; exact h4) ?_⟩)⟩
  refine my_apply v w g r d up id tb (a := 384) rfl (by omega) hj ?_
  dsimp only
  exact ⟨pk_in j 3 hj, nm_r (e' := upd id j 0) (by rw [cl, mc_b0]) (nm_r (nI_1 j) hp)⟩
end
theorem mc_set1 {c h f st dd v w g r d id tb : Nat → Int32} (up : Nat → Int32) (K : mc_Core c h f st dd v w g r d id tb) {s : Nat} (hs : s < 3) (h1 : up s ≠ 0) (h3 : up 3 ≠ 0) : ∃ c' h' v' id' : Nat → Int32,
    mc_Core c' h' f st dd v' w g r d id' tb ∧ id' s = 0 ∧ (∀ q, q ≠ s → id' q = id q) ∧ (∀ i, i < 96 → ∀ t, t < 4 → h' i = nI t → h i = nI t) ∧
    (∀ post : SX → Prop, post (c', h', f, st, up, dd) → wpX_settle post (c, h, f, st, up, dd) (nI s)) ∧
    (∀ (post : SY → Prop) (n : Nat), wY_settle_2 post n (nI (s + 1)) v' w g r d up id' tb → wY_settle_2 post (n + 1) (nI s) v w g r d up id tb) := by
  have ho : ∀ i, i < 96 → i / 32 ≠ s → mc_up (32 * s) 32 h (mc_dr h (-2)) i = h i := fun i hi z => mc_upO (by omega)
  have hd : ∀ i, i < 96 → i / 32 = s → h i = -2 → mc_up (32 * s) 32 h (mc_dr h (-2)) i = -1 := fun i hi z e => by
    rw [mc_upI (by omega) (by omega)]; exact if_pos e
  have h2 : ∀ i, i < 96 → h i ≠ -2 → mc_up (32 * s) 32 h (mc_dr h (-2)) i = h i := fun i hi e => by
    by_cases z : i / 32 = s
    · rw [mc_upI (by omega) (by omega)]; exact if_neg e
    · exact ho i hi z
  have hb : ∀ i, i < 96 → ∀ t, t < 4 → mc_up (32 * s) 32 h (mc_dr h (-2)) i = nI t → h i = nI t := fun i hi t ht e => by
    by_cases z : h i = -2
    · by_cases y : i / 32 = s
      · rw [hd i hi y z] at e; exact absurd e.symm (mc_m1 t ht)
      · rw [ho i hi y] at e; exact e
    · rw [h2 i hi z] at e; exact e
  have hcO : ∀ i, i < 96 → i / 32 ≠ s → mc_up (32 * s) 32 c (mc_se c h f (dd s)) i = c i := fun i hi z => mc_upO (by omega)
  have hcN : ∀ i, i < 96 → (h i ≠ -2 ∨ dd s = 0) → mc_up (32 * s) 32 c (mc_se c h f (dd s)) i = c i := fun i hi e => by
    by_cases z : i / 32 = s
    · rw [mc_upI (by omega) (by omega)]; exact if_neg (fun q => e.elim (fun x => x q.1) (fun x => q.2 x))
    · exact hcO i hi z
  by_cases z : id s = 0
  · refine ⟨_, _, v, id, mc_st K ho hd h2 ?_ z (fun _ _ => rfl), z, fun _ _ => rfl, hb, fun post hp => mx_settle1 c h f st up dd hs h1 h3 hp, fun post n hp => my_sskip v w g r d up id tb hs (Or.inl z) hp⟩
    intro i hi
    have e : mc_up (32 * s) 32 c (mc_se c h f (dd s)) i = c i := by
      by_cases y : i / 32 = s
      · exact hcN i hi (Or.inl fun q => ((mc_Dw (K.2.2.2.1 i hi)).mp q).1 (by rw [y]; exact z))
      · exact hcO i hi y
    unfold mc_V
    rw [e]; exact K.1 i hi
  · have hdt : dd s = tb s := by
      rcases K.2.2.2.2.2.1 s hs with q | ⟨_, q⟩
      · exact absurd q z
      · exact q
    by_cases y : tb s = 0
    · refine ⟨_, _, v, upd id s 0, mc_st K ho hd h2 ?_ pk_us (fun _ q => pk_un q), pk_us, fun _ q => pk_un q, hb, fun post hp => mx_settle1 c h f st up dd hs h1 h3 hp, fun post n hp => my_sdo0 v w g r d up id tb hs z h1 h3 y hp⟩
      intro i hi
      unfold mc_V
      rw [hcN i hi (Or.inr (hdt.trans y))]; exact K.1 i hi
    · refine ⟨_, _, mc_up (32 * s) 32 v (mc_ap v w g 384), upd id s 0, mc_st K ho hd h2 ?_ pk_us (fun _ q => pk_un q), pk_us, fun _ q => pk_un q, hb, fun post hp => mx_settle1 c h f st up dd hs h1 h3 hp, fun post n hp => my_sdo1 v w g r d up id tb hs z h1 h3 y hp⟩
      intro i hi
      by_cases x : i / 32 = s
      · by_cases q : h i = -2
        · have e1 : mc_up (32 * s) 32 c (mc_se c h f (dd s)) i = f i := by
            rw [mc_upI (by omega) (by omega)]; exact if_pos ⟨q, by rw [hdt]; exact y⟩
          have e2 : mc_up (32 * s) 32 v (mc_ap v w g 384) i = mc_ap v w g 384 i := mc_upI (by omega) (by omega)
          unfold mc_V
          rw [e1, e2]
          unfold mc_ap
          rcases K.2.2.2.1 i hi with ⟨_, _, p | p⟩ | ⟨p, _⟩
          · rw [if_pos p.1, p.2.1]; exact Or.inr ⟨p.2.2, rfl⟩
          · rw [if_neg (by rw [p.1]; decide), if_pos p.1]; exact Or.inl ⟨rfl, p.2⟩
          · exact absurd q p
        · have e1 := hcN i hi (Or.inl q)
          have e2 : mc_up (32 * s) 32 v (mc_ap v w g 384) i = mc_ap v w g 384 i := mc_upI (by omega) (by omega)
          have w0 : w (384 + i) = 0 := (mc_Dn (K.2.2.2.1 i hi) q).resolve_left (by rw [x]; exact z)
          unfold mc_V
          rw [e1, e2]
          unfold mc_ap
          rw [if_neg (by rw [w0]; decide), if_neg (by rw [w0]; decide)]
          exact K.1 i hi
      · have e2 : mc_up (32 * s) 32 v (mc_ap v w g 384) i = v i := mc_upO (by omega)
        unfold mc_V
        rw [hcO i hi x, e2]; exact K.1 i hi
theorem mc_sl20 (f st dd w g r d tb up : Nat → Int32) (h3 : up 3 ≠ 0) : ∀ e j, j + e = 3 → ∀ c h v id : Nat → Int32, mc_Core c h f st dd v w g r d id tb → (∀ s, s < j → id s = 0 ∨ up s = 0) → ∃ c' h' v' id' : Nat → Int32,
    mc_Core c' h' f st dd v' w g r d id' tb ∧ (∀ s, s < 3 → id' s = 0 ∨ up s = 0) ∧ (∀ i, i < 96 → ∀ t, t < 4 → h' i = nI t → h i = nI t) ∧
    (∀ post : Int32 → SX → Prop, post 1 (c', h', f, st, up, dd) → wX_startLeader_20 post (e + 1) (nI j) c h f st up dd) ∧
    (∀ post : SY → Prop, post (v', w, g, r, d, up, id', tb) → wY_settle_2 post (e + 1) (nI j) v w g r d up id tb) := by
  intro e
  induction e with
  | zero =>
    intro j hj c h v id K hz
    obtain rfl : j = 3 := by omega
    exact ⟨c, h, v, id, K, hz, fun _ _ _ _ z => z, fun post hp => br_t (by decide) hp, fun post hp => br_t (by decide) hp⟩
  | succ e ih =>
    intro j hj c h v id K hz
    have j3 : j < 3 := by omega
    have g3 : ¬ (3 : Int32) ≤ nI j := nI_ge (b := 3) (by omega) (by decide)
    by_cases y : up j = 0
    · obtain ⟨c', h', v', id', K', a1, a2, bX, bY⟩ := ih (j + 1) (by omega) c h v id K (by
        intro s hs
        by_cases q : s = j
        · rw [q]; exact Or.inr y
        · exact hz s (by omega))
      refine ⟨c', h', v', id', K', a1, a2, fun post hp => br_f g3 (mx_settle0 c h f st up dd j3 (Or.inl y) ?_), fun post hp => my_sskip v w g r d up id tb j3 (Or.inr (Or.inl y)) (bY post hp)⟩
      dsimp only
      exact nm_r (nI_1 j) (bX post hp)
    · obtain ⟨c1, h1, v1, id1, K1, z0, zo, b1, x1, y1⟩ := mc_set1 up K j3 y h3
      obtain ⟨c', h', v', id', K', a1, a2, bX, bY⟩ := ih (j + 1) (by omega) c1 h1 v1 id1 K1 (by
        intro s hs
        by_cases q : s = j
        · rw [q]; exact Or.inl z0
        · rw [zo s q]; exact hz s (by omega))
      refine ⟨c', h', v', id', K', a1, fun i hi t ht q => b1 i hi t ht (a2 i hi t ht q), fun post hp => br_f g3 (x1 _ ?_), fun post hp => y1 post _ (bY post hp)⟩
      dsimp only
      exact nm_r (nI_1 j) (bX post hp)
