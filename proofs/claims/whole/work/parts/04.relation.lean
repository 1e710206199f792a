/-! the relation, and what keeps it -/
def mc_W (f w g : Nat → Int32) (k i : Nat) : Prop := (w k = 1 ∧ g k = f i ∧ 0 ≤ f i) ∨ (w k = 2 ∧ f i = -2)
def mc_V (c v : Nat → Int32) (i : Nat) : Prop := (v i = -1 ∧ c i = -2) ∨ (0 ≤ v i ∧ c i = v i)
def mc_T (st r d : Nat → Int32) (t : Nat) : Prop := (r t = 0 ∧ d t = 0 ∧ st t = 0) ∨ (r t = 1 ∧ d t = 0 ∧ st t = 1) ∨ (r t = 1 ∧ d t = 1 ∧ st t = 2)
def mc_H (h f st w g : Nat → Int32) (i t : Nat) : Prop := (h i = nI t ∧ st t = 1 ∧ mc_W f w g (96 * t + i) i) ∨ (h i ≠ nI t ∧ w (96 * t + i) = 0)
def mc_D (h f w g id : Nat → Int32) (i : Nat) : Prop := (h i = -2 ∧ id (i / 32) = 1 ∧ mc_W f w g (384 + i) i) ∨ (h i ≠ -2 ∧ (id (i / 32) = 0 ∨ w (384 + i) = 0))
def mc_N (h : Nat → Int32) (i : Nat) : Prop := h i = -1 ∨ h i = -2 ∨ ∃ t, t < 4 ∧ h i = nI t
def mc_B (dd id tb : Nat → Int32) (s : Nat) : Prop := id s = 0 ∨ (id s = 1 ∧ dd s = tb s)
def mc_Core (c h f st dd v w g r d id tb : Nat → Int32) : Prop :=
  (∀ i, i < 96 → mc_V c v i) ∧ (∀ t, t < 4 → mc_T st r d t) ∧ (∀ i, i < 96 → ∀ t, t < 4 → mc_H h f st w g i t) ∧
  (∀ i, i < 96 → mc_D h f w g id i) ∧ (∀ i, i < 96 → mc_N h i) ∧ (∀ s, s < 3 → mc_B dd id tb s) ∧
  (∀ t, t < 4 → ∀ s, s < 3 → mc_cn h (nI t) (32 * s) 32 ≤ 6)
def mc_F1 (up id : Nat → Int32) : Prop := ∀ s, s < 3 → id s = 0 ∨ up s = 0 ∨ up 3 = 0
def mc_F2 (up st : Nat → Int32) : Prop := up 3 = 0 → ∀ t, t < 4 → st t = 0
def mc_F3 (up h : Nat → Int32) : Prop := ∀ i, i < 96 → ∀ t, t < 4 → h i = nI t → up (i / 32) ≠ 0
def i_Rel (k : Nat) (u : SX) (v : SY) : Prop := match u, v with
  | (c, h, f, st, up, dd), (v, w, g, r, d, up', id, tb) => up' = up ∧ mc_Core c h f st dd v w g r d id tb ∧ mc_F1 up id ∧ mc_F2 up st ∧ mc_F3 up h
theorem i_up {k : Nat} {u : SX} {v : SY} (h : i_Rel k u v) : i_Rel (k + 5) u v := h
theorem mc_Tr {st r d : Nat → Int32} {t : Nat} (h : mc_T st r d t) : st t = 0 ↔ r t = 0 := by
  rcases h with ⟨a, _, e⟩ | ⟨a, _, e⟩ | ⟨a, _, e⟩ <;> rw [a, e] <;> decide
theorem mc_Td {st r d : Nat → Int32} {t : Nat} (h : mc_T st r d t) : st t = 2 ↔ d t ≠ 0 := by
  rcases h with ⟨_, a, e⟩ | ⟨_, a, e⟩ | ⟨_, a, e⟩ <;> rw [a, e] <;> decide
theorem mc_Wn {f w g : Nat → Int32} {k i : Nat} (h : mc_W f w g k i) : w k ≠ 0 := by
  rcases h with ⟨a, _⟩ | ⟨a, _⟩ <;> rw [a] <;> decide
theorem mc_Hw {h f st w g : Nat → Int32} {i t : Nat} (H : mc_H h f st w g i t) : h i = nI t ↔ w (96 * t + i) ≠ 0 := by
  rcases H with ⟨a, _, b⟩ | ⟨a, b⟩
  · exact ⟨fun _ => mc_Wn b, fun _ => a⟩
  · exact ⟨fun z => absurd z a, fun z => absurd b z⟩
theorem mc_Dw {h f w g id : Nat → Int32} {i : Nat} (H : mc_D h f w g id i) : h i = -2 ↔ (id (i / 32) ≠ 0 ∧ w (384 + i) ≠ 0) := by
  rcases H with ⟨a, b, e⟩ | ⟨a, b⟩
  · exact ⟨fun _ => ⟨by rw [b]; decide, mc_Wn e⟩, fun _ => a⟩
  · exact ⟨fun z => absurd z a, fun z => b.elim (fun q => absurd q z.1) (fun q => absurd q z.2)⟩
theorem mc_Dn {h f w g id : Nat → Int32} {i : Nat} (H : mc_D h f w g id i) (z : h i ≠ -2) : id (i / 32) = 0 ∨ w (384 + i) = 0 := by
  rcases H with ⟨a, _, _⟩ | ⟨_, b⟩
  · exact absurd a z
  · exact b
section
variable {c h f st dd v w g r d id tb : Nat → Int32}
/-- X's count of what t holds in s is Y's -/
theorem mc_cnt (K : mc_Core c h f st dd v w g r d id tb) {t s : Nat} (ht : t < 4) (hs : s < 3) : mc_cn h (nI t) (32 * s) 32 = mc_cz w (96 * t + 32 * s) 32 := by
  refine mc_cnz 32 fun k hk => ?_
  have := mc_Hw (K.2.2.1 (32 * s + k) (by omega) t ht)
  rw [show 96 * t + 32 * s + k = 96 * t + (32 * s + k) by omega]
  exact this
theorem mc_cntD (K : mc_Core c h f st dd v w g r d id tb) {s : Nat} (hs : s < 3) (hid : id s ≠ 0) : mc_cn h (-2) (32 * s) 32 = mc_cz w (384 + 32 * s) 32 := by
  refine mc_cnz 32 fun k hk => ?_
  have := mc_Dw (K.2.2.2.1 (32 * s + k) (by omega))
  rw [show (32 * s + k) / 32 = s by omega] at this
  rw [show 384 + 32 * s + k = 384 + (32 * s + k) by omega, this]
  exact ⟨fun z => z.2, fun z => ⟨hid, z⟩⟩
theorem mc_cntD0 (K : mc_Core c h f st dd v w g r d id tb) {s : Nat} (hs : s < 3) (hid : id s = 0) : mc_cn h (-2) (32 * s) 32 = 0 := by
  refine mc_cnZ 32 fun k hk e => ?_
  have := (mc_Dw (K.2.2.2.1 (32 * s + k) (by omega))).mp e
  rw [show (32 * s + k) / 32 = s by omega] at this
  exact this.1 hid
/-- who is not running soundly holds nothing -/
theorem mc_no (K : mc_Core c h f st dd v w g r d id tb) {t : Nat} (ht : t < 4) (hz : st t ≠ 1) : ∀ i, i < 96 → h i ≠ nI t := by
  intro i hi e
  rcases K.2.2.1 i hi t ht with ⟨_, a, _⟩ | ⟨a, _⟩
  · exact hz a
  · exact a e
theorem mc_no0 (K : mc_Core c h f st dd v w g r d id tb) {t s : Nat} (ht : t < 4) (hs : s < 3) (hz : st t ≠ 1) : mc_cn h (nI t) (32 * s) 32 = 0 :=
  mc_cnZ 32 fun k _ => mc_no K ht hz (32 * s + k) (by omega)
/-- one transaction t lets go of all its keys, those in the stores D being left in doubt; its own status becomes what it may -/
theorem mc_cm (K : mc_Core c h f st dd v w g r d id tb) {t : Nat} (ht : t < 4) (D : Nat → Prop) {c' h' st' dd' v' w' g' r' d' id' tb' : Nat → Int32}
    (hN : ∀ q, q < 4 → q ≠ t → st' q = st q ∧ r' q = r q ∧ d' q = d q) (hT : mc_T st' r' d' t)
    (hh : ∀ i, i < 96 → h i ≠ nI t → h' i = h i)
    (hh1 : ∀ i, i < 96 → h i = nI t → D (i / 32) → h' i = -2)
    (hh0 : ∀ i, i < 96 → h i = nI t → ¬ D (i / 32) → h' i = -1)
    (hV : ∀ i, i < 96 → mc_V c' v' i)
    (hw : ∀ q, q < 4 → q ≠ t → ∀ i, i < 96 → w' (96 * q + i) = w (96 * q + i) ∧ g' (96 * q + i) = g (96 * q + i))
    (hwt : ∀ i, i < 96 → w' (96 * t + i) = 0)
    (hD1 : ∀ i, i < 96 → D (i / 32) → id (i / 32) = 0 ∧ id' (i / 32) = 1 ∧ w' (384 + i) = w (96 * t + i) ∧ g' (384 + i) = g (96 * t + i))
    (hD0 : ∀ i, i < 96 → ¬ D (i / 32) → id' (i / 32) = id (i / 32) ∧ w' (384 + i) = w (384 + i) ∧ g' (384 + i) = g (384 + i))
    (hB : ∀ s, s < 3 → mc_B dd' id' tb' s) : mc_Core c' h' f st' dd' v' w' g' r' d' id' tb' := by
  obtain ⟨KV, KT, KH, KD, KN, KB, KC⟩ := K
  have hne : ∀ i, i < 96 → ∀ q, q < 4 → h' i = nI q → h i = nI q ∧ q ≠ t := by
    intro i hi q hq e
    by_cases z : h i = nI t
    · by_cases y : D (i / 32)
      · exact absurd (e.symm.trans (hh1 i hi z y)) (mc_m2 q hq)
      · exact absurd (e.symm.trans (hh0 i hi z y)) (mc_m1 q hq)
    · have e2 := (hh i hi z).symm.trans e
      exact ⟨e2, fun y => z (by rw [e2, y])⟩
  refine ⟨hV, ?_, ?_, ?_, ?_, hB, ?_⟩
  · intro q hq
    by_cases z : q = t
    · rw [z]; exact hT
    · obtain ⟨a, b, e⟩ := hN q hq z
      have := KT q hq
      unfold mc_T at this ⊢
      rw [a, b, e]; exact this
  · intro i hi q hq
    by_cases z : q = t
    · refine Or.inr ⟨fun e => (hne i hi q hq e).2 z, ?_⟩
      rw [z]; exact hwt i hi
    · obtain ⟨a, _, _⟩ := hN q hq z
      obtain ⟨b, e⟩ := hw q hq z i hi
      rcases KH i hi q hq with ⟨x1, x2, x3⟩ | ⟨x1, x2⟩
      · refine Or.inl ⟨?_, a.trans x2, ?_⟩
        · rw [hh i hi (fun y => z (mc_inj hq ht (x1.symm.trans y)))]; exact x1
        · unfold mc_W at x3 ⊢; rw [b, e]; exact x3
      · exact Or.inr ⟨fun y => x1 (hne i hi q hq y).1, b.trans x2⟩
  · intro i hi
    by_cases y : D (i / 32)
    · obtain ⟨a, b, e1, e2⟩ := hD1 i hi y
      by_cases z : h i = nI t
      · refine Or.inl ⟨hh1 i hi z y, b, ?_⟩
        rcases KH i hi t ht with ⟨_, _, x3⟩ | ⟨x1, _⟩
        · unfold mc_W at x3 ⊢; rw [e1, e2]; exact x3
        · exact absurd z x1
      · refine Or.inr ⟨?_, Or.inr ?_⟩
        · rw [hh i hi z]
          intro q
          exact ((mc_Dw (KD i hi)).mp q).1 a
        · rcases KH i hi t ht with ⟨x1, _, _⟩ | ⟨_, x2⟩
          · exact absurd x1 z
          · exact e1.trans x2
    · obtain ⟨a, e1, e2⟩ := hD0 i hi y
      by_cases z : h i = nI t
      · refine Or.inr ⟨?_, ?_⟩
        · rw [hh0 i hi z y]; decide
        · rw [a, e1]; exact mc_Dn (KD i hi) (by rw [z]; exact mc_m2 t ht)
      · have := KD i hi
        unfold mc_D mc_W at this ⊢
        rw [hh i hi z, a, e1, e2]; exact this
  · intro i hi
    by_cases z : h i = nI t
    · by_cases y : D (i / 32)
      · exact Or.inr (Or.inl (hh1 i hi z y))
      · exact Or.inl (hh0 i hi z y)
    · unfold mc_N; rw [hh i hi z]; exact KN i hi
  · intro q hq s hs
    exact Nat.le_trans (mc_cnM 32 fun k hk e => (hne (32 * s + k) (by omega) q hq e).1) (KC q hq s hs)
/-- one store s is settled -/
theorem mc_st (K : mc_Core c h f st dd v w g r d id tb) {s : Nat} {c' h' v' id' : Nat → Int32}
    (ho : ∀ i, i < 96 → i / 32 ≠ s → h' i = h i) (h1 : ∀ i, i < 96 → i / 32 = s → h i = -2 → h' i = -1) (h2 : ∀ i, i < 96 → h i ≠ -2 → h' i = h i)
    (hV : ∀ i, i < 96 → mc_V c' v' i) (hi0 : id' s = 0) (hio : ∀ q, q ≠ s → id' q = id q) : mc_Core c' h' f st dd v' w g r d id' tb := by
  obtain ⟨KV, KT, KH, KD, KN, KB, KC⟩ := K
  have hne : ∀ i, i < 96 → ∀ q, q < 4 → (h' i = nI q ↔ h i = nI q) := by
    intro i hi q hq
    by_cases z : h i = -2
    · by_cases y : i / 32 = s
      · rw [h1 i hi y z, z]
        exact ⟨fun e => absurd e.symm (mc_m1 q hq), fun e => absurd e.symm (mc_m2 q hq)⟩
      · rw [ho i hi y]
    · rw [h2 i hi z]
  refine ⟨hV, KT, ?_, ?_, ?_, ?_, ?_⟩
  · intro i hi q hq
    have := KH i hi q hq
    unfold mc_H at this ⊢
    rw [Ne, hne i hi q hq]; exact this
  · intro i hi
    by_cases y : i / 32 = s
    · refine Or.inr ⟨?_, Or.inl (by rw [y]; exact hi0)⟩
      by_cases z : h i = -2
      · rw [h1 i hi y z]; decide
      · rw [h2 i hi z]; exact z
    · have := KD i hi
      unfold mc_D at this ⊢
      rw [ho i hi y, hio _ y]; exact this
  · intro i hi
    by_cases z : h i = -2
    · by_cases y : i / 32 = s
      · exact Or.inl (h1 i hi y z)
      · unfold mc_N; rw [ho i hi y]; exact KN i hi
    · unfold mc_N; rw [h2 i hi z]; exact KN i hi
  · intro q hq
    by_cases z : q = s
    · exact Or.inl (by rw [z]; exact hi0)
    · have := KB q hq
      unfold mc_B at this ⊢
      rw [hio q z]; exact this
  · intro q hq s' hs
    exact Nat.le_trans (mc_cnM 32 fun k hk e => (hne (32 * s' + k) (by omega) q hq).mp e) (KC q hq s' hs)
/-- t writes at i -/
theorem mc_wr (K : mc_Core c h f st dd v w g r d id tb) {t i : Nat} (ht : t < 4) (hi : i < 96) (hst : st t = 1) (hf : h i = nI t ∨ (h i = -1 ∧ mc_cn h (nI t) (32 * (i / 32)) 32 < 6)) {x : Int32} {w' g' : Nat → Int32}
    (hw : ∀ k, k ≠ 96 * t + i → w' k = w k ∧ g' k = g k) (hx : mc_W (upd f i x) w' g' (96 * t + i) i) : mc_Core c (upd h i (nI t)) (upd f i x) st dd v w' g' r d id tb := by
  obtain ⟨KV, KT, KH, KD, KN, KB, KC⟩ := K
  have hnot : ∀ q, q < 4 → q ≠ t → h i ≠ nI q := by
    intro q hq z e
    rcases hf with y | ⟨y, _⟩
    · exact z (mc_inj hq ht (e.symm.trans y))
    · exact mc_m1 q hq (e.symm.trans y)
  have hnd : h i ≠ -2 := by
    intro e
    rcases hf with y | ⟨y, _⟩
    · exact mc_m2 t ht (y.symm.trans e)
    · exact absurd (y.symm.trans e) (by decide)
  refine ⟨KV, KT, ?_, ?_, ?_, KB, ?_⟩
  · intro j hj q hq
    by_cases zj : j = i
    · subst zj
      by_cases z : q = t
      · subst z
        exact Or.inl ⟨pk_us, hst, hx⟩
      · refine Or.inr ⟨?_, ?_⟩
        · rw [pk_us]; intro e; exact z (mc_inj hq ht e.symm)
        · rw [(hw (96 * q + j) (by omega)).1]
          rcases KH j hj q hq with ⟨x1, _, _⟩ | ⟨_, x2⟩
          · exact absurd x1 (hnot q hq z)
          · exact x2
    · have := KH j hj q hq
      unfold mc_H mc_W at this ⊢
      rw [pk_un zj, pk_un zj, (hw (96 * q + j) (by omega)).1, (hw (96 * q + j) (by omega)).2]
      exact this
  · intro j hj
    by_cases zj : j = i
    · subst zj
      refine Or.inr ⟨by rw [pk_us]; exact mc_m2 t ht, ?_⟩
      rw [(hw (384 + j) (by omega)).1]
      exact mc_Dn (KD j hj) hnd
    · have := KD j hj
      unfold mc_D mc_W at this ⊢
      rw [pk_un zj, pk_un zj, (hw (384 + j) (by omega)).1, (hw (384 + j) (by omega)).2]
      exact this
  · intro j hj
    by_cases zj : j = i
    · subst zj
      exact Or.inr (Or.inr ⟨t, ht, pk_us⟩)
    · unfold mc_N; rw [pk_un zj]; exact KN j hj
  · intro q hq s hs
    by_cases z : q = t
    · subst z
      rcases hf with y | ⟨_, y⟩
      · refine Nat.le_trans (mc_cnM 32 fun k hk e => ?_) (KC q hq s hs)
        by_cases zj : 32 * s + k = i
        · rw [zj]; exact y
        · rw [pk_un zj] at e; exact e
      · have h1 := mc_cnU (a := h) (x := nI q) (b := 32 * s) (i := i) 32
        by_cases zs : s = i / 32
        · subst zs
          have : (if 32 * (i / 32) ≤ i ∧ i < 32 * (i / 32) + 32 then 1 else 0) ≤ 1 := by
            by_cases z : 32 * (i / 32) ≤ i ∧ i < 32 * (i / 32) + 32
            · rw [if_pos z]; exact Nat.le_refl 1
            · rw [if_neg z]; exact Nat.zero_le 1
          omega
        · rw [if_neg (by omega)] at h1
          exact Nat.le_trans h1 (KC q hq s hs)
    · refine Nat.le_trans (mc_cnM 32 fun k hk e => ?_) (KC q hq s hs)
      by_cases zj : 32 * s + k = i
      · rw [zj, pk_us] at e; exact absurd (mc_inj ht hq e).symm z
      · rw [pk_un zj] at e; exact e
end
