/-! what follows from what, in the reference -/
def way (vr : Nat → Nat) (x : Int32) (k : Nat) : Bool := bt x (vr k - 1) || bt x (vr k + 7)
def bth (vr : Nat → Nat) (x : Int32) (k : Nat) : Bool := bt x (vr k - 1) && bt x (vr k + 7)
theorem nI_m : ∀ v, v < 9 → 0 < v → nI v - 1 = nI (v - 1) := by decide +kernel
theorem nI_7 : ∀ v, v < 9 → nI v + 7 = nI (v + 7) := by decide +kernel
theorem lle : ∀ L, L < 10 → ∀ k, k < 10 → (nI L - 1 ≤ nI k ↔ L ≤ k + 1) := by decide +kernel
theorem sl_8 : ∀ v, v < 9 → 0 < v → lts (sl (v - 1)) = sl (v - 1) ||| sl (v + 7) := by decide +kernel
theorem b_bwy (x : Int32) {i : Nat} (hi : i < 8) : bt (bwy x) i = (bt x i && bt x (i + 8)) := by
  unfold bwy
  rw [b_and, b_and, b_sshr8 x (by omega), if_pos (by omega), b_255, decide_eq_true hi, Bool.and_true, Nat.add_comm]
theorem b_bwyh (x : Int32) {i : Nat} (hi : 8 ≤ i) : bt (bwy x) i = false := by
  unfold bwy
  rw [b_and, b_255, decide_eq_false (by omega), Bool.and_false]
theorem b_vin (x : Int32) {i : Nat} (hi : i < 8) : bt (vin x) i = (bt x i || bt x (i + 8)) := by
  unfold vin
  rw [b_and, b_or, b_sshr8 x (by omega), if_pos (by omega), b_255, decide_eq_true hi, Bool.and_true, Nat.add_comm]
theorem b_opp (c d m : Int32) {i : Nat} (hi : i < 8) : bt (opp c d m) i = (((bt c i && bt d (i + 8)) || (bt c (i + 8) && bt d i)) && bt m i) := by
  unfold opp
  rw [b_and, b_or, b_and, b_and, b_sshr8 c (by omega), b_sshr8 d (by omega), if_pos (by omega), if_pos (by omega), Nat.add_comm]
theorem z_iff {x : Int32} : x = 0 ↔ ∀ i, i < 32 → bt x i = false := by
  constructor
  · intro h i _
    rw [h, b_0]
  · intro h
    exact b_ext (fun i hi => by rw [h i hi, b_0])
theorem bcn_1 {x : Int32} (hx : ∀ i, 8 ≤ i → i < 32 → bt x i = false) (h : bcn x = 1) : ∃ j, j < 8 ∧ x = sl j := by
  have key : ∀ m, m < 256 → bcn (nI m) = 1 → ∃ j, j < 8 ∧ nI m = sl j := by decide +kernel
  have hlt : x.toBitVec.toNat < 2 ^ 8 := Nat.lt_pow_two_of_testBit _ (fun i hi => by
    rcases Nat.lt_or_ge i 32 with h1 | h1
    · exact hx i hi h1
    · exact b_big h1)
  have he : x = nI x.toBitVec.toNat := b_ext (fun i hi => by rw [nbt hi]; rfl)
  rw [he] at h ⊢
  exact key _ hlt h
theorem bcn_s : ∀ j, j < 8 → bcn (sl j) = 1 := by decide +kernel
/-- the number behind the last k below a bound at which P holds, 0 if there is none -/
def la (P : Nat → Bool) : Nat → Nat
  | 0 => 0
  | k + 1 => if P k then k + 1 else la P k
def cn (P : Nat → Bool) : Nat → Nat
  | 0 => 0
  | k + 1 => if P k then cn P k + 1 else cn P k
def pv (vr : Nat → Nat) (P : Nat → Bool) : Nat → Int32
  | 0 => 0
  | k + 1 => if P k then nI (vr k) else pv vr P k
theorem la_le {P : Nat → Bool} : ∀ k, la P k ≤ k := by
  intro k
  induction k with
  | zero => exact Nat.le_refl _
  | succ k ih =>
    unfold la
    by_cases h : P k = true
    · rw [if_pos h]; exact Nat.le_refl _
    · rw [if_neg h]; omega
theorem la_P {P : Nat → Bool} : ∀ k j, la P k = j + 1 → P j = true ∧ j < k := by
  intro k
  induction k with
  | zero => exact fun j h => by cases h
  | succ k ih =>
    intro j
    unfold la
    by_cases h : P k = true
    · rw [if_pos h]
      intro e
      have : j = k := by omega
      subst this
      exact ⟨h, by omega⟩
    · rw [if_neg h]
      intro e
      have := ih j e
      exact ⟨this.1, by omega⟩
theorem la_congr {P Q : Nat → Bool} : ∀ k, (∀ j, j < k → P j = Q j) → la P k = la Q k := by
  intro k
  induction k with
  | zero => exact fun _ => rfl
  | succ k ih =>
    intro h
    unfold la
    rw [h k (by omega), ih (fun j hj => h j (by omega))]
theorem la_un {P : Nat → Bool} {i : Nat} : ∀ k, i < k → P i = true → (∀ j, j < k → P j = true → j = i) → la P k = i + 1 := by
  intro k hi hp hu
  have h1 := la_le (P := P) k
  cases hl : la P k with
  | zero =>
    exfalso
    have : ∀ k, la P k = 0 → ∀ j, j < k → P j = false := by
      intro k
      induction k with
      | zero => exact fun _ j hj => absurd hj (Nat.not_lt_zero _)
      | succ k ih =>
        unfold la
        by_cases h : P k = true
        · rw [if_pos h]; intro z; cases z
        · rw [if_neg h]
          intro z j hj
          by_cases e : j = k
          · rw [e]; simpa using h
          · exact ih z j (by omega)
    have := this k hl i hi
    rw [hp] at this
    cases this
  | succ j =>
    have h2 := la_P k j hl
    rw [hu j h2.2 h2.1]
theorem cn_0 {P : Nat → Bool} : ∀ k, cn P k = 0 ↔ ∀ j, j < k → P j = false := by
  intro k
  induction k with
  | zero => exact ⟨fun _ j hj => absurd hj (Nat.not_lt_zero _), fun _ => rfl⟩
  | succ k ih =>
    unfold cn
    by_cases h : P k = true
    · rw [if_pos h]
      constructor
      · intro z; omega
      · intro z
        have := z k (by omega)
        rw [h] at this
        cases this
    · rw [if_neg h, ih]
      constructor
      · intro z j hj
        by_cases e : j = k
        · rw [e]; simpa using h
        · exact z j (by omega)
      · exact fun z j hj => z j (by omega)
theorem cn_le {P : Nat → Bool} : ∀ k, cn P k ≤ k := by
  intro k
  induction k with
  | zero => exact Nat.le_refl _
  | succ k ih =>
    unfold cn
    by_cases h : P k = true
    · rw [if_pos h]; omega
    · rw [if_neg h]; omega
theorem cn_1 {P : Nat → Bool} {vr : Nat → Nat} : ∀ k, cn P k = 1 → ∃ i, i < k ∧ P i = true ∧ pv vr P k = nI (vr i) ∧ ∀ j, j < k → P j = true → j = i := by
  intro k
  induction k with
  | zero => exact fun h => by cases h
  | succ k ih =>
    unfold cn pv
    by_cases h : P k = true
    · rw [if_pos h, if_pos h]
      intro z
      have z := (cn_0 (P := P) k).mp (by omega)
      refine ⟨k, by omega, h, rfl, fun j hj hp => ?_⟩
      by_cases e : j = k
      · exact e
      · rw [z j (by omega)] at hp
        cases hp
    · rw [if_neg h, if_neg h]
      intro z
      obtain ⟨i, h1, h2, h3, h4⟩ := ih z
      refine ⟨i, by omega, h2, h3, fun j hj hp => ?_⟩
      by_cases e : j = k
      · rw [e] at hp
        exact absurd hp h
      · exact h4 j (by omega) hp
theorem cn_un {P : Nat → Bool} {i : Nat} : ∀ k, i < k → P i = true → (∀ j, j < k → P j = true → j = i) → cn P k = 1 := by
  intro k
  induction k with
  | zero => exact fun h => absurd h (Nat.not_lt_zero _)
  | succ k ih =>
    intro hi hp hu
    unfold cn
    by_cases h : P k = true
    · have e := hu k (by omega) h
      rw [if_pos h, (cn_0 k).mpr (fun j hj => ?_)]
      cases hj2 : P j
      · rfl
      · have := hu j (by omega) hj2
        omega
    · rw [if_neg h]
      refine ih ?_ hp (fun j hj => hu j (by omega))
      by_cases e : i = k
      · rw [e] at hp
        exact absurd hp h
      · omega
section
variable {w : qw} {V C S pc : Nat} {vr : Nat → Nat} {fa : Nat → Bool} {cl : Nat → Int32} {cu : Bool} {now : Int32} {s1 s4 s5 s6 s7 s8 s9 s11 f0 f1 : Int32}
theorem b_mk (hF : okF V vr) {k : Nat} (hk : k < V) (b : Bool) : bt (msk vr fa b V) (vr k - 1) = decide (fa k = b) := by
  have hv := hF.2.1 k hk
  have h := b_msk (fa := fa) (b := b) V hF.2.1 (vr k - 1) (by omega)
  by_cases e : fa k = b
  · rw [decide_eq_true e]
    exact h.mpr ⟨k, hk, e, by omega⟩
  · rw [decide_eq_false e]
    cases hb : bt (msk vr fa b V) (vr k - 1)
    · rfl
    · obtain ⟨i, h1, h2, h3⟩ := h.mp hb
      have := hF.2.2 i k h1 hk (by omega)
      rw [this] at h2
      exact absurd h2 e
theorem f_way {k : Nat} (hF : okF V vr) (hk : k < V) (x : Int32) : f_MO_hasWay w x (nI (vr k)) = some (qb (way vr x k), w) ∧ f_MO_hasBoth w x (nI (vr k)) = some (qb (bth vr x k), w) := by
  have hv := hF.2.1 k hk
  unfold f_MO_hasWay f_MO_hasBoth way bth
  rw [nI_m _ (by omega) (by omega), nI_7 _ (by omega), bit_qb _ (by omega), bit_qb _ (by omega)]
  cases bt x (vr k - 1) <;> cases bt x (vr k + 7) <;> exact ⟨rfl, rfl⟩
theorem f_ism {k : Nat} (hF : okF V vr) (h17 : w[17]? = some (mo s1 (nI V) (nI C) s4 s5 s6 s7 s8 s9 now s11 (qb cu) f0 f1)) (hr : rF w V vr fa C cl) (hk : k < V) : f_MO_isMain w 17 (nI (vr k)) = some (qb (decide (fa k = cu)), w) := by
  obtain ⟨av, af, ap, ac, h19, h20, h21, h22, hrv, _⟩ := hr
  have hv := hF.2.1 k hk
  have hv8 := hF.1
  have hk3 := hrv.1 k hk
  have l1 : q_ld w 21 0 (nI (vr k)) = some (nI k) := by rw [g_l h21 (by omega) (by omega), hk3.2.2]
  have l2 : q_ld w 20 2 (nI k) = some (qb (fa k)) := by rw [g_l h20 (by omega) (by omega), hk3.2.1]
  unfold f_MO_isMain
  rw [g_b1 (g_r h17 rfl), g_b1 (g_r h17 rfl), g_b1 l1, g_b1 l2, g_b1 (g_i h17 rfl)]
  by_cases e : fa k = cu
  · rw [if_pos (by rw [e]), decide_eq_true e]
    rfl
  · rw [if_neg (fun z => e (qb_inj.mp z)), decide_eq_false e]
    rfl
theorem oth_bwy (x : Int32) : x &&& q_oth x = 0 ↔ bwy x = 0 := by
  rw [z_iff, z_iff]
  constructor
  · intro h i hi
    rcases Nat.lt_or_ge i 8 with h8 | h8
    · have := h i hi
      rw [b_and, b_oth x hi, if_pos h8] at this
      rw [b_bwy x h8, this]
    · exact b_bwyh x h8
  · intro h i hi
    rw [b_and, b_oth x hi]
    by_cases h8 : i < 8
    · have := h i hi
      rw [b_bwy x h8] at this
      rw [if_pos h8, this]
    · rw [if_neg h8]
      by_cases h16 : i < 16
      · have := h (i - 8) (by omega)
        rw [b_bwy x (by omega), show i - 8 + 8 = i by omega, Bool.and_comm] at this
        rw [if_pos h16, this]
      · rw [if_neg h16, Bool.and_false]
theorem m_first (hC : okC V vr C cl) (h17 : w[17]? = some (mo s1 (nI V) (nI C) s4 s5 s6 s7 s8 s9 now s11 (qb cu) f0 f1)) (hr : rF w V vr fa C cl) : f_MO_isFirst w 17 = some (qb (if cu then decide (bwy now = 0) && met cl now C else hcl cl now C), w) := by
  obtain ⟨av, af, ap, ac, h19, h20, h21, h22, hrv, hac⟩ := hr
  have hc := hC.1
  have key : ∀ k m, k ≤ C → k < m → ll_MO_isFirst_6 m 17 (qb (hcl cl now (C - k))) (qb (met cl now (C - k))) (nI (C - k)) w = some (qb (if cu then decide (bwy now = 0) && met cl now C else hcl cl now C), w) := by
    intro k
    induction k with
    | zero =>
      intro m _ hm
      obtain ⟨m, rfl⟩ : ∃ z, m = z + 1 := ⟨m - 1, by omega⟩
      show lb_MO_isFirst_6 (ll_MO_isFirst_6 m) 17 (qb (hcl cl now C)) (qb (met cl now C)) (nI C) w = _
      unfold lb_MO_isFirst_6
      rw [g_b1 (g_i h17 rfl), i_le rfl rfl (by omega) (by omega), if_pos (by omega), g_b1 (g_i h17 rfl)]
      cases cu with
      | false => rw [if_pos (show qb false = 0 from rfl), g_ob (qb_z _), if_neg (by decide)]
      | true =>
        rw [if_neg (show ¬ qb true = 0 by decide), if_pos rfl]
        cases met cl now C with
        | false => rw [if_pos (show qb false = 0 from rfl), Bool.and_false]; rfl
        | true =>
          rw [if_neg (show ¬ qb true = 0 by decide), g_b1 (g_i h17 rfl), g_b1 (g_i h17 rfl), g_b2 (f_oth _ _), Bool.and_true]
          by_cases c : now &&& q_oth now = 0
          · rw [if_pos c, decide_eq_true ((oth_bwy now).mp c)]; rfl
          · rw [if_neg c, decide_eq_false (fun z => c ((oth_bwy now).mpr z))]; rfl
    | succ k ih =>
      intro m hk hm
      obtain ⟨m, rfl⟩ : ∃ z, m = z + 1 := ⟨m - 1, by omega⟩
      have ih := ih m (by omega) (by omega)
      rw [show C - k = C - (k + 1) + 1 by omega] at ih
      have hl : q_ld w 22 0 (nI (C - (k + 1))) = some (cl (C - (k + 1))) := by rw [g_l h22 (by omega) (by omega), hac _ (by omega)]
      have hlj : ∀ b, lj_MO_isFirst_36 (ll_MO_isFirst_6 m) 17 (qb (met cl now (C - (k + 1)))) (nI (C - (k + 1))) (qb b) w = ll_MO_isFirst_6 m 17 (qb b) (qb (met cl now (C - (k + 1) + 1))) (nI (C - (k + 1) + 1)) w := by
        intro b
        have hmu : met cl now (C - (k + 1) + 1) = (met cl now (C - (k + 1)) && decide (¬ cl (C - (k + 1)) &&& now = 0)) := rfl
        unfold lj_MO_isFirst_36
        rw [hmu]
        cases hmt : met cl now (C - (k + 1)) with
        | false => rw [if_pos (show qb false = 0 from rfl), nI_1]; rfl
        | true =>
          rw [if_neg (show ¬ qb true = 0 by decide), g_b1 (g_r h17 rfl), g_b1 hl, g_b1 (g_i h17 rfl), nI_1]
          by_cases c : cl (C - (k + 1)) &&& now = 0
          · rw [if_pos c, decide_eq_false (fun z => z c)]; rfl
          · rw [if_neg c, decide_eq_true c]; rfl
      show lb_MO_isFirst_6 (ll_MO_isFirst_6 m) 17 (qb (hcl cl now (C - (k + 1)))) (qb (met cl now (C - (k + 1)))) (nI (C - (k + 1))) w = _
      unfold lb_MO_isFirst_6
      rw [g_b1 (g_i h17 rfl), i_le rfl rfl (by omega) (by omega), if_neg (by omega)]
      have hu : hcl cl now (C - (k + 1) + 1) = (hcl cl now (C - (k + 1)) || decide (cl (C - (k + 1)) = now)) := rfl
      cases hh : hcl cl now (C - (k + 1)) with
      | true =>
        rw [hh, Bool.true_or] at hu
        rw [hu] at ih
        rw [if_neg (show ¬ qb true = 0 by decide)]
        exact (hlj true).trans ih
      | false =>
        rw [hh, Bool.false_or] at hu
        rw [hu] at ih
        rw [if_pos (show qb false = 0 from rfl), g_b1 (g_r h17 rfl), g_b1 hl, g_b1 (g_i h17 rfl)]
        by_cases c : cl (C - (k + 1)) = now
        · rw [decide_eq_true c] at ih
          rw [if_pos c]
          exact (hlj true).trans ih
        · rw [decide_eq_false c] at ih
          rw [if_neg c]
          exact (hlj false).trans ih
  unfold f_MO_isFirst
  have := key C q_fu (Nat.le_refl _) (by unfold q_fu; omega)
  rw [Nat.sub_self] at this
  exact this
end
