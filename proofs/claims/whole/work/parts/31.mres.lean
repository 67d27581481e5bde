/-! the reference's reduction and resolution -/
def rdm (vr : Nat → Nat) (fa : Nat → Bool) (cu : Bool) (a : Int32) (L : Nat) : Nat → Int32
  | 0 => 0
  | k + 1 => if fa k = cu ∨ k + 1 < L then rdm vr fa cu a L k ||| (a &&& (sl (vr k - 1) ||| sl (vr k + 7))) else rdm vr fa cu a L k
/-- whether a variable of the right kind stands in both sets, once each way -/
def opq (vr : Nat → Nat) (fa : Nat → Bool) (cu : Bool) (a b : Int32) (k : Nat) : Bool := decide (fa k = cu) && ((bt a (vr k - 1) && bt b (vr k + 7)) || (bt a (vr k + 7) && bt b (vr k - 1)))
def gg (vr : Nat → Nat) (fa : Nat → Bool) (cu : Bool) (a b dd : Int32) (kp j : Nat) : Bool := !(bth vr dd j && (decide (fa j = cu) || ((way vr a j && way vr b j) && decide (j < kp))))
def gl (vr : Nat → Nat) (fa : Nat → Bool) (cu : Bool) (now a b dd : Int32) (kp : Nat) : Nat → Bool
  | 0 => decide (now = dd)
  | j + 1 => gl vr fa cu now a b dd kp j && gg vr fa cu a b dd kp j
section
variable {w : qw} {V C S pc : Nat} {vr : Nat → Nat} {fa : Nat → Bool} {cl : Nat → Int32} {cu : Bool} {now a b : Int32} {s1 s4 s5 s6 s7 s8 s9 s11 f0 f1 : Int32}
theorem b_rdm (hF : okF V vr) {L : Nat} : ∀ j, j ≤ V → ∀ i, i < 32 → (bt (rdm vr fa cu a L j) i = true ↔ bt a i = true ∧ ∃ k, k < j ∧ (i = vr k - 1 ∨ i = vr k + 7) ∧ (fa k = cu ∨ k + 1 < L)) := by
  intro j
  induction j with
  | zero =>
    intro _ i hi
    constructor
    · intro h
      rw [show rdm vr fa cu a L 0 = 0 from rfl, b_0] at h
      cases h
    · rintro ⟨_, k, hk, _⟩
      omega
  | succ j ih =>
    intro hj i hi
    have ih := ih (by omega) i hi
    have hv := hF.2.1 j (by omega)
    unfold rdm
    by_cases c : fa j = cu ∨ j + 1 < L
    · rw [if_pos c, b_or, Bool.or_eq_true, ih, b_and, b_or, b_sl _ (by omega) i hi, b_sl _ (by omega) i hi, Bool.and_eq_true, Bool.or_eq_true, decide_eq_true_eq, decide_eq_true_eq]
      constructor
      · rintro (⟨h1, k, h2, h3, h4⟩ | ⟨h1, h2⟩)
        · exact ⟨h1, k, by omega, h3, h4⟩
        · exact ⟨h1, j, by omega, h2, c⟩
      · rintro ⟨h1, k, h2, h3, h4⟩
        by_cases e : k = j
        · subst e
          exact Or.inr ⟨h1, h3⟩
        · exact Or.inl ⟨h1, k, by omega, h3, h4⟩
    · rw [if_neg c, ih]
      constructor
      · rintro ⟨h1, k, h2, h3, h4⟩
        exact ⟨h1, k, by omega, h3, h4⟩
      · rintro ⟨h1, k, h2, h3, h4⟩
        by_cases e : k = j
        · subst e
          exact absurd h4 c
        · exact ⟨h1, k, by omega, h3, h4⟩
theorem b_inn (hF : okF V vr) {x : Int32} : ∀ k, k ≤ V → ∀ y i, i < 32 → (bt (inn vr x k y) i = true ↔ bt y i = true ∨ ∃ j, la (fun j => bt x (vr j - 1)) k ≤ j ∧ j < k ∧ i = vr j - 1) := by
  intro k
  induction k with
  | zero =>
    intro _ y i hi
    constructor
    · exact fun h => Or.inl h
    · rintro (h | ⟨j, _, h, _⟩)
      · exact h
      · omega
  | succ k ih =>
    intro hk y i hi
    have hv := hF.2.1 k (by omega)
    have hll := la_le (P := fun j => bt x (vr j - 1)) k
    unfold inn la
    by_cases c : x &&& sl (vr k - 1) = 0
    · have cb := (b_and_sl x (k := vr k - 1) (by omega)).mp c
      rw [if_pos c, ih (by omega) _ i hi, cb, if_neg (by decide), b_or, b_sl _ (by omega) i hi, Bool.or_eq_true, decide_eq_true_eq]
      constructor
      · rintro ((h | h) | ⟨j, h1, h2, h3⟩)
        · exact Or.inl h
        · exact Or.inr ⟨k, hll, by omega, h⟩
        · exact Or.inr ⟨j, h1, by omega, h3⟩
      · rintro (h | ⟨j, h1, h2, h3⟩)
        · exact Or.inl (Or.inl h)
        · by_cases e : j = k
          · subst e
            exact Or.inl (Or.inr h3)
          · exact Or.inr ⟨j, h1, by omega, h3⟩
    · have cb : bt x (vr k - 1) = true := by
        cases hb : bt x (vr k - 1)
        · exact absurd ((b_and_sl x (by omega)).mpr hb) c
        · rfl
      rw [if_neg c, cb, if_pos rfl]
      constructor
      · exact fun h => Or.inl h
      · rintro (h | ⟨j, h1, h2, _⟩)
        · exact h
        · omega
theorem b_innk (hF : okF V vr) {x : Int32} {k : Nat} (hk : k < V) : bt (inn vr x V 0) (vr k - 1) = decide (la (fun j => bt x (vr j - 1)) V ≤ k) := by
  have hv := hF.2.1 k hk
  have h := b_inn hF (x := x) V (Nat.le_refl _) 0 (vr k - 1) (by omega)
  rw [Bool.eq_iff_iff, h, decide_eq_true_eq, b_0]
  constructor
  · rintro (h | ⟨j, h1, h2, h3⟩)
    · cases h
    · have hvj := hF.2.1 j h2
      have := hF.2.2 j k h2 hk (by omega)
      omega
  · exact fun h1 => Or.inr ⟨k, h1, hk, rfl⟩
theorem b_mkh {i : Nat} (hF : okF V vr) (hi : i < 32) {c : Bool} (h : bt (msk vr fa c V) i = true) : ∃ k, k < V ∧ i = vr k - 1 := by
  obtain ⟨k, h1, _, h3⟩ := (b_msk V hF.2.1 i hi).mp h
  exact ⟨k, h1, by omega⟩
theorem z_vr {x : Int32} (hF : okF V vr) (h : ∀ i, i < 32 → bt x i = true → ∃ k, k < V ∧ i = vr k - 1) : x = 0 ↔ ∀ k, k < V → bt x (vr k - 1) = false := by
  rw [z_iff]
  constructor
  · intro h1 k hk
    have := hF.2.1 k hk
    exact h1 _ (by omega)
  · intro h1 i hi
    cases hb : bt x i
    · rfl
    · obtain ⟨k, h2, h3⟩ := h i hi hb
      have := h1 k h2
      rw [← h3, hb] at this
      exact this
theorem rdu_rdm (hF : okF V vr) (ha : okS V vr a) : rdu vr V a (msk vr fa cu V) (msk vr fa (!cu) V) = rdm vr fa cu a (la (fun k => way vr a k && decide (fa k = cu)) V) V := by
  have hla : la (fun j => bt (vin a &&& msk vr fa cu V) (vr j - 1)) V = la (fun k => way vr a k && decide (fa k = cu)) V := by
    refine la_congr V (fun j hj => ?_)
    have hv := hF.2.1 j hj
    show bt (vin a &&& msk vr fa cu V) (vr j - 1) = (way vr a j && decide (fa j = cu))
    rw [b_and, b_vin a (by omega), b_mk hF hj, show vr j - 1 + 8 = vr j + 7 by omega]
    rfl
  refine b_ext (fun i hi => ?_)
  rw [Bool.eq_iff_iff, b_rdm hF V (Nat.le_refl _) i hi]
  unfold rdu
  rw [b_and, Bool.and_eq_true]
  refine and_congr_right (fun hb => ?_)
  obtain ⟨h16, k, hk, hvk⟩ := ha i hi hb
  have hv := hF.2.1 k hk
  have hlt : bt (lts (inn vr (vin a &&& msk vr fa cu V) V 0 &&& msk vr fa (!cu) V)) i = (decide (la (fun k => way vr a k && decide (fa k = cu)) V ≤ k) && decide (fa k = !cu)) := by
    have hy : bt (inn vr (vin a &&& msk vr fa cu V) V 0 &&& msk vr fa (!cu) V) (vr k - 1) = (decide (la (fun k => way vr a k && decide (fa k = cu)) V ≤ k) && decide (fa k = !cu)) := by
      rw [b_and, b_innk hF hk, b_mk hF hk, hla]
    unfold lts
    rw [lits_bt hi]
    by_cases h8 : i < 8
    · rw [decide_eq_false (by omega), Bool.false_and, Bool.or_false, show i = vr k - 1 by omega]
      exact hy
    · have hz : bt (inn vr (vin a &&& msk vr fa cu V) V 0 &&& msk vr fa (!cu) V) i = false := by
        cases hb2 : bt (inn vr (vin a &&& msk vr fa cu V) V 0 &&& msk vr fa (!cu) V) i
        · rfl
        · rw [b_and, Bool.and_eq_true] at hb2
          obtain ⟨q, q1, q2⟩ := b_mkh hF hi hb2.2
          have := hF.2.1 q q1
          omega
      rw [hz, Bool.false_or, decide_eq_true (by omega), Bool.true_and, show i - 8 = vr k - 1 by omega]
      exact hy
  rw [b_xor, b_m1 i hi, hlt]
  have hun : (∃ q, q < V ∧ (i = vr q - 1 ∨ i = vr q + 7) ∧ (fa q = cu ∨ q + 1 < la (fun k => way vr a k && decide (fa k = cu)) V)) ↔ (fa k = cu ∨ k + 1 < la (fun k => way vr a k && decide (fa k = cu)) V) := by
    constructor
    · rintro ⟨q, q1, q2, q3⟩
      have hvq := hF.2.1 q q1
      have : q = k := hF.2.2 q k q1 hk (by omega)
      rw [← this]
      exact q3
    · intro h
      exact ⟨k, hk, by omega, h⟩
  rw [hun]
  have hP := la_P (P := fun k => way vr a k && decide (fa k = cu)) V k
  generalize la (fun k => way vr a k && decide (fa k = cu)) V = L at hP ⊢
  by_cases e : fa k = cu
  · rw [decide_eq_false (show ¬ fa k = !cu by rw [e]; cases cu <;> decide)]
    simp [e]
  · have e2 : fa k = !cu := by
      cases h1 : fa k <;> cases cu <;> simp_all
    have hne : ¬ L = k + 1 := by
      intro hL
      have h2 : (way vr a k && decide (fa k = cu)) = true := (hP hL).1
      rw [decide_eq_false e, Bool.and_false] at h2
      cases h2
    rw [decide_eq_true e2, Bool.and_true]
    by_cases c : L ≤ k
    · rw [decide_eq_true c]
      constructor
      · intro h; cases h
      · rintro (h | h)
        · exact absurd h e
        · omega
    · rw [decide_eq_false c]
      exact ⟨fun _ => Or.inr (by omega), fun _ => rfl⟩
theorem m_red2 (hF : okF V vr) (h17 : w[17]? = some (mo s1 (nI V) (nI C) s4 s5 s6 s7 s8 s9 now s11 (qb cu) f0 f1)) (hr : rF w V vr fa C cl) {L : Nat} (hL : L ≤ V) : ∀ k m, k ≤ V → k < m → ll_MO_reduced_55 m 17 a (nI L - 1) (rdm vr fa cu a L (V - k)) (nI (V - k)) w = some (rdm vr fa cu a L V, w) := by
  have hr2 := hr
  obtain ⟨av, af, ap, ac, h19, h20, h21, h22, hrv, _⟩ := hr2
  have hv8 := hF.1
  intro k
  induction k with
  | zero =>
    intro m _ hm
    obtain ⟨m, rfl⟩ : ∃ z, m = z + 1 := ⟨m - 1, by omega⟩
    show lb_MO_reduced_55 (ll_MO_reduced_55 m) 17 a (nI L - 1) (rdm vr fa cu a L V) (nI V) w = _
    unfold lb_MO_reduced_55
    rw [g_b1 (g_i h17 rfl), i_le rfl rfl (by omega) (by omega), if_pos (by omega)]
  | succ k ih =>
    intro m hk hm
    obtain ⟨m, rfl⟩ : ∃ z, m = z + 1 := ⟨m - 1, by omega⟩
    have ih := ih m (by omega) (by omega)
    have hj : V - (k + 1) < V := by omega
    rw [show V - k = V - (k + 1) + 1 by omega] at ih
    show lb_MO_reduced_55 (ll_MO_reduced_55 m) 17 a (nI L - 1) (rdm vr fa cu a L (V - (k + 1))) (nI (V - (k + 1))) w = _
    generalize V - (k + 1) = j at ih hj ⊢
    have hv := hF.2.1 j hj
    have hl : q_ld w 19 0 (nI j) = some (nI (vr j)) := by rw [g_l h19 (by omega) (by omega), (hrv.1 j hj).1]
    have hu : rdm vr fa cu a L (j + 1) = if fa j = cu ∨ j + 1 < L then rdm vr fa cu a L j ||| (a &&& (sl (vr j - 1) ||| sl (vr j + 7))) else rdm vr fa cu a L j := rfl
    unfold lb_MO_reduced_55 lj_MO_reduced_102
    rw [g_b1 (g_i h17 rfl), i_le rfl rfl (by omega) (by omega), if_neg (by omega), g_b1 (g_r h17 rfl), g_b1 hl, g_b2 (f_mbit _ _), g_b2 (f_mbit _ _), g_ob (g_is h17), g_b2 (f_ism hF h17 hr hj), q_bit_p _ (by omega) (by omega), q_bit_n _ (by omega) (by omega), nI_1]
    by_cases c1 : fa j = cu
    · rw [if_pos (Or.inl c1)] at hu
      rw [decide_eq_true c1, if_neg (show ¬ qb true = 0 by decide), ← hu]
      exact ih
    · rw [decide_eq_false c1, if_pos (show qb false = 0 from rfl)]
      by_cases c2 : L ≤ j + 1
      · rw [if_neg (by rintro (h | h); exact c1 h; omega)] at hu
        rw [if_pos ((lle L (by omega) j (by omega)).mpr c2), ← hu]
        exact ih
      · rw [if_pos (Or.inr (by omega))] at hu
        rw [if_neg (fun z => c2 ((lle L (by omega) j (by omega)).mp z)), ← hu]
        exact ih
theorem m_reduced (hF : okF V vr) (ha : okS V vr a) (h17 : w[17]? = some (mo s1 (nI V) (nI C) s4 s5 s6 s7 s8 s9 now s11 (qb cu) f0 f1)) (hr : rF w V vr fa C cl) : f_MO_reduced w 17 a = some (rdu vr V a (msk vr fa cu V) (msk vr fa (!cu) V), w) := by
  rw [rdu_rdm hF ha]
  have hr2 := hr
  obtain ⟨av, af, ap, ac, h19, h20, h21, h22, hrv, _⟩ := hr2
  have hv8 := hF.1
  have key : ∀ k m, k ≤ V → k < m → ll_MO_reduced_4 m 17 a (nI (la (fun k => way vr a k && decide (fa k = cu)) (V - k)) - 1) (nI (V - k)) w = some (rdm vr fa cu a (la (fun k => way vr a k && decide (fa k = cu)) V) V, w) := by
    intro k
    induction k with
    | zero =>
      intro m _ hm
      obtain ⟨m, rfl⟩ : ∃ z, m = z + 1 := ⟨m - 1, by omega⟩
      show lb_MO_reduced_4 (ll_MO_reduced_4 m) 17 a (nI (la (fun k => way vr a k && decide (fa k = cu)) V) - 1) (nI V) w = _
      unfold lb_MO_reduced_4
      rw [g_b1 (g_i h17 rfl), i_le rfl rfl (by omega) (by omega), if_pos (by omega)]
      have := m_red2 (a := a) hF h17 hr (la_le (P := fun k => way vr a k && decide (fa k = cu)) V) V q_fu (Nat.le_refl _) (by unfold q_fu; omega)
      rw [Nat.sub_self] at this
      exact this
    | succ k ih =>
      intro m hk hm
      obtain ⟨m, rfl⟩ : ∃ z, m = z + 1 := ⟨m - 1, by omega⟩
      have ih := ih m (by omega) (by omega)
      have hj : V - (k + 1) < V := by omega
      rw [show V - k = V - (k + 1) + 1 by omega] at ih
      show lb_MO_reduced_4 (ll_MO_reduced_4 m) 17 a (nI (la (fun k => way vr a k && decide (fa k = cu)) (V - (k + 1))) - 1) (nI (V - (k + 1))) w = _
      generalize V - (k + 1) = j at ih hj ⊢
      have hl : q_ld w 19 0 (nI j) = some (nI (vr j)) := by rw [g_l h19 (by omega) (by omega), (hrv.1 j hj).1]
      have hu : la (fun k => way vr a k && decide (fa k = cu)) (j + 1) = if (way vr a j && decide (fa j = cu)) = true then j + 1 else la (fun k => way vr a k && decide (fa k = cu)) j := rfl
      unfold lb_MO_reduced_4
      rw [g_b1 (g_i h17 rfl), i_le rfl rfl (by omega) (by omega), if_neg (by omega), g_b1 (g_r h17 rfl), g_b1 hl, g_b2 (f_way hF hj a).1, g_b1 (g_r h17 rfl), g_b1 hl, g_ob (g_is h17), g_b2 (f_ism hF h17 hr hj), nI_1]
      cases hw : way vr a j with
      | false =>
        rw [hw, Bool.false_and, if_neg (by decide)] at hu
        rw [if_pos (show qb false = 0 from rfl), ← hu]
        exact ih
      | true =>
        rw [hw, Bool.true_and] at hu
        rw [if_neg (show ¬ qb true = 0 by decide)]
        by_cases c1 : fa j = cu
        · rw [decide_eq_true c1, if_pos rfl] at hu
          rw [hu, nI_pred] at ih
          rw [decide_eq_true c1, if_neg (show ¬ qb true = 0 by decide)]
          exact ih
        · rw [decide_eq_false c1, if_neg (by decide)] at hu
          rw [decide_eq_false c1, if_pos (show qb false = 0 from rfl), ← hu]
          exact ih
  unfold f_MO_reduced
  have := key V q_fu (Nat.le_refl _) (by unfold q_fu; omega)
  rw [Nat.sub_self] at this
  exact this
theorem opq_opp (hF : okF V vr) {k : Nat} (hk : k < V) : bt (opp a b (msk vr fa cu V)) (vr k - 1) = opq vr fa cu a b k := by
  have hv := hF.2.1 k hk
  rw [b_opp _ _ _ (by omega), b_mk hF hk, show vr k - 1 + 8 = vr k + 7 by omega]
  unfold opq
  rw [Bool.and_comm]
theorem opp_in (hF : okF V vr) : ∀ i, i < 32 → bt (opp a b (msk vr fa cu V)) i = true → ∃ k, k < V ∧ i = vr k - 1 := by
  intro i hi h
  unfold opp at h
  rw [b_and, Bool.and_eq_true] at h
  exact b_mkh hF hi h.2
theorem opp_hi (hF : okF V vr) : ∀ i, 8 ≤ i → i < 32 → bt (opp a b (msk vr fa cu V)) i = false := by
  intro i h8 hi
  cases h : bt (opp a b (msk vr fa cu V)) i
  · rfl
  · obtain ⟨k, h1, h2⟩ := opp_in hF i hi h
    have := hF.2.1 k h1
    omega
theorem gl_iff {dd : Int32} {kp : Nat} : ∀ j, gl vr fa cu now a b dd kp j = true ↔ now = dd ∧ ∀ i, i < j → gg vr fa cu a b dd kp i = true := by
  intro j
  induction j with
  | zero =>
    unfold gl
    rw [decide_eq_true_eq]
    exact ⟨fun h => ⟨h, fun i hi => absurd hi (Nat.not_lt_zero _)⟩, fun h => h.1⟩
  | succ j ih =>
    unfold gl
    rw [Bool.and_eq_true, ih]
    constructor
    · rintro ⟨⟨h1, h2⟩, h3⟩
      refine ⟨h1, fun i hi => ?_⟩
      by_cases e : i = j
      · rw [e]; exact h3
      · exact h2 i (by omega)
    · rintro ⟨h1, h2⟩
      exact ⟨⟨h1, fun i hi => h2 i (by omega)⟩, h2 j (by omega)⟩
theorem rsv_gl (hF : okF V vr) {kp : Nat} (hk : kp < V) (hq : opq vr fa cu a b kp = true) (hu : ∀ j, j < V → opq vr fa cu a b j = true → j = kp) : opp a b (msk vr fa cu V) = sl (vr kp - 1) ∧ rsv vr V now a b (msk vr fa cu V) (msk vr fa (!cu) V) = gl vr fa cu now a b (due a b (msk vr fa cu V)) kp V := by
  have hv := hF.2.1 kp hk
  have ho : opp a b (msk vr fa cu V) = sl (vr kp - 1) := by
    refine b_ext (fun i hi => ?_)
    rw [b_sl _ (by omega) i hi]
    by_cases e : i = vr kp - 1
    · rw [decide_eq_true e, e, opq_opp hF hk, hq]
    · rw [decide_eq_false e]
      cases h : bt (opp a b (msk vr fa cu V)) i
      · rfl
      · obtain ⟨k, h1, h2⟩ := opp_in hF i hi h
        rw [h2, opq_opp hF h1] at h
        rw [hu k h1 h] at h2
        exact absurd h2 e
  refine ⟨ho, ?_⟩
  have hla : la (fun j => bt (opp a b (msk vr fa cu V)) (vr j - 1)) V = kp + 1 :=
    la_un V hk (by rw [opq_opp hF hk]; exact hq) (fun j hj h => hu j hj (by rw [opq_opp hF hj] at h; exact h))
  unfold rsv
  generalize due a b (msk vr fa cu V) = dd
  have hA : bwy dd &&& msk vr fa cu V = 0 ↔ ∀ k, k < V → (bth vr dd k && decide (fa k = cu)) = false := by
    rw [z_vr hF (fun i hi h => by rw [b_and, Bool.and_eq_true] at h; exact b_mkh hF hi h.2)]
    refine forall_congr' (fun k => forall_congr' (fun hk2 => ?_))
    have hv2 := hF.2.1 k hk2
    rw [b_and, b_bwy dd (by omega), b_mk hF hk2, show vr k - 1 + 8 = vr k + 7 by omega]
    rfl
  have hB : (((vin a &&& vin b) &&& bwy dd) &&& msk vr fa (!cu) V) &&& (inn vr (opp a b (msk vr fa cu V)) V 0 ^^^ (-1)) = 0 ↔ ∀ k, k < V → ((((way vr a k && way vr b k) && bth vr dd k) && decide (fa k = !cu)) && !decide (kp + 1 ≤ k)) = false := by
    rw [z_vr hF (fun i hi h => by rw [b_and, b_and, Bool.and_eq_true, Bool.and_eq_true] at h; exact b_mkh hF hi h.1.2)]
    refine forall_congr' (fun k => forall_congr' (fun hk2 => ?_))
    have hv2 := hF.2.1 k hk2
    rw [b_and, b_and, b_and, b_and, b_vin a (by omega), b_vin b (by omega), b_bwy dd (by omega), b_mk hF hk2, b_xor, b_m1 _ (by omega), b_innk hF hk2, hla, show vr k - 1 + 8 = vr k + 7 by omega, Bool.xor_true]
    rfl
  rw [Bool.eq_iff_iff, gl_iff, Bool.and_eq_true, Bool.and_eq_true, Bool.and_eq_true, decide_eq_true_eq, decide_eq_true_eq, decide_eq_true_eq, decide_eq_true_eq, hA, hB, ho]
  have hmain : fa kp = cu := by
    unfold opq at hq
    rw [Bool.and_eq_true] at hq
    exact of_decide_eq_true hq.1
  constructor
  · rintro ⟨_, h2, h3, h4⟩
    refine ⟨h2, fun j hj => ?_⟩
    have h3 := h3 j hj
    have h4 := h4 j hj
    unfold gg
    cases hb : bth vr dd j
    · rfl
    · rw [hb, Bool.true_and] at h3
      have h3 := of_decide_eq_false h3
      have h5 : fa j = !cu := by cases h1 : fa j <;> cases cu <;> simp_all
      rw [hb, decide_eq_true h5, Bool.and_true, Bool.and_true] at h4
      rw [decide_eq_false h3, Bool.true_and, Bool.false_or]
      cases hw : (way vr a j && way vr b j)
      · rfl
      · rw [hw, Bool.true_and] at h4
        rw [Bool.true_and]
        have : ¬ j < kp := by
          intro z
          rw [decide_eq_false (by omega)] at h4
          cases h4
        rw [decide_eq_false this]
        rfl
  · rintro ⟨h1, h2⟩
    refine ⟨bcn_s _ (by omega), h1, fun j hj => ?_, fun j hj => ?_⟩
    · have h2 := h2 j hj
      unfold gg at h2
      cases hb : bth vr dd j
      · rfl
      · rw [hb, Bool.true_and] at h2
        cases hd : decide (fa j = cu)
        · rfl
        · rw [hd] at h2
          cases h2
    · have h2 := h2 j hj
      unfold gg at h2
      cases hb : bth vr dd j
      · rw [Bool.and_false, Bool.false_and, Bool.false_and]
      · rw [hb, Bool.true_and] at h2
        cases hw : (way vr a j && way vr b j)
        · rfl
        · rw [hw, Bool.true_and] at h2
          by_cases c : kp + 1 ≤ j
          · rw [decide_eq_true c]
            exact Bool.and_false _
          · by_cases e : j = kp
            · rw [e, hmain, decide_eq_false (by cases cu <;> decide)]
              rfl
            · rw [decide_eq_true (show j < kp by omega), Bool.or_true] at h2
              cases h2
theorem rsv_cn (hF : okF V vr) (h : ¬ cn (opq vr fa cu a b) V = 1) : rsv vr V now a b (msk vr fa cu V) (msk vr fa (!cu) V) = false := by
  unfold rsv
  by_cases c : bcn (opp a b (msk vr fa cu V)) = 1
  · exfalso
    obtain ⟨j, hj, ho⟩ := bcn_1 (opp_hi hF) c
    have hb : bt (opp a b (msk vr fa cu V)) j = true := by
      rw [ho, b_sl j (by omega) j (by omega), decide_eq_true rfl]
    obtain ⟨k, h1, h2⟩ := opp_in hF j (by omega) hb
    refine h (cn_un (i := k) V h1 ?_ (fun i hi hq => ?_))
    · rw [← opq_opp hF h1, ← h2]
      exact hb
    · rw [← opq_opp hF hi, ho, b_sl j (by omega) _ (by have := hF.2.1 i hi; omega)] at hq
      have hq := of_decide_eq_true hq
      have a1 := hF.2.1 i hi
      have a2 := hF.2.1 k h1
      exact hF.2.2 i k hi h1 (by omega)
  · rw [decide_eq_false c]
    rfl
end
