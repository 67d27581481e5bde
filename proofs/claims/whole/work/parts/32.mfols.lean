/-! follows(), in the reference -/
section
variable {w : qw} {V C S pc p0 p1 : Nat} {vr id : Nat → Nat} {fa cb : Nat → Bool} {cl st gr : Nat → Int32} {cu : Bool} {now a b : Int32} {s1 s4 s5 s6 s7 s8 s9 s11 f0 f1 : Int32}
theorem m_res2 (hF : okF V vr) (h17 : w[17]? = some (mo s1 (nI V) (nI C) s4 s5 s6 s7 s8 s9 now s11 (qb cu) f0 f1)) (hr : rF w V vr fa C cl) {kp : Nat} (hkp : kp < V) (dd : Int32) : ∀ k m, k ≤ V → k < m → ll_MO_isResolved_114 m 17 a b (nI (vr kp)) dd (qb (gl vr fa cu now a b dd kp (V - k))) (nI (V - k)) w = some (qb (gl vr fa cu now a b dd kp V), w) := by
  have hr2 := hr
  obtain ⟨av, af, ap, ac, h19, h20, h21, h22, hrv, _⟩ := hr2
  have hv8 := hF.1
  have hvp := hF.2.1 kp hkp
  have hlp : q_ld w 21 0 (nI (vr kp)) = some (nI kp) := by rw [g_l h21 (by omega) (by omega), (hrv.1 kp hkp).2.2]
  intro k
  induction k with
  | zero =>
    intro m _ hm
    obtain ⟨m, rfl⟩ : ∃ z, m = z + 1 := ⟨m - 1, by omega⟩
    show lb_MO_isResolved_114 (ll_MO_isResolved_114 m) 17 a b (nI (vr kp)) dd (qb (gl vr fa cu now a b dd kp V)) (nI V) w = _
    unfold lb_MO_isResolved_114
    rw [g_b1 (g_i h17 rfl), i_le rfl rfl (by omega) (by omega), if_pos (by omega), g_ob (qb_z _)]
  | succ k ih =>
    intro m hk hm
    obtain ⟨m, rfl⟩ : ∃ z, m = z + 1 := ⟨m - 1, by omega⟩
    have ih := ih m (by omega) (by omega)
    have hj : V - (k + 1) < V := by omega
    rw [show V - k = V - (k + 1) + 1 by omega] at ih
    show lb_MO_isResolved_114 (ll_MO_isResolved_114 m) 17 a b (nI (vr kp)) dd (qb (gl vr fa cu now a b dd kp (V - (k + 1)))) (nI (V - (k + 1))) w = _
    generalize V - (k + 1) = j at ih hj ⊢
    have hl : q_ld w 19 0 (nI j) = some (nI (vr j)) := by rw [g_l h19 (by omega) (by omega), (hrv.1 j hj).1]
    have hu : gl vr fa cu now a b dd kp (j + 1) = (gl vr fa cu now a b dd kp j && gg vr fa cu a b dd kp j) := rfl
    rw [hu] at ih
    unfold lb_MO_isResolved_114
    rw [g_b1 (g_i h17 rfl), i_le rfl rfl (by omega) (by omega), if_neg (by omega), g_b1 (g_r h17 rfl), g_b1 hl, g_b2 (f_way hF hj dd).2, nI_1]
    cases hg : gl vr fa cu now a b dd kp j with
    | false =>
      rw [hg, Bool.false_and] at ih
      rw [if_pos (show qb false = 0 from rfl)]
      exact ih
    | true =>
      rw [hg, Bool.true_and] at ih
      rw [if_neg (show ¬ qb true = 0 by decide)]
      unfold gg at ih
      cases hb : bth vr dd j with
      | false =>
        rw [hb] at ih
        rw [if_pos (show qb false = 0 from rfl)]
        unfold lj_MO_isResolved_160
        rw [if_pos (show qb false = 0 from rfl), nI_1]
        exact ih
      | true =>
        rw [hb, Bool.true_and] at ih
        rw [if_neg (show ¬ qb true = 0 by decide), g_ob (g_is h17), g_b2 (f_ism hF h17 hr hj)]
        by_cases c1 : fa j = cu
        · rw [decide_eq_true c1, Bool.true_or] at ih
          rw [decide_eq_true c1, if_neg (show ¬ qb true = 0 by decide)]
          exact ih
        · rw [decide_eq_false c1, Bool.false_or] at ih
          rw [decide_eq_false c1, if_pos (show qb false = 0 from rfl)]
          unfold lj_MO_isResolved_160
          rw [if_neg (show ¬ qb true = 0 by decide), g_b2 (f_way hF hj a).1, g_b2 (f_way hF hj b).1, g_b1 (g_r h17 rfl), g_b1 hlp, i_lt rfl rfl (by omega) (by omega), nI_1]
          cases hw1 : way vr a j with
          | false =>
            rw [hw1] at ih
            rw [if_pos (show qb false = 0 from rfl)]
            exact ih
          | true =>
            rw [if_neg (show ¬ qb true = 0 by decide)]
            cases hw2 : way vr b j with
            | false =>
              rw [hw1, hw2] at ih
              rw [if_pos (show qb false = 0 from rfl)]
              exact ih
            | true =>
              rw [hw1, hw2] at ih
              rw [if_neg (show ¬ qb true = 0 by decide)]
              by_cases c2 : j < kp
              · rw [decide_eq_true c2] at ih
                rw [if_pos c2]
                exact ih
              · rw [decide_eq_false c2] at ih
                rw [if_neg c2]
                exact ih
theorem m_resolved (hF : okF V vr) (h17 : w[17]? = some (mo s1 (nI V) (nI C) s4 s5 s6 s7 s8 s9 now s11 (qb cu) f0 f1)) (hr : rF w V vr fa C cl) : f_MO_isResolved w 17 a b = some (qb (rsv vr V now a b (msk vr fa cu V) (msk vr fa (!cu) V)), w) := by
  have hr2 := hr
  obtain ⟨av, af, ap, ac, h19, h20, h21, h22, hrv, _⟩ := hr2
  have hv8 := hF.1
  have key : ∀ k m, k ≤ V → k < m → ll_MO_isResolved_8 m 17 a b (pv vr (opq vr fa cu a b) (V - k)) (nI (cn (opq vr fa cu a b) (V - k))) (nI (V - k)) w = some (qb (rsv vr V now a b (msk vr fa cu V) (msk vr fa (!cu) V)), w) := by
    intro k
    induction k with
    | zero =>
      intro m _ hm
      obtain ⟨m, rfl⟩ : ∃ z, m = z + 1 := ⟨m - 1, by omega⟩
      have hcl := cn_le (P := opq vr fa cu a b) V
      show lb_MO_isResolved_8 (ll_MO_isResolved_8 m) 17 a b (pv vr (opq vr fa cu a b) V) (nI (cn (opq vr fa cu a b) V)) (nI V) w = _
      unfold lb_MO_isResolved_8
      rw [g_b1 (g_i h17 rfl), i_le rfl rfl (by omega) (by omega), if_pos (by omega), i_eq (y := 1) (b := 1) rfl rfl (by omega) (by omega)]
      by_cases c1 : cn (opq vr fa cu a b) V = 1
      · obtain ⟨kp, q1, q2, q3, q4⟩ := cn_1 (vr := vr) V c1
        obtain ⟨ho, hg⟩ := rsv_gl (now := now) hF q1 q2 q4
        have hv := hF.2.1 kp q1
        have hdue : (a ||| b) &&& ((sl (vr kp - 1) ||| sl (vr kp + 7)) ^^^ (-1)) = due a b (msk vr fa cu V) := by
          unfold due
          rw [ho, sl_8 _ (by omega) (by omega)]
        rw [if_pos c1, q3, g_b2 (f_mbit _ _), g_b2 (f_mbit _ _), g_b1 (g_i h17 rfl), q_bit_p _ (by omega) (by omega), q_bit_n _ (by omega) (by omega), hdue, hg]
        have h2 := m_res2 (a := a) (b := b) hF h17 hr q1 (due a b (msk vr fa cu V)) V q_fu (Nat.le_refl _) (by unfold q_fu; omega)
        rw [Nat.sub_self] at h2
        have h0 : gl vr fa cu now a b (due a b (msk vr fa cu V)) kp 0 = decide (now = due a b (msk vr fa cu V)) := rfl
        rw [h0] at h2
        by_cases c2 : now = due a b (msk vr fa cu V)
        · rw [decide_eq_true c2] at h2
          rw [if_pos c2]
          exact h2
        · rw [decide_eq_false c2] at h2
          rw [if_neg c2]
          exact h2
      · rw [if_neg c1, rsv_cn hF c1]
        rfl
    | succ k ih =>
      intro m hk hm
      obtain ⟨m, rfl⟩ : ∃ z, m = z + 1 := ⟨m - 1, by omega⟩
      have ih := ih m (by omega) (by omega)
      have hj : V - (k + 1) < V := by omega
      rw [show V - k = V - (k + 1) + 1 by omega] at ih
      show lb_MO_isResolved_8 (ll_MO_isResolved_8 m) 17 a b (pv vr (opq vr fa cu a b) (V - (k + 1))) (nI (cn (opq vr fa cu a b) (V - (k + 1)))) (nI (V - (k + 1))) w = _
      generalize V - (k + 1) = j at ih hj ⊢
      have hv := hF.2.1 j hj
      have hl : q_ld w 19 0 (nI j) = some (nI (vr j)) := by rw [g_l h19 (by omega) (by omega), (hrv.1 j hj).1]
      have hu : cn (opq vr fa cu a b) (j + 1) = if opq vr fa cu a b j = true then cn (opq vr fa cu a b) j + 1 else cn (opq vr fa cu a b) j := rfl
      have hp : pv vr (opq vr fa cu a b) (j + 1) = if opq vr fa cu a b j = true then nI (vr j) else pv vr (opq vr fa cu a b) j := rfl
      have hcond : (q_oth a &&& b) &&& (sl (vr j - 1) ||| sl (vr j + 7)) = 0 ↔ ¬ ((bt a (vr j - 1) && bt b (vr j + 7)) || (bt a (vr j + 7) && bt b (vr j - 1))) = true := by
        rw [b_and_or _ (by omega) (by omega), b_and, b_and, b_oth a (by omega), b_oth a (by omega), if_pos (show vr j - 1 < 8 by omega), if_neg (show ¬ vr j + 7 < 8 by omega), if_pos (show vr j + 7 < 16 by omega), show vr j - 1 + 8 = vr j + 7 by omega, show vr j + 7 - 8 = vr j - 1 by omega, Bool.or_eq_true]
        exact not_congr Or.comm
      unfold lb_MO_isResolved_8
      rw [g_b1 (g_i h17 rfl), i_le rfl rfl (by omega) (by omega), if_neg (by omega), g_b1 (g_r h17 rfl), g_b1 hl, g_ob (g_is h17), g_b2 (f_ism hF h17 hr hj), g_b2 (f_oth _ _), g_b2 (f_mbit _ _), g_b2 (f_mbit _ _), q_bit_p _ (by omega) (by omega), q_bit_n _ (by omega) (by omega), nI_1, nI_1]
      by_cases c1 : fa j = cu
      · rw [decide_eq_true c1, if_neg (show ¬ qb true = 0 by decide)]
        by_cases c2 : ((bt a (vr j - 1) && bt b (vr j + 7)) || (bt a (vr j + 7) && bt b (vr j - 1))) = true
        · have hq : opq vr fa cu a b j = true := by
            unfold opq
            rw [decide_eq_true c1, c2]
            rfl
          rw [if_pos hq] at hu hp
          rw [if_neg (fun z => hcond.mp z c2), ← hu, ← hp]
          exact ih
        · have hq : ¬ opq vr fa cu a b j = true := by
            unfold opq
            rw [decide_eq_true c1, Bool.true_and]
            exact c2
          rw [if_neg hq] at hu hp
          rw [if_pos (hcond.mpr c2), ← hu, ← hp]
          exact ih
      · have hq : ¬ opq vr fa cu a b j = true := by
          unfold opq
          rw [decide_eq_false c1, Bool.false_and]
          decide
        rw [if_neg hq] at hu hp
        rw [decide_eq_false c1, if_pos (show qb false = 0 from rfl), ← hu, ← hp]
        exact ih
  unfold f_MO_isResolved
  have := key V q_fu (Nat.le_refl _) (by unfold q_fu; omega)
  rw [Nat.sub_self] at this
  exact this
theorem m_fol (hF : okF V vr) (hC : okC V vr C cl) (hP : okP V vr S id st) (h17 : w[17]? = some (mo s1 (nI V) (nI C) s4 s5 (nI S) s7 s8 (nI pc) now s11 (qb cu) f0 f1)) (hr : rF w V vr fa C cl) (hp : rP w S id st cb gr) (hpc : pc ≤ 2) (h0 : 0 < pc → p0 < S ∧ f0 = nI p0) (h1 : 1 < pc → p1 < S ∧ f1 = nI p1) : f_MO_follows w 17 = some (qb (fol V vr fa C cl cu now pc (st p0) (st p1)), w) := by
  have hS := hP.1
  obtain ⟨a9, a10, a12, a11, h27, h28, h29, h30, hs⟩ := hp
  unfold f_MO_follows fol
  rw [g_b1 (g_i h17 rfl), i_eq (y := 0) (b := 0) rfl rfl (by omega) (by omega), g_b1 (g_i h17 rfl), i_eq (y := 1) (b := 1) rfl rfl (by omega) (by omega)]
  by_cases c0 : pc = 0
  · rw [if_pos c0, if_pos c0, g_ob (g_is h17), g_b2 (m_first hC h17 hr), g_ob (qb_z _)]
  · obtain ⟨i0, e0⟩ := h0 (by omega)
    subst e0
    have l0 : q_ld w 28 0 (nI p0) = some (st p0) := by rw [g_l h28 (by omega) (by omega), (hs p0 i0).2.1]
    rw [if_neg c0, if_neg c0]
    by_cases c1 : pc = 1
    · rw [if_pos c1, if_pos c1, g_b1 (g_i h17 rfl), g_b1 (g_r h17 rfl), g_b1 (g_i h17 rfl), g_b1 l0, g_ob (g_is h17), g_b2 (m_reduced hF (hP.2.2.2 p0 i0) h17 hr)]
      by_cases c : now = rdu vr V (st p0) (msk vr fa cu V) (msk vr fa (!cu) V)
      · rw [if_pos c, decide_eq_true c]
        rfl
      · rw [if_neg c, decide_eq_false c]
        rfl
    · obtain ⟨i1, e1⟩ := h1 (by omega)
      subst e1
      have l1 : q_ld w 28 0 (nI p1) = some (st p1) := by rw [g_l h28 (by omega) (by omega), (hs p1 i1).2.1]
      rw [if_neg c1, if_neg c1, g_b1 (g_r h17 rfl), g_b1 (g_i h17 rfl), g_b1 l0, g_b1 (g_r h17 rfl), g_b1 (g_i h17 rfl), g_b1 l1, g_ob (g_is h17), g_b2 (m_resolved hF h17 hr), g_ob (qb_z _)]
end
