/-! the law's loop: class and reference answer alike at every call -/
def Inv (w : qw) : Prop := ∃ (n : Nat) (bf : Nat → Nat) (V : Nat) (vr : Nat → Nat) (fa : Nat → Bool) (C : Nat) (cl : Nat → Int32) (S : Nat) (id : Nat → Nat) (st : Nat → Int32) (cb : Nat → Bool) (gr : Nat → Int32), okB n bf ∧ okF V vr ∧ okC V vr C cl ∧ okP V vr S id st ∧ IC w n bf V vr fa C cl S id st cb gr ∧ IM w n bf V vr fa C cl S id st cb gr
theorem nI_2 {i : Nat} : nI i + 2 = nI (i + 2) := by rw [show (2 : Int32) = 1 + 1 by decide, ← Int32.add_assoc, nI_1, nI_1]
theorem nI_3 {i : Nat} : nI i + 3 = nI (i + 3) := by rw [show (3 : Int32) = 1 + 1 + 1 by decide, ← Int32.add_assoc, ← Int32.add_assoc, nI_1, nI_1, nI_1]
theorem chr (v : Int32) : ∃ c, c < 65536 ∧ (v.toUInt32 % 65536).toInt32 = nI c := by
  refine ⟨(v.toUInt32 % 65536).toNat, ?_, b_ext (fun i hi => by rw [nbt hi]; rfl)⟩
  rw [UInt32.toNat_mod]
  exact Nat.mod_lt _ (by decide)
theorem lx {α : Type} {L i : Nat} {p q : α} (hL : L ≤ 1536) (hi : i < 2 ^ 31) : (if Int32.ofNat L - 3 < nI i then p else q) = if L < i + 3 then p else q := by
  show (if nI L - 3 < nI i then p else q) = _
  rcases Nat.lt_or_ge L 3 with h | h
  · rw [if_pos (show L < i + 3 by omega)]
    have hi2 := nI_toInt hi
    rcases (show L = 0 ∨ L = 1 ∨ L = 2 by omega) with e | e | e
    · rw [e, z_lt (show (nI 0 - 3).toInt = -3 by decide) hi2, if_pos (by omega)]
    · rw [e, z_lt (show (nI 1 - 3).toInt = -2 by decide) hi2, if_pos (by omega)]
    · rw [e, z_lt (show (nI 2 - 3).toInt = -1 by decide) hi2, if_pos (by omega)]
  · have : nI L - 3 = nI (L - 3) := pk_sub h
    rw [this, i_lt rfl rfl (by omega) hi]
    by_cases c : L < i + 3
    · rw [if_pos c, if_pos (by omega)]
    · rw [if_neg c, if_neg (by omega)]
theorem sxi {L i : Nat} {xs : Nat → Int32} (hi : i < L) (hL : L ≤ 1536) : q_sx L xs (nI i) = some (xs i) := by
  have h1 := nI_pos (n := i) (by omega)
  unfold q_sx
  rw [nI_clamp (by omega), if_pos (by rintro (h | h); exact h1 h; omega)]
section
variable {w : qw} {n V C S : Nat} {bf vr id : Nat → Nat} {fa cb : Nat → Bool} {cl st gr : Nat → Int32}
theorem IC.is (h : IC w n bf V vr fa C cl S id st cb gr) : q_is w 0 0 = true := by
  obtain ⟨cu, dr, hq, _⟩ := h
  exact g_is hq.2
theorem IM.is (h : IM w n bf V vr fa C cl S id st cb gr) : q_is w 17 1 = true := by
  obtain ⟨⟨_, _, _, _, _, _, _, _, _, _, h17⟩, _⟩ := h
  exact g_is h17
end
theorem inv_start : Inv w_start := by
  refine ⟨0, fun _ => 0, 0, fun _ => 0, fun _ => false, 0, fun _ => 0, 0, fun _ => 0, fun _ => 0, fun _ => false, fun _ => 0, ⟨Nat.zero_le _, fun i hi => absurd hi (Nat.not_lt_zero _)⟩, ⟨Nat.zero_le _, fun i hi => absurd hi (Nat.not_lt_zero _), fun i j hi => absurd hi (Nat.not_lt_zero _)⟩, ⟨Nat.zero_le _, fun i hi => absurd hi (Nat.not_lt_zero _)⟩, ⟨Nat.zero_le _, fun i hi => absurd hi (Nat.not_lt_zero _), fun i j hi => absurd hi (Nat.not_lt_zero _), fun i hi => absurd hi (Nat.not_lt_zero _)⟩, ?_, ?_⟩
  · refine ⟨14, 4, ⟨Or.inl ⟨rfl, rfl⟩, rfl⟩, ⟨0, 0, 0, 0, fun _ => 0, rfl, rfl, fun i hi => absurd hi (Nat.not_lt_zero _)⟩, ⟨0, 0, 0, 0, 0, rfl⟩, ⟨fun _ => 0, fun _ => 0, rfl, rfl, rfl, fun i hi => absurd hi (Nat.not_lt_zero _), fun i hi => absurd hi (Nat.not_lt_zero _)⟩, ⟨0, 0, 0, 0, fun _ => 0, fun _ => 0, rfl, rfl, rfl⟩, ⟨14, 0, 0, 0, 0, 0, fun _ => 0, rfl, rfl⟩, ⟨fun _ => 0, fun _ => 0, fun _ => 0, fun _ => 0, rfl, rfl, rfl, rfl, rfl, fun i hi => absurd hi (Nat.not_lt_zero _)⟩⟩
  · refine ⟨⟨0, 0, 0, 0, 0, 0, 0, 0, 0, 0, rfl⟩, ⟨fun _ => 0, rfl, fun i hi => absurd hi (Nat.not_lt_zero _)⟩, ⟨fun _ => 0, fun _ => 0, _, fun _ => 0, rfl, rfl, rfl, rfl, ⟨fun i hi => absurd hi (Nat.not_lt_zero _), fun v hv _ => ?_⟩, fun i hi => absurd hi (Nat.not_lt_zero _)⟩, ⟨fun _ => 0, fun _ => 0, fun _ => 0, fun _ => 0, rfl, rfl, rfl, rfl, fun i _ => rfl⟩, ⟨fun _ => 0, fun _ => 0, fun _ => 0, fun _ => 0, rfl, rfl, rfl, rfl, fun i hi => absurd hi (Nat.not_lt_zero _)⟩, ⟨fun _ => 0, rfl⟩⟩
    rcases (show v = 0 ∨ v = 1 ∨ v = 2 ∨ v = 3 ∨ v = 4 ∨ v = 5 ∨ v = 6 ∨ v = 7 ∨ v = 8 by omega) with e | e | e | e | e | e | e | e | e <;> (rw [e]; rfl)
theorem law_loop {L : Nat} {xs : Nat → Int32} (hL : L ≤ 1536) : ∀ k m i w, L - i ≤ k → k < m → i ≤ L + 3 → Inv w → ∃ w', ll_LA_law_18 L xs m 0 17 (nI i) w = some (1, w') := by
  intro k
  induction k with
  | zero =>
    intro m i w hk hm hi hI
    obtain ⟨m, rfl⟩ : ∃ z, m = z + 1 := ⟨m - 1, by omega⟩
    refine ⟨w, ?_⟩
    show lb_LA_law_18 L xs (ll_LA_law_18 L xs m) 0 17 (nI i) w = _
    unfold lb_LA_law_18
    rw [lx hL (by omega), if_pos (by omega)]
    rfl
  | succ k ih =>
    intro m i w hk hm hi hI
    obtain ⟨m, rfl⟩ : ∃ z, m = z + 1 := ⟨m - 1, by omega⟩
    show ∃ w', lb_LA_law_18 L xs (ll_LA_law_18 L xs m) 0 17 (nI i) w = some (1, w')
    unfold lb_LA_law_18
    rw [lx hL (by omega)]
    by_cases hx : L < i + 3
    · rw [if_pos hx]
      exact ⟨w, rfl⟩
    · have fin : ∀ w6, Inv w6 → ∃ w', ll_LA_law_18 L xs m 0 17 (nI i + 3) w6 = some (1, w') := fun w6 h6 => by
        rw [nI_3]
        exact ih m (i + 3) w6 (by omega) (by omega) (by omega) h6
      rw [if_neg hx, g_b1 (sxi (show i < L by omega) hL), nI_1, nI_2, sxi (show i + 1 < L by omega) hL, sxi (show i + 2 < L by omega) hL]
      have hI0 := hI
      obtain ⟨n, bf, V, vr, fa, C, cl, S, id, st, cb, gr, hB, hF, hC, hP, hic, him⟩ := hI
      generalize xs i &&& 15 = x0
      generalize xs (i + 1) = x1
      generalize xs (i + 2) = x2
      by_cases c0 : x0 = 0
      · obtain ⟨c, hc, hce⟩ := chr x1
        have h1 := c_type hB hic hc
        rw [if_pos c0, g_b1 rfl, hce, g_ob hic.is]
        by_cases cc : 32 ≤ c ∧ c ≤ 126 ∧ n < 200
        · rw [if_pos cc] at h1
          obtain ⟨w3, k1, k2, k3⟩ := h1
          have hm3 := him.fr k2 (by intro k hk; simp; omega)
          have h2 := m_type hB hm3 hc
          rw [if_pos cc] at h2
          obtain ⟨w6, l1, l2, l3⟩ := h2
          have hc6 := k3.fr l2 (by intro k hk; simp; omega)
          rw [g_b2 k1, g_b1 rfl, hce, g_ob hm3.is, g_b2 l1, if_pos rfl]
          refine fin w6 ⟨n + 1, _, V, vr, fa, C, cl, S, id, st, cb, gr, ⟨by omega, fun i hi => ?_⟩, hF, hC, hP, hc6, l3⟩
          by_cases e : i = n
          · show 32 ≤ (if i = n then c else bf i) ∧ (if i = n then c else bf i) ≤ 126
            rw [if_pos e]
            omega
          · show 32 ≤ (if i = n then c else bf i) ∧ (if i = n then c else bf i) ≤ 126
            rw [if_neg e]
            exact hB.2 i (by omega)
        · rw [if_neg cc] at h1
          have h2 := m_type hB him hc
          rw [if_neg cc] at h2
          rw [g_b2 h1, g_b1 rfl, hce, g_ob him.is, g_b2 h2, if_pos rfl]
          exact fin _ hI0
      rw [if_neg c0]
      by_cases c1 : x0 = 1
      · obtain ⟨w3, k1, k2, k3, k4⟩ := c_formula hB hic
        have hm3 := him.fr k2 (by intro k hk; simp; omega)
        obtain ⟨w6, l1, l2, l3, l4⟩ := m_formula hB hF hm3
        rw [if_pos c1, g_ob hic.is, g_b2 k1, g_ob hm3.is, g_b2 l1, if_pos rfl]
        have hB0 : okB 0 bf := ⟨Nat.zero_le _, fun i hi => absurd hi (Nat.not_lt_zero _)⟩
        by_cases hr : rda meF n (frd bf n) = 0
        · have hc6 := (k3 hr).fr l2 (by intro k hk; simp; omega)
          have hm6 := l3 hr
          have hrngs := rdl_rng (rd := rdF) (bf := bf) (n := n) (fun s t => rdF_rng) (n + 1) 0 s0 (Nat.zero_le _)
          have h00 := (rda_0 (me := meF) (x := frd bf n) hB.1 hrngs).mp hr
          have hok : okR (frd bf n).2.2 := rdl_okR (bf := bf) (n := n) (n + 1) 0 s0 okR_s0 h00.1
          generalize (frd bf n).2.2 = sf at hok hc6 hm6
          obtain ⟨ph, V', vr', fa', C', cl', al', mn', now'⟩ := sf
          exact fin w6 ⟨0, bf, V', vr', fa', C', cl', 0, id, st, cb, gr, hB0, hok.2.1, hok.2.2.1, ⟨Nat.zero_le _, fun i hi => absurd hi (Nat.not_lt_zero _), fun i j hi => absurd hi (Nat.not_lt_zero _), fun i hi => absurd hi (Nat.not_lt_zero _)⟩, hc6, hm6⟩
        · exact fin w6 ⟨0, bf, V, vr, fa, C, cl, S, id, st, cb, gr, hB0, hF, hC, hP, (k4 hr).fr l2 (by intro k hk; simp; omega), l4 hr⟩
      rw [if_neg c1]
      by_cases c2 : x0 = 2
      · obtain ⟨w3, k1, k2, k3⟩ := c_trace hB hF hC hP hic
        have hm3 := him.fr k2 (by intro k hk; simp; omega)
        obtain ⟨w6, l1, l2, l3⟩ := m_trace hB hF hC hP hm3
        rw [if_pos c2, g_ob hic.is, g_b2 k1, g_ob hm3.is, g_b2 l1, if_pos rfl]
        have hB0 : okB 0 bf := ⟨Nat.zero_le _, fun i hi => absurd hi (Nat.not_lt_zero _)⟩
        have hok := rdl_okQ (fa := fa) (C := C) (cl := cl) (bf := bf) (n := n) hF (n + 1) 0 (sT S id st cb gr) (okQ_sT hP) hP
        exact fin w6 ⟨0, bf, V, vr, fa, C, cl, _, _, _, _, _, hB0, hF, hC, hok, k3.fr l2 (by intro k hk; simp; omega), l3⟩
      rw [if_neg c2]
      by_cases c3 : x0 = 3
      · rw [if_pos c3, g_ob hic.is, g_b2 (c_variables hic), g_ob him.is, g_b2 (m_variables him), if_pos rfl]
        exact fin _ hI0
      rw [if_neg c3]
      by_cases c4 : x0 = 4
      · rw [if_pos c4, g_b1 rfl, g_ob hic.is, g_b2 (c_variable hF hic _), g_b1 rfl, g_ob him.is, g_b2 (m_variable hF him _), if_pos rfl]
        exact fin _ hI0
      rw [if_neg c4]
      by_cases c5 : x0 = 5
      · rw [if_pos c5, g_ob hic.is, g_b2 (c_clauses hic), g_ob him.is, g_b2 (m_clauses him), if_pos rfl]
        exact fin _ hI0
      rw [if_neg c5]
      by_cases c6 : x0 = 6
      · rw [if_pos c6, g_b1 rfl, g_ob hic.is, g_b2 (c_clause hC hic _), g_b1 rfl, g_ob him.is, g_b2 (m_clause hC him _), if_pos rfl]
        exact fin _ hI0
      rw [if_neg c6]
      by_cases c7 : x0 = 7
      · rw [if_pos c7, g_ob hic.is, g_b2 (c_steps hic), g_ob him.is, g_b2 (m_steps him), if_pos rfl]
        exact fin _ hI0
      rw [if_neg c7]
      by_cases c8 : x0 = 8
      · rw [if_pos c8, g_b1 rfl, g_ob hic.is, g_b2 (c_step hP hic _), g_b1 rfl, g_ob him.is, g_b2 (m_step hP him _), if_pos rfl]
        exact fin _ hI0
      rw [if_neg c8]
      by_cases c9 : x0 = 9
      · rw [if_pos c9, g_b1 rfl, g_ob hic.is, g_b2 (c_rests hP hic _), g_b1 rfl, g_ob him.is, g_b2 (m_rests hP him _), if_pos rfl]
        exact fin _ hI0
      rw [if_neg c9]
      by_cases c10 : x0 = 10
      · rw [if_pos c10, g_ob hic.is, g_b2 (c_empty hP hic), g_ob him.is, g_b2 (m_empty hP him), if_pos rfl]
        exact fin _ hI0
      rw [if_neg c10]
      by_cases c11 : x0 = 11
      · obtain ⟨w6, l1, l2, l3⟩ := m_won hF hC him x1 x2
        rw [if_pos c11, g_b1 rfl, g_b1 rfl, g_ob hic.is, g_b2 (c_won hF hC hic _ _), g_b1 rfl, g_b1 rfl, g_ob him.is, g_b2 l1, if_pos rfl]
        exact fin w6 ⟨n, bf, V, vr, fa, C, cl, S, id, st, cb, gr, hB, hF, hC, hP, hic.fr l2 (by intro k hk; simp; omega), l3⟩
      rw [if_neg c11]
      by_cases c12 : x0 = 12
      · obtain ⟨w6, l1, l2, l3⟩ := m_play hF hC him x1
        rw [if_pos c12, g_b1 rfl, g_ob hic.is, g_b2 (c_play hF hC hic _), g_b1 rfl, g_ob him.is, g_b2 l1, if_pos rfl]
        exact fin w6 ⟨n, bf, V, vr, fa, C, cl, S, id, st, cb, gr, hB, hF, hC, hP, hic.fr l2 (by intro k hk; simp; omega), l3⟩
      rw [if_neg c12]
      exact fin w hI0
theorem law_ok {L : Nat} {xs : Nat → Int32} (hL : L ≤ 1536) : ∃ w', f_LA_law L xs w_start 0 17 0 = some (1, w') := by
  unfold f_LA_law
  exact law_loop hL L q_fu 0 w_start (by omega) (by unfold q_fu; omega) (by omega) inv_start
