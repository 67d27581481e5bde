/-! the game, as the reference reckons it -/
theorem sl_pow : ∀ V, V < 9 → sl V = nI (2 ^ V) := by decide +kernel
theorem set_self {w : qw} {a : Nat} {c : qc} (h : w[a]? = some c) : w.set a c = w := by
  refine List.ext_getElem? (fun i => ?_)
  by_cases e : a = i
  · subst e
    rw [g_ss (g_lt h), h]
  · rw [g_sn e]
abbrev gd (w : qw) (g : Nat → Int32) : qw := w.set 31 (.inl (2, 256, g))
theorem pow_le {a b : Nat} (h : a ≤ b) : 2 ^ a ≤ 2 ^ b := Nat.pow_le_pow_right (by omega) h
section
variable {w : qw} {n V C S : Nat} {bf vr id : Nat → Nat} {fa cb : Nat → Bool} {cl st gr : Nat → Int32}
/-- what play0 reads -/
def pF (w : qw) (V : Nat) (vr : Nat → Nat) (fa : Nat → Bool) (C : Nat) (cl : Nat → Int32) : Prop := ∃ (s1 s4 s5 s6 s7 s8 s9 s10 s11 s12 s13 s14 : Int32) (av af ac g0 : Nat → Int32), w[17]? = some (mo s1 (nI V) (nI C) s4 s5 s6 s7 s8 s9 s10 s11 s12 s13 s14) ∧ w[19]? = some (.inl (0, 8, av)) ∧ w[20]? = some (.inl (2, 8, af)) ∧ w[22]? = some (.inl (0, 12, ac)) ∧ w[31]? = some (.inl (2, 256, g0)) ∧ (∀ i, i < V → av i = nI (vr i) ∧ af i = qb (fa i)) ∧ ∀ i, i < C → ac i = cl i
theorem IM.pF (h : IM w n bf V vr fa C cl S id st cb gr) : pF w V vr fa C cl := by
  obtain ⟨⟨_, _, _, _, _, _, _, _, _, _, h17⟩, _, ⟨av, af, ap, ac, h19, h20, _, h22, hr, hc⟩, _, _, ⟨g0, h31⟩⟩ := h
  exact ⟨_, _, _, _, _, _, _, _, _, _, _, _, av, af, ac, g0, h17, h19, h20, h22, h31, fun i hi => ⟨(hr.1 i hi).1, (hr.1 i hi).2.1⟩, hc⟩
theorem p76 (hF : okF V vr) (hC : okC V vr C cl) (h : pF w V vr fa C cl) {c2 : Nat → Int32 → Int32 → qw → Option qw} {x1 x : Int32} {a : Nat} (ha : a < 256) : ∀ k m g, k ≤ C → k < m → g a = qb (met cl x (C - k)) → ∃ g', ll_MO_play0_76 c2 m 17 x1 (nI a) x (nI (C - k)) (gd w g) = c2 17 x1 (nI (a + 1)) (gd w g') ∧ g' a = qb (met cl x C) ∧ ∀ j, j ≠ a → g' j = g j := by
  obtain ⟨s1, s4, s5, s6, s7, s8, s9, s10, s11, s12, s13, s14, av, af, ac, g0, h17, h19, h20, h22, h31, hv, hc⟩ := h
  have hc12 := hC.1
  have hlt := g_lt h31
  intro k
  induction k with
  | zero =>
    intro m g _ hm hg
    obtain ⟨m, rfl⟩ : ∃ z, m = z + 1 := ⟨m - 1, by omega⟩
    have e17 : (gd w g)[17]? = _ := (g_sn (by decide)).trans h17
    refine ⟨g, ?_, hg, fun _ _ => rfl⟩
    show lb_MO_play0_76 c2 (ll_MO_play0_76 c2 m) 17 x1 (nI a) x (nI (C - 0)) (gd w g) = _
    unfold lb_MO_play0_76
    rw [g_b1 (g_i e17 rfl), i_le rfl rfl (by omega) (by omega), if_pos (by omega), nI_1]
  | succ k ih =>
    intro m g hk hm hg
    obtain ⟨m, rfl⟩ : ∃ z, m = z + 1 := ⟨m - 1, by omega⟩
    have e17 : (gd w g)[17]? = _ := (g_sn (by decide)).trans h17
    have e22 : (gd w g)[22]? = _ := (g_sn (by decide)).trans h22
    have e31 : (gd w g)[31]? = some (.inl (2, 256, g)) := g_ss hlt
    have hm2 : met cl x (C - k) = (met cl x (C - (k + 1)) && decide (¬ cl (C - (k + 1)) &&& x = 0)) := by
      rw [show C - k = C - (k + 1) + 1 by omega]
      rfl
    have fin : ∀ b : Bool, b = met cl x (C - k) → ∃ g', ll_MO_play0_76 c2 m 17 x1 (nI a) x (nI (C - k)) ((gd w g).set 31 (.inl (2, 256, upd g a (qb b)))) = c2 17 x1 (nI (a + 1)) (gd w g') ∧ g' a = qb (met cl x C) ∧ ∀ j, j ≠ a → g' j = g j := by
      intro b hb
      obtain ⟨g', q1, q2, q3⟩ := ih m (upd g a (qb b)) (by omega) (by omega) (by rw [pk_us, hb])
      rw [List.set_set]
      exact ⟨g', q1, q2, fun j hj => by rw [q3 j hj, pk_un hj]⟩
    show ∃ g', lb_MO_play0_76 c2 (ll_MO_play0_76 c2 m) 17 x1 (nI a) x (nI (C - (k + 1))) (gd w g) = _ ∧ _
    unfold lb_MO_play0_76
    rw [g_b1 (g_i e17 rfl), i_le rfl rfl (by omega) (by omega), if_neg (by omega), g_b1 (g_r e17 rfl), g_b1 (g_r e17 rfl), g_b1 (g_l e31 ha (by omega)), hg, nI_1, show C - (k + 1) + 1 = C - k by omega]
    cases hmc : met cl x (C - (k + 1)) with
    | false =>
      rw [if_pos (show qb false = 0 from rfl), g_ob q_z0, g_b1 (g_s e31 ha (by omega))]
      exact fin false (by rw [hm2, hmc]; rfl)
    | true =>
      rw [if_neg (by decide), g_b1 (g_r e17 rfl), g_b1 (g_l e22 (by omega) (by omega)), hc _ (by omega)]
      by_cases c : cl (C - (k + 1)) &&& x = 0
      · rw [if_pos c, g_ob q_z0, g_b1 (g_s e31 ha (by omega))]
        exact fin false (by rw [hm2, hmc, decide_eq_false (fun z => absurd c z)]; rfl)
      · rw [if_neg c, g_ob q_z1, g_b1 (g_s e31 ha (by omega))]
        exact fin true (by rw [hm2, hmc, decide_eq_true c]; rfl)
theorem p17 (hF : okF V vr) (hC : okC V vr C cl) (h : pF w V vr fa C cl) {c2 : Nat → Int32 → Int32 → qw → Option qw} {x1 : Int32} {a : Nat} (ha : a < 256) (g : Nat → Int32) : ∀ k m, k ≤ V → k < m → ∃ g', ll_MO_play0_17 c2 m 17 x1 (nI a) (tru vr a.testBit (V - k)) (nI (V - k)) (gd w g) = c2 17 x1 (nI (a + 1)) (gd w g') ∧ g' a = qb (met cl (tru vr a.testBit V) C) ∧ ∀ j, j ≠ a → g' j = g j := by
  have h76 := fun k m g' => p76 hF hC h (c2 := c2) (x1 := x1) (x := tru vr a.testBit V) ha k m g'
  have hv8 := hF.1
  obtain ⟨s1, s4, s5, s6, s7, s8, s9, s10, s11, s12, s13, s14, av, af, ac, g0, h17, h19, h20, h22, h31, hv, hc⟩ := h
  have hlt := g_lt h31
  have e17 : (gd w g)[17]? = _ := (g_sn (by decide)).trans h17
  have e19 : (gd w g)[19]? = _ := (g_sn (by decide)).trans h19
  have e31 : (gd w g)[31]? = some (.inl (2, 256, g)) := g_ss hlt
  intro k
  induction k with
  | zero =>
    intro m _ hm
    obtain ⟨m, rfl⟩ : ∃ z, m = z + 1 := ⟨m - 1, by omega⟩
    have hcm := hC.1
    obtain ⟨g', q1, q2, q3⟩ := h76 C q_fu (upd g a 1) (Nat.le_refl _) (by unfold q_fu; omega) (by rw [pk_us, Nat.sub_self]; rfl)
    rw [Nat.sub_self] at q1
    refine ⟨g', ?_, q2, fun j hj => by rw [q3 j hj, pk_un hj]⟩
    show lb_MO_play0_17 c2 (ll_MO_play0_17 c2 m) 17 x1 (nI a) (tru vr a.testBit (V - 0)) (nI (V - 0)) (gd w g) = _
    unfold lb_MO_play0_17
    rw [g_b1 (g_i e17 rfl), i_le rfl rfl (by omega) (by omega), if_pos (by omega), g_b1 (g_r e17 rfl), g_ob q_z1, g_b1 (g_s e31 ha (by omega)), List.set_set]
    exact q1
  | succ k ih =>
    intro m hk hm
    obtain ⟨m, rfl⟩ : ∃ z, m = z + 1 := ⟨m - 1, by omega⟩
    obtain ⟨g', q1, q2, q3⟩ := ih m (by omega) (by omega)
    refine ⟨g', ?_, q2, q3⟩
    have hvi := hF.2.1 (V - (k + 1)) (by omega)
    have hl : q_ld (gd w g) 19 0 (nI (V - (k + 1))) = some (nI (vr (V - (k + 1)))) := by rw [g_l e19 (by omega) (by omega), (hv _ (by omega)).1]
    have ht : tru vr a.testBit (V - (k + 1)) ||| lit vr (a.testBit (V - (k + 1))) (V - (k + 1)) = tru vr a.testBit (V - k) := by
      rw [show V - k = V - (k + 1) + 1 by omega]
      rfl
    show lb_MO_play0_17 c2 (ll_MO_play0_17 c2 m) 17 x1 (nI a) (tru vr a.testBit (V - (k + 1))) (nI (V - (k + 1))) (gd w g) = _
    unfold lb_MO_play0_17
    rw [g_b1 (g_i e17 rfl), i_le rfl rfl (by omega) (by omega), if_neg (by omega), bit_qb _ (by omega), nbt (by omega), g_b1 (g_r e17 rfl), g_b1 hl, g_b2 (f_mbit _ _), g_b1 (g_r e17 rfl), g_b1 hl, g_b2 (f_mbit _ _), q_bit_p _ (by omega) (by omega), q_bit_n _ (by omega) (by omega), nI_1, show V - (k + 1) + 1 = V - k by omega]
    unfold lit at ht
    cases hb : a.testBit (V - (k + 1)) with
    | false =>
      rw [hb, if_neg (by decide)] at ht
      rw [if_neg (by decide), ht]
      exact q1
    | true =>
      rw [hb, if_pos rfl] at ht
      rw [if_pos (show qb true = 1 from rfl), ht]
      exact q1
theorem p2 (hF : okF V vr) (hC : okC V vr C cl) (h : pF w V vr fa C cl) {x1 : Int32} : ∀ k m g, k ≤ 2 ^ V → k < m → (∀ j, j < 2 ^ V - k → g j = qb (met cl (tru vr j.testBit V) C)) → ∃ g', ll_MO_play0_2 m 17 x1 (nI (2 ^ V - k)) (gd w g) = ll_MO_play0_136 q_fu 17 x1 (nI V - 1) (gd w g') ∧ ∀ j, j < 2 ^ V → g' j = qb (met cl (tru vr j.testBit V) C) := by
  have h17' := fun c2 a ha g k m => p17 hF hC h (c2 := c2) (x1 := x1) (a := a) ha g k m
  have hv8 := hF.1
  have hpw : 2 ^ V ≤ 256 := pow_le hv8
  obtain ⟨s1, s4, s5, s6, s7, s8, s9, s10, s11, s12, s13, s14, av, af, ac, g0, h17, h19, h20, h22, h31, hv, hc⟩ := h
  have hsl : (1 : Int32) <<< (nI V &&& 31) = nI (2 ^ V) := sl_pow V (by omega)
  intro k
  induction k with
  | zero =>
    intro m g _ hm hg
    obtain ⟨m, rfl⟩ : ∃ z, m = z + 1 := ⟨m - 1, by omega⟩
    have e17 : (gd w g)[17]? = _ := (g_sn (by decide)).trans h17
    refine ⟨g, ?_, hg⟩
    show lb_MO_play0_2 (ll_MO_play0_2 m) 17 x1 (nI (2 ^ V - 0)) (gd w g) = _
    unfold lb_MO_play0_2
    rw [g_b1 (g_i e17 rfl), hsl, i_le rfl rfl (by omega) (by omega), if_pos (by omega), g_b1 (g_i e17 rfl)]
  | succ k ih =>
    intro m g hk hm hg
    obtain ⟨m, rfl⟩ : ∃ z, m = z + 1 := ⟨m - 1, by omega⟩
    have e17 : (gd w g)[17]? = _ := (g_sn (by decide)).trans h17
    obtain ⟨g1, q1, q2, q3⟩ := h17' (ll_MO_play0_2 m) (2 ^ V - (k + 1)) (by omega) g V q_fu (Nat.le_refl _) (by unfold q_fu; omega)
    rw [Nat.sub_self] at q1
    have q1 : ll_MO_play0_17 (ll_MO_play0_2 m) q_fu 17 x1 (nI (2 ^ V - (k + 1))) 0 0 (gd w g) = _ := q1
    rw [show 2 ^ V - (k + 1) + 1 = 2 ^ V - k by omega] at q1
    obtain ⟨g2, r1, r2⟩ := ih m g1 (by omega) (by omega) (fun j hj => by
      by_cases e : j = 2 ^ V - (k + 1)
      · rw [e]; exact q2
      · rw [q3 j e]; exact hg j (by omega))
    refine ⟨g2, ?_, r2⟩
    show lb_MO_play0_2 (ll_MO_play0_2 m) 17 x1 (nI (2 ^ V - (k + 1))) (gd w g) = _
    unfold lb_MO_play0_2
    rw [g_b1 (g_i e17 rfl), hsl, i_le rfl rfl (by omega) (by omega), if_neg (by omega), q1, r1]
theorem gw_step {K a : Nat} (hK : K < V) (ha : a < 2 ^ K) : gw V vr fa C cl (V - K) (tru vr a.testBit K) = if fa K then gw V vr fa C cl (V - (K + 1)) (tru vr a.testBit (K + 1)) && gw V vr fa C cl (V - (K + 1)) (tru vr (a + 2 ^ K).testBit (K + 1)) else gw V vr fa C cl (V - (K + 1)) (tru vr a.testBit (K + 1)) || gw V vr fa C cl (V - (K + 1)) (tru vr (a + 2 ^ K).testBit (K + 1)) := by
  have h1 : tru vr a.testBit (K + 1) = tru vr a.testBit K ||| lit vr false K := by
    show tru vr a.testBit K ||| lit vr (a.testBit K) K = _
    rw [tb_big ha]
  have h2 : tru vr (a + 2 ^ K).testBit (K + 1) = tru vr a.testBit K ||| lit vr true K := by
    show tru vr (a + 2 ^ K).testBit K ||| lit vr ((a + 2 ^ K).testBit K) K = _
    rw [tb_add ha, decide_eq_true rfl, Bool.or_true, tru_congr K (fun i hi => by rw [tb_add ha, decide_eq_false (by omega), Bool.or_false])]
  obtain ⟨k, hk⟩ : ∃ k, V - K = k + 1 := ⟨V - K - 1, by omega⟩
  have hk2 : V - (K + 1) = k := by omega
  have hk3 : V - (k + 1) = K := by omega
  rw [h1, h2, hk, hk2]
  show (if fa (V - (k + 1)) then _ else _) = _
  rw [hk3]
theorem p143 (hF : okF V vr) (h : pF w V vr fa C cl) {c136 : Nat → Int32 → Int32 → qw → Option qw} {x1 : Int32} {K : Nat} (hK : K < V) : ∀ k m g, k ≤ 2 ^ K → k < m → (∀ a, a < 2 ^ K - k → g a = qb (gw V vr fa C cl (V - K) (tru vr a.testBit K))) → (∀ a, 2 ^ K - k ≤ a → a < 2 ^ (K + 1) → g a = qb (gw V vr fa C cl (V - (K + 1)) (tru vr a.testBit (K + 1)))) → ∃ g', ll_MO_play0_143 c136 m 17 x1 (nI K) (nI (2 ^ K - k)) (gd w g) = c136 17 x1 (nI K + (-1)) (gd w g') ∧ ∀ a, a < 2 ^ K → g' a = qb (gw V vr fa C cl (V - K) (tru vr a.testBit K)) := by
  have hv8 := hF.1
  have hpw : 2 ^ (K + 1) ≤ 256 := pow_le (show K + 1 ≤ 8 by omega)
  have hps : 2 ^ (K + 1) = 2 ^ K + 2 ^ K := by rw [Nat.pow_succ]; omega
  obtain ⟨s1, s4, s5, s6, s7, s8, s9, s10, s11, s12, s13, s14, av, af, ac, g0, h17, h19, h20, h22, h31, hv, hc⟩ := h
  have hlt := g_lt h31
  have hsl : (1 : Int32) <<< (nI K &&& 31) = nI (2 ^ K) := sl_pow K (by omega)
  intro k
  induction k with
  | zero =>
    intro m g _ hm hg _
    obtain ⟨m, rfl⟩ : ∃ z, m = z + 1 := ⟨m - 1, by omega⟩
    refine ⟨g, ?_, hg⟩
    show lb_MO_play0_143 c136 (ll_MO_play0_143 c136 m) 17 x1 (nI K) (nI (2 ^ K - 0)) (gd w g) = _
    unfold lb_MO_play0_143
    rw [hsl, i_le rfl rfl (by omega) (by omega), if_pos (by omega)]
  | succ k ih =>
    intro m g hk hm hg1 hg2
    obtain ⟨m, rfl⟩ : ∃ z, m = z + 1 := ⟨m - 1, by omega⟩
    have e17 : (gd w g)[17]? = _ := (g_sn (by decide)).trans h17
    have e20 : (gd w g)[20]? = _ := (g_sn (by decide)).trans h20
    have e31 : (gd w g)[31]? = some (.inl (2, 256, g)) := g_ss hlt
    have hA : 2 ^ K - (k + 1) < 2 ^ K := by omega
    have hor : nI (2 ^ K - (k + 1)) ||| nI (2 ^ K) = nI (2 ^ K - (k + 1) + 2 ^ K) := by
      have h1 := or_sl hA (by omega)
      rw [sl_pow K (by omega)] at h1
      exact h1
    have hst := gw_step (fa := fa) (C := C) (cl := cl) (vr := vr) hK hA
    have hz := hg2 (2 ^ K - (k + 1)) (Nat.le_refl _) (by omega)
    have ho := hg2 (2 ^ K - (k + 1) + 2 ^ K) (by omega) (by omega)
    have fin : ∀ b : Bool, b = gw V vr fa C cl (V - K) (tru vr (2 ^ K - (k + 1)).testBit K) → ∃ g', ll_MO_play0_143 c136 m 17 x1 (nI K) (nI (2 ^ K - k)) ((gd w g).set 31 (.inl (2, 256, upd g (2 ^ K - (k + 1)) (qb b)))) = c136 17 x1 (nI K + (-1)) (gd w g') ∧ ∀ a, a < 2 ^ K → g' a = qb (gw V vr fa C cl (V - K) (tru vr a.testBit K)) := by
      intro b hb
      rw [List.set_set]
      exact ih m _ (by omega) (by omega) (fun a ha => by
        by_cases e : a = 2 ^ K - (k + 1)
        · rw [e, pk_us, hb]
        · rw [pk_un e]; exact hg1 a (by omega)) (fun a ha1 ha2 => by
        rw [pk_un (by omega)]
        exact hg2 a (by omega) ha2)
    show ∃ g', lb_MO_play0_143 c136 (ll_MO_play0_143 c136 m) 17 x1 (nI K) (nI (2 ^ K - (k + 1))) (gd w g) = _ ∧ _
    unfold lb_MO_play0_143
    rw [hsl, i_le rfl rfl (by omega) (by omega), if_neg (by omega), g_b1 (g_r e17 rfl), g_b1 (g_r e17 rfl), g_b1 (g_l e20 (by omega) (by omega)), (hv K hK).2, g_b1 (g_r e17 rfl), g_b1 (g_l e31 (by omega) (by omega)), g_b1 (g_r e17 rfl), hor, g_b1 (g_l e31 (by omega) (by omega)), g_b1 (g_r e17 rfl), g_b1 (g_l e31 (by omega) (by omega)), hz, ho, nI_1, show 2 ^ K - (k + 1) + 1 = 2 ^ K - k by omega, g_ob q_z0, g_ob q_z1, g_b1 (g_s e31 (by omega) (by omega)), g_b1 (g_s e31 (by omega) (by omega))]
    cases hfk : fa K <;> cases hgz : gw V vr fa C cl (V - (K + 1)) (tru vr (2 ^ K - (k + 1)).testBit (K + 1)) <;> cases hgo : gw V vr fa C cl (V - (K + 1)) (tru vr (2 ^ K - (k + 1) + 2 ^ K).testBit (K + 1)) <;> rw [hfk, hgz, hgo] at hst <;> first | exact fin true hst.symm | exact fin false hst.symm
theorem p136 (hF : okF V vr) (h : pF w V vr fa C cl) {nn : Nat} : ∀ k m g, nn + k ≤ V → k < m → (∀ a, a < 2 ^ (nn + k) → g a = qb (gw V vr fa C cl (V - (nn + k)) (tru vr a.testBit (nn + k)))) → ∃ g', ll_MO_play0_136 m 17 (nI nn) (nI (nn + k) - 1) (gd w g) = some (gd w g') ∧ ∀ a, a < 2 ^ nn → g' a = qb (gw V vr fa C cl (V - nn) (tru vr a.testBit nn)) := by
  have hv8 := hF.1
  have h143 := fun c136 K hK k m g => p143 hF h (c136 := c136) (x1 := nI nn) (K := K) hK k m g
  intro k
  induction k with
  | zero =>
    intro m g hk hm hg
    obtain ⟨m, rfl⟩ : ∃ z, m = z + 1 := ⟨m - 1, by omega⟩
    refine ⟨g, ?_, hg⟩
    show lb_MO_play0_136 (ll_MO_play0_136 m) 17 (nI nn) (nI nn - 1) (gd w g) = _
    unfold lb_MO_play0_136
    have hlt : ∀ q, q < 9 → nI q - 1 < nI q := by decide +kernel
    rw [if_pos (hlt nn (by omega))]
  | succ k ih =>
    intro m g hk hm hg
    obtain ⟨m, rfl⟩ : ∃ z, m = z + 1 := ⟨m - 1, by omega⟩
    have hsub : nI (nn + (k + 1)) - 1 = nI (nn + k) := pk_sub (a := nn + (k + 1)) (b := 1) (by omega)
    have hpw : 2 ^ (nn + k) ≤ 256 := pow_le (show nn + k ≤ 8 by omega)
    obtain ⟨g1, q1, q2⟩ := h143 (ll_MO_play0_136 m) (nn + k) (by omega) (2 ^ (nn + k)) q_fu g (Nat.le_refl _) (by unfold q_fu; omega) (fun a ha => by omega) (fun a _ ha => hg a ha)
    rw [Nat.sub_self] at q1
    have q1 : ll_MO_play0_143 (ll_MO_play0_136 m) q_fu 17 (nI nn) (nI (nn + k)) 0 (gd w g) = _ := q1
    obtain ⟨g2, r1, r2⟩ := ih m g1 (by omega) (by omega) q2
    refine ⟨g2, ?_, r2⟩
    show lb_MO_play0_136 (ll_MO_play0_136 m) 17 (nI nn) (nI (nn + (k + 1)) - 1) (gd w g) = _
    unfold lb_MO_play0_136
    rw [hsub, i_lt rfl rfl (by omega) (by omega), if_neg (by omega), q1, ← Int32.sub_eq_add_neg]
    exact r1
theorem m_play0 (hF : okF V vr) (hC : okC V vr C cl) (h : pF w V vr fa C cl) {nn : Nat} (hn : nn ≤ V) : ∃ g', f_MO_play0 w 17 (nI nn) = some (gd w g') ∧ ∀ a, a < 2 ^ nn → g' a = qb (gw V vr fa C cl (V - nn) (tru vr a.testBit nn)) := by
  have hv8 := hF.1
  have hpw : 2 ^ V ≤ 256 := pow_le hv8
  have hh := h
  obtain ⟨s1, s4, s5, s6, s7, s8, s9, s10, s11, s12, s13, s14, av, af, ac, g0, h17, h19, h20, h22, h31, hv, hc⟩ := hh
  obtain ⟨g1, q1, q2⟩ := p2 hF hC h (x1 := nI nn) (2 ^ V) q_fu g0 (Nat.le_refl _) (by unfold q_fu; omega) (fun j hj => by omega)
  have hself : gd w g0 = w := set_self h31
  rw [Nat.sub_self, hself] at q1
  have q1 : ll_MO_play0_2 q_fu 17 (nI nn) 0 w = _ := q1
  have hgo := p136 hF h (nn := nn) (V - nn) q_fu g1 (by omega) (by unfold q_fu; omega)
  rw [show nn + (V - nn) = V by omega] at hgo
  obtain ⟨g2, r1, r2⟩ := hgo (fun a ha => by rw [Nat.sub_self]; exact q2 a ha)
  refine ⟨g2, ?_, r2⟩
  unfold f_MO_play0
  rw [q1, r1]
theorem pF_gd {g : Nat → Int32} (h : pF w V vr fa C cl) : pF (gd w g) V vr fa C cl := by
  obtain ⟨s1, s4, s5, s6, s7, s8, s9, s10, s11, s12, s13, s14, av, af, ac, g0, h17, h19, h20, h22, h31, hv, hc⟩ := h
  exact ⟨s1, s4, s5, s6, s7, s8, s9, s10, s11, s12, s13, s14, av, af, ac, g, (g_sn (by decide)).trans h17, (g_sn (by decide)).trans h19, (g_sn (by decide)).trans h20, (g_sn (by decide)).trans h22, g_ss (g_lt h31), hv, hc⟩
theorem IM_gd {g : Nat → Int32} (h : IM w n bf V vr fa C cl S id st cb gr) : IM (gd w g) n bf V vr fa C cl S id st cb gr := by
  obtain ⟨⟨a1, a2, a3, a4, a5, a6, a7, a8, a9, a10, h17⟩, h1, h2, h3, h4, ⟨g0, h31⟩⟩ := h
  have hf : qfr [31] w (gd w g) := qfr.refl.set (by decide)
  exact ⟨⟨a1, a2, a3, a4, a5, a6, a7, a8, a9, a10, hf.at h17 (by decide)⟩, h1.fr hf (by decide), h2.fr hf (by decide) (by decide) (by decide) (by decide), h3.fr hf (by decide) (by decide) (by decide) (by decide), h4.fr hf (by decide) (by decide) (by decide) (by decide), ⟨g, g_ss (g_lt h31)⟩⟩
theorem m_won (hF : okF V vr) (hC : okC V vr C cl) (h : IM w n bf V vr fa C cl S id st cb gr) (x y : Int32) : ∃ w', f_MO_won w 17 x y = some (sp_won V vr fa C cl x y, w') ∧ qfr [31] w w' ∧ IM w' n bf V vr fa C cl S id st cb gr := by
  have hv8 := hF.1
  have hp := h.pF
  have hh := hp
  obtain ⟨s1, s4, s5, s6, s7, s8, s9, s10, s11, s12, s13, s14, av, af, ac, g0, h17, h19, h20, h22, h31, hv, hc⟩ := hh
  unfold f_MO_won sp_won
  by_cases hx : x < 0
  · rw [if_pos hx, if_pos hx]
    exact ⟨w, rfl, qfr.refl, h⟩
  · obtain ⟨j, hj, rfl⟩ := nI_of hx
    rw [if_neg hx, if_neg hx, g_b1 (g_i h17 rfl), i_le rfl rfl hj (by omega), i_lt rfl rfl (by omega) hj]
    by_cases c : j ≤ V
    · obtain ⟨g', q1, q2⟩ := m_play0 hF hC hp c
      have e17 : (gd w g')[17]? = _ := (g_sn (by decide)).trans h17
      have e31 : (gd w g')[31]? = some (.inl (2, 256, g')) := g_ss (g_lt h31)
      have hpw : 2 ^ j ≤ 256 := pow_le (show j ≤ 8 by omega)
      have hidx : y &&& ((1 : Int32) <<< (nI j &&& 31) - 1) = nI (y.toBitVec.toNat % 2 ^ j) := by
        have hm : ∀ q, q < 9 → ((1 : Int32) <<< (nI q &&& 31) - 1).toBitVec.toNat = 2 ^ q - 1 := by decide +kernel
        exact pk_and y j (hm j (by omega))
      have hlt : y.toBitVec.toNat % 2 ^ j < 2 ^ j := Nat.mod_lt _ (Nat.two_pow_pos j)
      rw [if_pos c, if_neg (by omega), g_ob (g_is h17), g_b1 q1, g_b1 (g_r e17 rfl), hidx, g_b1 (g_l e31 (by omega) (by omega)), q2 _ hlt, g_ob (qb_z _), nI_clamp hj]
      have ht : tru vr (y.toBitVec.toNat % 2 ^ j).testBit j = tru vr (bt y) j := tru_congr j (fun i hi => by
        rw [Nat.testBit_mod_two_pow, decide_eq_true hi, Bool.true_and]
        rfl)
      rw [ht]
      exact ⟨_, rfl, qfr.refl.set (by decide), IM_gd h⟩
    · rw [if_neg c, if_pos (by omega)]
      exact ⟨w, rfl, qfr.refl, h⟩
theorem m_play (hF : okF V vr) (hC : okC V vr C cl) (h : IM w n bf V vr fa C cl S id st cb gr) (y : Int32) : ∃ w', f_MO_play w 17 y = some (nI (ply V vr fa C cl y V 0), w') ∧ qfr [31] w w' ∧ IM w' n bf V vr fa C cl S id st cb gr := by
  have hv8 := hF.1
  have key : ∀ k m A w, k ≤ V → k < m → A < 2 ^ (V - k) → IM w n bf V vr fa C cl S id st cb gr → ∃ w', ll_MO_play_4 m 17 y (nI A) (nI (V - k)) w = some (nI (ply V vr fa C cl y k A), w') ∧ qfr [31] w w' ∧ IM w' n bf V vr fa C cl S id st cb gr := by
    intro k
    induction k with
    | zero =>
      intro m A w _ hm hA h
      obtain ⟨m, rfl⟩ : ∃ z, m = z + 1 := ⟨m - 1, by omega⟩
      have hp := h.pF
      have hh := hp
      obtain ⟨s1, s4, s5, s6, s7, s8, s9, s10, s11, s12, s13, s14, av, af, ac, g0, h17, h19, h20, h22, h31, hv, hc⟩ := hh
      obtain ⟨g', q1, q2⟩ := m_play0 hF hC hp (Nat.le_refl V)
      have e17 : (gd w g')[17]? = _ := (g_sn (by decide)).trans h17
      have e31 : (gd w g')[31]? = some (.inl (2, 256, g')) := g_ss (g_lt h31)
      have hpw : 2 ^ V ≤ 256 := pow_le hv8
      have hA : A < 2 ^ V := hA
      have hq := q2 A hA
      rw [Nat.sub_self] at hq
      show ∃ w', lb_MO_play_4 (ll_MO_play_4 m) 17 y (nI A) (nI (V - 0)) w = some (nI (if gw V vr fa C cl 0 (tru vr A.testBit V) then A + 256 else A), w') ∧ _
      unfold lb_MO_play_4
      rw [g_b1 (g_i h17 rfl), i_le rfl rfl (by omega) (by omega), if_pos (by omega), g_b1 (g_i h17 rfl), g_ob (g_is h17), g_b1 q1, g_b1 (g_r e17 rfl), g_b1 (g_l e31 (by omega) (by omega)), hq]
      refine ⟨gd w g', ?_, qfr.refl.set (by decide), IM_gd h⟩
      cases gw V vr fa C cl 0 (tru vr A.testBit V)
      · rfl
      · rw [if_neg (by decide), if_pos rfl, show nI A + 256 = nI (A + 256) from nI_add A 256]
    | succ k ih =>
      intro m A w hk hm hA h
      obtain ⟨m, rfl⟩ : ∃ z, m = z + 1 := ⟨m - 1, by omega⟩
      have hpow : 2 ^ (V - k) = 2 ^ (V - (k + 1)) + 2 ^ (V - (k + 1)) := by
        rw [show V - k = V - (k + 1) + 1 by omega, Nat.pow_succ]
        omega
      have hpw : 2 ^ (V - k) ≤ 256 := pow_le (show V - k ≤ 8 by omega)
      have hp := h.pF
      have hh := hp
      obtain ⟨s1, s4, s5, s6, s7, s8, s9, s10, s11, s12, s13, s14, av, af, ac, g0, h17, h19, h20, h22, h31, hv, hc⟩ := hh
      have ho : nI A ||| ((1 : Int32) <<< (nI (V - (k + 1)) &&& 31)) = nI (A + 2 ^ (V - (k + 1))) := or_sl hA (by omega)
      have hpl : ply V vr fa C cl y (k + 1) A = if (if fa (V - (k + 1)) then gw V vr fa C cl k (tru vr A.testBit (V - k)) && !gw V vr fa C cl k (tru vr (A + 2 ^ (V - (k + 1))).testBit (V - k)) else bt y (V - (k + 1))) then ply V vr fa C cl y k (A + 2 ^ (V - (k + 1))) else ply V vr fa C cl y k A := rfl
      have fin : ∀ (b : Bool) (w1 : qw), qfr [31] w w1 → IM w1 n bf V vr fa C cl S id st cb gr → ∃ w', lj_MO_play_73 (ll_MO_play_4 m) 17 y (nI A) (nI (V - (k + 1))) (qb b) w1 = some (nI (if b then ply V vr fa C cl y k (A + 2 ^ (V - (k + 1))) else ply V vr fa C cl y k A), w') ∧ qfr [31] w w' ∧ IM w' n bf V vr fa C cl S id st cb gr := by
        intro b w1 hf1 h1
        unfold lj_MO_play_73
        rw [nI_1, show V - (k + 1) + 1 = V - k by omega, ho]
        cases b with
        | false =>
          rw [if_pos (show qb false = 0 from rfl), if_neg (by decide)]
          obtain ⟨w', r1, r2, r3⟩ := ih m A w1 (by omega) (by omega) (by omega) h1
          exact ⟨w', r1, hf1.trans r2, r3⟩
        | true =>
          rw [if_neg (by decide), if_pos rfl]
          obtain ⟨w', r1, r2, r3⟩ := ih m (A + 2 ^ (V - (k + 1))) w1 (by omega) (by omega) (by omega) h1
          exact ⟨w', r1, hf1.trans r2, r3⟩
      have hgo : ∀ b : Bool, ∃ w', lj_MO_play_26 (ll_MO_play_4 m) 17 y (nI A) (nI (V - (k + 1))) (qb b) w = some (nI (if (if fa (V - (k + 1)) then gw V vr fa C cl k (tru vr A.testBit (V - k)) && !gw V vr fa C cl k (tru vr (A + 2 ^ (V - (k + 1))).testBit (V - k)) else b) then ply V vr fa C cl y k (A + 2 ^ (V - (k + 1))) else ply V vr fa C cl y k A), w') ∧ qfr [31] w w' ∧ IM w' n bf V vr fa C cl S id st cb gr := by
        intro b
        unfold lj_MO_play_26
        rw [g_b1 (g_r h17 rfl), g_b1 (g_l h20 (by omega) (by omega)), (hv _ (by omega)).2]
        cases hfk : fa (V - (k + 1)) with
        | false =>
          rw [if_pos (show qb false = 0 from rfl)]
          exact fin b w qfr.refl h
        | true =>
          obtain ⟨g', q1, q2⟩ := m_play0 hF hC hp (show V - k ≤ V by omega)
          have e17 : (gd w g')[17]? = _ := (g_sn (by decide)).trans h17
          have e31 : (gd w g')[31]? = some (.inl (2, 256, g')) := g_ss (g_lt h31)
          have ha := q2 A (by omega)
          have hb := q2 (A + 2 ^ (V - (k + 1))) (by omega)
          rw [show V - (V - k) = k by omega] at ha hb
          rw [if_neg (by decide), nI_1, show V - (k + 1) + 1 = V - k by omega, g_ob (g_is h17), g_b1 q1, g_b1 (g_r e17 rfl), g_b1 (g_l e31 (by omega) (by omega)), g_b1 (g_r e17 rfl), ho, g_b1 (g_l e31 (by omega) (by omega)), ha, hb]
          have hf1 : qfr [31] w (gd w g') := qfr.refl.set (by decide)
          cases gw V vr fa C cl k (tru vr A.testBit (V - k)) <;> cases gw V vr fa C cl k (tru vr (A + 2 ^ (V - (k + 1))).testBit (V - k)) <;> first | exact fin false _ hf1 (IM_gd h) | exact fin true _ hf1 (IM_gd h)
      rw [hpl]
      show ∃ w', lb_MO_play_4 (ll_MO_play_4 m) 17 y (nI A) (nI (V - (k + 1))) w = _ ∧ _
      unfold lb_MO_play_4
      rw [g_b1 (g_i h17 rfl), i_le rfl rfl (by omega) (by omega), if_neg (by omega), bit_qb _ (by omega)]
      cases hb : bt y (V - (k + 1)) with
      | false =>
        rw [if_neg (by decide)]
        exact hgo false
      | true =>
        rw [if_pos (show qb true = 1 from rfl)]
        exact hgo true
  unfold f_MO_play
  have := key V q_fu 0 w (Nat.le_refl _) (by unfold q_fu; omega) (by rw [Nat.sub_self]; decide) h
  rw [Nat.sub_self] at this
  exact this
end
