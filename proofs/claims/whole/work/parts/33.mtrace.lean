/-! one word of a trace, in the reference -/
def mE (n V C : Nat) (s : ts) (w : qw) : Prop := match s with
  | (_, _, _, _, _, _, _, S, id, st, cb, gr) => (∃ (newv newc state all many now own cubes f0 f1 : Int32), w[17]? = some (mo (nI n) (nI V) (nI C) newv newc (nI S) state all many now own cubes f0 f1)) ∧ rP w S id st cb gr
def mQ (n V C : Nat) (s : ts) (w : qw) : Prop := match s with
  | (stg, cu, idn, now, pc, p0, p1, S, id, st, cb, gr) => (∃ (newv newc all many nw own cubes f0 f1 : Int32), w[17]? = some (mo (nI n) (nI V) (nI C) newv newc (nI S) (nI (stg + 3)) all many nw own cubes f0 f1) ∧ (1 ≤ stg → cubes = qb cu) ∧ (2 ≤ stg → own = nI idn ∧ nw = now ∧ many = nI pc ∧ f0 = (if 0 < pc then nI p0 else -1) ∧ f1 = if 1 < pc then nI p1 else -1)) ∧ rP w S id st cb gr
def mRs (n V C : Nat) (w : qw) (x : Int32 × ts) (o : Option (Int32 × qw)) : Prop := ∃ w', o = some (x.1, w') ∧ qfr [17, 27, 28, 29, 30] w w' ∧ mE n V C x.2 w' ∧ (x.1 = 0 → mQ n V C x.2 w')
section
variable {w : qw} {n V C S pc p0 p1 idn stg : Nat} {vr id : Nat → Nat} {fa cb : Nat → Bool} {cl st gr : Nat → Int32} {cu : Bool} {now : Int32} {a1 a2 a3 a4 a5 a6 a7 f0 f1 : Int32} {o : Option (Int32 × qw)}
theorem mRs_e {s : ts} {e : Int32} (he : ¬ e = 0) (ho : o = some (e, w)) (hk : mE n V C s w) : mRs n V C w (e, s) o := ⟨w, ho, qfr.refl, hk, fun z => absurd z he⟩
theorem mRs_s (hl : 17 < w.length) (hP : rP w S id st cb gr) (ho : o = some (0, w.set 17 (mo (nI n) (nI V) (nI C) a1 a2 (nI S) (nI (stg + 3)) a4 a5 a6 a7 (qb cu) f0 f1))) (hq : 2 ≤ stg → a7 = nI idn ∧ a6 = now ∧ a5 = nI pc ∧ f0 = (if 0 < pc then nI p0 else -1) ∧ f1 = if 1 < pc then nI p1 else -1) : mRs n V C w (0, (stg, cu, idn, now, pc, p0, p1, S, id, st, cb, gr)) o := by
  have hf : qfr [17] w (w.set 17 (mo (nI n) (nI V) (nI C) a1 a2 (nI S) (nI (stg + 3)) a4 a5 a6 a7 (qb cu) f0 f1)) := qfr.refl.set (by decide)
  have hP2 := hP.fr hf (by decide) (by decide) (by decide) (by decide)
  have e7 : (w.set 17 (mo (nI n) (nI V) (nI C) a1 a2 (nI S) (nI (stg + 3)) a4 a5 a6 a7 (qb cu) f0 f1))[17]? = _ := g_ss hl
  exact ⟨_, ho, hf.mono (by decide), ⟨⟨_, _, _, _, _, _, _, _, _, _, e7⟩, hP2⟩, fun _ => ⟨⟨_, _, _, _, _, _, _, _, _, e7, fun _ => rfl, hq⟩, hP2⟩⟩
theorem m_stepOf (hP : okP V vr S id st) (h17 : w[17]? = some (mo (nI n) (nI V) (nI C) a1 a2 (nI S) a3 a4 a5 now a6 a7 f0 f1)) (hp : rP w S id st cb gr) (x : Int32) : f_MO_stepOf w 17 x = some (fi id x S, w) := by
  obtain ⟨a9, a10, a12, a11, h27, h28, h29, h30, hs⟩ := hp
  have hS := hP.1
  have key : ∀ k m, k ≤ S → k < m → ll_MO_stepOf_4 m 17 x (fi id x (S - k)) (nI (S - k)) w = some (fi id x S, w) := by
    intro k
    induction k with
    | zero =>
      intro m _ hm
      obtain ⟨m, rfl⟩ : ∃ z, m = z + 1 := ⟨m - 1, by omega⟩
      show lb_MO_stepOf_4 (ll_MO_stepOf_4 m) 17 x (fi id x S) (nI S) w = _
      unfold lb_MO_stepOf_4
      rw [g_b1 (g_i h17 rfl), i_le rfl rfl (by omega) (by omega), if_pos (by omega)]
    | succ k ih =>
      intro m hk hm
      obtain ⟨m, rfl⟩ : ∃ z, m = z + 1 := ⟨m - 1, by omega⟩
      have ih := ih m (by omega) (by omega)
      have hj : S - (k + 1) < S := by omega
      rw [show S - k = S - (k + 1) + 1 by omega] at ih
      show lb_MO_stepOf_4 (ll_MO_stepOf_4 m) 17 x (fi id x (S - (k + 1))) (nI (S - (k + 1))) w = _
      generalize S - (k + 1) = j at ih hj ⊢
      have hu : fi id x (j + 1) = if nI (id j) = x then nI j else fi id x j := rfl
      have hl : q_ld w 27 0 (nI j) = some (nI (id j)) := by rw [g_l h27 (by omega) (by omega), (hs j hj).1]
      unfold lb_MO_stepOf_4
      rw [g_b1 (g_i h17 rfl), i_le rfl rfl (by omega) (by omega), if_neg (by omega), g_b1 (g_r h17 rfl), g_b1 hl, nI_1]
      by_cases c : nI (id j) = x
      · rw [if_pos c] at hu
        rw [if_pos c, ← hu]
        exact ih
      · rw [if_neg c] at hu
        rw [if_neg c, ← hu]
        exact ih
  unfold f_MO_stepOf
  have := key S q_fu (Nat.le_refl _) (by unfold q_fu; omega)
  rw [Nat.sub_self] at this
  exact this
theorem m_isVar (hF : okF V vr) (h17 : w[17]? = some (mo (nI n) (nI V) (nI C) a1 a2 (nI S) a3 a4 a5 now a6 a7 f0 f1)) (hr : rF w V vr fa C cl) (sg : Bool) {d : Nat} (hd : d ≤ 999) (h1 : 1 ≤ d) : f_MO_isVariable w 17 (nt sg d) = some (qb (decide (d ≤ 8) && dcl vr V d), w) := by
  obtain ⟨av, af, ap, ac, h19, h20, h21, h22, hrv, _⟩ := hr
  have hzz := nt_int sg (d := d) (by omega)
  unfold f_MO_isVariable
  rw [z_lt hzz (show (-8 : Int32).toInt = -8 by decide), z_lt (show (8 : Int32).toInt = 8 by decide) hzz]
  by_cases c8 : 8 < d
  · rw [decide_eq_false (by omega), Bool.false_and]
    cases sg
    · rw [zt_p, if_neg (show ¬ (d : Int) < -8 by omega), if_pos (show (8 : Int) < (d : Int) by omega)]
      rfl
    · rw [zt_n, if_pos (show -(d : Int) < -8 by omega)]
      rfl
  · have k2 : ¬ zt sg d < -8 := by
      cases sg
      · rw [zt_p]; omega
      · rw [zt_n]; omega
    have k3 : ¬ 8 < zt sg d := by
      cases sg
      · rw [zt_p]; omega
      · rw [zt_n]; omega
    have hl : q_ld w 21 0 (nI d) = some (ap d) := g_l h21 (by omega) (by omega)
    have hap := ap_in hF hrv (show d ≤ 8 by omega)
    have hfin : (if ap d < 0 then q_ob (q_z 0) (some ((0 : Int32), w)) else q_ob (q_z 1) (some (1, w))) = some (qb (decide (d ≤ 8) && dcl vr V d), w) := by
      rw [decide_eq_true (by omega), Bool.true_and]
      cases hdc : dcl vr V d with
      | false => rw [hap.2 hdc, if_pos (by decide)]; rfl
      | true =>
        obtain ⟨i, hi, hie⟩ := hap.1 hdc
        have hv8 := hF.1
        rw [hie, if_neg (nI_pos (by omega))]
        rfl
    rw [if_neg k2, if_neg k3, g_b1 (g_r h17 rfl), z_le (show (0 : Int32).toInt = 0 by decide) hzz]
    cases sg
    · rw [zt_p, if_pos (show (0 : Int) ≤ (d : Int) by omega)]
      exact (g_b1 hl).trans hfin
    · rw [zt_n, if_neg (show ¬ (0 : Int) ≤ -(d : Int) by omega), nt_neg]
      exact (g_b1 hl).trans hfin
theorem m_close (hF : okF V vr) (hC : okC V vr C cl) (hP : okP V vr S id st) (h17 : w[17]? = some (mo (nI n) (nI V) (nI C) a1 a2 (nI S) a3 a4 (nI pc) now (nI idn) (qb cu) f0 f1)) (hr : rF w V vr fa C cl) (hp : rP w S id st cb gr) (hS : S < 24) (hpc : pc ≤ 2) (h0 : 0 < pc → p0 < S) (h1 : 1 < pc → p1 < S) (hf0 : f0 = if 0 < pc then nI p0 else -1) (hf1 : f1 = if 1 < pc then nI p1 else -1) :
    (fol V vr fa C cl cu now pc (st p0) (st p1) = false → f_MO_close w 17 = some (5, w)) ∧ (fol V vr fa C cl cu now pc (st p0) (st p1) = true → ∃ w', f_MO_close w 17 = some (0, w') ∧ qfr [17, 27, 28, 29, 30] w w' ∧ w'[17]? = some (mo (nI n) (nI V) (nI C) a1 a2 (nI (S + 1)) 4 a4 (nI pc) now (nI idn) (qb cu) f0 f1) ∧ rP w' (S + 1) (up id S idn) (up st S now) (up cb S cu) (up gr S (gsu pc gr p0 p1 ||| sl S))) := by
  have hfl := m_fol (p0 := p0) (p1 := p1) hF hC hP h17 hr hp hpc (fun z => ⟨h0 z, by rw [hf0, if_pos z]⟩) (fun z => ⟨h1 z, by rw [hf1, if_pos z]⟩)
  unfold f_MO_close
  rw [g_ob (g_is h17), g_b2 hfl]
  constructor
  · intro h
    rw [h, if_pos (show qb false = 0 from rfl)]
  · intro h
    rw [h, if_neg (show ¬ qb true = 0 by decide)]
    obtain ⟨a9, a10, a12, a11, h27, h28, h29, h30, hs⟩ := hp
    rw [g_b1 (g_r h17 rfl), g_b1 (g_i h17 rfl), g_b1 (g_i h17 rfl), g_b1 (g_s h27 hS (by omega))]
    have k1 : qfr [27] w (w.set 27 (.inl (0, 24, upd a9 S (nI idn)))) := qfr.refl.set (by decide)
    have e27 : (w.set 27 (.inl (0, 24, upd a9 S (nI idn))))[27]? = _ := g_ss (g_lt h27)
    generalize w.set 27 (.inl (0, 24, upd a9 S (nI idn))) = w14 at k1 e27 ⊢
    have h17 := k1.at h17 (by decide)
    have h28 := k1.at h28 (by decide)
    have h29 := k1.at h29 (by decide)
    have h30 := k1.at h30 (by decide)
    rw [g_b1 (g_r h17 rfl), g_b1 (g_i h17 rfl), g_b1 (g_i h17 rfl), g_b1 (g_s h28 hS (by omega))]
    have k2 : qfr [28] w14 (w14.set 28 (.inl (0, 24, upd a10 S now))) := qfr.refl.set (by decide)
    have e28 : (w14.set 28 (.inl (0, 24, upd a10 S now)))[28]? = _ := g_ss (g_lt h28)
    generalize w14.set 28 (.inl (0, 24, upd a10 S now)) = w18 at k2 e28 ⊢
    have h17 := k2.at h17 (by decide)
    have e27 := k2.at e27 (by decide)
    have h29 := k2.at h29 (by decide)
    have h30 := k2.at h30 (by decide)
    rw [g_b1 (g_r h17 rfl), g_b1 (g_i h17 rfl), g_b1 (g_i h17 rfl), g_ob (qb_z _), g_b1 (g_s h29 hS (by omega))]
    have k3 : qfr [29] w18 (w18.set 29 (.inl (2, 24, upd a12 S (qb cu)))) := qfr.refl.set (by decide)
    have e29 : (w18.set 29 (.inl (2, 24, upd a12 S (qb cu))))[29]? = _ := g_ss (g_lt h29)
    generalize w18.set 29 (.inl (2, 24, upd a12 S (qb cu))) = w22 at k3 e29 ⊢
    have h17 := k3.at h17 (by decide)
    have e27 := k3.at e27 (by decide)
    have e28 := k3.at e28 (by decide)
    have h30 := k3.at h30 (by decide)
    have h82 : ∀ T, lj_MO_close_82 17 T (sl S) (nI S) 30 w22 = lj_MO_close_103 17 (if 1 < pc then gr p1 else 0) (sl S ||| T) (nI S) 30 w22 := by
      intro T
      unfold lj_MO_close_82
      rw [g_b1 (g_i h17 rfl)]
      by_cases c : 1 < pc
      · have i1 := h1 c
        have hl : q_ld w22 30 0 (nI p1) = some (gr p1) := by rw [g_l h30 (by omega) (by omega), (hs p1 i1).2.2.1]
        rw [if_pos c] at hf1
        subst hf1
        rw [if_pos (nI_pos' (by omega)), if_pos c, g_b1 (g_r h17 rfl), g_b1 (g_i h17 rfl), g_b1 hl]
      · rw [if_neg c] at hf1
        subst hf1
        rw [if_neg (by decide), if_neg c]
    have hmain : (q_b1 (q_gi w22 17 1 25) fun v26 => if 0 ≤ v26 then q_b1 (q_gr w22 17 1 18) fun r27 => q_b1 (q_gi w22 17 1 25) fun v28 => q_b1 (q_ld w22 r27 0 v28) fun v29 => lj_MO_close_82 17 v29 (sl S) (nI S) 30 w22 else lj_MO_close_82 17 0 (sl S) (nI S) 30 w22) = lj_MO_close_103 17 (if 1 < pc then gr p1 else 0) (sl S ||| (if 0 < pc then gr p0 else 0)) (nI S) 30 w22 := by
      rw [g_b1 (g_i h17 rfl)]
      by_cases c : 0 < pc
      · have i0 := h0 c
        have hl : q_ld w22 30 0 (nI p0) = some (gr p0) := by rw [g_l h30 (by omega) (by omega), (hs p0 i0).2.2.1]
        rw [if_pos c] at hf0
        subst hf0
        rw [if_pos (nI_pos' (by omega)), g_b1 (g_r h17 rfl), g_b1 (g_i h17 rfl), g_b1 hl, h82, if_pos c]
      · rw [if_neg c] at hf0
        subst hf0
        rw [if_neg (by decide), h82, if_neg c]
    rw [g_b1 (g_r h17 rfl), g_b1 (g_i h17 rfl), g_b1 (g_i h17 rfl)]
    have hval : (sl S ||| (if 0 < pc then gr p0 else 0)) ||| (if 1 < pc then gr p1 else 0) = gsu pc gr p0 p1 ||| sl S := by
      unfold gsu
      refine b_ext (fun i hi => ?_)
      by_cases c0 : pc = 0
      · rw [if_neg (by omega), if_neg (by omega), if_pos c0]
        simp only [b_or, b_0]
        cases bt (sl S) i <;> rfl
      · by_cases c1 : pc = 1
        · rw [if_pos (by omega), if_neg (by omega), if_neg c0, if_pos c1]
          simp only [b_or, b_0]
          cases bt (sl S) i <;> cases bt (gr p0) i <;> rfl
        · rw [if_pos (by omega), if_pos (by omega), if_neg c0, if_neg c1]
          simp only [b_or]
          cases bt (sl S) i <;> cases bt (gr p0) i <;> cases bt (gr p1) i <;> rfl
    show ∃ w', (q_b1 (q_gi w22 17 1 25) fun v26 => if 0 ≤ v26 then q_b1 (q_gr w22 17 1 18) fun r27 => q_b1 (q_gi w22 17 1 25) fun v28 => q_b1 (q_ld w22 r27 0 v28) fun v29 => lj_MO_close_82 17 v29 (sl S) (nI S) 30 w22 else lj_MO_close_82 17 0 (sl S) (nI S) 30 w22) = some (0, w') ∧ _
    rw [hmain]
    unfold lj_MO_close_103
    rw [hval, g_b1 (g_s h30 hS (by omega))]
    have k4 : qfr [30] w22 (w22.set 30 (.inl (0, 24, upd a11 S (gsu pc gr p0 p1 ||| sl S)))) := qfr.refl.set (by decide)
    have e30 : (w22.set 30 (.inl (0, 24, upd a11 S (gsu pc gr p0 p1 ||| sl S))))[30]? = _ := g_ss (g_lt h30)
    generalize w22.set 30 (.inl (0, 24, upd a11 S (gsu pc gr p0 p1 ||| sl S))) = w23 at k4 e30 ⊢
    have h17 := k4.at h17 (by decide)
    have e27 := k4.at e27 (by decide)
    have e28 := k4.at e28 (by decide)
    have e29 := k4.at e29 (by decide)
    have hp1 : q_pf w23 17 1 14 (.inl (nI S + 1)) = some (w23.set 17 (mo (nI n) (nI V) (nI C) a1 a2 (nI (S + 1)) a3 a4 (nI pc) now (nI idn) (qb cu) f0 f1)) := by
      rw [nI_1]
      exact g_p h17 rfl
    have hp2 : q_pf (w23.set 17 (mo (nI n) (nI V) (nI C) a1 a2 (nI (S + 1)) a3 a4 (nI pc) now (nI idn) (qb cu) f0 f1)) 17 1 19 (.inl 4) = some (w23.set 17 (mo (nI n) (nI V) (nI C) a1 a2 (nI (S + 1)) 4 a4 (nI pc) now (nI idn) (qb cu) f0 f1)) := by
      rw [g_p (g_ss (g_lt h17)) rfl, List.set_set]
      rfl
    rw [g_b1 (g_i h17 rfl), g_b1 hp1, g_b1 hp2]
    have k5 : qfr [17] w23 (w23.set 17 (mo (nI n) (nI V) (nI C) a1 a2 (nI (S + 1)) 4 a4 (nI pc) now (nI idn) (qb cu) f0 f1)) := qfr.refl.set (by decide)
    refine ⟨_, rfl, ((((k1.mono (by decide)).trans (k2.mono (by decide))).trans (k3.mono (by decide))).trans (k4.mono (by decide))).trans (k5.mono (by decide)), g_ss (g_lt h17), upd a9 S (nI idn), upd a10 S now, upd a12 S (qb cu), upd a11 S (gsu pc gr p0 p1 ||| sl S), k5.at e27 (by decide), k5.at e28 (by decide), k5.at e29 (by decide), k5.at e30 (by decide), fun i hi => ?_⟩
    by_cases e : i = S
    · rw [e, pk_us, pk_us, pk_us, pk_us, up_s, up_s, up_s, up_s]
      exact ⟨rfl, rfl, rfl, rfl⟩
    · rw [pk_un e, pk_un e, pk_un e, pk_un e, up_n e, up_n e, up_n e, up_n e]
      exact hs i (by omega)
end
