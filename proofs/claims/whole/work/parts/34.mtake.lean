/-! a trace's words, in the reference -/
section
variable {w : qw} {n V C S : Nat} {bf vr id : Nat → Nat} {fa cb : Nat → Bool} {cl st gr : Nat → Int32}
theorem mQ.e {s : ts} (h : mQ n V C s w) : mE n V C s w := by
  obtain ⟨stg, cu, idn, now, pc, p0, p1, S, id, st, cb, gr⟩ := s
  obtain ⟨⟨a1, a2, a4, a5, a6, a7, a8, f0, f1, h17, _⟩, hP⟩ := h
  exact ⟨⟨_, _, _, _, _, _, _, _, _, _, h17⟩, hP⟩
theorem m_follow {s : ts} {t : tk} (hF : okF V vr) (hC : okC V vr C cl) (ht : okT t) (hs : okQ V vr s) (h : mQ n V C s w) (hr : rF w V vr fa C cl) : mRs n V C w (rdT V vr fa C cl s t) (f_MO_follow w 17 (twd t)) := by
  have hE := h.e
  obtain ⟨stg, cu, idn, now, pc, p0, p1, S, id, st, cb, gr⟩ := s
  obtain ⟨hs1, hs2, hs3⟩ := hs
  obtain ⟨⟨a1, a2, a4, a5, a6, a7, a8, f0, f1, h17, hc, hq⟩, hP⟩ := h
  have hS := hs2.1
  have hl := g_lt h17
  unfold f_MO_follow
  cases t with
  | inr c =>
    have hcc : c = 0 ∨ c = 97 ∨ c = 101 ∨ c = 114 ∨ c = 115 := ht
    have hrd : rdT V vr fa C cl (stg, cu, idn, now, pc, p0, p1, S, id, st, cb, gr) (.inr c) = if stg = 0 ∧ (c = 114 ∨ c = 115) then (0, (1, decide (c = 115), idn, now, pc, p0, p1, S, id, st, cb, gr)) else (1, (stg, cu, idn, now, pc, p0, p1, S, id, st, cb, gr)) := rfl
    rw [hrd]
    by_cases c0 : c = 0
    · have : twd (.inr c) = 5000 := by show (if c = 0 then _ else _) = _; rw [if_pos c0]
      rw [this, if_neg (show ¬ (stg = 0 ∧ (c = 114 ∨ c = 115)) by omega), if_pos rfl]
      exact mRs_e x1 rfl hE
    · have htw : twd (.inr c) = nI (4000 + c) := by show (if c = 0 then _ else _) = _; rw [if_neg c0]
      unfold lj_MO_follow_19 lj_MO_follow_32
      rw [htw, i_eq (y := 5000) (b := 5000) rfl rfl (by omega) (by omega), if_neg (show ¬ 4000 + c = 5000 by omega), i_le (y := 1000) (b := 1000) rfl rfl (by omega) (by omega), if_neg (show ¬ 4000 + c ≤ 1000 by omega), g_b1 (g_i h17 rfl), i_eq (y := 3) (b := 3) rfl rfl (by omega) (by omega)]
      by_cases cp : stg = 0
      · subst cp
        unfold lj_MO_follow_59
        rw [if_pos (show 0 + 3 = 3 from rfl), if_pos (show (1 : Int32) = 1 from rfl), g_b1 (g_i h17 rfl), i_eq (y := 3) (b := 3) rfl rfl (by omega) (by omega), if_pos (show 0 + 3 = 3 from rfl), i_eq (y := 4114) (b := 4114) rfl rfl (by omega) (by omega), i_eq (y := 4115) (b := 4115) rfl rfl (by omega) (by omega), g_b1 (g_i h17 rfl), i_eq (y := 3) (b := 3) rfl rfl (by omega) (by omega), if_pos (show 0 + 3 = 3 from rfl), i_eq (y := 4115) (b := 4115) rfl rfl (by omega) (by omega)]
        by_cases c1 : c = 115
        · rw [if_pos (show 0 = 0 ∧ (c = 114 ∨ c = 115) from ⟨rfl, Or.inr c1⟩), if_neg (show ¬ 4000 + c = 4114 by omega), if_pos (show 4000 + c = 4115 by omega), if_pos (show 4000 + c = 4115 by omega), decide_eq_true c1, g_ob q_z1, g_b1 (g_p h17 rfl), g_b1 (g_p (g_ss hl) rfl), List.set_set]
          exact mRs_s (stg := 1) (cu := true) (a1 := a1) (a2 := a2) (a4 := a4) (a5 := a5) (a6 := a6) (a7 := a7) (f0 := f0) (f1 := f1) hl hP rfl (fun z => absurd z (by omega))
        · by_cases c2 : c = 114
          · rw [if_pos (show 0 = 0 ∧ (c = 114 ∨ c = 115) from ⟨rfl, Or.inl c2⟩), if_pos (show 4000 + c = 4114 by omega), if_neg (show ¬ 4000 + c = 4115 by omega), decide_eq_false c1, g_ob q_z0, g_b1 (g_p h17 rfl), g_b1 (g_p (g_ss hl) rfl), List.set_set]
            exact mRs_s (stg := 1) (cu := false) (a1 := a1) (a2 := a2) (a4 := a4) (a5 := a5) (a6 := a6) (a7 := a7) (f0 := f0) (f1 := f1) hl hP rfl (fun z => absurd z (by omega))
          · rw [if_neg (show ¬ (0 = 0 ∧ (c = 114 ∨ c = 115)) by omega), if_neg (show ¬ 4000 + c = 4114 by omega), if_neg (show ¬ 4000 + c = 4115 by omega)]
            exact mRs_e x1 rfl hE
      · rw [if_neg (show ¬ (stg = 0 ∧ (c = 114 ∨ c = 115)) from fun z => cp z.1), if_neg (show ¬ stg + 3 = 3 by omega), if_neg (show ¬ (1 : Int32) = 0 by decide)]
        exact mRs_e x1 rfl hE
  | inl x =>
    obtain ⟨sg, d⟩ := x
    have hd : d ≤ 999 := ht
    have hz := nt_int sg (d := d) (by omega)
    have htw : twd (.inl (sg, d)) = nt sg d := rfl
    have k1 : ¬ zt sg d = 5000 := by
      cases sg
      · rw [zt_p]; omega
      · rw [zt_n]; omega
    have k2 : zt sg d ≤ 1000 := by
      cases sg
      · rw [zt_p]; omega
      · rw [zt_n]; omega
    unfold lj_MO_follow_19 lj_MO_follow_32
    rw [htw, z_eq hz (show (5000 : Int32).toInt = 5000 by decide), if_neg k1, z_le hz (show (1000 : Int32).toInt = 1000 by decide), if_pos k2, g_b1 (g_i h17 rfl), i_eq (y := 3) (b := 3) rfl rfl (by omega) (by omega)]
    unfold rdT
    dsimp only
    by_cases c0 : stg = 0
    · rw [if_pos c0, if_pos (show stg + 3 = 3 by omega), if_neg (show ¬ (0 : Int32) = 1 by decide)]
      exact mRs_e x1 rfl hE
    · have hc := hc (by omega)
      subst hc
      unfold lj_MO_follow_59
      rw [if_neg c0, if_neg (show ¬ stg + 3 = 3 by omega), if_pos (show (0 : Int32) = 0 from rfl), g_b1 (g_i h17 rfl), i_eq (y := 3) (b := 3) rfl rfl (by omega) (by omega), if_neg (show ¬ stg + 3 = 3 by omega), g_b1 (g_i h17 rfl), i_eq (y := 3) (b := 3) rfl rfl (by omega) (by omega), if_neg (show ¬ stg + 3 = 3 by omega), g_b1 (g_i h17 rfl), i_eq (y := 4) (b := 4) rfl rfl (by omega) (by omega)]
      by_cases c1 : stg = 1
      · subst c1
        rw [if_pos (show 1 = 1 from rfl), if_pos (show 1 + 3 = 4 from rfl), z_le (show (1 : Int32).toInt = 1 by decide) hz, z_lt (show (99 : Int32).toInt = 99 by decide) hz]
        by_cases b1 : sg = true ∨ d = 0
        · have hnz : ¬ (1 : Int) ≤ zt sg d := by
            rcases b1 with b1 | b1
            · subst b1
              rw [zt_n]
              omega
            · rw [zt_0.mpr b1]
              omega
          rw [if_pos b1, if_neg hnz]
          exact mRs_e x1 rfl hE
        · have hsg : sg = false := by
            cases sg
            · rfl
            · exact absurd (Or.inl rfl) b1
          subst hsg
          have hfd : f_MO_stepOf w 17 (nt false d) = some (fi id (nI d) S, w) := m_stepOf hs2 h17 hP _
          rw [zt_p, if_neg b1, if_pos (show (1 : Int) ≤ (d : Int) by omega)]
          by_cases b2 : 99 < d
          · rw [if_pos (show 99 < d ∨ ¬ fi id (nI d) S = -1 from Or.inl b2), if_pos (show (99 : Int) < (d : Int) by omega)]
            exact mRs_e x2 rfl hE
          · rw [if_neg (show ¬ (99 : Int) < (d : Int) by omega), g_ob (g_is h17), g_b2 hfd]
            by_cases b3 : fi id (nI d) S = -1
            · have hp : ∀ a3 a5 a6 a7 f0 f1, q_gi (w.set 17 (mo (nI n) (nI V) (nI C) a1 a2 (nI S) a3 a4 a5 a6 a7 (qb cu) f0 f1)) 17 1 14 = some (nI S) := fun _ _ _ _ _ _ => g_i (g_ss hl) rfl
              have hp6 : q_pf (w.set 17 (mo (nI n) (nI V) (nI C) a1 a2 (nI S) (nI (1 + 3)) a4 0 0 (nt false d) (qb cu) (-1) (-1))) 17 1 19 (.inl 5) = some (w.set 17 (mo (nI n) (nI V) (nI C) a1 a2 (nI S) (nI (2 + 3)) a4 0 0 (nt false d) (qb cu) (-1) (-1))) := by
                rw [g_p (g_ss hl) rfl, List.set_set]
                rfl
              have hp5 : q_pf (w.set 17 (mo (nI n) (nI V) (nI C) a1 a2 (nI S) (nI (1 + 3)) a4 0 0 (nt false d) (qb cu) (-1) f1)) 17 1 26 (.inl (-1)) = some (w.set 17 (mo (nI n) (nI V) (nI C) a1 a2 (nI S) (nI (1 + 3)) a4 0 0 (nt false d) (qb cu) (-1) (-1))) := by
                rw [g_p (g_ss hl) rfl, List.set_set]
                rfl
              have hp4 : q_pf (w.set 17 (mo (nI n) (nI V) (nI C) a1 a2 (nI S) (nI (1 + 3)) a4 0 0 (nt false d) (qb cu) f0 f1)) 17 1 25 (.inl (-1)) = some (w.set 17 (mo (nI n) (nI V) (nI C) a1 a2 (nI S) (nI (1 + 3)) a4 0 0 (nt false d) (qb cu) (-1) f1)) := by
                rw [g_p (g_ss hl) rfl, List.set_set]
                rfl
              have hp3 : q_pf (w.set 17 (mo (nI n) (nI V) (nI C) a1 a2 (nI S) (nI (1 + 3)) a4 a5 0 (nt false d) (qb cu) f0 f1)) 17 1 21 (.inl 0) = some (w.set 17 (mo (nI n) (nI V) (nI C) a1 a2 (nI S) (nI (1 + 3)) a4 0 0 (nt false d) (qb cu) f0 f1)) := by
                rw [g_p (g_ss hl) rfl, List.set_set]
                rfl
              have hp2 : q_pf (w.set 17 (mo (nI n) (nI V) (nI C) a1 a2 (nI S) (nI (1 + 3)) a4 a5 a6 (nt false d) (qb cu) f0 f1)) 17 1 22 (.inl 0) = some (w.set 17 (mo (nI n) (nI V) (nI C) a1 a2 (nI S) (nI (1 + 3)) a4 a5 0 (nt false d) (qb cu) f0 f1)) := by
                rw [g_p (g_ss hl) rfl, List.set_set]
                rfl
              have hp1 : q_pf w 17 1 23 (.inl (nt false d)) = some (w.set 17 (mo (nI n) (nI V) (nI C) a1 a2 (nI S) (nI (1 + 3)) a4 a5 a6 (nt false d) (qb cu) f0 f1)) := g_p h17 rfl
              rw [if_neg (show ¬ (99 < d ∨ ¬ fi id (nI d) S = -1) from fun z => z.elim b2 (fun y => y b3)), b3, if_pos (show (-1 : Int32) < 0 by decide), g_b1 hp1, g_b1 hp2, g_b1 hp3, g_b1 hp4, g_b1 hp5, g_b1 hp6, g_b1 (hp _ _ _ _ _ _), i_eq (y := 24) (b := 24) rfl rfl (by omega) (by omega)]
              by_cases b4 : S = 24
              · have hf : qfr [17] w (w.set 17 (mo (nI n) (nI V) (nI C) a1 a2 (nI S) (nI (2 + 3)) a4 0 0 (nt false d) (qb cu) (-1) (-1))) := qfr.refl.set (by decide)
                rw [if_pos b4, if_pos b4]
                exact ⟨_, rfl, hf.mono (by decide), ⟨⟨_, _, _, _, _, _, _, _, _, _, g_ss hl⟩, hP.fr hf (by decide) (by decide) (by decide) (by decide)⟩, fun z => absurd z x4⟩
              · rw [if_neg b4, if_neg b4]
                exact mRs_s hl hP rfl (fun _ => ⟨rfl, rfl, rfl, rfl, rfl⟩)
            · rw [if_pos (show 99 < d ∨ ¬ fi id (nI d) S = -1 from Or.inr b3)]
              rcases fi_in (id := id) (x := nI d) S with ⟨m1, _⟩ | ⟨j, m1, m2, _⟩
              · exact absurd m1 b3
              · rw [m2, if_neg (nI_pos (by omega))]
                exact mRs_e x2 rfl hE
      · rw [if_neg c1, if_neg (show ¬ stg + 3 = 4 by omega), g_b1 (g_i h17 rfl), i_eq (y := 5) (b := 5) rfl rfl (by omega) (by omega)]
        obtain ⟨g1, g2, g3, g4, g5, g6, g7, g8⟩ := hs3 (by omega)
        obtain ⟨q1, q2, q3, q4, q5⟩ := hq (by omega)
        subst q1
        subst q2
        subst q3
        by_cases c2 : stg = 2
        · subst c2
          rw [if_pos (show 2 = 2 from rfl), if_pos (show 2 + 3 = 5 from rfl), z_eq hz (show (0 : Int32).toInt = 0 by decide)]
          by_cases c3 : d = 0
          · rw [if_pos c3, if_pos (zt_0.mpr c3), g_b1 (g_p h17 rfl)]
            exact mRs_s (stg := 3) (a1 := a1) (a2 := a2) (a4 := a4) (a5 := nI pc) (a6 := a6) (a7 := nI idn) (f0 := f0) (f1 := f1) hl hP rfl (fun _ => ⟨rfl, rfl, rfl, q4, q5⟩)
          · rw [if_neg c3, if_neg (fun z => c3 (zt_0.mp z)), g_ob (g_is h17), g_b2 (m_isVar hF h17 hr sg hd (by omega))]
            by_cases c4 : 8 < d ∨ dcl vr V d = false
            · have : (decide (d ≤ 8) && dcl vr V d) = false := by
                rcases c4 with c4 | c4
                · rw [decide_eq_false (by omega), Bool.false_and]
                · rw [c4, Bool.and_false]
              rw [this, if_pos c4, if_pos (show qb false = 0 from rfl)]
              exact mRs_e x2 rfl hE
            · have hdc : dcl vr V d = true := by
                cases h9 : dcl vr V d
                · exact absurd (Or.inr h9) c4
                · rfl
              have hl1 := lbt_lt sg (d := d) (by omega)
              rw [if_neg c4, hdc, Bool.and_true, decide_eq_true (by omega), if_neg (show ¬ qb true = 0 by decide), g_b1 (g_i h17 rfl), g_b2 (f_mbit _ _), nt_bit sg (by omega) (by omega)]
              by_cases c5 : bt a6 (lbt sg d) = true
              · rw [if_pos c5, if_neg (show ¬ a6 &&& sl (lbt sg d) = 0 from fun z => by rw [(b_and_sl _ (by omega)).mp z] at c5; cases c5)]
                exact mRs_e x3 rfl hE
              · rw [if_neg c5, if_pos ((b_and_sl a6 (k := lbt sg d) (by omega)).mpr (by simpa using c5)), g_b1 (g_i h17 rfl), g_b2 (f_mbit _ _), nt_bit sg (by omega) (by omega), g_b1 (g_p h17 rfl)]
                exact mRs_s (stg := 2) (a1 := a1) (a2 := a2) (a4 := a4) (a5 := nI pc) (a7 := nI idn) (f0 := f0) (f1 := f1) hl hP rfl (fun _ => ⟨rfl, rfl, rfl, q4, q5⟩)
        · have c3 : stg = 3 := by omega
          subst c3
          rw [if_neg c2, if_neg (show ¬ 3 + 3 = 5 by omega), z_eq hz (show (0 : Int32).toInt = 0 by decide)]
          by_cases c3 : d = 0
          · obtain ⟨n5, n0⟩ := m_close hF hC hs2 h17 hr hP g4 g6 g7 g8 q4 q5
            rw [if_pos c3, if_pos (zt_0.mpr c3), g_ob (g_is h17)]
            by_cases c4 : fol V vr fa C cl cu a6 pc (st p0) (st p1) = true
            · obtain ⟨w9, y1, y2, y3, y4⟩ := n0 c4
              rw [if_pos c4, g_b2 y1]
              exact ⟨w9, rfl, y2, ⟨⟨_, _, _, _, _, _, _, _, _, _, y3⟩, y4⟩, fun _ => ⟨⟨_, _, _, _, _, _, _, _, _, y3, fun _ => rfl, fun z => absurd z (by omega)⟩, y4⟩⟩
            · rw [if_neg c4, g_b2 (n5 (by simpa using c4))]
              exact mRs_e x5 rfl hE
          · rw [if_neg c3, if_neg (fun z => c3 (zt_0.mp z)), g_ob (g_is h17)]
            unfold f_MO_takeId
            rw [g_ob (g_is h17), g_b2 (m_stepOf hs2 h17 hP _)]
            have hP2 := hP
            obtain ⟨b9, b10, b12, b11, h27, h28, h29, h30, hsx⟩ := hP2
            rcases fi_in (id := id) (x := nt sg d) S with ⟨m1, _⟩ | ⟨j, m1, m2, _⟩
            · rw [m1, if_pos (show (-1 : Int32) = -1 from rfl), if_pos (show (-1 : Int32) < 0 by decide)]
              exact mRs_e x2 rfl hE
            · rw [m2, if_neg (nI_m1 (by omega)), nI_clamp (by omega), if_neg (nI_pos (by omega)), g_b1 (g_r h17 rfl), g_b1 (g_l h29 (by omega) (by omega)), (hsx j m1).2.2.2, g_b1 (g_i h17 rfl)]
              by_cases c5 : cb j = cu
              · rw [if_neg (fun z : ¬ cb j = cu => z c5), if_pos (show qb (cb j) = qb cu by rw [c5]), g_b1 (g_i h17 rfl), i_eq (y := 2) (b := 2) rfl rfl (by omega) (by omega), g_b1 (g_i h17 rfl), i_eq (y := 0) (b := 0) rfl rfl (by omega) (by omega)]
                by_cases c6 : pc = 2
                · rw [if_pos c6, if_pos c6]
                  exact mRs_e x4 rfl hE
                · unfold lj_MO_takeId_51 lj_MO_takeId_71
                  rw [if_neg c6, if_neg c6]
                  by_cases c7 : pc = 0
                  · subst c7
                    have t1 : q_pf w 17 1 25 (.inl (nI j)) = some (w.set 17 (mo (nI n) (nI V) (nI C) a1 a2 (nI S) (nI (3 + 3)) a4 (nI 0) a6 (nI idn) (qb cu) (nI j) f1)) := g_p h17 rfl
                    have t2 : q_pf (w.set 17 (mo (nI n) (nI V) (nI C) a1 a2 (nI S) (nI (3 + 3)) a4 (nI 0) a6 (nI idn) (qb cu) (nI j) f1)) 17 1 26 (.inl f1) = some (w.set 17 (mo (nI n) (nI V) (nI C) a1 a2 (nI S) (nI (3 + 3)) a4 (nI 0) a6 (nI idn) (qb cu) (nI j) f1)) := by
                      rw [g_p (g_ss hl) rfl, List.set_set]
                      rfl
                    have t3 : q_pf (w.set 17 (mo (nI n) (nI V) (nI C) a1 a2 (nI S) (nI (3 + 3)) a4 (nI 0) a6 (nI idn) (qb cu) (nI j) f1)) 17 1 21 (.inl (nI 0 + 1)) = some (w.set 17 (mo (nI n) (nI V) (nI C) a1 a2 (nI S) (nI (3 + 3)) a4 (nI (0 + 1)) a6 (nI idn) (qb cu) (nI j) f1)) := by
                      rw [g_p (g_ss hl) rfl, List.set_set]
                      rfl
                    rw [if_pos (show 0 = 0 from rfl), g_b1 t1, g_b1 (g_i (g_ss hl) rfl), if_neg (show ¬ nI 0 = 1 by decide), g_b1 (g_i (g_ss hl) rfl), g_b1 t2, g_b1 (g_i (g_ss hl) rfl), g_b1 t3]
                    exact mRs_s hl hP rfl (fun _ => ⟨rfl, rfl, rfl, rfl, q5⟩)
                  · have c8 : pc = 1 := by omega
                    subst c8
                    have t1 : q_pf w 17 1 25 (.inl f0) = some (w.set 17 (mo (nI n) (nI V) (nI C) a1 a2 (nI S) (nI (3 + 3)) a4 (nI 1) a6 (nI idn) (qb cu) f0 f1)) := g_p h17 rfl
                    have t2 : q_pf (w.set 17 (mo (nI n) (nI V) (nI C) a1 a2 (nI S) (nI (3 + 3)) a4 (nI 1) a6 (nI idn) (qb cu) f0 f1)) 17 1 26 (.inl (nI j)) = some (w.set 17 (mo (nI n) (nI V) (nI C) a1 a2 (nI S) (nI (3 + 3)) a4 (nI 1) a6 (nI idn) (qb cu) f0 (nI j))) := by
                      rw [g_p (g_ss hl) rfl, List.set_set]
                      rfl
                    have t3 : q_pf (w.set 17 (mo (nI n) (nI V) (nI C) a1 a2 (nI S) (nI (3 + 3)) a4 (nI 1) a6 (nI idn) (qb cu) f0 (nI j))) 17 1 21 (.inl (nI 1 + 1)) = some (w.set 17 (mo (nI n) (nI V) (nI C) a1 a2 (nI S) (nI (3 + 3)) a4 (nI (1 + 1)) a6 (nI idn) (qb cu) f0 (nI j))) := by
                      rw [g_p (g_ss hl) rfl, List.set_set]
                      rfl
                    rw [if_neg (show ¬ 1 = 0 by decide), g_b1 (g_i h17 rfl), g_b1 t1, g_b1 (g_i (g_ss hl) rfl), if_pos (show nI 1 = 1 by decide), g_b1 t2, g_b1 (g_i (g_ss hl) rfl), g_b1 t3]
                    exact mRs_s hl hP rfl (fun _ => ⟨rfl, rfl, rfl, q4, rfl⟩)
              · rw [if_pos c5, if_neg (show ¬ qb (cb j) = qb cu from fun z => c5 (qb_inj.mp z))]
                exact mRs_e x2 rfl hE
theorem m_tloop (hB : okB n bf) (hF : okF V vr) (hC : okC V vr C cl) {x1 : Int32} : ∀ k m p s w, n - p < k → k + 1 < m → p ≤ n → okQ V vr s → mQ n V C s w → rB w n bf → rF w V vr fa C cl →
    ∃ w', ll_MO_trace_18 m 17 x1 (nI (bg bf n p)) 0 w = lj_MO_trace_67 17 x1 (nI (rdl (rdT V vr fa C cl) bf n k p s).2.1) (rdl (rdT V vr fa C cl) bf n k p s).1 w' ∧ qfr [17, 27, 28, 29, 30] w w' ∧ mE n V C (rdl (rdT V vr fa C cl) bf n k p s).2.2 w' ∧ ((rdl (rdT V vr fa C cl) bf n k p s).1 = 0 → mQ n V C (rdl (rdT V vr fa C cl) bf n k p s).2.2 w') := by
  have hn := hB.1
  intro k
  induction k with
  | zero => intro m p s w hk; omega
  | succ k ih =>
    intro m p s w hk hm hp hs h hb hr
    obtain ⟨m, rfl⟩ : ∃ z, m = z + 1 := ⟨m - 1, by omega⟩
    have hbg := bg_in (bf := bf) hp
    have h17 : ∃ a1 a2 a3 a4 a5 a6 a7 a8 a9 a10 a11, w[17]? = some (mo (nI n) (nI V) (nI C) a1 a2 a3 a4 a5 a6 a7 a8 a9 a10 a11) := by
      have hE := h.e
      obtain ⟨stg, cu, idn, now, pc, p0, p1, S, id, st, cb, gr⟩ := s
      obtain ⟨⟨_, _, _, _, _, _, _, _, _, _, h17⟩, _⟩ := hE
      exact ⟨_, _, _, _, _, _, _, _, _, _, _, h17⟩
    obtain ⟨_, _, _, _, _, _, _, _, _, _, _, h17⟩ := h17
    show ∃ w', lb_MO_trace_18 (ll_MO_trace_18 m) 17 x1 (nI (bg bf n p)) 0 w = _ ∧ _
    unfold lb_MO_trace_18
    rw [g_b1 (g_i h17 rfl), i_le rfl rfl (by omega) (by omega)]
    by_cases hbn : bg bf n p = n
    · have hrd : rdl (rdT V vr fa C cl) bf n (k + 1) p s = (0, n, s) := by
        show (if bg bf n p = n then _ else _) = _
        rw [if_pos hbn]
      rw [if_pos (by omega), hrd, hbn]
      exact ⟨w, rfl, qfr.refl, h.e, fun _ => h⟩
    · have hlt : bg bf n p < n := by omega
      have hgt := en_gt hlt (hbg.2.2 hlt)
      have hen := en_in (bf := bf) (n := n) (p := bg bf n p) (by omega)
      have hend := m_end (p := bg bf n p) hB (g_i h17 rfl) (g_r h17 rfl) hb (by omega)
      have hword := m_word (s := bg bf n p) (e := en bf n (bg bf n p)) hB (g_r h17 rfl) hb hgt hen.2
      rw [wd_tok] at hword
      obtain ⟨w2, r1, r2, r3, r4⟩ := m_follow (t := tok bf (bg bf n p) (en bf n (bg bf n p))) hF hC tok_ok hs h hr
      have hb2 := hb.fr r2 (by decide)
      have hr2 := hr.fr r2 (by decide) (by decide) (by decide) (by decide)
      have q17 : ∃ a1 a2 a3 a4 a5 a6 a7 a8 a9 a10 a11, w2[17]? = some (mo (nI n) (nI V) (nI C) a1 a2 a3 a4 a5 a6 a7 a8 a9 a10 a11) := by
        generalize (rdT V vr fa C cl s (tok bf (bg bf n p) (en bf n (bg bf n p)))).2 = s2 at r3
        obtain ⟨stg, cu, idn, now, pc, p0, p1, S, id, st, cb, gr⟩ := s2
        obtain ⟨⟨_, _, _, _, _, _, _, _, _, _, h17⟩, _⟩ := r3
        exact ⟨_, _, _, _, _, _, _, _, _, _, _, h17⟩
      obtain ⟨_, _, _, _, _, _, _, _, _, _, _, q17⟩ := q17
      have hbeg := m_begin (p := en bf n (bg bf n p)) hB (g_i q17 rfl) (g_r q17 rfl) hb2 hen.2
      rw [if_neg (by omega), if_pos rfl, g_ob (g_is h17), g_b2 hend, g_ob (g_is h17), g_b2 hword, g_ob (g_is h17), g_b2 r1]
      by_cases hr0 : (rdT V vr fa C cl s (tok bf (bg bf n p) (en bf n (bg bf n p)))).1 = 0
      · have hrd : rdl (rdT V vr fa C cl) bf n (k + 1) p s = rdl (rdT V vr fa C cl) bf n k (en bf n (bg bf n p)) (rdT V vr fa C cl s (tok bf (bg bf n p) (en bf n (bg bf n p)))).2 := by
          show (if bg bf n p = n then _ else _) = _
          rw [if_neg hbn, if_pos hr0]
        rw [if_pos hr0, g_ob (g_is q17), g_b2 hbeg, hrd, hr0]
        obtain ⟨w', g1, g2, g3⟩ := ih m (en bf n (bg bf n p)) _ w2 (by omega) (by omega) hen.2 ((rdT_ok hF hs).2 hr0) (r4 hr0) hb2 hr2
        exact ⟨w', g1, r2.trans g2, g3⟩
      · have hrd : rdl (rdT V vr fa C cl) bf n (k + 1) p s = ((rdT V vr fa C cl s (tok bf (bg bf n p) (en bf n (bg bf n p)))).1, bg bf n p, (rdT V vr fa C cl s (tok bf (bg bf n p) (en bf n (bg bf n p)))).2) := by
          show (if bg bf n p = n then _ else _) = _
          rw [if_neg hbn, if_neg hr0]
        obtain ⟨m, rfl⟩ : ∃ z, m = z + 1 := ⟨m - 1, by omega⟩
        rw [if_neg hr0, hrd]
        refine ⟨w2, ?_, r2, r3, fun z => absurd z hr0⟩
        show lb_MO_trace_18 (ll_MO_trace_18 m) 17 _ _ _ w2 = _
        unfold lb_MO_trace_18
        rw [g_b1 (g_i q17 rfl), i_le rfl rfl (by omega) (by omega), if_neg (by omega), if_neg hr0]
theorem rng_pos {x : Int32} (h : rng x) (h0 : ¬ x = 0) : ¬ x ≤ 0 := by
  rcases h with h | h | h | h | h | h
  · exact absurd h h0
  all_goals (rw [h]; decide)
theorem m_trace (hB : okB n bf) (hF : okF V vr) (hC : okC V vr C cl) (hP : okP V vr S id st) (h : IM w n bf V vr fa C cl S id st cb gr) :
    ∃ w', f_MO_trace w 17 = some (tan n S (trd V vr fa C cl bf n S id st cb gr), w') ∧ qfr [17, 27, 28, 29, 30] w w' ∧ IM w' 0 bf V vr fa C cl (trd V vr fa C cl bf n S id st cb gr).2.2.2.2.2.2.2.2.2.1 (trd V vr fa C cl bf n S id st cb gr).2.2.2.2.2.2.2.2.2.2.1 (trd V vr fa C cl bf n S id st cb gr).2.2.2.2.2.2.2.2.2.2.2.1 (trd V vr fa C cl bf n S id st cb gr).2.2.2.2.2.2.2.2.2.2.2.2.1 (trd V vr fa C cl bf n S id st cb gr).2.2.2.2.2.2.2.2.2.2.2.2.2 := by
  obtain ⟨⟨a1, a2, a3, a4, a5, a6, a7, a8, a9, a10, h17⟩, hb, hrF, hrN, hrP, hrG⟩ := h
  have hn := hB.1
  have hl := g_lt h17
  have hp1 : q_pf w 17 1 19 (.inl 3) = some (w.set 17 (mo (nI n) (nI V) (nI C) a1 a2 (nI S) (nI (0 + 3)) a4 a5 a6 a7 a8 a9 a10)) := g_p h17 rfl
  have hf1 : qfr [17] w (w.set 17 (mo (nI n) (nI V) (nI C) a1 a2 (nI S) (nI (0 + 3)) a4 a5 a6 a7 a8 a9 a10)) := qfr.refl.set (by decide)
  have e17 : (w.set 17 (mo (nI n) (nI V) (nI C) a1 a2 (nI S) (nI (0 + 3)) a4 a5 a6 a7 a8 a9 a10))[17]? = _ := g_ss hl
  unfold f_MO_trace
  rw [g_b1 hp1]
  generalize w.set 17 (mo (nI n) (nI V) (nI C) a1 a2 (nI S) (nI (0 + 3)) a4 a5 a6 a7 a8 a9 a10) = w2 at hf1 e17 ⊢
  have hb2 := hb.fr hf1 (by decide)
  have hr2 := hrF.fr hf1 (by decide) (by decide) (by decide) (by decide)
  have hP2 := hrP.fr hf1 (by decide) (by decide) (by decide) (by decide)
  have hbeg : f_MO_begin w2 17 0 = some (nI (bg bf n 0), w2) := m_begin (p := 0) hB (g_i e17 rfl) (g_r e17 rfl) hb2 (Nat.zero_le _)
  have hQ0 : mQ n V C (sT S id st cb gr) w2 := ⟨⟨a1, a2, a4, a5, a6, a7, a8, a9, a10, e17, fun z => absurd z (by decide), fun z => absurd z (by decide)⟩, hP2⟩
  obtain ⟨w4, m1, m2, m3, m4⟩ := m_tloop (x1 := nI S) hB hF hC (n + 1) q_fu 0 (sT S id st cb gr) w2 (by omega) (by unfold q_fu; omega) (Nat.zero_le _) (okQ_sT hP) hQ0 hb2 hr2
  rw [g_b1 (g_i e17 rfl), g_ob (g_is e17), g_b2 hbeg, m1]
  have hfd : qfr [17, 27, 28, 29, 30] w w4 := (hf1.mono (by decide)).trans m2
  have hrngs := rdl_rng (rd := rdT V vr fa C cl) (bf := bf) (n := n) (fun s t => rdT_rng) (n + 1) 0 (sT S id st cb gr) (Nat.zero_le _)
  have h00 := rda_0 (me := meT) (x := trd V vr fa C cl bf n S id st cb gr) hn hrngs
  have hrng : rng (trd V vr fa C cl bf n S id st cb gr).1 := hrngs.1
  have m3 : mE n V C (trd V vr fa C cl bf n S id st cb gr).2.2 w4 := m3
  have m4 : (trd V vr fa C cl bf n S id st cb gr).1 = 0 → mQ n V C (trd V vr fa C cl bf n S id st cb gr).2.2 w4 := m4
  show ∃ w', lj_MO_trace_67 17 (nI S) (nI (trd V vr fa C cl bf n S id st cb gr).2.1) (trd V vr fa C cl bf n S id st cb gr).1 w4 = _ ∧ _
  have hokS := rdl_okQ (fa := fa) (C := C) (cl := cl) (bf := bf) (n := n) hF (n + 1) 0 (sT S id st cb gr) (okQ_sT hP) hP
  have hok2 : (trd V vr fa C cl bf n S id st cb gr).1 = 0 → okQ V vr (trd V vr fa C cl bf n S id st cb gr).2.2 := by
    have key : ∀ k p s, okQ V vr s → (rdl (rdT V vr fa C cl) bf n k p s).1 = 0 → okQ V vr (rdl (rdT V vr fa C cl) bf n k p s).2.2 := by
      intro k
      induction k with
      | zero => exact fun p s h _ => h
      | succ k ih =>
        intro p s h
        unfold rdl
        by_cases h1 : bg bf n p = n
        · rw [if_pos h1]
          exact fun _ => h
        · rw [if_neg h1]
          by_cases h2 : (rdT V vr fa C cl s (tok bf (bg bf n p) (en bf n (bg bf n p)))).1 = 0
          · rw [if_pos h2]
            exact ih _ _ ((rdT_ok hF h).2 h2)
          · rw [if_neg h2]
            exact fun h3 => absurd h3 h2
    exact key (n + 1) 0 _ (okQ_sT hP)
  unfold tan
  generalize trd V vr fa C cl bf n S id st cb gr = x at h00 hrng m3 m4 hok2 ⊢
  obtain ⟨xr, xp, stg, cu, idn, now, pc, p0, p1, S2, id2, st2, cb2, gr2⟩ := x
  obtain ⟨⟨b1, b2, b3, b4, b5, b6, b7, b8, b9, b10, d17⟩, dP⟩ := m3
  have hld := g_lt d17
  have hp5 : q_pf w4 17 1 1 (.inl 0) = some (w4.set 17 (mo (nI 0) (nI V) (nI C) b1 b2 (nI S2) b3 b4 b5 b6 b7 b8 b9 b10)) := g_p d17 rfl
  have hf5 : qfr [17] w4 (w4.set 17 (mo (nI 0) (nI V) (nI C) b1 b2 (nI S2) b3 b4 b5 b6 b7 b8 b9 b10)) := qfr.refl.set (by decide)
  have f17 : (w4.set 17 (mo (nI 0) (nI V) (nI C) b1 b2 (nI S2) b3 b4 b5 b6 b7 b8 b9 b10))[17]? = _ := g_ss hld
  have hfe := hfd.trans (hf5.mono (by decide))
  have hfin : IM (w4.set 17 (mo (nI 0) (nI V) (nI C) b1 b2 (nI S2) b3 b4 b5 b6 b7 b8 b9 b10)) 0 bf V vr fa C cl S2 id2 st2 cb2 gr2 := by
    obtain ⟨f, y1, y2⟩ := hb
    exact ⟨⟨_, _, _, _, _, _, _, _, _, _, f17⟩, ⟨f, hfe.at y1 (by decide), fun i hi => absurd hi (Nat.not_lt_zero _)⟩, hrF.fr hfe (by decide) (by decide) (by decide) (by decide), hrN.fr hfe (by decide) (by decide) (by decide) (by decide), dP.fr hf5 (by decide) (by decide) (by decide) (by decide), hrG.fr hfe (by decide)⟩
  unfold lj_MO_trace_67
  rw [g_b1 (g_i d17 rfl), g_b1 hp5]
  by_cases hr0 : xr = 0
  · have hm := m4 hr0
    obtain ⟨⟨_, _, _, _, _, _, _, _, _, d17b, _⟩, _⟩ := hm
    have hst : b3 = nI (stg + 3) := by
      have := d17.symm.trans d17b
      injection this with this
      injection this with this
      injection this with _ this
      simp only [List.cons.injEq, Sum.inl.injEq] at this
      exact this.2.2.2.2.2.2.2.2.2.2.2.2.2.2.2.2.2.2.2.1
    subst hst
    have hq1 := (hok2 hr0).1
    subst hr0
    rw [if_pos (show (0 : Int32) ≤ 0 by decide), g_b1 (g_i f17 rfl), i_eq (y := 4) (b := 4) rfl rfl (by omega) (by omega)]
    by_cases c : stg = 1
    · have hans := h00.mpr ⟨rfl, decide_eq_true c⟩
      rw [if_pos (by omega), g_b1 (g_i f17 rfl), if_pos hans]
      exact ⟨_, rfl, hfe, hfin⟩
    · have hans : rda meT n ((0 : Int32), xp, stg, cu, idn, now, pc, p0, p1, S2, id2, st2, cb2, gr2) = (-1000 : Int32) - nI n := by
        unfold rda
        rw [if_pos rfl, show meT (stg, cu, idn, now, pc, p0, p1, S2, id2, st2, cb2, gr2) = false from decide_eq_false c, if_neg (by decide)]
        rfl
      rw [if_neg (by omega), if_neg (fun z => by have := (h00.mp z).2; exact c (of_decide_eq_true this)), hans]
      exact ⟨_, rfl, hfe, hfin⟩
  · rw [if_neg (rng_pos hrng hr0), if_neg (fun z => hr0 (h00.mp z).1)]
    have hans : rda meT n (xr, xp, stg, cu, idn, now, pc, p0, p1, S2, id2, st2, cb2, gr2) = (-1000 : Int32) * xr - nI xp := by
      unfold rda
      rw [if_neg hr0]
    rw [hans]
    exact ⟨_, rfl, hfe, hfin⟩
end
