/-! one word of a trace, in the class -/
section
variable {w : qw} {n p V C : Nat} {vr : Nat → Nat} {fa : Nat → Bool} {cl : Nat → Int32}
theorem zt_0 {sg : Bool} {d : Nat} : zt sg d = 0 ↔ d = 0 := by
  cases sg
  · rw [zt_p]; omega
  · rw [zt_n]; omega
theorem t_take {s : ts} {t : tk} (hF : okF V vr) (hC : okC V vr C cl) (ht : okT t) (hs : okQ V vr s) (h : cQ p s w) (hi : iF w p V vr fa C cl) (ha : atT w n t) : tRs p w (rdT V vr fa C cl s t) (f_TraceReader_take w 7 1) := by
  obtain ⟨stg, cu, idn, now, pc, p0, p1, S, id, st, cb, gr⟩ := s
  obtain ⟨hs1, hs2, hs3⟩ := hs
  obtain ⟨⟨c, i, l, q, pr, h7, h13, hc, hq⟩, hP⟩ := h
  have hS := hs2.1
  have hl7 := g_lt h7
  have hT : iT w := ⟨_, _, _, _, _, _, _, h7, h13⟩
  obtain ⟨sS, sE, no, e1, hno, hlt⟩ := ha
  have hP2 := hP
  obtain ⟨a9, a10, a11, a12, h8, h9, h10, h11, h12, hsx⟩ := hP2
  unfold f_TraceReader_take
  rw [g_b1 (g_i h7 rfl), i_eq (y := 0) (b := 0) rfl rfl (by omega) (by omega)]
  by_cases c0 : stg = 0
  · subst c0
    rw [if_pos rfl, g_ob (g_is h7)]
    have l115 : f_Words_isLetter w 1 115 = some (qb (decide (t = .inr 115)), w) := hlt 115 (by decide)
    have l114 : f_Words_isLetter w 1 114 = some (qb (decide (t = .inr 114)), w) := hlt 114 (by decide)
    have hp4 : q_pf w 7 5 4 (.inl (qb (decide (t = .inr 115)))) = some (w.set 7 (.inr (5, [.inr (some 8), .inr (some 13), .inr (some p), .inl 0, .inl (qb (decide (t = .inr 115))), .inl i, .inl l, .inl q]))) := g_p h7 rfl
    have hf3 : qfr [7] w (w.set 7 (.inr (5, [.inr (some 8), .inr (some 13), .inr (some p), .inl 0, .inl (qb (decide (t = .inr 115))), .inl i, .inl l, .inl q]))) := qfr.refl.set (by decide)
    have h73 : (w.set 7 (.inr (5, [.inr (some 8), .inr (some 13), .inr (some p), .inl 0, .inl (qb (decide (t = .inr 115))), .inl i, .inl l, .inl q])))[7]? = _ := g_ss hl7
    unfold f_TraceReader_takeLetter
    rw [g_ob (g_is e1), g_b2 l115, g_ob (qb_z _), g_b1 hp4]
    generalize w.set 7 (.inr (5, [.inr (some 8), .inr (some 13), .inr (some p), .inl 0, .inl (qb (decide (t = .inr 115))), .inl i, .inl l, .inl q])) = w3 at hf3 h73 ⊢
    have l1143 := il_fr e1 (hf3.2 1 (by decide)) (hf3.2 2 (by decide)) l114
    have e13 := hf3.at e1 (by decide)
    have hP3 := hP.fr hf3 (by decide) (by decide) (by decide) (by decide) (by decide)
    have h133 := hf3.at h13 (by decide)
    have hT3 : iT w3 := ⟨_, _, _, _, _, _, _, h73, h133⟩
    have hl73 := g_lt h73
    refine tRs_t (w := w3) ?_ (hf3.mono (by decide))
    rw [g_b1 (g_i h73 rfl)]
    have hp3 : q_pf w3 7 5 3 (.inl 1) = some (w3.set 7 (.inr (5, [.inr (some 8), .inr (some 13), .inr (some p), .inl 1, .inl (qb (decide (t = .inr 115))), .inl i, .inl l, .inl q]))) := g_p h73 rfl
    by_cases b1 : t = .inr 115
    · have hrd : rdT V vr fa C cl (0, cu, idn, now, pc, p0, p1, S, id, st, cb, gr) t = (0, (1, decide (t = .inr 115), idn, now, pc, p0, p1, S, id, st, cb, gr)) := by
        subst b1
        rfl
      rw [hrd, if_neg (by rw [decide_eq_true b1]; decide), g_b1 hp3, g_b2 rfl]
      exact tRs_s hl73 h133 hP3 rfl (fun z => absurd z (by omega))
    · by_cases b2 : t = .inr 114
      · have hrd : rdT V vr fa C cl (0, cu, idn, now, pc, p0, p1, S, id, st, cb, gr) t = (0, (1, decide (t = .inr 115), idn, now, pc, p0, p1, S, id, st, cb, gr)) := by
          subst b2
          rfl
        rw [hrd, if_pos (by rw [decide_eq_false b1]; rfl), g_ob (g_is e13), g_b2 l1143, if_neg (by rw [decide_eq_true b2]; decide), g_b1 hp3, g_b2 rfl]
        exact tRs_s hl73 h133 hP3 rfl (fun z => absurd z (by omega))
      · have hrd : rdT V vr fa C cl (0, cu, idn, now, pc, p0, p1, S, id, st, cb, gr) t = (1, (0, cu, idn, now, pc, p0, p1, S, id, st, cb, gr)) := by
          cases t with
          | inl x => rfl
          | inr k =>
            have b1 : ¬ k = 115 := fun e => b1 (by rw [e])
            have b2 : ¬ k = 114 := fun e => b2 (by rw [e])
            show (if 0 = 0 ∧ (k = 114 ∨ k = 115) then _ else _) = _
            rw [if_neg (by omega)]
        rw [hrd, if_pos (by rw [decide_eq_false b1]; rfl), g_ob (g_is e13), g_b2 l1143, if_pos (by rw [decide_eq_false b2]; rfl), g_b2 rfl]
        exact tRs_e x1 rfl hT3 hP3
  · rw [if_neg c0]
    unfold f_Words_isNumber
    rw [g_ob (g_is e1), g_b1 (g_i e1 rfl)]
    cases t with
    | inr k =>
      rw [g_ob q_z0, g_b2 rfl, if_pos rfl]
      have hrd : rdT V vr fa C cl (stg, cu, idn, now, pc, p0, p1, S, id, st, cb, gr) (.inr k) = (1, (stg, cu, idn, now, pc, p0, p1, S, id, st, cb, gr)) := by
        show (if stg = 0 ∧ (k = 114 ∨ k = 115) then _ else _) = _
        rw [if_neg (fun z => c0 z.1)]
      rw [hrd]
      exact tRs_e x1 rfl hT hP
    | inl x =>
      obtain ⟨sg, d⟩ := x
      have hd : d ≤ 999 := ht
      have hno : no = nt sg d := hno _ rfl
      subst hno
      have hv : f_Words_value w 1 = some (nt sg d, w) := by
        unfold f_Words_value
        rw [g_b1 (g_i e1 rfl)]
      rw [g_ob q_z1, g_b2 rfl, if_neg x1, g_ob (g_is e1), g_b2 hv, g_b1 (g_i h7 rfl), i_eq (y := 1) (b := 1) rfl rfl (by omega) (by omega)]
      have hz := nt_int sg (d := d) (by omega)
      have hc := hc (by omega)
      subst hc
      unfold rdT
      dsimp only
      rw [if_neg c0]
      by_cases c1 : stg = 1
      · subst c1
        rw [if_pos rfl, if_pos rfl, g_ob (g_is h7)]
        unfold f_TraceReader_beginStep
        rw [z_le (show (1 : Int32).toInt = 1 by decide) hz, z_lt (show (99 : Int32).toInt = 99 by decide) hz]
        by_cases b1 : sg = true ∨ d = 0
        · have hnz : ¬ (1 : Int) ≤ zt sg d := by
            rcases b1 with b1 | b1
            · subst b1
              rw [zt_n]
              omega
            · rw [zt_0.mpr b1]
              omega
          rw [if_neg hnz, if_pos b1]
          exact tRs_e x1 rfl hT hP
        · have hsg : sg = false := by
            cases sg
            · rfl
            · exact absurd (Or.inl rfl) b1
          subst hsg
          have hfd : f_Proof_find w 8 (nt false d) = some (fi id (nI d) S, w) := c_find hs2 hP _
          rw [zt_p, if_pos (show (1 : Int) ≤ (d : Int) by omega), if_neg b1]
          by_cases b2 : 99 < d
          · rw [if_pos (show (99 : Int) < (d : Int) by omega), if_pos (Or.inl b2)]
            exact tRs_e x2 rfl hT hP
          · rw [if_neg (show ¬ (99 : Int) < (d : Int) by omega), g_b1 (g_r h7 rfl), g_ob (g_is h8), g_b2 hfd]
            by_cases b3 : fi id (nI d) S = -1
            · rw [if_pos b3, if_neg (fun z => z.elim b2 (fun y => y b3)), g_b1 (g_r h7 rfl), g_ob (g_is h8), g_b2 (f_full hP hS)]
              by_cases b4 : S = 24
              · rw [if_pos b4, decide_eq_true b4, if_neg (show ¬ qb true = 0 by decide)]
                exact tRs_e x4 rfl hT hP
              · rw [decide_eq_false b4, if_pos (show qb false = 0 from rfl), if_neg b4, g_b1 (g_p h7 rfl), g_b1 (g_p (g_ss hl7) rfl), List.set_set, g_b1 (g_p (g_ss hl7) rfl), List.set_set, g_b1 (g_p (g_ss hl7) rfl), List.set_set, g_b2 rfl]
                exact tRs_s (i := nI d) (l := 0) (q := 0) hl7 h13 hP rfl (fun _ => ⟨rfl, rfl, rfl, fun z => absurd z (by omega), fun z => absurd z (by omega)⟩)
            · rw [if_neg b3, if_pos (Or.inr b3)]
              exact tRs_e x2 rfl hT hP
      · rw [if_neg c1, if_neg c1, g_b1 (g_i h7 rfl), i_eq (y := 2) (b := 2) rfl rfl (by omega) (by omega)]
        obtain ⟨g1, g2, g3, g4, g5, g6, g7, g8⟩ := hs3 (by omega)
        obtain ⟨q1, q2, q3, q4, q5⟩ := hq (by omega)
        subst q1
        subst q2
        subst q3
        by_cases c2 : stg = 2
        · subst c2
          rw [if_pos rfl, if_pos rfl, g_ob (g_is h7)]
          unfold f_TraceReader_takeLiteral
          rw [z_eq hz (show (0 : Int32).toInt = 0 by decide)]
          by_cases c3 : d = 0
          · rw [if_pos (zt_0.mpr c3), if_pos c3, g_b1 (g_p h7 rfl), g_b2 rfl]
            exact tRs_s (stg := 3) (i := nI idn) (q := nI pc) hl7 h13 hP rfl (fun _ => ⟨rfl, rfl, rfl, q4, q5⟩)
          · have hh := f_hasLit hF hi sg hd
            have hi2 := hi
            obtain ⟨od, oc, f1, _⟩ := hi2
            rw [if_neg (fun z => c3 (zt_0.mp z)), if_neg c3, g_b1 (g_r h7 rfl), g_ob (g_is f1), g_b2 hh]
            by_cases c4 : 8 < d ∨ dcl vr V d = false
            · have : (decide (1 ≤ d ∧ d ≤ 8) && dcl vr V d) = false := by
                rcases c4 with c4 | c4
                · rw [decide_eq_false (by omega), Bool.false_and]
                · rw [c4, Bool.and_false]
              rw [this, if_pos (show qb false = 0 from rfl), if_pos c4]
              exact tRs_e x2 rfl hT hP
            · have hdc : dcl vr V d = true := by
                cases h9 : dcl vr V d
                · exact absurd (Or.inr h9) c4
                · rfl
              have hl1 := lbt_lt sg (d := d) (by omega)
              rw [if_neg c4, hdc, Bool.and_true, decide_eq_true (by omega), if_neg (show ¬ qb true = 0 by decide), g_b1 (g_i h7 rfl), g_b2 (f_set _ _), nt_bit sg (by omega) (by omega)]
              by_cases c5 : bt l (lbt sg d) = true
              · rw [if_pos c5, if_neg (show ¬ l &&& sl (lbt sg d) = 0 from fun z => by rw [(b_and_sl _ (by omega)).mp z] at c5; cases c5)]
                exact tRs_e x3 rfl hT hP
              · rw [if_neg c5, if_pos ((b_and_sl l (k := lbt sg d) (by omega)).mpr (by simpa using c5)), g_b1 (g_i h7 rfl), g_b2 (f_set _ _), nt_bit sg (by omega) (by omega), g_b1 (g_p h7 rfl), g_b2 rfl]
                exact tRs_s (stg := 2) (i := nI idn) (q := nI pc) hl7 h13 hP rfl (fun _ => ⟨rfl, rfl, rfl, q4, q5⟩)
        · have c3 : stg = 3 := by omega
          subst c3
          have hcT : cT w p (nI 3) cu (nI idn) l pc p0 p1 := ⟨pr, h7, h13, q4, q5⟩
          rw [if_neg c2, if_neg c2, z_eq hz (show (0 : Int32).toInt = 0 by decide)]
          by_cases c3 : d = 0
          · rw [if_pos (zt_0.mpr c3), if_pos c3, g_ob (g_is h7), g_b2 (f_fol hF hC hs2 hi hcT hP g6 g7 g8)]
            by_cases c4 : fol V vr fa C cl cu l pc (st p0) (st p1) = true
            · obtain ⟨w9, k1, k2, k3, k4⟩ := f_end hcT hP g4 g6 g7 g8
              rw [if_pos c4, c4, if_neg (show ¬ qb true = 0 by decide), g_ob (g_is h7), g_b1 k1]
              obtain ⟨pr9, m1, m2, m3, m4⟩ := k3
              exact ⟨w9, rfl, k2.mono (by decide), ⟨_, _, _, _, _, _, _, m1, m2⟩, k4, fun _ => ⟨⟨_, _, _, _, _, m1, m2, fun _ => rfl, fun z => absurd z (by omega)⟩, k4⟩⟩
            · have c4 : fol V vr fa C cl cu l pc (st p0) (st p1) = false := by simpa using c4
              rw [if_neg (by rw [c4]; decide), c4, if_pos (show qb false = 0 from rfl)]
              exact tRs_e x5 rfl hT hP
          · rw [if_neg (fun z => c3 (zt_0.mp z)), if_neg c3, g_ob (g_is h7)]
            unfold f_TraceReader_takePremise
            rw [g_b1 (g_r h7 rfl), g_ob (g_is h8), g_b2 (c_find hs2 hP _), g_b1 (g_r h7 rfl), g_ob (g_is h8), g_b2 (c_has hs2 hP _)]
            rcases fi_in (id := id) (x := nt sg d) S with ⟨m1, _⟩ | ⟨j, m1, m2, _⟩
            · rw [m1, if_pos (show (-1 : Int32) = -1 from rfl), if_pos (show (-1 : Int32) < 0 by decide), if_pos rfl]
              exact tRs_e x2 rfl hT hP
            · rw [m2, if_neg (nI_pos (by omega)), if_pos (nI_lt m1 (by omega)), if_neg x1, if_neg (nI_m1 (by omega)), nI_clamp (by omega), g_b1 (g_r h7 rfl), g_b1 (g_r h8 rfl), g_b1 (g_l h12 (by omega) (by omega)), (hsx j m1).2.2.2, g_b1 (g_i h7 rfl)]
              by_cases c5 : cb j = cu
              · rw [if_neg (fun z : ¬ cb j = cu => z c5), if_pos (show qb (cb j) = qb cu by rw [c5]), g_b1 (g_i h7 rfl), i_lt (y := 2) (b := 2) rfl rfl (by omega) (by omega)]
                by_cases c6 : pc = 2
                · rw [if_pos c6, if_neg (show ¬ pc < 2 by omega)]
                  exact tRs_e x4 rfl hT hP
                · rw [if_neg c6, if_pos (show pc < 2 by omega), g_b1 (g_r h7 rfl), g_b1 (g_i h7 rfl), g_b1 (g_s h13 (by omega) (by omega))]
                  have hf3 : qfr [13] w (w.set 13 (.inl (0, 2, upd pr pc (nI j)))) := qfr.refl.set (by decide)
                  have h133 : (w.set 13 (.inl (0, 2, upd pr pc (nI j))))[13]? = _ := g_ss (g_lt h13)
                  generalize w.set 13 (.inl (0, 2, upd pr pc (nI j))) = w3 at hf3 h133 ⊢
                  have h73 := hf3.at h7 (by decide)
                  have hP3 := hP.fr hf3 (by decide) (by decide) (by decide) (by decide) (by decide)
                  refine tRs_t (w := w3) ?_ (hf3.mono (by decide))
                  rw [g_b1 (g_i h73 rfl), g_b1 (g_p h73 rfl), nI_1, g_b2 rfl]
                  refine tRs_s (stg := 3) (i := nI idn) (q := nI (pc + 1)) (g_lt h73) h133 hP3 rfl (fun _ => ⟨rfl, rfl, rfl, fun _ => ?_, fun z => ?_⟩)
                  · by_cases e : pc = 0
                    · rw [if_pos e, e, pk_us]
                    · rw [if_neg e, pk_un (by omega)]
                      exact q4 (by omega)
                  · have e : pc = 1 := by omega
                    rw [if_pos e, e, pk_us]
              · rw [if_pos c5, if_neg (show ¬ qb (cb j) = qb cu from fun z => c5 (qb_inj.mp z))]
                exact tRs_e x2 rfl hT hP
end
