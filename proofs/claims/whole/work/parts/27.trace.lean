/-! the trace's reader, in the class -/
def tRs (p : Nat) (w : qw) (x : Int32 × ts) (o : Option (Int32 × qw)) : Prop := ∃ w', o = some (x.1, w') ∧ qfr [7, 8, 9, 10, 11, 12, 13] w w' ∧ iT w' ∧ kP x.2 w' ∧ (x.1 = 0 → cQ p x.2 w')
theorem g_isn {w : qw} {a ci cj : Nat} {fs : List qv} (h : w[a]? = some (.inr (ci, fs))) (hne : ci ≠ cj) : q_is w a cj = false := by
  simp [q_is, h, hne]
section
variable {w : qw} {n p V C S pc p0 p1 idn stg : Nat} {vr id : Nat → Nat} {fa cb : Nat → Bool} {cl st gr : Nat → Int32} {cu : Bool} {now : Int32} {o : Option (Int32 × qw)}
theorem tRs_e {s : ts} {e : Int32} (he : ¬ e = 0) (ho : o = some (e, w)) (hT : iT w) (hk : kP s w) : tRs p w (e, s) o := ⟨w, ho, qfr.refl, hT, hk, fun z => absurd z he⟩
theorem tRs_t {w0 : qw} {x : Int32 × ts} (h : tRs p w x o) (hf : qfr [7, 8, 9, 10, 11, 12, 13] w0 w) : tRs p w0 x o := by
  obtain ⟨w', h1, h2, h3⟩ := h
  exact ⟨w', h1, hf.trans h2, h3⟩
theorem tRs_s {pr : Nat → Int32} {i l q : Int32} (hl7 : 7 < w.length) (h13 : w[13]? = some (.inl (0, 2, pr))) (hP : iP w S id st cb gr) (ho : o = some (0, w.set 7 (.inr (5, [.inr (some 8), .inr (some 13), .inr (some p), .inl (nI stg), .inl (qb cu), .inl i, .inl l, .inl q])))) (hq : 2 ≤ stg → i = nI idn ∧ l = now ∧ q = nI pc ∧ (0 < pc → pr 0 = nI p0) ∧ (1 < pc → pr 1 = nI p1)) : tRs p w (0, (stg, cu, idn, now, pc, p0, p1, S, id, st, cb, gr)) o := by
  have hf : qfr [7] w (w.set 7 (.inr (5, [.inr (some 8), .inr (some 13), .inr (some p), .inl (nI stg), .inl (qb cu), .inl i, .inl l, .inl q]))) := qfr.refl.set (by decide)
  have hP2 := hP.fr hf (by decide) (by decide) (by decide) (by decide) (by decide)
  have e7 : (w.set 7 (.inr (5, [.inr (some 8), .inr (some 13), .inr (some p), .inl (nI stg), .inl (qb cu), .inl i, .inl l, .inl q])))[7]? = _ := g_ss hl7
  exact ⟨_, ho, hf.mono (by decide), ⟨p, nI stg, qb cu, i, l, q, pr, e7, hf.at h13 (by decide)⟩, hP2, fun _ => ⟨⟨qb cu, i, l, q, pr, e7, hf.at h13 (by decide), fun _ => rfl, hq⟩, hP2⟩⟩
theorem f_full (h : iP w S id st cb gr) (hS : S ≤ 24) : f_Proof_isFull w 8 = some (qb (decide (S = 24)), w) := by
  obtain ⟨a9, a10, a11, a12, h8, h9, h10, h11, h12, hs⟩ := h
  unfold f_Proof_isFull
  rw [g_b1 (g_i h8 rfl), i_lt (y := 24) (b := 24) rfl rfl (by omega) (by omega)]
  by_cases c : S = 24
  · rw [if_neg (by omega), decide_eq_true c]
    rfl
  · rw [if_pos (by omega), decide_eq_false c]
    rfl
theorem f_padd (h : iP w S id st cb gr) (hS : S < 24) (x : Int32) : ∃ w', f_Proof_add w 8 (nI idn) now (qb cu) x = some w' ∧ qfr [8, 9, 10, 11, 12] w w' ∧ iP w' (S + 1) (up id S idn) (up st S now) (up cb S cu) (up gr S (x ||| sl S)) := by
  have hful := f_full h (by omega)
  rw [decide_eq_false (by omega)] at hful
  obtain ⟨a9, a10, a11, a12, h8, h9, h10, h11, h12, hs⟩ := h
  unfold f_Proof_add
  rw [g_ob (g_is h8), g_b2 hful, if_pos (show qb false = 0 from rfl), g_b1 (g_r h8 rfl), g_b1 (g_i h8 rfl), g_b1 (g_s h9 hS (by omega))]
  have f1 : qfr [9] w (w.set 9 (.inl (0, 24, upd a9 S (nI idn)))) := qfr.refl.set (by decide)
  have e9 : (w.set 9 (.inl (0, 24, upd a9 S (nI idn))))[9]? = _ := g_ss (g_lt h9)
  generalize w.set 9 (.inl (0, 24, upd a9 S (nI idn))) = w5 at f1 e9 ⊢
  have h8 := f1.at h8 (by decide)
  have h10 := f1.at h10 (by decide)
  have h11 := f1.at h11 (by decide)
  have h12 := f1.at h12 (by decide)
  rw [g_b1 (g_r h8 rfl), g_b1 (g_i h8 rfl), g_b1 (g_s h10 hS (by omega))]
  have f2 : qfr [10] w5 (w5.set 10 (.inl (0, 24, upd a10 S now))) := qfr.refl.set (by decide)
  have e10 : (w5.set 10 (.inl (0, 24, upd a10 S now)))[10]? = _ := g_ss (g_lt h10)
  generalize w5.set 10 (.inl (0, 24, upd a10 S now)) = w8 at f2 e10 ⊢
  have h8 := f2.at h8 (by decide)
  have e9 := f2.at e9 (by decide)
  have h11 := f2.at h11 (by decide)
  have h12 := f2.at h12 (by decide)
  rw [g_b1 (g_r h8 rfl), g_b1 (g_i h8 rfl), g_ob (qb_z _), g_b1 (g_s h12 hS (by omega))]
  have f3 : qfr [12] w8 (w8.set 12 (.inl (2, 24, upd a12 S (qb cu)))) := qfr.refl.set (by decide)
  have e12 : (w8.set 12 (.inl (2, 24, upd a12 S (qb cu))))[12]? = _ := g_ss (g_lt h12)
  generalize w8.set 12 (.inl (2, 24, upd a12 S (qb cu))) = w11 at f3 e12 ⊢
  have h8 := f3.at h8 (by decide)
  have e9 := f3.at e9 (by decide)
  have e10 := f3.at e10 (by decide)
  have h11 := f3.at h11 (by decide)
  have hst : q_st w11 11 0 (nI S) (x ||| ((1 : Int32) <<< (nI S &&& 31))) = some (w11.set 11 (.inl (0, 24, upd a11 S (x ||| sl S)))) := g_s h11 hS (by omega)
  rw [g_b1 (g_r h8 rfl), g_b1 (g_i h8 rfl), g_b1 (g_i h8 rfl), g_b1 hst]
  have f4 : qfr [11] w11 (w11.set 11 (.inl (0, 24, upd a11 S (x ||| sl S)))) := qfr.refl.set (by decide)
  have e11 : (w11.set 11 (.inl (0, 24, upd a11 S (x ||| sl S))))[11]? = _ := g_ss (g_lt h11)
  generalize w11.set 11 (.inl (0, 24, upd a11 S (x ||| sl S))) = w15 at f4 e11 ⊢
  have h8 := f4.at h8 (by decide)
  have e9 := f4.at e9 (by decide)
  have e10 := f4.at e10 (by decide)
  have e12 := f4.at e12 (by decide)
  have hp : q_pf w15 8 4 4 (.inl (nI S + 1)) = some (w15.set 8 (.inr (4, [.inr (some 9), .inr (some 10), .inr (some 11), .inr (some 12), .inl (nI (S + 1))]))) := by
    rw [nI_1]
    exact g_p h8 rfl
  rw [g_b1 (g_i h8 rfl), g_b1 hp]
  have f5 : qfr [8] w15 (w15.set 8 (.inr (4, [.inr (some 9), .inr (some 10), .inr (some 11), .inr (some 12), .inl (nI (S + 1))]))) := qfr.refl.set (by decide)
  refine ⟨_, rfl, ((((f1.mono (by decide)).trans (f2.mono (by decide))).trans (f3.mono (by decide))).trans (f4.mono (by decide))).trans (f5.mono (by decide)), upd a9 S (nI idn), upd a10 S now, upd a11 S (x ||| sl S), upd a12 S (qb cu), g_ss (g_lt h8), f5.at e9 (by decide), f5.at e10 (by decide), f5.at e11 (by decide), f5.at e12 (by decide), fun i hi => ?_⟩
  by_cases e : i = S
  · rw [e, pk_us, pk_us, pk_us, pk_us, up_s, up_s, up_s, up_s]
    exact ⟨rfl, rfl, rfl, rfl⟩
  · rw [pk_un e, pk_un e, pk_un e, pk_un e, up_n e, up_n e, up_n e, up_n e]
    exact hs i (by omega)
theorem z_or (x : Int32) : 0 ||| x = x := b_ext (fun i _ => by rw [b_or, b_0, Bool.false_or])
theorem f_end {s : Int32} (ht : cT w p s cu (nI idn) now pc p0 p1) (h : iP w S id st cb gr) (hS : S < 24) (hpc : pc ≤ 2) (h0 : 0 < pc → p0 < S) (h1 : 1 < pc → p1 < S) : ∃ w', f_TraceReader_endStep w 7 = some w' ∧ qfr [7, 8, 9, 10, 11, 12] w w' ∧ cT w' p 1 cu (nI idn) now pc p0 p1 ∧ iP w' (S + 1) (up id S idn) (up st S now) (up cb S cu) (up gr S (gsu pc gr p0 p1 ||| sl S)) := by
  have hp := h
  obtain ⟨pr, t7, t13, ta, tb⟩ := ht
  obtain ⟨a9, a10, a11, a12, h8, h9, h10, h11, h12, hs⟩ := hp
  have fin : ∀ x m, ∃ w', ll_TraceReader_endStep_4 (m + 1) 7 x (nI pc) w = some w' ∧ qfr [7, 8, 9, 10, 11, 12] w w' ∧ cT w' p 1 cu (nI idn) now pc p0 p1 ∧ iP w' (S + 1) (up id S idn) (up st S now) (up cb S cu) (up gr S (x ||| sl S)) := by
    intro x m
    obtain ⟨w6, g1, g2, g3⟩ := f_padd (idn := idn) (now := now) (cu := cu) h hS x
    have t76 := g2.at t7 (by decide)
    have t136 := g2.at t13 (by decide)
    show ∃ w', lb_TraceReader_endStep_4 (ll_TraceReader_endStep_4 m) 7 x (nI pc) w = some w' ∧ _
    unfold lb_TraceReader_endStep_4
    have hp : q_pf w6 7 5 3 (.inl 1) = some (w6.set 7 (.inr (5, [.inr (some 8), .inr (some 13), .inr (some p), .inl 1, .inl (qb cu), .inl (nI idn), .inl now, .inl (nI pc)]))) := g_p t76 rfl
    rw [g_b1 (g_i t7 rfl), i_le rfl rfl (by omega) (by omega), if_pos (Nat.le_refl _), g_b1 (g_r t7 rfl), g_b1 (g_i t7 rfl), g_b1 (g_i t7 rfl), g_b1 (g_i t7 rfl), g_ob (g_is h8), g_b1 g1, g_b1 hp]
    have f7 : qfr [7] w6 (w6.set 7 (.inr (5, [.inr (some 8), .inr (some 13), .inr (some p), .inl 1, .inl (qb cu), .inl (nI idn), .inl now, .inl (nI pc)]))) := qfr.refl.set (by decide)
    exact ⟨_, rfl, (g2.mono (by decide)).trans (f7.mono (by decide)), ⟨pr, g_ss (g_lt t76), f7.at t136 (by decide), ta, tb⟩, g3.fr f7 (by decide) (by decide) (by decide) (by decide) (by decide)⟩
  have stp : ∀ x m i j, i < pc → pr i = nI j → j < S → ll_TraceReader_endStep_4 (m + 1) 7 x (nI i) w = ll_TraceReader_endStep_4 m 7 (x ||| gr j) (nI (i + 1)) w := by
    intro x m i j hi hj hjS
    show lb_TraceReader_endStep_4 (ll_TraceReader_endStep_4 m) 7 x (nI i) w = _
    unfold lb_TraceReader_endStep_4
    have l0 : q_ld w 13 0 (nI i) = some (nI j) := by rw [g_l t13 (by omega) (by omega), hj]
    have l1 : q_ld w 11 0 (nI j) = some (gr j) := by rw [g_l h11 (by omega) (by omega), (hs j hjS).2.2.1]
    rw [g_b1 (g_i t7 rfl), i_le rfl rfl (by omega) (by omega), if_neg (by omega), g_b1 (g_r t7 rfl), g_b1 (g_r h8 rfl), g_b1 (g_r t7 rfl), g_b1 l0, g_b1 l1, nI_1]
  unfold f_TraceReader_endStep
  by_cases c0 : pc = 0
  · subst c0
    have := fin 0 99999
    exact this
  · by_cases c1 : pc = 1
    · subst c1
      have e1 := stp 0 99999 0 p0 (by omega) (ta (by omega)) (h0 (by omega))
      rw [z_or] at e1
      have e2 := fin (gr p0) 99998
      obtain ⟨w', k1, k2⟩ := e2
      exact ⟨w', e1.trans k1, k2⟩
    · have c2 : pc = 2 := by omega
      subst c2
      have e1 := stp 0 99999 0 p0 (by omega) (ta (by omega)) (h0 (by omega))
      rw [z_or] at e1
      have e2 := stp (gr p0) 99998 1 p1 (by omega) (tb (by omega)) (h1 (by omega))
      obtain ⟨w', k1, k2⟩ := fin (gr p0 ||| gr p1) 99997
      exact ⟨w', (e1.trans e2).trans k1, k2⟩
end
