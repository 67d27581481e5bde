/-! trace(), in the class -/
def sT (S : Nat) (id : Nat → Nat) (st : Nat → Int32) (cb : Nat → Bool) (gr : Nat → Int32) : ts := (0, false, 0, 0, 0, 0, 0, S, id, st, cb, gr)
def meT (s : ts) : Bool := decide (s.1 = 1)
section
variable {w : qw} {n V C S : Nat} {bf vr id : Nat → Nat} {fa cb : Nat → Bool} {cl st gr : Nat → Int32}
theorem rdT_rng {s : ts} {t : tk} : rng (rdT V vr fa C cl s t).1 := by
  obtain ⟨stg, cu, idn, now, pc, p0, p1, S, id, st, cb, gr⟩ := s
  cases t with
  | inr c =>
    show rng (if stg = 0 ∧ (c = 114 ∨ c = 115) then _ else _ : Int32 × ts).1
    split
    · exact Or.inl rfl
    · exact Or.inr (Or.inl rfl)
  | inl x =>
    unfold rdT
    dsimp only
    repeat' split
    all_goals first | exact Or.inl rfl | exact Or.inr (Or.inl rfl) | exact Or.inr (Or.inr (Or.inl rfl)) | exact Or.inr (Or.inr (Or.inr (Or.inl rfl))) | exact Or.inr (Or.inr (Or.inr (Or.inr (Or.inl rfl)))) | exact Or.inr (Or.inr (Or.inr (Or.inr (Or.inr rfl))))
theorem rdl_okQ (hF : okF V vr) : ∀ k p s, okQ V vr s → okP V vr s.2.2.2.2.2.2.2.1 s.2.2.2.2.2.2.2.2.1 s.2.2.2.2.2.2.2.2.2.1 → okP V vr (rdl (rdT V vr fa C cl) bf n k p s).2.2.2.2.2.2.2.2.2.1 (rdl (rdT V vr fa C cl) bf n k p s).2.2.2.2.2.2.2.2.2.2.1 (rdl (rdT V vr fa C cl) bf n k p s).2.2.2.2.2.2.2.2.2.2.2.1 := by
  intro k
  induction k with
  | zero => exact fun p s _ h => h
  | succ k ih =>
    intro p s h h2
    unfold rdl
    by_cases h1 : bg bf n p = n
    · rw [if_pos h1]
      exact h2
    · rw [if_neg h1]
      have h4 := rdT_ok (fa := fa) (C := C) (cl := cl) (t := tok bf (bg bf n p) (en bf n (bg bf n p))) hF h
      by_cases h3 : (rdT V vr fa C cl s (tok bf (bg bf n p) (en bf n (bg bf n p)))).1 = 0
      · rw [if_pos h3]
        exact ih _ _ (h4.2 h3) h4.1
      · rw [if_neg h3]
        exact h4.1
/-- what trace() reads -/
def trd (V : Nat) (vr : Nat → Nat) (fa : Nat → Bool) (C : Nat) (cl : Nat → Int32) (bf : Nat → Nat) (n S : Nat) (id : Nat → Nat) (st : Nat → Int32) (cb : Nat → Bool) (gr : Nat → Int32) : Int32 × Nat × ts := rdl (rdT V vr fa C cl) bf n (n + 1) 0 (sT S id st cb gr)
/-- what trace() answers -/
def tan (n S : Nat) (x : Int32 × Nat × ts) : Int32 := if rda meT n x = 0 then nI x.2.2.2.2.2.2.2.2.2.1 - nI S else rda meT n x
theorem okQ_sT (hP : okP V vr S id st) : okQ V vr (sT S id st cb gr) := ⟨Nat.zero_le _, hP, fun z => absurd z (by decide)⟩
theorem c_trace (hB : okB n bf) (hF : okF V vr) (hC : okC V vr C cl) (hP : okP V vr S id st) (h : IC w n bf V vr fa C cl S id st cb gr) :
    ∃ w', f_QP_trace w 0 = some (tan n S (trd V vr fa C cl bf n S id st cb gr), w') ∧ qfr [1, 7, 8, 9, 10, 11, 12, 13] w w' ∧ IC w' 0 bf V vr fa C cl (trd V vr fa C cl bf n S id st cb gr).2.2.2.2.2.2.2.2.2.1 (trd V vr fa C cl bf n S id st cb gr).2.2.2.2.2.2.2.2.2.2.1 (trd V vr fa C cl bf n S id st cb gr).2.2.2.2.2.2.2.2.2.2.2.1 (trd V vr fa C cl bf n S id st cb gr).2.2.2.2.2.2.2.2.2.2.2.2.1 (trd V vr fa C cl bf n S id st cb gr).2.2.2.2.2.2.2.2.2.2.2.2.2 := by
  obtain ⟨cu, dr, hq, hW, hR, hFc, hDr, hT, hPw⟩ := h
  have h0 := hq.2
  have hcu : cu = 4 ∨ cu = 14 := by rcases hq.1 with z | z <;> omega
  have hn := hB.1
  obtain ⟨fo, s, c, i, l, q, pr, h7, h13⟩ := hT
  have hl7 := g_lt h7
  have hPw0 := hPw
  obtain ⟨a9, a10, a11, a12, h8, _⟩ := hPw0
  -- begin
  have hbeg : f_TraceReader_begin w 7 cu = some (w.set 7 (.inr (5, [.inr (some 8), .inr (some 13), .inr (some cu), .inl 0, .inl c, .inl i, .inl l, .inl q]))) := by
    unfold f_TraceReader_begin
    rw [g_b1 (g_p h7 rfl), g_b1 (g_p (g_ss hl7) rfl), List.set_set]
    rfl
  have hb2 : qfr [7] w (w.set 7 (.inr (5, [.inr (some 8), .inr (some 13), .inr (some cu), .inl 0, .inl c, .inl i, .inl l, .inl q]))) := qfr.refl.set (by decide)
  have h72 : (w.set 7 (.inr (5, [.inr (some 8), .inr (some 13), .inr (some cu), .inl 0, .inl c, .inl i, .inl l, .inl q])))[7]? = _ := g_ss hl7
  unfold f_QP_trace
  rw [g_b1 (g_r h0 rfl), g_b1 (g_i h8 rfl), g_b1 (g_r h0 rfl), g_b1 (g_r h0 rfl), g_ob (g_is h7), g_b1 hbeg]
  generalize w.set 7 (.inr (5, [.inr (some 8), .inr (some 13), .inr (some cu), .inl 0, .inl c, .inl i, .inl l, .inl q])) = w2 at hb2 h72 ⊢
  have hW2 : iW w2 n bf := hW.fr hb2 (by decide) (by decide)
  have hz0 : w2[0]? = _ := hb2.at h0 (by decide)
  have h132 := hb2.at h13 (by decide)
  have hP2 := hPw.fr hb2 (by decide) (by decide) (by decide) (by decide) (by decide)
  have hcQ2 : cQ cu (sT S id st cb gr) w2 := ⟨⟨c, i, l, q, pr, h72, h132, fun z => absurd z (by decide), fun z => absurd z (by decide)⟩, hP2⟩
  obtain ⟨s1, s2, s3, s4, ch, e1, e2, ech⟩ := hW2
  have hl1 := g_lt e1
  have hrew : f_Words_rewind w2 1 = some (w2.set 1 (wo1 n s1 0 s3 s4)) := by
    unfold f_Words_rewind
    rw [g_b1 (g_p e1 rfl)]
    rfl
  have hfI : ∀ w1 : qw, ∀ c, qfr [1] w1 (w1.set 1 c) := fun w1 c => qfr.refl.set (by decide)
  have hcQ1 : ∀ (s : ts) (w1 : qw) c, cQ cu s w1 → cQ cu s (w1.set 1 c) := by
    intro s w1 c h
    obtain ⟨stg, ku, idn, now, pc, p0, p1, S, id, st, cb, gr⟩ := s
    obtain ⟨⟨c', i', l', q', pr', y1, y2, y3⟩, y4⟩ := h
    exact ⟨⟨c', i', l', q', pr', (hfI w1 c).at y1 (by decide), (hfI w1 c).at y2 (by decide), y3⟩, y4.fr (hfI w1 c) (by decide) (by decide) (by decide) (by decide) (by decide)⟩
  have hFc1 : ∀ w1, qfr [1, 7, 8, 9, 10, 11, 12, 13] w w1 → iF w1 cu V vr fa C cl := by
    intro w1 hf
    rcases hcu with z | z <;> (subst z; exact hFc.fr hf (by decide) (by decide) (by decide))
  have hloop := c_loop2 (rd := rdT V vr fa C cl) (me := meT) (n := n) (bf := bf) (a1 := 7) (I := fun s w1 => cQ cu s w1 ∧ okQ V vr s) (J := fun w1 => qfr [1, 7, 8, 9, 10, 11, 12, 13] w w1 ∧ iT w1) (K := kP)
    (fun s w1 c hk => by
      obtain ⟨stg, ku, idn, now, pc, p0, p1, S, id, st, cb, gr⟩ := s
      exact iP.fr hk (hfI w1 c) (by decide) (by decide) (by decide) (by decide) (by decide))
    (fun s w1 hI => by
      obtain ⟨stg, ku, idn, now, pc, p0, p1, S, id, st, cb, gr⟩ := s
      exact hI.1.2)
    hB
    (fun w1 hJ => g_r (hJ.1.at h0 (by decide)) rfl)
    (fun w1 c hJ => ⟨hJ.1.set (by decide), hJ.2.fr (hfI w1 c) (by decide) (by decide)⟩)
    (fun s w1 c hI => ⟨hcQ1 s w1 c hI.1, hI.2⟩)
    (fun w1 hJ => by
      obtain ⟨_, _, _, _, ch, _, y2, y3⟩ := hW
      exact ⟨ch, hJ.1.at y2 (by decide), y3⟩)
    (fun s w1 t ht hI hJ hat => by
      obtain ⟨w3, y1, y2, y3, y4, y5⟩ := t_take hF hC ht hI.2 hI.1 (hFc1 w1 hJ.1) hat
      obtain ⟨_, _, _, _, _, _, _, z7, _⟩ := hJ.2
      refine ⟨w3, ?_, ⟨hJ.1.trans (y2.mono (by decide)), y3⟩, y2.2 1 (by decide), fun h9 => ⟨y5 h9, (rdT_ok hF hI.2).2 h9⟩, y4⟩
      rw [g_isn z7 (by decide), g_is z7, d2_2]
      exact y1)
    (fun s w1 hI hJ => by
      obtain ⟨stg, ku, idn, now, pc, p0, p1, S, id, st, cb, gr⟩ := s
      obtain ⟨⟨⟨c', i', l', q', pr', y1, _⟩, _⟩, hq1, _⟩ := hI
      rw [g_isn y1 (by decide), g_is y1, d2_2]
      unfold f_TraceReader_mayEnd
      rw [g_b1 (g_i y1 rfl), i_eq (y := 1) (b := 1) rfl rfl (by omega) (by omega)]
      by_cases e : stg = 1
      · rw [if_pos e, show meT (stg, ku, idn, now, pc, p0, p1, S, id, st, cb, gr) = true from decide_eq_true e]
        rfl
      · rw [if_neg e, show meT (stg, ku, idn, now, pc, p0, p1, S, id, st, cb, gr) = false from decide_eq_false e]
        rfl)
    (n + 1) q_fu 0 (sT S id st cb gr) (w2.set 1 (wo1 n s1 0 s3 s4)) 0 s1 s3 s4 (by omega) (by unfold q_fu; omega) (by omega) (by omega) (Or.inl rfl)
    ⟨hcQ1 _ _ _ hcQ2, okQ_sT hP⟩
    ⟨(hb2.mono (by decide)).set (by decide), ⟨_, _, _, _, _, _, _, (hfI w2 _).at h72 (by decide), (hfI w2 _).at h132 (by decide)⟩⟩
    (g_ss hl1)
  obtain ⟨w4, S', E', nu', no', k1, ⟨k2, k3⟩, k5, _, k7⟩ := hloop
  have hrb : f_QP_readBuffer w2 0 7 = some (rda meT n (trd V vr fa C cl bf n S id st cb gr), w4) := by
    unfold f_QP_readBuffer
    rw [g_b1 (g_r hz0 rfl), g_ob (g_is e1), g_b1 hrew]
    exact k1
  have hz4 : w4[0]? = _ := k2.at h0 (by decide)
  have hW4 : iW w4 0 bf := by
    obtain ⟨_, _, _, _, ch, _, y2, y3⟩ := hW
    exact ⟨_, _, _, _, ch, k5, k2.at y2 (by decide), fun i hi => absurd hi (Nat.not_lt_zero _)⟩
  have hF4 := hFc1 w4 k2
  have hR4 := hR.fr k2 (by decide)
  have hD4 : iD w4 dr := by
    rcases hq.1 with ⟨z1, z2⟩ | ⟨z1, z2⟩ <;> (subst z1; subst z2; exact hDr.fr k2 (by decide) (by decide) (by decide))
  have k7 : kP (trd V vr fa C cl bf n S id st cb gr).2.2 w4 := k7
  rw [g_b1 (g_r hz0 rfl), g_ob (g_is hz0), g_b2 hrb]
  unfold tan
  generalize trd V vr fa C cl bf n S id st cb gr = x at k7 ⊢
  obtain ⟨xr, xp, stg, ku, idn, now, pc, p0, p1, S2, id2, st2, cb2, gr2⟩ := x
  have hfin : IC w4 0 bf V vr fa C cl S2 id2 st2 cb2 gr2 := ⟨cu, dr, ⟨hq.1, hz4⟩, hW4, hR4, hF4, hD4, k3, k7⟩
  by_cases hans : rda meT n (xr, xp, stg, ku, idn, now, pc, p0, p1, S2, id2, st2, cb2, gr2) = 0
  · obtain ⟨_, _, _, _, y8, _⟩ := k7
    rw [if_pos hans, if_pos hans, g_b1 (g_r hz4 rfl), g_b1 (g_i y8 rfl)]
    exact ⟨w4, rfl, k2, hfin⟩
  · rw [if_neg hans, if_neg hans]
    exact ⟨w4, rfl, k2, hfin⟩
end
