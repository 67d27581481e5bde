/-! the trace's reader: its steps -/
section
variable {σ : Type} {rd : σ → tk → Int32 × σ} {me : σ → Bool} {n a1 : Nat} {bf : Nat → Nat} {I : σ → qw → Prop} {J : qw → Prop}
/-- the class's loop over the words, whatever reads them -/
theorem c_loop2 {K : σ → qw → Prop} (hK : ∀ s w c, K s w → K s (w.set 1 c)) (hIK : ∀ s w, I s w → K s w) (hB : okB n bf) (h0 : ∀ w, J w → q_gr w 0 0 0 = some 1) (hJ : ∀ w c, J w → J (w.set 1 c)) (hI : ∀ s w c, I s w → I s (w.set 1 c)) (hch : ∀ w, J w → ∃ ch, w[2]? = some (.inl (1, 200, ch)) ∧ ∀ i, i < n → ch i = nI (bf i))
    (take : ∀ s w t, okT t → I s w → J w → atT w n t → ∃ w', q_d2 (q_is w a1 3) (q_is w a1 5) (f_FormulaReader_take w a1 1) (f_TraceReader_take w a1 1) = some ((rd s t).1, w') ∧ J w' ∧ w'[1]? = w[1]? ∧ ((rd s t).1 = 0 → I (rd s t).2 w') ∧ K (rd s t).2 w')
    (may : ∀ s w, I s w → J w → q_d2 (q_is w a1 3) (q_is w a1 5) (f_FormulaReader_mayEnd w a1) (f_TraceReader_mayEnd w a1) = some (qb (me s), w)) :
    ∀ k m p s w c S nu no, n - p < k → k + 1 < m → p ≤ n → 2 * c ≤ p + 1 → (c = 0 ∨ (p < n → bf p = 32)) → I s w → J w → w[1]? = some (wo1 n S (nI p) nu no) →
      ∃ w' S' E' nu' no', ll_QP_readBuffer_11 m 0 a1 0 (nI c) w = some (rda me n (rdl rd bf n k p s), w') ∧ J w' ∧ w'[1]? = some (wo1 0 S' E' nu' no') ∧ ((rdl rd bf n k p s).1 = 0 → I (rdl rd bf n k p s).2.2 w') ∧ K (rdl rd bf n k p s).2.2 w' := by
  have hn := hB.1
  have l49 : ∀ x2 w S E nu no, ¬ x2 = 0 → J w → w[1]? = some (wo1 n S E nu no) → lj_QP_readBuffer_49 0 a1 x2 w = some ((-1000 : Int32) * x2 - S, w.set 1 (wo1 0 S E nu no)) := by
    intro x2 w S E nu no hx hj h1
    unfold lj_QP_readBuffer_49
    rw [if_neg hx, c_last x2 (h0 w hj) (fun c => h0 _ (hJ w c hj)) h1, if_neg hx]
  intro k
  induction k with
  | zero => intro m p s w c S nu no hk; omega
  | succ k ih =>
    intro m p s w c S nu no hk hm hp hc hsp hIw hJw h1
    obtain ⟨m, rfl⟩ : ∃ z, m = z + 1 := ⟨m - 1, by omega⟩
    obtain ⟨ch, hch1, hch2⟩ := hch w hJw
    obtain ⟨no1, ha, hno⟩ := c_adv hB h1 hch1 hch2 hp
    have hbg := bg_in (bf := bf) hp
    have hlt := g_lt h1
    show ∃ w' S' E' nu' no', lb_QP_readBuffer_11 (ll_QP_readBuffer_11 m) 0 a1 0 (nI c) w = some (rda me n (rdl rd bf n (k + 1) p s), w') ∧ J w' ∧ w'[1]? = some (wo1 0 S' E' nu' no') ∧ ((rdl rd bf n (k + 1) p s).1 = 0 → I (rdl rd bf n (k + 1) p s).2.2 w') ∧ K (rdl rd bf n (k + 1) p s).2.2 w'
    unfold lb_QP_readBuffer_11
    rw [i_le (x := 200) (a := 200) rfl rfl (by omega) (by omega), if_neg (by omega), if_pos rfl, g_b1 (h0 w hJw), g_ob (g_is h1), g_b2 ha]
    have hJ1 := hJ w (wo1 n (nI (bg bf n p)) (nI (en bf n (bg bf n p))) (qb (nmb bf (bg bf n p) (en bf n (bg bf n p)))) no1) hJw
    have hI1 := hI s w (wo1 n (nI (bg bf n p)) (nI (en bf n (bg bf n p))) (qb (nmb bf (bg bf n p) (en bf n (bg bf n p)))) no1) hIw
    have e1 : (w.set 1 (wo1 n (nI (bg bf n p)) (nI (en bf n (bg bf n p))) (qb (nmb bf (bg bf n p) (en bf n (bg bf n p)))) no1))[1]? = some (wo1 n (nI (bg bf n p)) (nI (en bf n (bg bf n p))) (qb (nmb bf (bg bf n p) (en bf n (bg bf n p)))) no1) := g_ss hlt
    generalize w.set 1 (wo1 n (nI (bg bf n p)) (nI (en bf n (bg bf n p))) (qb (nmb bf (bg bf n p) (en bf n (bg bf n p)))) no1) = w1 at hJ1 hI1 e1 ⊢
    by_cases hb : bg bf n p = n
    · have hen : en bf n (bg bf n p) = n := by
        have := en_in (bf := bf) (n := n) (p := bg bf n p) (by omega)
        omega
      have hrd : rdl rd bf n (k + 1) p s = (0, n, s) := by
        show (if bg bf n p = n then _ else _) = _
        rw [if_pos hb]
      rw [decide_eq_false (by omega), if_pos (show qb false = 0 from rfl), hrd]
      unfold lj_QP_readBuffer_49
      rw [if_pos rfl, g_b2 (may s w1 hI1 hJ1)]
      unfold rda
      cases hme : me s with
      | true =>
        rw [if_neg (by decide), c_last 0 (h0 w1 hJ1) (fun c => h0 _ (hJ w1 c hJ1)) e1, if_pos rfl]
        refine ⟨w1.set 1 (wo1 0 (nI (bg bf n p)) (nI (en bf n (bg bf n p))) (qb (nmb bf (bg bf n p) (en bf n (bg bf n p)))) no1), nI (bg bf n p), nI (en bf n (bg bf n p)), qb (nmb bf (bg bf n p) (en bf n (bg bf n p))), no1, ?_, hJ w1 _ hJ1, g_ss (g_lt e1), fun _ => hI s w1 _ hI1, hIK s _ (hI s w1 _ hI1)⟩
        simp [hme]
      | false =>
        rw [if_pos (show qb false = 0 from rfl), c_last 1 (h0 w1 hJ1) (fun c => h0 _ (hJ w1 c hJ1)) e1, if_neg (by decide)]
        refine ⟨w1.set 1 (wo1 0 (nI (bg bf n p)) (nI (en bf n (bg bf n p))) (qb (nmb bf (bg bf n p) (en bf n (bg bf n p)))) no1), nI (bg bf n p), nI (en bf n (bg bf n p)), qb (nmb bf (bg bf n p) (en bf n (bg bf n p))), no1, ?_, hJ w1 _ hJ1, g_ss (g_lt e1), fun _ => hI s w1 _ hI1, hIK s _ (hI s w1 _ hI1)⟩
        simp [hme, hb]
    · have hbn : bg bf n p < n := by omega
      have hgt := en_gt hbn (hbg.2.2 hbn)
      have hen := en_in (bf := bf) (n := n) (p := bg bf n p) (by omega)
      obtain ⟨ch1, hc1, hc2⟩ := hch w1 hJ1
      have hat := at_tok hB e1 hno hc1 hc2 hgt hen.2
      obtain ⟨w2, ht, hJ2, e2, hI2, hK2⟩ := take s w1 (tok bf (bg bf n p) (en bf n (bg bf n p))) tok_ok hI1 hJ1 hat
      rw [decide_eq_true hgt, if_neg (by decide), g_b1 (h0 w1 hJ1), g_b2 ht, nI_1]
      by_cases hr : (rd s (tok bf (bg bf n p) (en bf n (bg bf n p)))).1 = 0
      · have hrd : rdl rd bf n (k + 1) p s = rdl rd bf n k (en bf n (bg bf n p)) (rd s (tok bf (bg bf n p) (en bf n (bg bf n p)))).2 := by
          show (if bg bf n p = n then _ else _) = _
          rw [if_neg hb, if_pos hr]
        rw [hrd, hr]
        have hcc : 2 * (c + 1) ≤ en bf n (bg bf n p) + 1 := by
          rcases hsp with h | h
          · omega
          · have := bg_sp (bf := bf) (n := n) (p := p) (by omega) (h (by omega))
            omega
        exact ih m (en bf n (bg bf n p)) _ w2 (c + 1) _ _ _ (by omega) (by omega) hen.2 hcc (Or.inr (fun h => en_sp (by omega) h)) (hI2 hr) hJ2 (e2.trans e1)
      · have hrd : rdl rd bf n (k + 1) p s = ((rd s (tok bf (bg bf n p) (en bf n (bg bf n p)))).1, bg bf n p, (rd s (tok bf (bg bf n p) (en bf n (bg bf n p)))).2) := by
          show (if bg bf n p = n then _ else _) = _
          rw [if_neg hb, if_neg hr]
        rw [hrd]
        obtain ⟨m, rfl⟩ : ∃ z, m = z + 1 := ⟨m - 1, by omega⟩
        have hfin : ll_QP_readBuffer_11 (m + 1) 0 a1 (rd s (tok bf (bg bf n p) (en bf n (bg bf n p)))).1 (nI (c + 1)) w2 = lj_QP_readBuffer_49 0 a1 (rd s (tok bf (bg bf n p) (en bf n (bg bf n p)))).1 w2 := by
          show lb_QP_readBuffer_11 (ll_QP_readBuffer_11 m) 0 a1 _ (nI (c + 1)) w2 = _
          unfold lb_QP_readBuffer_11
          rw [if_neg hr]
          by_cases h9 : (200 : Int32) ≤ nI (c + 1)
          · rw [if_pos h9]
          · rw [if_neg h9]
        rw [hfin, l49 _ w2 _ _ _ _ hr hJ2 (e2.trans e1)]
        refine ⟨w2.set 1 (wo1 0 (nI (bg bf n p)) (nI (en bf n (bg bf n p))) (qb (nmb bf (bg bf n p) (en bf n (bg bf n p)))) no1), nI (bg bf n p), nI (en bf n (bg bf n p)), qb (nmb bf (bg bf n p) (en bf n (bg bf n p))), no1, ?_, hJ w2 _ hJ2, g_ss (g_lt (e2.trans e1)), fun h => absurd h hr, hK _ w2 _ hK2⟩
        unfold rda
        rw [if_neg hr]
end
/-- the trace's reader: (stage: 0 letter, 1 id, 2 literals, 3 premises; kind; id; set; how many premises, which; the steps that there are) -/
abbrev ts : Type := Nat × Bool × Nat × Int32 × Nat × Nat × Nat × Nat × (Nat → Nat) × (Nat → Int32) × (Nat → Bool) × (Nat → Int32)
def gsu (pc : Nat) (gr : Nat → Int32) (p0 p1 : Nat) : Int32 := if pc = 0 then 0 else if pc = 1 then gr p0 else gr p0 ||| gr p1
def rdT (V : Nat) (vr : Nat → Nat) (fa : Nat → Bool) (C : Nat) (cl : Nat → Int32) (s : ts) (t : tk) : Int32 × ts := match s with
  | (stg, cu, idn, now, pc, p0, p1, S, id, st, cb, gr) => match t with
    | .inr c => if stg = 0 ∧ (c = 114 ∨ c = 115) then (0, (1, decide (c = 115), idn, now, pc, p0, p1, S, id, st, cb, gr)) else (1, (stg, cu, idn, now, pc, p0, p1, S, id, st, cb, gr))
    | .inl x => if stg = 0 then (1, (stg, cu, idn, now, pc, p0, p1, S, id, st, cb, gr))
      else if stg = 1 then (if x.1 = true ∨ x.2 = 0 then (1, (stg, cu, idn, now, pc, p0, p1, S, id, st, cb, gr)) else if 99 < x.2 ∨ ¬ fi id (nI x.2) S = -1 then (2, (stg, cu, idn, now, pc, p0, p1, S, id, st, cb, gr)) else if S = 24 then (4, (stg, cu, idn, now, pc, p0, p1, S, id, st, cb, gr)) else (0, (2, cu, x.2, 0, 0, p0, p1, S, id, st, cb, gr)))
      else if stg = 2 then (if x.2 = 0 then (0, (3, cu, idn, now, pc, p0, p1, S, id, st, cb, gr)) else if 8 < x.2 ∨ dcl vr V x.2 = false then (2, (stg, cu, idn, now, pc, p0, p1, S, id, st, cb, gr)) else if bt now (lbt x.1 x.2) = true then (3, (stg, cu, idn, now, pc, p0, p1, S, id, st, cb, gr)) else (0, (2, cu, idn, now ||| sl (lbt x.1 x.2), pc, p0, p1, S, id, st, cb, gr)))
      else if x.2 = 0 then (if fol V vr fa C cl cu now pc (st p0) (st p1) = true then (0, (1, cu, idn, now, pc, p0, p1, S + 1, up id S idn, up st S now, up cb S cu, up gr S (gsu pc gr p0 p1 ||| sl S))) else (5, (stg, cu, idn, now, pc, p0, p1, S, id, st, cb, gr)))
      else if fi id (nt x.1 x.2) S = -1 then (2, (stg, cu, idn, now, pc, p0, p1, S, id, st, cb, gr))
      else if ¬ cb (fi id (nt x.1 x.2) S).toNatClampNeg = cu then (2, (stg, cu, idn, now, pc, p0, p1, S, id, st, cb, gr))
      else if pc = 2 then (4, (stg, cu, idn, now, pc, p0, p1, S, id, st, cb, gr))
      else (0, (3, cu, idn, now, pc + 1, if pc = 0 then (fi id (nt x.1 x.2) S).toNatClampNeg else p0, if pc = 1 then (fi id (nt x.1 x.2) S).toNatClampNeg else p1, S, id, st, cb, gr))
def okQ (V : Nat) (vr : Nat → Nat) (s : ts) : Prop := match s with
  | (stg, _, idn, now, pc, p0, p1, S, id, st, _, _) => stg ≤ 3 ∧ okP V vr S id st ∧ (2 ≤ stg → okS V vr now ∧ 1 ≤ idn ∧ idn ≤ 99 ∧ S < 24 ∧ (∀ i, i < S → id i ≠ idn) ∧ pc ≤ 2 ∧ (0 < pc → p0 < S) ∧ (1 < pc → p1 < S))
def cQ (p : Nat) (s : ts) (w : qw) : Prop := match s with
  | (stg, cu, idn, now, pc, p0, p1, S, id, st, cb, gr) => (∃ (c i l q : Int32) (pr : Nat → Int32), w[7]? = some (.inr (5, [.inr (some 8), .inr (some 13), .inr (some p), .inl (nI stg), .inl c, .inl i, .inl l, .inl q])) ∧ w[13]? = some (.inl (0, 2, pr)) ∧ (1 ≤ stg → c = qb cu) ∧ (2 ≤ stg → i = nI idn ∧ l = now ∧ q = nI pc ∧ (0 < pc → pr 0 = nI p0) ∧ (1 < pc → pr 1 = nI p1))) ∧ iP w S id st cb gr
def kP (s : ts) (w : qw) : Prop := match s with
  | (_, _, _, _, _, _, _, S, id, st, cb, gr) => iP w S id st cb gr
theorem m1_n : ∀ x : Int32, x = -1 → x < 0 := by intro x h; subst h; decide
theorem nI_m1 {j : Nat} (h : j < 2 ^ 31) : ¬ nI j = -1 := fun z => absurd (m1_n _ z) (nI_pos h)
section
variable {w : qw} {n p V C : Nat} {vr : Nat → Nat} {fa : Nat → Bool} {cl : Nat → Int32}
theorem il_fr {w3 : qw} {S E nu no x r : Int32} (h1 : w[1]? = some (wo1 n S E nu no)) (e1 : w3[1]? = w[1]?) (e2 : w3[2]? = w[2]?) (h : f_Words_isLetter w 1 x = some (r, w)) : f_Words_isLetter w3 1 x = some (r, w3) := by
  have h3 := e1.trans h1
  have hq : q_ld w3 2 1 S = q_ld w 2 1 S := by unfold q_ld; rw [e2]
  unfold f_Words_isLetter at h ⊢
  rw [g_b1 (g_i h1 rfl), g_b1 (g_i h1 rfl), g_b1 (g_r h1 rfl), g_b1 (g_i h1 rfl)] at h
  rw [g_b1 (g_i h3 rfl), g_b1 (g_i h3 rfl), g_b1 (g_r h3 rfl), g_b1 (g_i h3 rfl), hq]
  by_cases c : E - S = 1
  · rw [if_pos c] at h ⊢
    cases hl : q_ld w 2 1 S with
    | none =>
      rw [hl] at h
      exact q_nn (show (none : Option (Int32 × qw)) = some (r, w) from h)
    | some v =>
      rw [hl] at h
      have h : (if v = x then q_ob (q_z 1) (some (1, w)) else q_ob (q_z 0) (some (0, w))) = some (r, w) := h
      show (if v = x then q_ob (q_z 1) (some (1, w3)) else q_ob (q_z 0) (some (0, w3))) = some (r, w3)
      by_cases c2 : v = x
      · rw [if_pos c2] at h ⊢
        have h : some ((1 : Int32), w) = some (r, w) := h
        cases h
        rfl
      · rw [if_neg c2] at h ⊢
        have h : some ((0 : Int32), w) = some (r, w) := h
        cases h
        rfl
  · rw [if_neg c] at h ⊢
    have h : some ((0 : Int32), w) = some (r, w) := h
    cases h
    rfl
theorem rdT_ok {s : ts} {t : tk} (hF : okF V vr) (h : okQ V vr s) : okP V vr (rdT V vr fa C cl s t).2.2.2.2.2.2.2.2.1 (rdT V vr fa C cl s t).2.2.2.2.2.2.2.2.2.1 (rdT V vr fa C cl s t).2.2.2.2.2.2.2.2.2.2.1 ∧ ((rdT V vr fa C cl s t).1 = 0 → okQ V vr (rdT V vr fa C cl s t).2) := by
  obtain ⟨stg, cu, idn, now, pc, p0, p1, S, id, st, cb, gr⟩ := s
  obtain ⟨h1, h2, h3⟩ := h
  cases t with
  | inr c =>
    show okP V vr (if stg = 0 ∧ (c = 114 ∨ c = 115) then _ else _ : Int32 × ts).2.2.2.2.2.2.2.2.1 (if stg = 0 ∧ (c = 114 ∨ c = 115) then _ else _ : Int32 × ts).2.2.2.2.2.2.2.2.2.1 (if stg = 0 ∧ (c = 114 ∨ c = 115) then _ else _ : Int32 × ts).2.2.2.2.2.2.2.2.2.2.1 ∧ ((if stg = 0 ∧ (c = 114 ∨ c = 115) then _ else _ : Int32 × ts).1 = 0 → okQ V vr (if stg = 0 ∧ (c = 114 ∨ c = 115) then _ else _ : Int32 × ts).2)
    by_cases c1 : stg = 0 ∧ (c = 114 ∨ c = 115)
    · rw [if_pos c1]
      exact ⟨h2, fun _ => ⟨by omega, h2, fun z => by omega⟩⟩
    · rw [if_neg c1]
      exact ⟨h2, fun z => absurd z x1⟩
  | inl x =>
    obtain ⟨sg, d⟩ := x
    unfold rdT
    dsimp only
    by_cases c0 : stg = 0
    · rw [if_pos c0]
      exact ⟨h2, fun z => absurd z x1⟩
    · rw [if_neg c0]
      by_cases c1 : stg = 1
      · rw [if_pos c1]
        by_cases c2 : sg = true ∨ d = 0
        · rw [if_pos c2]
          exact ⟨h2, fun z => absurd z x1⟩
        · rw [if_neg c2]
          by_cases c3 : 99 < d ∨ ¬ fi id (nI d) S = -1
          · rw [if_pos c3]
            exact ⟨h2, fun z => absurd z x2⟩
          · rw [if_neg c3]
            by_cases c4 : S = 24
            · rw [if_pos c4]
              exact ⟨h2, fun z => absurd z x4⟩
            · rw [if_neg c4]
              have hS := h2.1
              refine ⟨h2, fun _ => ⟨by omega, h2, fun _ => ⟨okS_0, by omega, by omega, by omega, fun i hi e => ?_, by omega, fun z => absurd z (Nat.lt_irrefl _), fun z => absurd z (by omega)⟩⟩⟩
              rcases fi_in (id := id) (x := nI d) S with ⟨_, q2⟩ | ⟨j, q1, q2, _⟩
              · exact q2 i hi (by rw [e])
              · exact c3 (Or.inr (by rw [q2]; exact nI_m1 (by omega)))
      · rw [if_neg c1]
        obtain ⟨g1, g2, g3, g4, g5, g6, g7, g8⟩ := h3 (by omega)
        by_cases c2 : stg = 2
        · rw [if_pos c2]
          by_cases c3 : d = 0
          · rw [if_pos c3]
            exact ⟨h2, fun _ => ⟨by omega, h2, fun _ => ⟨g1, g2, g3, g4, g5, g6, g7, g8⟩⟩⟩
          · rw [if_neg c3]
            by_cases c4 : 8 < d ∨ dcl vr V d = false
            · rw [if_pos c4]
              exact ⟨h2, fun z => absurd z x2⟩
            · rw [if_neg c4]
              by_cases c5 : bt now (lbt sg d) = true
              · rw [if_pos c5]
                exact ⟨h2, fun z => absurd z x3⟩
              · rw [if_neg c5]
                have hd : dcl vr V d = true := by
                  cases h9 : dcl vr V d
                  · exact absurd (Or.inr h9) c4
                  · rfl
                exact ⟨h2, fun _ => ⟨by omega, h2, fun _ => ⟨okS_or g1 (by omega) (by omega) hd, g2, g3, g4, g5, g6, g7, g8⟩⟩⟩
        · rw [if_neg c2]
          by_cases c3 : d = 0
          · rw [if_pos c3]
            by_cases c4 : fol V vr fa C cl cu now pc (st p0) (st p1) = true
            · rw [if_pos c4]
              have hn : okP V vr (S + 1) (up id S idn) (up st S now) := by
                refine ⟨by omega, fun i hi => ?_, fun i j hi hj e => ?_, fun i hi => ?_⟩
                · by_cases e : i = S
                  · rw [e, up_s]; omega
                  · rw [up_n e]; exact h2.2.1 i (by omega)
                · by_cases ei : i = S
                  · by_cases ej : j = S
                    · omega
                    · rw [ei, up_s, up_n ej] at e
                      exact absurd e.symm (g5 j (by omega))
                  · by_cases ej : j = S
                    · rw [ej, up_s, up_n ei] at e
                      exact absurd e (g5 i (by omega))
                    · rw [up_n ei, up_n ej] at e
                      exact h2.2.2.1 i j (by omega) (by omega) e
                · by_cases e : i = S
                  · rw [e, up_s]; exact g1
                  · rw [up_n e]; exact h2.2.2.2 i (by omega)
              exact ⟨hn, fun _ => ⟨by omega, hn, fun z => absurd z (by omega)⟩⟩
            · rw [if_neg c4]
              exact ⟨h2, fun z => absurd z x5⟩
          · rw [if_neg c3]
            by_cases c4 : fi id (nt sg d) S = -1
            · rw [if_pos c4]
              exact ⟨h2, fun z => absurd z x2⟩
            · rw [if_neg c4]
              by_cases c5 : ¬ cb (fi id (nt sg d) S).toNatClampNeg = cu
              · rw [if_pos c5]
                exact ⟨h2, fun z => absurd z x2⟩
              · rw [if_neg c5]
                by_cases c6 : pc = 2
                · rw [if_pos c6]
                  exact ⟨h2, fun z => absurd z x4⟩
                · rw [if_neg c6]
                  have hk : (fi id (nt sg d) S).toNatClampNeg < S := by
                    rcases fi_in (id := id) (x := nt sg d) S with ⟨q1, _⟩ | ⟨j, q1, q2, _⟩
                    · exact absurd q1 c4
                    · rw [q2, nI_clamp (by omega)]
                      exact q1
                  refine ⟨h2, fun _ => ⟨by omega, h2, fun _ => ⟨g1, g2, g3, g4, g5, by omega, fun _ => ?_, fun z => ?_⟩⟩⟩
                  · by_cases e : pc = 0
                    · rw [if_pos e]; exact hk
                    · rw [if_neg e]; exact g7 (by omega)
                  · rw [if_pos (by omega)]; exact hk
end
