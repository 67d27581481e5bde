/-! one step of the formula's reader: (phase: 0 blocks, 1 in a block, 2 clauses; V, vr, fa, C, cl: what was read; al: the block's kind; mn: how many stand in the block or clause; now: the clause's set) -/
theorem x1 : ¬ (1 : Int32) = 0 := by decide
theorem x2 : ¬ (2 : Int32) = 0 := by decide
theorem x3 : ¬ (3 : Int32) = 0 := by decide
theorem x4 : ¬ (4 : Int32) = 0 := by decide
theorem x5 : ¬ (5 : Int32) = 0 := by decide
abbrev ps : Type := Nat × Nat × (Nat → Nat) × (Nat → Bool) × Nat × (Nat → Int32) × Bool × Nat × Int32
def rdB (V : Nat) (vr : Nat → Nat) (fa : Nat → Bool) (C : Nat) (cl : Nat → Int32) (al : Bool) (mn : Nat) (now : Int32) (sg : Bool) (d : Nat) : Int32 × ps :=
  if d = 0 then (if mn = 0 then (1, (1, V, vr, fa, C, cl, al, mn, now)) else (0, (0, V, vr, fa, C, cl, al, mn, now)))
  else if sg = true then (1, (1, V, vr, fa, C, cl, al, mn, now))
  else if 8 < d ∨ dcl vr V d = true then (2, (1, V, vr, fa, C, cl, al, mn, now))
  else (0, (1, V + 1, up vr V d, up fa V al, C, cl, al, mn + 1, now))
def rdC (V : Nat) (vr : Nat → Nat) (fa : Nat → Bool) (C : Nat) (cl : Nat → Int32) (al : Bool) (mn : Nat) (now : Int32) (sg : Bool) (d : Nat) : Int32 × ps :=
  if d = 0 then (if C = 12 then (4, (2, V, vr, fa, C, cl, al, mn, now)) else (0, (2, V, vr, fa, C + 1, up cl C now, al, 0, 0)))
  else if 8 < d ∨ dcl vr V d = false then (2, (2, V, vr, fa, C, cl, al, mn, now))
  else if bt now (lbt sg d) = true ∨ bt now (lbt (!sg) d) = true then (3, (2, V, vr, fa, C, cl, al, mn, now))
  else (0, (2, V, vr, fa, C, cl, al, mn + 1, now ||| sl (lbt sg d)))
def rdF (s : ps) (t : tk) : Int32 × ps := match s with
  | (ph, V, vr, fa, C, cl, al, mn, now) => match t with
    | .inr c => if ph = 0 ∧ (c = 97 ∨ c = 101) then (0, (1, V, vr, fa, C, cl, decide (c = 97), 0, now)) else (1, (ph, V, vr, fa, C, cl, al, mn, now))
    | .inl x => if ph = 1 then rdB V vr fa C cl al mn now x.1 x.2 else if ph = 2 then rdC V vr fa C cl al mn now x.1 x.2 else rdC V vr fa C cl al 0 0 x.1 x.2
def okR (s : ps) : Prop := match s with
  | (ph, V, vr, _, C, cl, _, mn, now) => ph ≤ 2 ∧ okF V vr ∧ okC V vr C cl ∧ (ph = 2 → okS V vr now ∧ (mn = 0 ↔ now = 0))
def cR (dr : Nat) (s : ps) (w : qw) : Prop := match s with
  | (ph, V, vr, fa, C, cl, al, mn, now) => (∃ b3 b4, w[3]? = some (.inr (3, [.inr (some dr), .inl (qb (decide (ph = 0))), .inl (qb (decide (ph = 1))), .inl b3, .inl b4, .inl (if ph = 2 then now else 0)])) ∧ (ph = 1 → b3 = qb (decide (0 < mn)) ∧ b4 = qb al)) ∧ iF w dr V vr fa C cl
section
variable {w : qw} {n dr V C mn d : Nat} {vr : Nat → Nat} {fa : Nat → Bool} {cl : Nat → Int32} {al sg : Bool} {now : Int32}
theorem b_and_or (x : Int32) {a b : Nat} (ha : a < 32) (hb : b < 32) : x &&& (sl a ||| sl b) = 0 ↔ ¬ (bt x a = true ∨ bt x b = true) := by
  constructor
  · intro h hh
    have h1 := congrArg (fun y => bt y a) h
    have h2 := congrArg (fun y => bt y b) h
    simp only [b_and, b_or, b_sl a ha a ha, b_sl b hb a ha, b_sl a ha b hb, b_sl b hb b hb, b_0] at h1 h2
    rcases hh with hh | hh
    · rw [hh] at h1
      simp at h1
    · rw [hh] at h2
      simp at h2
  · intro h
    refine b_ext (fun i hi => ?_)
    rw [b_and, b_or, b_sl a ha i hi, b_sl b hb i hi, b_0]
    by_cases e1 : i = a
    · subst e1
      cases hx : bt x i
      · rfl
      · exact absurd (Or.inl hx) h
    · by_cases e2 : i = b
      · subst e2
        cases hx : bt x i
        · rfl
        · exact absurd (Or.inr hx) h
      · simp [e1, e2]
theorem sl_ne {k : Nat} (x : Int32) (hk : k < 32) : ¬ x ||| sl k = 0 := by
  intro h
  have h1 := congrArg (fun y => bt y k) h
  simp only [b_or, b_sl k hk k hk, b_0] at h1
  simp at h1
theorem okS_0 : okS V vr 0 := fun i hi h => by rw [b_0] at h; cases h
theorem okS_or {x : Int32} (h : okS V vr x) (h1 : 1 ≤ d) (h2 : d ≤ 8) (hd : dcl vr V d = true) : okS V vr (x ||| sl (lbt sg d)) := by
  intro i hi hb
  have hl := lbt_lt sg (d := d) h2
  rw [b_or, b_sl _ (by omega) i hi, Bool.or_eq_true, decide_eq_true_eq] at hb
  rcases hb with hb | hb
  · exact h i hi hb
  · subst hb
    obtain ⟨k, h3, h4⟩ := (dcl_iff V).mp hd
    refine ⟨hl, k, h3, ?_⟩
    rw [h4]
    unfold lbt
    cases sg
    · show d = (d - 1) % 8 + 1
      omega
    · show d = (d + 7) % 8 + 1
      omega
theorem okS_up {x : Int32} (h : okS V vr x) : okS (V + 1) (up vr V d) x := by
  intro i hi hb
  obtain ⟨h1, k, h2, h3⟩ := h i hi hb
  exact ⟨h1, k, by omega, by rw [up_n (by omega)]; exact h3⟩
theorem okF_up (h : okF V vr) (h1 : 1 ≤ d) (h2 : d ≤ 8) (hd : dcl vr V d = false) : okF (V + 1) (up vr V d) := by
  have hlt := okF_lt h ⟨h1, h2⟩ hd
  have hno : ∀ i, i < V → vr i ≠ d := fun i hi e => by
    rw [(dcl_iff V).mpr ⟨i, hi, e⟩] at hd
    cases hd
  refine ⟨by omega, fun i hi => ?_, fun i j hi hj e => ?_⟩
  · by_cases e : i = V
    · rw [e, up_s]
      omega
    · rw [up_n e]
      exact h.2.1 i (by omega)
  · by_cases ei : i = V
    · by_cases ej : j = V
      · omega
      · rw [ei, up_s, up_n ej] at e
        exact absurd e.symm (hno j (by omega))
    · by_cases ej : j = V
      · rw [ej, up_s, up_n ei] at e
        exact absurd e (hno i (by omega))
      · rw [up_n ei, up_n ej] at e
        exact h.2.2 i j (by omega) (by omega) e
theorem okC_up (h : okC V vr C cl) : okC (V + 1) (up vr V d) C cl := ⟨h.1, fun i hi => okS_up (h.2 i hi)⟩
theorem okC_add {x : Int32} (h : okC V vr C cl) (hC : C ≠ 12) (hx : okS V vr x) : okC V vr (C + 1) (up cl C x) := by
  have := h.1
  refine ⟨by omega, fun i hi => ?_⟩
  by_cases e : i = C
  · rw [e, up_s]
    exact hx
  · rw [up_n e]
    exact h.2 i (by omega)
theorem rdB_ok (hF : okF V vr) (hC : okC V vr C cl) (h0 : (rdB V vr fa C cl al mn now sg d).1 = 0) : okR (rdB V vr fa C cl al mn now sg d).2 := by
  revert h0
  unfold rdB
  by_cases c0 : d = 0
  · rw [if_pos c0]
    by_cases c1 : mn = 0
    · rw [if_pos c1]
      intro h
      exact absurd h (by first | exact x1 | exact x2 | exact x3 | exact x4 | exact x5)
    · rw [if_neg c1]
      exact fun _ => ⟨by omega, hF, hC, fun h => by omega⟩
  · rw [if_neg c0]
    by_cases c1 : sg = true
    · rw [if_pos c1]
      intro h
      exact absurd h (by first | exact x1 | exact x2 | exact x3 | exact x4 | exact x5)
    · rw [if_neg c1]
      by_cases c2 : 8 < d ∨ dcl vr V d = true
      · rw [if_pos c2]
        intro h
        exact absurd h (by first | exact x1 | exact x2 | exact x3 | exact x4 | exact x5)
      · rw [if_neg c2]
        have hd : dcl vr V d = false := by
          cases h : dcl vr V d
          · rfl
          · exact absurd (Or.inr h) c2
        exact fun _ => ⟨by omega, okF_up hF (by omega) (by omega) hd, okC_up hC, fun h => by omega⟩
theorem rdC_ok (hF : okF V vr) (hC : okC V vr C cl) (hn : okS V vr now) (h0 : (rdC V vr fa C cl al mn now sg d).1 = 0) : okR (rdC V vr fa C cl al mn now sg d).2 := by
  revert h0
  unfold rdC
  by_cases c0 : d = 0
  · rw [if_pos c0]
    by_cases c1 : C = 12
    · rw [if_pos c1]
      intro h
      exact absurd h (by first | exact x1 | exact x2 | exact x3 | exact x4 | exact x5)
    · rw [if_neg c1]
      exact fun _ => ⟨by omega, hF, okC_add hC c1 hn, fun _ => ⟨okS_0, by simp⟩⟩
  · rw [if_neg c0]
    by_cases c1 : 8 < d ∨ dcl vr V d = false
    · rw [if_pos c1]
      intro h
      exact absurd h (by first | exact x1 | exact x2 | exact x3 | exact x4 | exact x5)
    · rw [if_neg c1]
      have hd : dcl vr V d = true := by
        cases h : dcl vr V d
        · exact absurd (Or.inr h) c1
        · rfl
      by_cases c2 : bt now (lbt sg d) = true ∨ bt now (lbt (!sg) d) = true
      · rw [if_pos c2]
        intro h
        exact absurd h (by first | exact x1 | exact x2 | exact x3 | exact x4 | exact x5)
      · rw [if_neg c2]
        have hl := lbt_lt sg (d := d) (by omega)
        exact fun _ => ⟨by omega, hF, hC, fun _ => ⟨okS_or hn (by omega) (by omega) hd, ⟨fun h => by omega, fun h => absurd h (sl_ne _ (by omega))⟩⟩⟩
theorem rdF_ok {s : ps} {t : tk} (h : okR s) (h0 : (rdF s t).1 = 0) : okR (rdF s t).2 := by
  obtain ⟨ph, V, vr, fa, C, cl, al, mn, now⟩ := s
  obtain ⟨h1, h2, h3, h4⟩ := h
  cases t with
  | inr c =>
    revert h0
    show (if ph = 0 ∧ (c = 97 ∨ c = 101) then _ else _ : Int32 × ps).1 = 0 → okR (if ph = 0 ∧ (c = 97 ∨ c = 101) then _ else _ : Int32 × ps).2
    by_cases c1 : ph = 0 ∧ (c = 97 ∨ c = 101)
    · rw [if_pos c1]
      exact fun _ => ⟨by omega, h2, h3, fun h => by omega⟩
    · rw [if_neg c1]
      exact fun h => absurd h (by first | exact x1 | exact x2 | exact x3 | exact x4 | exact x5)
  | inl x =>
    revert h0
    show (if ph = 1 then _ else _ : Int32 × ps).1 = 0 → okR (if ph = 1 then _ else _ : Int32 × ps).2
    by_cases c1 : ph = 1
    · rw [if_pos c1]
      exact rdB_ok h2 h3
    · rw [if_neg c1]
      by_cases c2 : ph = 2
      · rw [if_pos c2]
        exact rdC_ok h2 h3 (h4 c2).1
      · rw [if_neg c2]
        exact rdC_ok h2 h3 okS_0
-- the class
theorem f_block (hdr : 4 ≤ dr) (hd : d ≤ 999) (hF : okF V vr) (h3 : w[3]? = some (.inr (3, [.inr (some dr), .inl (qb false), .inl (qb true), .inl (qb (decide (0 < mn))), .inl (qb al), .inl 0]))) (h : iF w dr V vr fa C cl) :
    ∃ w', f_FormulaReader_takeInBlock w 3 (nt sg d) = some ((rdB V vr fa C cl al mn now sg d).1, w') ∧ qfr [3, dr, dr + 1, dr + 2] w w' ∧ iR w' dr ∧ iD w' dr ∧ ((rdB V vr fa C cl al mn now sg d).1 = 0 → cR dr (rdB V vr fa C cl al mn now sg d).2 w') := by
  have hz := nt_int sg (d := d) (by omega)
  have hlt := g_lt h3
  have hR : iR w dr := ⟨_, _, _, _, _, h3⟩
  unfold f_FormulaReader_takeInBlock rdB
  rw [z_le (show (0 : Int32).toInt = 0 by decide) hz, z_eq hz (show (0 : Int32).toInt = 0 by decide), z_lt (show (8 : Int32).toInt = 8 by decide) hz]
  by_cases c0 : d = 0
  · have k1 : zt sg d = 0 := by subst c0; cases sg <;> rfl
    rw [if_pos (by omega), if_pos k1, if_pos c0, g_ob (g_is h3)]
    unfold f_FormulaReader_endBlock
    rw [g_b1 (g_i h3 rfl)]
    by_cases c1 : mn = 0
    · rw [decide_eq_false (by omega), if_pos (show qb false = 0 from rfl), g_b2 rfl, if_pos c1]
      exact ⟨w, rfl, qfr.refl, hR, h.D, fun z => absurd z (by first | exact x1 | exact x2 | exact x3 | exact x4 | exact x5)⟩
    · rw [decide_eq_true (by omega), if_neg (by decide), g_ob q_z0, g_b1 (g_p h3 rfl), g_ob q_z1, g_b1 (g_p (g_ss hlt) rfl), g_b2 rfl, List.set_set, if_neg c1]
      have hf : qfr [3] w (w.set 3 (.inr (3, [.inr (some dr), .inl 1, .inl 0, .inl (qb (decide (0 < mn))), .inl (qb al), .inl 0]))) := qfr.refl.set (by decide)
      have hi := h.fr hf (by simp; omega) (by simp; omega) (by simp; omega)
      exact ⟨_, rfl, hf.mono (by simp), ⟨_, _, _, _, _, g_ss hlt⟩, hi.D, fun _ => ⟨⟨_, _, g_ss hlt, fun z => by omega⟩, hi⟩⟩
  · rw [if_neg c0]
    cases sg with
    | true =>
      rw [zt_n, if_neg (by omega), if_pos rfl]
      exact ⟨w, rfl, qfr.refl, hR, h.D, fun z => absurd z (by first | exact x1 | exact x2 | exact x3 | exact x4 | exact x5)⟩
    | false =>
      rw [zt_p, if_pos (show (0 : Int) ≤ (d : Int) by omega), if_neg (show ¬ (d : Int) = 0 by omega), if_neg (show ¬ (false = true) by decide)]
      by_cases c8 : 8 < d
      · rw [if_pos (show (8 : Int) < (d : Int) by omega), if_pos (Or.inl c8)]
        exact ⟨w, rfl, qfr.refl, hR, h.D, fun z => absurd z (by first | exact x1 | exact x2 | exact x3 | exact x4 | exact x5)⟩
      · have hh := f_hasLit hF h false hd
        have ee := h
        obtain ⟨od, oc, e1, _⟩ := ee
        rw [decide_eq_true (by omega), Bool.true_and] at hh
        rw [if_neg (show ¬ (8 : Int) < (d : Int) by omega), g_b1 (g_r h3 rfl), g_ob (g_is e1), g_b2 hh]
        by_cases c2 : dcl vr V d = true
        · rw [if_pos (Or.inr c2), c2, if_neg (by decide)]
          exact ⟨w, rfl, qfr.refl, hR, h.D, fun z => absurd z (by first | exact x1 | exact x2 | exact x3 | exact x4 | exact x5)⟩
        · have hd2 : dcl vr V d = false := by
            cases h9 : dcl vr V d
            · rfl
            · exact absurd h9 c2
          have hV8 := okF_lt hF ⟨by omega, by omega⟩ hd2
          obtain ⟨w1, g1, g2, g3⟩ := f_addv h hV8 (d := d) (by omega) (by omega) al
          have h31 : w1[3]? = _ := g2.at h3 (by simp; omega)
          have hlt1 := g_lt h31
          rw [hd2, if_pos (show qb false = 0 from rfl), g_b1 (g_r h3 rfl), g_b1 (g_i h3 rfl), g_ob (g_is e1)]
          show ∃ w', q_b1 (f_Formula_addVariable w dr (nI d) (qb al)) _ = _ ∧ _
          rw [g_b1 g1, g_ob q_z1, g_b1 (g_p h31 rfl), if_neg (by simp; omega)]
          have hf : qfr [3] w1 (w1.set 3 (.inr (3, [.inr (some dr), .inl (qb false), .inl (qb true), .inl 1, .inl (qb al), .inl 0]))) := qfr.refl.set (by decide)
          have hi := g3.fr hf (by simp; omega) (by simp; omega) (by simp; omega)
          refine ⟨_, rfl, (g2.mono (by simp)).trans (hf.mono (by simp)), ⟨_, _, _, _, _, g_ss hlt1⟩, hi.D, fun _ => ⟨⟨_, _, g_ss hlt1, fun _ => ⟨?_, rfl⟩⟩, hi⟩⟩
          rw [decide_eq_true (by omega)]
          rfl
theorem f_clause (hdr : 4 ≤ dr) (hd : d ≤ 999) (hF : okF V vr) (hC : okC V vr C cl) {b3 b4 : Int32} (h3 : w[3]? = some (.inr (3, [.inr (some dr), .inl 0, .inl 0, .inl b3, .inl b4, .inl now]))) (h : iF w dr V vr fa C cl) :
    ∃ w', f_FormulaReader_takeInClause w 3 (nt sg d) = some ((rdC V vr fa C cl al mn now sg d).1, w') ∧ qfr [3, dr, dr + 1, dr + 2] w w' ∧ iR w' dr ∧ iD w' dr ∧ ((rdC V vr fa C cl al mn now sg d).1 = 0 → cR dr (rdC V vr fa C cl al mn now sg d).2 w') := by
  have hz := nt_int sg (d := d) (by omega)
  have hlt := g_lt h3
  have hR : iR w dr := ⟨_, _, _, _, _, h3⟩
  have ee := h
  obtain ⟨od, oc, e1, _⟩ := ee
  have hc12 := hC.1
  unfold f_FormulaReader_takeInClause rdC
  rw [z_eq hz (show (0 : Int32).toInt = 0 by decide)]
  by_cases c0 : d = 0
  · have k1 : zt sg d = 0 := by subst c0; cases sg <;> rfl
    rw [if_pos k1, if_pos c0, g_ob (g_is h3)]
    unfold f_FormulaReader_endClause
    rw [g_b1 (g_r h3 rfl), g_b1 (g_i h3 rfl), g_ob (g_is e1)]
    by_cases c1 : C = 12
    · rw [g_b2 (f_addc12 h c1 now), g_b1 (g_p h3 rfl), if_pos rfl, g_b2 rfl, if_pos c1]
      have hf : qfr [3] w (w.set 3 (.inr (3, [.inr (some dr), .inl 0, .inl 0, .inl b3, .inl b4, .inl 0]))) := qfr.refl.set (by decide)
      have hi := h.fr hf (by simp; omega) (by simp; omega) (by simp; omega)
      exact ⟨_, rfl, hf.mono (by simp), ⟨_, _, _, _, _, g_ss hlt⟩, hi.D, fun z => absurd z (by first | exact x1 | exact x2 | exact x3 | exact x4 | exact x5)⟩
    · obtain ⟨w1, g1, g2, g3⟩ := f_addc h (by omega) now
      have h31 : w1[3]? = _ := g2.at h3 (by simp; omega)
      have hlt1 := g_lt h31
      rw [g_b2 g1, g_b1 (g_p h31 rfl), if_neg (by decide), g_b2 rfl, if_neg c1]
      have hf : qfr [3] w1 (w1.set 3 (.inr (3, [.inr (some dr), .inl 0, .inl 0, .inl b3, .inl b4, .inl 0]))) := qfr.refl.set (by decide)
      have hi := g3.fr hf (by simp; omega) (by simp; omega) (by simp; omega)
      exact ⟨_, rfl, (g2.mono (by simp)).trans (hf.mono (by simp)), ⟨_, _, _, _, _, g_ss hlt1⟩, hi.D, fun _ => ⟨⟨_, _, g_ss hlt1, fun z => by omega⟩, hi⟩⟩
  · have k1 : ¬ zt sg d = 0 := by
      cases sg
      · rw [zt_p]
        omega
      · rw [zt_n]
        omega
    have hh := f_hasLit hF h sg hd
    rw [if_neg k1, if_neg c0, g_b1 (g_r h3 rfl), g_ob (g_is e1), g_b2 hh]
    by_cases c1 : 8 < d ∨ dcl vr V d = false
    · have : (decide (1 ≤ d ∧ d ≤ 8) && dcl vr V d) = false := by
        rcases c1 with c1 | c1
        · rw [decide_eq_false (by omega), Bool.false_and]
        · rw [c1, Bool.and_false]
      rw [this, if_pos (show qb false = 0 from rfl), if_pos c1]
      exact ⟨w, rfl, qfr.refl, hR, h.D, fun z => absurd z (by first | exact x1 | exact x2 | exact x3 | exact x4 | exact x5)⟩
    · have hdc : dcl vr V d = true := by
        cases h9 : dcl vr V d
        · exact absurd (Or.inr h9) c1
        · rfl
      have hl1 := lbt_lt sg (d := d) (by omega)
      have hl2 := lbt_lt (!sg) (d := d) (by omega)
      rw [hdc, Bool.and_true, decide_eq_true (by omega), if_neg (by decide), if_neg (by rw [← hdc]; exact c1), g_b1 (g_i h3 rfl), g_b2 (f_set _ _), g_b2 (f_set _ _), nt_neg, nt_bit sg (by omega) (by omega), nt_bit (!sg) (by omega) (by omega)]
      by_cases c2 : bt now (lbt sg d) = true ∨ bt now (lbt (!sg) d) = true
      · rw [if_neg (fun z => (b_and_or now (by omega) (by omega)).mp z c2), if_pos c2]
        exact ⟨w, rfl, qfr.refl, hR, h.D, fun z => absurd z (by first | exact x1 | exact x2 | exact x3 | exact x4 | exact x5)⟩
      · rw [if_pos ((b_and_or now (by omega) (by omega)).mpr c2), if_neg c2, g_b1 (g_i h3 rfl), g_b2 (f_set _ _), nt_bit sg (by omega) (by omega), g_b1 (g_p h3 rfl)]
        have hf : qfr [3] w (w.set 3 (.inr (3, [.inr (some dr), .inl 0, .inl 0, .inl b3, .inl b4, .inl (now ||| sl (lbt sg d))]))) := qfr.refl.set (by decide)
        have hi := h.fr hf (by simp; omega) (by simp; omega) (by simp; omega)
        exact ⟨_, rfl, hf.mono (by simp), ⟨_, _, _, _, _, g_ss hlt⟩, hi.D, fun _ => ⟨⟨_, _, g_ss hlt, fun z => by omega⟩, hi⟩⟩
theorem f_take {s : ps} {t : tk} (hdr : 4 ≤ dr) (ht : okT t) (hs : okR s) (h : cR dr s w) (ha : atT w n t) :
    ∃ w', f_FormulaReader_take w 3 1 = some ((rdF s t).1, w') ∧ qfr [3, dr, dr + 1, dr + 2] w w' ∧ iR w' dr ∧ iD w' dr ∧ ((rdF s t).1 = 0 → cR dr (rdF s t).2 w') := by
  obtain ⟨ph, V, vr, fa, C, cl, al, mn, now⟩ := s
  obtain ⟨hs1, hs2, hs3, hs4⟩ := hs
  obtain ⟨⟨b3, b4, h3, hb⟩, hi⟩ := h
  obtain ⟨S, E, no, h1, hno, hlt⟩ := ha
  have hl3 := g_lt h3
  have hR : iR w dr := ⟨_, _, _, _, _, h3⟩
  unfold f_FormulaReader_take f_Words_isNumber
  cases t with
  | inr c =>
    have hcc : c = 0 ∨ c = 97 ∨ c = 101 ∨ c = 114 ∨ c = 115 := ht
    have hdec : ∀ k, decide ((.inr c : tk) = .inr k) = decide (c = k) := fun k => by
      by_cases e : c = k
      · rw [e]; simp
      · rw [decide_eq_false e, decide_eq_false (fun z => e (Sum.inr.inj z))]
    have l97 := hlt 97 (Or.inl rfl)
    have l101 := hlt 101 (Or.inr (Or.inl rfl))
    rw [hdec] at l97 l101
    have l97 : f_Words_isLetter w 1 97 = some (qb (decide (c = 97)), w) := l97
    have l101 : f_Words_isLetter w 1 101 = some (qb (decide (c = 101)), w) := l101
    rw [g_ob (g_is h1), g_b1 (g_i h1 rfl), g_ob q_z0, g_b2 rfl, if_pos rfl, g_ob (g_is h3)]
    unfold f_FormulaReader_takeLetter
    rw [g_ob (g_is h1), g_b2 l97, g_b1 (g_i h3 rfl)]
    have hrd : rdF (ph, V, vr, fa, C, cl, al, mn, now) (.inr c) = if ph = 0 ∧ (c = 97 ∨ c = 101) then (0, (1, V, vr, fa, C, cl, decide (c = 97), 0, now)) else (1, (ph, V, vr, fa, C, cl, al, mn, now)) := rfl
    rw [hrd]
    by_cases c0 : ph = 0
    · subst c0
      have last : ∀ b : Bool, lj_FormulaReader_takeLetter_29 3 (qb b) w = some (0, w.set 3 (.inr (3, [.inr (some dr), .inl 0, .inl 1, .inl 0, .inl (qb b), .inl 0]))) := by
        intro b
        unfold lj_FormulaReader_takeLetter_29
        rw [g_ob q_z0, g_b1 (g_p h3 rfl), g_ob q_z1, g_b1 (g_p (g_ss hl3) rfl), List.set_set, g_ob q_z0, g_b1 (g_p (g_ss hl3) rfl), List.set_set, g_ob (qb_z b), g_b1 (g_p (g_ss hl3) rfl), List.set_set]
        rfl
      have fin : ∀ b : Bool, ∃ w', (some (0, w.set 3 (.inr (3, [.inr (some dr), .inl 0, .inl 1, .inl 0, .inl (qb b), .inl 0]))) : Option (Int32 × qw)) = some (0, w') ∧ qfr [3, dr, dr + 1, dr + 2] w w' ∧ iR w' dr ∧ iD w' dr ∧ ((0 : Int32) = 0 → cR dr (1, V, vr, fa, C, cl, b, 0, now) w') := by
        intro b
        have hf : qfr [3] w (w.set 3 (.inr (3, [.inr (some dr), .inl 0, .inl 1, .inl 0, .inl (qb b), .inl 0]))) := qfr.refl.set (by decide)
        have hi2 := hi.fr hf (by simp; omega) (by simp; omega) (by simp; omega)
        exact ⟨_, rfl, hf.mono (by simp), ⟨_, _, _, _, _, g_ss hl3⟩, hi2.D, fun _ => ⟨⟨_, _, g_ss hl3, fun _ => ⟨rfl, rfl⟩⟩, hi2⟩⟩
      rw [if_neg (show ¬ qb (decide (0 = 0)) = 0 by decide)]
      by_cases c1 : c = 97
      · rw [decide_eq_true c1, if_neg (by decide), last true, g_b2 rfl, if_pos ⟨rfl, Or.inl c1⟩]
        exact fin true
      · rw [decide_eq_false c1, if_pos (show qb false = 0 from rfl), g_ob (g_is h1), g_b2 l101]
        by_cases c2 : c = 101
        · rw [decide_eq_true c2, if_neg (by decide), last false, g_b2 rfl, if_pos ⟨rfl, Or.inr c2⟩]
          exact fin false
        · rw [decide_eq_false c2, if_pos (show qb false = 0 from rfl), g_b2 rfl, if_neg (by omega)]
          exact ⟨w, rfl, qfr.refl, hR, hi.D, fun z => absurd z (by first | exact x1 | exact x2 | exact x3 | exact x4 | exact x5)⟩
    · rw [decide_eq_false c0, if_pos (show qb false = 0 from rfl), g_b2 rfl, if_neg (fun z => c0 z.1)]
      exact ⟨w, rfl, qfr.refl, hR, hi.D, fun z => absurd z (by first | exact x1 | exact x2 | exact x3 | exact x4 | exact x5)⟩
  | inl x =>
    obtain ⟨sg, d⟩ := x
    have hd : d ≤ 999 := ht
    have hno := hno _ rfl
    have hno : no = nt sg d := hno
    subst hno
    have hv : ∀ w1 : qw, w1[1]? = w[1]? → f_Words_value w1 1 = some (nt sg d, w1) := fun w1 e => by
      unfold f_Words_value
      rw [g_b1 (g_i (e.trans h1) rfl)]
    have hrd : rdF (ph, V, vr, fa, C, cl, al, mn, now) (.inl (sg, d)) = if ph = 1 then rdB V vr fa C cl al mn now sg d else if ph = 2 then rdC V vr fa C cl al mn now sg d else rdC V vr fa C cl al 0 0 sg d := rfl
    rw [g_ob (g_is h1), g_b1 (g_i h1 rfl), g_ob q_z1, g_b2 rfl, if_neg x1, g_b1 (g_i h3 rfl), hrd]
    by_cases c1 : ph = 1
    · subst c1
      obtain ⟨hb1, hb2⟩ := hb rfl
      subst hb1
      subst hb2
      obtain ⟨w2, g1, g2⟩ := f_block (sg := sg) (now := now) hdr hd hs2 h3 hi
      rw [if_neg (show ¬ qb (decide (1 = 1)) = 0 by decide), g_ob (g_is h1), g_b2 (hv w rfl), g_ob (g_is h3), g_b2 g1, if_pos rfl]
      exact ⟨w2, rfl, g2⟩
    · have hf : qfr [3] w (w.set 3 (.inr (3, [.inr (some dr), .inl 0, .inl 0, .inl b3, .inl b4, .inl (if ph = 2 then now else 0)]))) := qfr.refl.set (by decide)
      have hi2 := hi.fr hf (by simp; omega) (by simp; omega) (by simp; omega)
      have h32 : (w.set 3 (.inr (3, [.inr (some dr), .inl 0, .inl 0, .inl b3, .inl b4, .inl (if ph = 2 then now else 0)])))[3]? = some (.inr (3, [.inr (some dr), .inl 0, .inl 0, .inl b3, .inl b4, .inl (if ph = 2 then now else 0)])) := g_ss hl3
      have h12 : (w.set 3 (.inr (3, [.inr (some dr), .inl 0, .inl 0, .inl b3, .inl b4, .inl (if ph = 2 then now else 0)])))[1]? = w[1]? := g_sn (by decide)
      have hset : q_pf w 3 3 1 (.inl 0) = some (w.set 3 (.inr (3, [.inr (some dr), .inl 0, .inl 0, .inl b3, .inl b4, .inl (if ph = 2 then now else 0)]))) := by
        rw [g_p h3 rfl, decide_eq_false c1]
        rfl
      rw [decide_eq_false c1, if_pos (show qb false = 0 from rfl), g_ob q_z0, g_b1 hset, if_neg c1]
      generalize w.set 3 (.inr (3, [.inr (some dr), .inl 0, .inl 0, .inl b3, .inl b4, .inl (if ph = 2 then now else 0)])) = w4 at hf hi2 h32 h12 ⊢
      rw [g_ob (g_is (h12.trans h1)), g_b2 (hv w4 h12), g_ob (g_is h32)]
      by_cases c2 : ph = 2
      · rw [if_pos c2] at h32
        obtain ⟨w2, g1, g2, g3⟩ := f_clause (sg := sg) (al := al) (mn := mn) hdr hd hs2 hs3 h32 hi2
        rw [g_b2 g1, if_pos c2]
        exact ⟨w2, rfl, (hf.mono (by simp)).trans g2, g3⟩
      · rw [if_neg c2] at h32
        obtain ⟨w2, g1, g2, g3⟩ := f_clause (sg := sg) (al := al) (mn := 0) hdr hd hs2 hs3 h32 hi2
        rw [g_b2 g1, if_neg c2]
        exact ⟨w2, rfl, (hf.mono (by simp)).trans g2, g3⟩
/-- whether the end may stand here -/
def meF (s : ps) : Bool := match s with
  | (ph, _, _, _, _, _, _, _, now) => decide (ph = 0 ∨ (ph = 2 ∧ now = 0))
theorem f_may {s : ps} (hs : okR s) (h : cR dr s w) : f_FormulaReader_mayEnd w 3 = some (qb (meF s), w) := by
  obtain ⟨ph, V, vr, fa, C, cl, al, mn, now⟩ := s
  obtain ⟨hs1, _⟩ := hs
  obtain ⟨⟨b3, b4, h3, hb⟩, hi⟩ := h
  have hme : meF (ph, V, vr, fa, C, cl, al, mn, now) = decide (ph = 0 ∨ (ph = 2 ∧ now = 0)) := rfl
  unfold f_FormulaReader_mayEnd
  rw [g_b1 (g_i h3 rfl), hme]
  by_cases c1 : ph = 1
  · rw [decide_eq_true c1, if_neg (by decide), decide_eq_false (by omega)]
    rfl
  · rw [decide_eq_false c1, if_pos (show qb false = 0 from rfl), g_b1 (g_i h3 rfl)]
    by_cases c2 : ph = 2
    · rw [if_pos c2]
      by_cases c3 : now = 0
      · rw [if_pos c3, decide_eq_true (Or.inr ⟨c2, c3⟩)]
        rfl
      · rw [if_neg c3, decide_eq_false (fun z => z.elim (fun z => by omega) (fun z => c3 z.2))]
        rfl
    · rw [if_neg c2, if_pos rfl, decide_eq_true (Or.inl (by omega))]
      rfl
end
