/-! what a state of class and reference is: one mathematical value.  n, bf: the buffer; V, vr, fa: the variables in order and whether they are for all; C, cl: the clauses; S, id, st, cb, gr: the steps' ids, sets, kinds, grounds -/
def msk (vr : Nat → Nat) (fa : Nat → Bool) (b : Bool) : Nat → Int32
  | 0 => 0
  | k + 1 => if fa k = b then msk vr fa b k ||| sl (vr k - 1) else msk vr fa b k
def okF (V : Nat) (vr : Nat → Nat) : Prop := V ≤ 8 ∧ (∀ i, i < V → 1 ≤ vr i ∧ vr i ≤ 8) ∧ ∀ i j, i < V → j < V → vr i = vr j → i = j
def okS (V : Nat) (vr : Nat → Nat) (x : Int32) : Prop := ∀ i, i < 32 → bt x i = true → i < 16 ∧ ∃ k, k < V ∧ vr k = i % 8 + 1
def okB (n : Nat) (bf : Nat → Nat) : Prop := n ≤ 200 ∧ ∀ i, i < n → 32 ≤ bf i ∧ bf i ≤ 126
def okC (V : Nat) (vr : Nat → Nat) (C : Nat) (cl : Nat → Int32) : Prop := C ≤ 12 ∧ ∀ i, i < C → okS V vr (cl i)
def okP (V : Nat) (vr : Nat → Nat) (S : Nat) (id : Nat → Nat) (st : Nat → Int32) : Prop := S ≤ 24 ∧ (∀ i, i < S → 1 ≤ id i ∧ id i ≤ 99) ∧ (∀ i j, i < S → j < S → id i = id j → i = j) ∧ ∀ i, i < S → okS V vr (st i)
-- the class's cells
def iW (w : qw) (n : Nat) (bf : Nat → Nat) : Prop := ∃ (s1 s2 s3 s4 : Int32) (ch : Nat → Int32), w[1]? = some (.inr (6, [.inr (some 2), .inl (nI n), .inl s1, .inl s2, .inl s3, .inl s4])) ∧ w[2]? = some (.inl (1, 200, ch)) ∧ ∀ i, i < n → ch i = nI (bf i)
def iR (w : qw) (dr : Nat) : Prop := ∃ (b1 b2 b3 b4 b5 : Int32), w[3]? = some (.inr (3, [.inr (some dr), .inl b1, .inl b2, .inl b3, .inl b4, .inl b5]))
def iF (w : qw) (p V : Nat) (vr : Nat → Nat) (fa : Nat → Bool) (C : Nat) (cl : Nat → Int32) : Prop := ∃ (od oc : Nat → Int32), w[p]? = some (.inr (2, [.inr (some (p + 1)), .inr (some (p + 2)), .inl (nI V), .inl (nI C), .inl (msk vr fa true V), .inl (msk vr fa false V)])) ∧ w[p + 1]? = some (.inl (0, 8, od)) ∧ w[p + 2]? = some (.inl (0, 12, oc)) ∧ (∀ i, i < V → od i = nI (vr i)) ∧ ∀ i, i < C → oc i = cl i
def iD (w : qw) (p : Nat) : Prop := ∃ (a b c d : Int32) (od oc : Nat → Int32), w[p]? = some (.inr (2, [.inr (some (p + 1)), .inr (some (p + 2)), .inl a, .inl b, .inl c, .inl d])) ∧ w[p + 1]? = some (.inl (0, 8, od)) ∧ w[p + 2]? = some (.inl (0, 12, oc))
def iT (w : qw) : Prop := ∃ (fo : Nat) (s c i l p : Int32) (pr : Nat → Int32), w[7]? = some (.inr (5, [.inr (some 8), .inr (some 13), .inr (some fo), .inl s, .inl c, .inl i, .inl l, .inl p])) ∧ w[13]? = some (.inl (0, 2, pr))
def iP (w : qw) (S : Nat) (id : Nat → Nat) (st : Nat → Int32) (cb : Nat → Bool) (gr : Nat → Int32) : Prop := ∃ (a9 a10 a11 a12 : Nat → Int32), w[8]? = some (.inr (4, [.inr (some 9), .inr (some 10), .inr (some 11), .inr (some 12), .inl (nI S)])) ∧ w[9]? = some (.inl (0, 24, a9)) ∧ w[10]? = some (.inl (0, 24, a10)) ∧ w[11]? = some (.inl (0, 24, a11)) ∧ w[12]? = some (.inl (2, 24, a12)) ∧ ∀ i, i < S → a9 i = nI (id i) ∧ a10 i = st i ∧ a11 i = gr i ∧ a12 i = qb (cb i)
def iQ (w : qw) (cu dr : Nat) : Prop := (cu = 14 ∧ dr = 4 ∨ cu = 4 ∧ dr = 14) ∧ w[0]? = some (.inr (0, [.inr (some 1), .inr (some 3), .inr (some 7), .inr (some 8), .inr (some cu)]))
def IC (w : qw) (n : Nat) (bf : Nat → Nat) (V : Nat) (vr : Nat → Nat) (fa : Nat → Bool) (C : Nat) (cl : Nat → Int32) (S : Nat) (id : Nat → Nat) (st : Nat → Int32) (cb : Nat → Bool) (gr : Nat → Int32) : Prop :=
  ∃ cu dr, iQ w cu dr ∧ iW w n bf ∧ iR w dr ∧ iF w cu V vr fa C cl ∧ iD w dr ∧ iT w ∧ iP w S id st cb gr
-- the reference's cells
abbrev mo (size vars clauses newv newc steps state all many now own cubes f0 f1 : Int32) : qc := .inr (1, [.inr (some 18), .inl size, .inl vars, .inr (some 19), .inr (some 20), .inr (some 21), .inl clauses, .inr (some 22), .inl newv, .inr (some 23), .inr (some 24), .inr (some 25), .inl newc, .inr (some 26), .inl steps, .inr (some 27), .inr (some 28), .inr (some 29), .inr (some 30), .inl state, .inl all, .inl many, .inl now, .inl own, .inl cubes, .inl f0, .inl f1, .inr (some 31)])
/-- variables, kinds and places, as the reference keeps them -/
def rV (V : Nat) (vr : Nat → Nat) (fa : Nat → Bool) (av af ap : Nat → Int32) : Prop := (∀ i, i < V → av i = nI (vr i) ∧ af i = qb (fa i) ∧ ap (vr i) = nI i) ∧ ∀ v, v < 9 → (∀ i, i < V → vr i ≠ v) → ap v = -1
def rB (w : qw) (n : Nat) (bf : Nat → Nat) : Prop := ∃ f : Nat → Int32, w[18]? = some (.inl (0, 200, f)) ∧ ∀ i, i < n → f i = nI (bf i)
def rF (w : qw) (V : Nat) (vr : Nat → Nat) (fa : Nat → Bool) (C : Nat) (cl : Nat → Int32) : Prop := ∃ (av af ap ac : Nat → Int32), w[19]? = some (.inl (0, 8, av)) ∧ w[20]? = some (.inl (2, 8, af)) ∧ w[21]? = some (.inl (0, 9, ap)) ∧ w[22]? = some (.inl (0, 12, ac)) ∧ rV V vr fa av af ap ∧ ∀ i, i < C → ac i = cl i
def rN (w : qw) : Prop := ∃ (av af ap ac : Nat → Int32), w[23]? = some (.inl (0, 8, av)) ∧ w[24]? = some (.inl (2, 8, af)) ∧ w[25]? = some (.inl (0, 9, ap)) ∧ w[26]? = some (.inl (0, 12, ac)) ∧ ∀ i, i < 8 → q_z (af i) = true
def rP (w : qw) (S : Nat) (id : Nat → Nat) (st : Nat → Int32) (cb : Nat → Bool) (gr : Nat → Int32) : Prop := ∃ (a9 a10 a12 a11 : Nat → Int32), w[27]? = some (.inl (0, 24, a9)) ∧ w[28]? = some (.inl (0, 24, a10)) ∧ w[29]? = some (.inl (2, 24, a12)) ∧ w[30]? = some (.inl (0, 24, a11)) ∧ ∀ i, i < S → a9 i = nI (id i) ∧ a10 i = st i ∧ a11 i = gr i ∧ a12 i = qb (cb i)
def rG (w : qw) : Prop := ∃ f : Nat → Int32, w[31]? = some (.inl (2, 256, f))
def IM (w : qw) (n : Nat) (bf : Nat → Nat) (V : Nat) (vr : Nat → Nat) (fa : Nat → Bool) (C : Nat) (cl : Nat → Int32) (S : Nat) (id : Nat → Nat) (st : Nat → Int32) (cb : Nat → Bool) (gr : Nat → Int32) : Prop :=
  (∃ (newv newc state all many now own cubes f0 f1 : Int32), w[17]? = some (mo (nI n) (nI V) (nI C) newv newc (nI S) state all many now own cubes f0 f1)) ∧ rB w n bf ∧ rF w V vr fa C cl ∧ rN w ∧ rP w S id st cb gr ∧ rG w
-- numbers
theorem i_lt {α : Type} {x y : Int32} {a b : Nat} {p q : α} (hx : x = nI a) (hy : y = nI b) (ha : a < 2 ^ 31) (hb : b < 2 ^ 31) : (if x < y then p else q) = if a < b then p else q := by
  subst hx; subst hy
  by_cases h : a < b
  · rw [if_pos h, if_pos ((nI_ltI ha hb).mpr h)]
  · rw [if_neg h, if_neg (fun z => h ((nI_ltI ha hb).mp z))]
theorem i_le {α : Type} {x y : Int32} {a b : Nat} {p q : α} (hx : x = nI a) (hy : y = nI b) (ha : a < 2 ^ 31) (hb : b < 2 ^ 31) : (if x ≤ y then p else q) = if a ≤ b then p else q := by
  subst hx; subst hy
  by_cases h : a ≤ b
  · rw [if_pos h, if_pos ((nI_leI ha hb).mpr h)]
  · rw [if_neg h, if_neg (fun z => h ((nI_leI ha hb).mp z))]
theorem i_eq {α : Type} {x y : Int32} {a b : Nat} {p q : α} (hx : x = nI a) (hy : y = nI b) (ha : a < 2 ^ 31) (hb : b < 2 ^ 31) : (if x = y then p else q) = if a = b then p else q := by
  subst hx; subst hy
  by_cases h : a = b
  · rw [if_pos h, if_pos ((nI_eq ha hb).mpr h)]
  · rw [if_neg h, if_neg (fun z => h ((nI_eq ha hb).mp z))]
theorem n_lt {a b : Nat} (ha : a < 2 ^ 31) (hb : b < 2 ^ 31) : (nI a < nI b) = (a < b) := propext (nI_ltI ha hb)
theorem n_le {a b : Nat} (ha : a < 2 ^ 31) (hb : b < 2 ^ 31) : (nI a ≤ nI b) = (a ≤ b) := propext (nI_leI ha hb)
theorem n_eq {a b : Nat} (ha : a < 2 ^ 31) (hb : b < 2 ^ 31) : (nI a = nI b) = (a = b) := propext (nI_eq ha hb)
section
variable {w : qw} {n V C S : Nat} {bf vr id : Nat → Nat} {fa cb : Nat → Bool} {cl st gr : Nat → Int32}
/-- an answer by a place: below the number, else BAD -/
def sp_at (N : Nat) (f : Nat → Int32) (x : Int32) : Int32 := if x < 0 then -1 else if x < nI N then f x.toNatClampNeg else -1
theorem sp_lo {N : Nat} {f : Nat → Int32} {x : Int32} (h : x < 0) : sp_at N f x = -1 := if_pos h
theorem sp_in {N : Nat} {f : Nat → Int32} {j : Nat} (h : j < N) (hN : N < 2 ^ 31) : sp_at N f (nI j) = f j := by
  unfold sp_at
  rw [if_neg (nI_pos (by omega)), if_pos (nI_lt h hN), nI_clamp (by omega)]
theorem sp_hi {N : Nat} {f : Nat → Int32} {j : Nat} (h : N ≤ j) (hj : j < 2 ^ 31) : sp_at N f (nI j) = -1 := by
  unfold sp_at
  rw [if_neg (nI_pos (by omega)), if_neg (nI_nlt h hj)]
theorem m_variables (h : IM w n bf V vr fa C cl S id st cb gr) : f_MO_variables w 17 = some (nI V, w) := by
  obtain ⟨⟨_, _, _, _, _, _, _, _, _, _, h17⟩, _⟩ := h
  unfold f_MO_variables
  rw [g_b1 (g_i h17 rfl)]
theorem m_clauses (h : IM w n bf V vr fa C cl S id st cb gr) : f_MO_clauses w 17 = some (nI C, w) := by
  obtain ⟨⟨_, _, _, _, _, _, _, _, _, _, h17⟩, _⟩ := h
  unfold f_MO_clauses
  rw [g_b1 (g_i h17 rfl)]
theorem m_steps (h : IM w n bf V vr fa C cl S id st cb gr) : f_MO_steps w 17 = some (nI S, w) := by
  obtain ⟨⟨_, _, _, _, _, _, _, _, _, _, h17⟩, _⟩ := h
  unfold f_MO_steps
  rw [g_b1 (g_i h17 rfl)]
theorem c_variables (h : IC w n bf V vr fa C cl S id st cb gr) : f_QP_variables w 0 = some (nI V, w) := by
  obtain ⟨cu, dr, ⟨_, h0⟩, _, _, ⟨od, oc, hF, _⟩, _⟩ := h
  unfold f_QP_variables
  rw [g_b1 (g_r h0 rfl), g_b1 (g_i hF rfl)]
theorem c_clauses (h : IC w n bf V vr fa C cl S id st cb gr) : f_QP_clauses w 0 = some (nI C, w) := by
  obtain ⟨cu, dr, ⟨_, h0⟩, _, _, ⟨od, oc, hF, _⟩, _⟩ := h
  unfold f_QP_clauses
  rw [g_b1 (g_r h0 rfl), g_b1 (g_i hF rfl)]
theorem c_steps (h : IC w n bf V vr fa C cl S id st cb gr) : f_QP_steps w 0 = some (nI S, w) := by
  obtain ⟨cu, dr, ⟨_, h0⟩, _, _, _, _, _, ⟨a9, a10, a11, a12, hp, _⟩⟩ := h
  unfold f_QP_steps
  rw [g_b1 (g_r h0 rfl), g_b1 (g_i hp rfl)]
theorem m_clause (hC : okC V vr C cl) (h : IM w n bf V vr fa C cl S id st cb gr) (x : Int32) : f_MO_clause w 17 x = some (sp_at C cl x, w) := by
  obtain ⟨⟨_, _, _, _, _, _, _, _, _, _, h17⟩, _, ⟨av, af, ap, ac, _, _, _, h22, _, hcl⟩, _⟩ := h
  have hc := hC.1
  unfold f_MO_clause
  by_cases hx : x < 0
  · rw [if_pos hx, sp_lo hx]
  · obtain ⟨j, hj, rfl⟩ := nI_of hx
    rw [if_neg hx, g_b1 (g_i h17 rfl), i_le rfl rfl (by omega) hj]
    by_cases hj2 : C ≤ j
    · rw [if_pos hj2, sp_hi hj2 hj]
    · rw [if_neg hj2, g_b1 (g_r h17 rfl), g_b1 (g_l h22 (by omega) (by omega)), sp_in (by omega) (by omega), hcl j (by omega)]
theorem c_clause (hC : okC V vr C cl) (h : IC w n bf V vr fa C cl S id st cb gr) (x : Int32) : f_QP_clause w 0 x = some (sp_at C cl x, w) := by
  obtain ⟨cu, dr, ⟨_, h0⟩, _, _, ⟨od, oc, hF, h1, h2, _, hcl⟩, _⟩ := h
  have hc := hC.1
  unfold f_QP_clause
  by_cases hx : x < 0
  · rw [if_pos hx, sp_lo hx]
  · obtain ⟨j, hj, rfl⟩ := nI_of hx
    rw [if_neg hx, g_b1 (g_r h0 rfl), g_b1 (g_i hF rfl), i_lt rfl rfl hj (by omega)]
    by_cases hj2 : j < C
    · rw [if_pos hj2, g_b1 (g_r h0 rfl), g_b1 (g_r hF rfl), g_b1 (g_l h2 (by omega) (by omega)), sp_in hj2 (by omega), hcl j hj2]
    · rw [if_neg hj2, sp_hi (by omega) hj]
theorem c_has (hP : okP V vr S id st) (h : iP w S id st cb gr) (x : Int32) : f_Proof_has w 8 x = some (if x < 0 then 0 else if x < nI S then 1 else 0, w) := by
  obtain ⟨a9, a10, a11, a12, hp, _⟩ := h
  have hs := hP.1
  unfold f_Proof_has
  by_cases hx : x < 0
  · rw [if_pos hx, if_pos hx]
    rfl
  · obtain ⟨j, hj, rfl⟩ := nI_of hx
    rw [if_neg hx, if_neg hx, g_b1 (g_i hp rfl), i_le rfl rfl (by omega) hj, i_lt rfl rfl hj (by omega)]
    by_cases hj2 : S ≤ j
    · rw [if_pos hj2, if_neg (by omega)]
      rfl
    · rw [if_neg hj2, if_pos (by omega)]
      rfl
theorem m_rests (hP : okP V vr S id st) (h : IM w n bf V vr fa C cl S id st cb gr) (x : Int32) : f_MO_rests w 17 x = some (sp_at S gr x, w) := by
  obtain ⟨⟨_, _, _, _, _, _, _, _, _, _, h17⟩, _, _, _, ⟨a9, a10, a12, a11, _, _, _, h30, hs⟩, _⟩ := h
  have hc := hP.1
  unfold f_MO_rests
  by_cases hx : x < 0
  · rw [if_pos hx, sp_lo hx]
  · obtain ⟨j, hj, rfl⟩ := nI_of hx
    rw [if_neg hx, g_b1 (g_i h17 rfl), i_le rfl rfl (by omega) hj]
    by_cases hj2 : S ≤ j
    · rw [if_pos hj2, sp_hi hj2 hj]
    · rw [if_neg hj2, g_b1 (g_r h17 rfl), g_b1 (g_l h30 (by omega) (by omega)), sp_in (by omega) (by omega), (hs j (by omega)).2.2.1]
theorem c_rests (hP : okP V vr S id st) (h : IC w n bf V vr fa C cl S id st cb gr) (x : Int32) : f_QP_rests w 0 x = some (sp_at S gr x, w) := by
  obtain ⟨cu, dr, ⟨_, h0⟩, _, _, _, _, _, hp⟩ := h
  have hh := c_has hP hp x
  obtain ⟨a9, a10, a11, a12, h8, _, _, h11, _, hs⟩ := hp
  have hc := hP.1
  unfold f_QP_rests
  rw [g_b1 (g_r h0 rfl), g_ob (g_is h8), g_b2 hh]
  by_cases hx : x < 0
  · rw [if_pos hx, if_pos rfl, sp_lo hx]
  · obtain ⟨j, hj, rfl⟩ := nI_of hx
    rw [if_neg hx, i_lt rfl rfl hj (by omega)]
    by_cases hj2 : j < S
    · rw [if_pos hj2, if_neg (by decide), g_b1 (g_r h0 rfl), g_b1 (g_r h8 rfl), g_b1 (g_l h11 (by omega) (by omega)), sp_in hj2 (by omega), (hs j hj2).2.2.1]
    · rw [if_neg hj2, if_pos rfl, sp_hi (by omega) hj]
theorem m_step (hP : okP V vr S id st) (h : IM w n bf V vr fa C cl S id st cb gr) (x : Int32) : f_MO_step w 17 x = some (sp_at S (fun i => if cb i then st i + 65536 else st i) x, w) := by
  obtain ⟨⟨_, _, _, _, _, _, _, _, _, _, h17⟩, _, _, _, ⟨a9, a10, a12, a11, _, h28, h29, _, hs⟩, _⟩ := h
  have hc := hP.1
  unfold f_MO_step
  by_cases hx : x < 0
  · rw [if_pos hx, sp_lo hx]
  · obtain ⟨j, hj, rfl⟩ := nI_of hx
    rw [if_neg hx, g_b1 (g_i h17 rfl), i_le rfl rfl (by omega) hj]
    by_cases hj2 : S ≤ j
    · rw [if_pos hj2, sp_hi hj2 hj]
    · have hs := hs j (by omega)
      rw [if_neg hj2, g_b1 (g_r h17 rfl), g_b1 (g_l h28 (by omega) (by omega)), g_b1 (g_r h17 rfl), g_b1 (g_l h29 (by omega) (by omega)), sp_in (by omega) (by omega), hs.2.1, hs.2.2.2]
      cases cb j
      · exact congrArg (fun z => some (z, w)) (Int32.add_zero _)
      · rfl
theorem c_step (hP : okP V vr S id st) (h : IC w n bf V vr fa C cl S id st cb gr) (x : Int32) : f_QP_step w 0 x = some (sp_at S (fun i => if cb i then st i + 65536 else st i) x, w) := by
  obtain ⟨cu, dr, ⟨_, h0⟩, _, _, _, _, _, hp⟩ := h
  have hh := c_has hP hp x
  obtain ⟨a9, a10, a11, a12, h8, _, h10, h11, h12, hs⟩ := hp
  have hc := hP.1
  unfold f_QP_step
  rw [g_b1 (g_r h0 rfl), g_ob (g_is h8), g_b2 hh]
  by_cases hx : x < 0
  · rw [if_pos hx, if_pos rfl, sp_lo hx]
  · obtain ⟨j, hj, rfl⟩ := nI_of hx
    rw [if_neg hx, i_lt rfl rfl hj (by omega)]
    by_cases hj2 : j < S
    · have hs := hs j hj2
      rw [if_pos hj2, if_neg (by decide), g_b1 (g_r h0 rfl), g_b1 (g_r h8 rfl), g_b1 (g_l h12 (by omega) (by omega)), sp_in hj2 (by omega), hs.2.2.2]
      cases cb j
      · rw [if_pos (show qb false = 0 from rfl), g_b1 (g_r h0 rfl), g_b1 (g_r h8 rfl), g_b1 (g_l h10 (by omega) (by omega)), hs.2.1]
        rfl
      · rw [if_neg (show ¬ qb true = 0 by decide), g_b1 (g_r h0 rfl), g_b1 (g_r h8 rfl), g_b1 (g_l h10 (by omega) (by omega)), hs.2.1]
        rfl
    · rw [if_neg hj2, if_pos rfl, sp_hi (by omega) hj]
end
