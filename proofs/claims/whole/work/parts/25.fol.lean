/-! what follows from what: the class's reckoning, in one place -/
def vin (x : Int32) : Int32 := (x ||| (x >>> ((8 : Int32) &&& 31))) &&& 255
def bwy (x : Int32) : Int32 := (x &&& (x >>> ((8 : Int32) &&& 31))) &&& 255
def lts (m : Int32) : Int32 := m ||| (m <<< ((8 : Int32) &&& 31))
def opp (c d m : Int32) : Int32 := ((c &&& (d >>> ((8 : Int32) &&& 31))) ||| ((c >>> ((8 : Int32) &&& 31)) &&& d)) &&& m
def bcn (x : Int32) : Int32 := match f_JI_bitCount [] x with
  | some q => q.1
  | none => 0
theorem f_bc (w : qw) (x : Int32) : f_JI_bitCount w x = some (bcn x, w) := rfl
/-- the variables behind the last one of x -/
def inn (vr : Nat → Nat) (x : Int32) : Nat → Int32 → Int32
  | 0, a => a
  | k + 1, a => if x &&& sl (vr k - 1) = 0 then inn vr x k (a ||| sl (vr k - 1)) else a
def hcl (cl : Nat → Int32) (x : Int32) : Nat → Bool
  | 0 => false
  | k + 1 => hcl cl x k || decide (cl k = x)
def rdu (vr : Nat → Nat) (V : Nat) (a m s : Int32) : Int32 := a &&& (lts (inn vr (vin a &&& m) V 0 &&& s) ^^^ (-1))
def due (a b m : Int32) : Int32 := (a ||| b) &&& (lts (opp a b m) ^^^ (-1))
def rsv (vr : Nat → Nat) (V : Nat) (now a b m s : Int32) : Bool := decide (bcn (opp a b m) = 1) && (decide (now = due a b m) && (decide (bwy (due a b m) &&& m = 0) && decide ((((vin a &&& vin b) &&& bwy (due a b m)) &&& s) &&& (inn vr (opp a b m) V 0 ^^^ (-1)) = 0)))
/-- whether the step follows from its premises' sets a, b (as many as pc) -/
def fol (V : Nat) (vr : Nat → Nat) (fa : Nat → Bool) (C : Nat) (cl : Nat → Int32) (cu : Bool) (now : Int32) (pc : Nat) (a b : Int32) : Bool :=
  if pc = 0 then (if cu then decide (bwy now = 0) && met cl now C else hcl cl now C)
  else if pc = 1 then decide (now = rdu vr V a (msk vr fa cu V) (msk vr fa (!cu) V))
  else rsv vr V now a b (msk vr fa cu V) (msk vr fa (!cu) V)
/-- the place of an id among the first k -/
def fi (id : Nat → Nat) (x : Int32) : Nat → Int32
  | 0 => -1
  | k + 1 => if nI (id k) = x then nI k else fi id x k
section
variable {w : qw} {p V C S : Nat} {vr id : Nat → Nat} {fa cb : Nat → Bool} {cl st gr : Nat → Int32}
theorem fi_in {x : Int32} : ∀ k, (fi id x k = -1 ∧ ∀ j, j < k → ¬ nI (id j) = x) ∨ ∃ j, j < k ∧ fi id x k = nI j ∧ nI (id j) = x := by
  intro k
  induction k with
  | zero => exact Or.inl ⟨rfl, fun j hj => absurd hj (Nat.not_lt_zero _)⟩
  | succ k ih =>
    unfold fi
    by_cases h : nI (id k) = x
    · rw [if_pos h]
      exact Or.inr ⟨k, by omega, rfl, h⟩
    · rw [if_neg h]
      rcases ih with ⟨h1, h2⟩ | ⟨j, h1, h2, h3⟩
      · refine Or.inl ⟨h1, fun j hj => ?_⟩
        by_cases e : j = k
        · rw [e]; exact h
        · exact h2 j (by omega)
      · exact Or.inr ⟨j, by omega, h2, h3⟩
theorem c_find (hP : okP V vr S id st) (h : iP w S id st cb gr) (x : Int32) : f_Proof_find w 8 x = some (fi id x S, w) := by
  obtain ⟨a9, a10, a11, a12, h8, h9, h10, h11, h12, hs⟩ := h
  have hS := hP.1
  have key : ∀ k m, k ≤ S → k < m → (∀ j, j < S - k → ¬ nI (id j) = x) → ll_Proof_find_2 m 8 x (nI (S - k)) w = some (fi id x S, w) := by
    intro k
    induction k with
    | zero =>
      intro m _ hm hj
      obtain ⟨m, rfl⟩ : ∃ z, m = z + 1 := ⟨m - 1, by omega⟩
      show lb_Proof_find_2 (ll_Proof_find_2 m) 8 x (nI (S - 0)) w = _
      unfold lb_Proof_find_2
      rw [g_b1 (g_i h8 rfl), i_le rfl rfl (by omega) (by omega), if_pos (by omega)]
      rcases fi_in (id := id) (x := x) S with ⟨h1, _⟩ | ⟨j, h1, _, h3⟩
      · rw [h1]
      · exact absurd h3 (hj j (by omega))
    | succ k ih =>
      intro m hk hm hj
      obtain ⟨m, rfl⟩ : ∃ z, m = z + 1 := ⟨m - 1, by omega⟩
      show lb_Proof_find_2 (ll_Proof_find_2 m) 8 x (nI (S - (k + 1))) w = _
      unfold lb_Proof_find_2
      rw [g_b1 (g_i h8 rfl), i_le rfl rfl (by omega) (by omega), if_neg (by omega), g_b1 (g_r h8 rfl), g_b1 (g_l h9 (by omega) (by omega)), (hs _ (by omega)).1]
      by_cases c : nI (id (S - (k + 1))) = x
      · rw [if_pos c]
        rcases fi_in (id := id) (x := x) S with ⟨_, h2⟩ | ⟨j, h1, h2, h3⟩
        · exact absurd c (h2 _ (by omega))
        · have h4 := hP.2.1 j h1
          have h5 := hP.2.1 (S - (k + 1)) (by omega)
          have h6 := (nI_eq (by omega) (by omega)).mp (h3.trans c.symm)
          have h7 := hP.2.2.1 j (S - (k + 1)) h1 (by omega) h6
          rw [h2, h7]
      · rw [if_neg c, nI_1, show S - (k + 1) + 1 = S - k by omega]
        exact ih m (by omega) (by omega) (fun j hj2 => by
          by_cases e : j = S - (k + 1)
          · rw [e]; exact c
          · exact hj j (by omega))
  unfold f_Proof_find
  have := key S q_fu (Nat.le_refl _) (by unfold q_fu; omega) (fun j hj => by omega)
  rw [Nat.sub_self] at this
  exact this
theorem hcl_t {x : Int32} : ∀ k j, j < k → cl j = x → hcl cl x k = true := by
  intro k
  induction k with
  | zero => exact fun j hj => absurd hj (Nat.not_lt_zero _)
  | succ k ih =>
    intro j hj h
    unfold hcl
    by_cases e : j = k
    · subst e
      rw [decide_eq_true h, Bool.or_true]
    · rw [ih j (by omega) h, Bool.true_or]
theorem f_hcl (hC : okC V vr C cl) (h : iF w p V vr fa C cl) (x : Int32) : f_Formula_hasClause w p x = some (qb (hcl cl x C), w) := by
  obtain ⟨od, oc, e1, e2, e3, e4, e5⟩ := h
  have hc := hC.1
  have key : ∀ k m, k ≤ C → k < m → hcl cl x (C - k) = false → ll_Formula_hasClause_2 m p x (nI (C - k)) w = some (qb (hcl cl x C), w) := by
    intro k
    induction k with
    | zero =>
      intro m _ hm hj
      obtain ⟨m, rfl⟩ : ∃ z, m = z + 1 := ⟨m - 1, by omega⟩
      have hj : hcl cl x C = false := hj
      show lb_Formula_hasClause_2 (ll_Formula_hasClause_2 m) p x (nI (C - 0)) w = _
      unfold lb_Formula_hasClause_2
      rw [g_b1 (g_i e1 rfl), i_le rfl rfl (by omega) (by omega), if_pos (by omega), hj]
      rfl
    | succ k ih =>
      intro m hk hm hj
      obtain ⟨m, rfl⟩ : ∃ z, m = z + 1 := ⟨m - 1, by omega⟩
      show lb_Formula_hasClause_2 (ll_Formula_hasClause_2 m) p x (nI (C - (k + 1))) w = _
      unfold lb_Formula_hasClause_2
      rw [g_b1 (g_i e1 rfl), i_le rfl rfl (by omega) (by omega), if_neg (by omega), g_b1 (g_r e1 rfl), g_b1 (g_l e3 (by omega) (by omega)), e5 _ (by omega)]
      by_cases c : cl (C - (k + 1)) = x
      · rw [if_pos c, hcl_t C (C - (k + 1)) (by omega) c]
        rfl
      · rw [if_neg c, nI_1, show C - (k + 1) + 1 = C - k by omega]
        refine ih m (by omega) (by omega) ?_
        rw [show C - k = C - (k + 1) + 1 by omega]
        show (hcl cl x (C - (k + 1)) || decide (cl (C - (k + 1)) = x)) = false
        rw [hj, decide_eq_false c]
        rfl
  unfold f_Formula_hasClause
  have := key C q_fu (Nat.le_refl _) (by unfold q_fu; omega) (by rw [Nat.sub_self]; rfl)
  rw [Nat.sub_self] at this
  exact this
theorem f_inn (hF : okF V vr) (h : iF w p V vr fa C cl) (x : Int32) : f_Formula_innerToAll w p x = some (inn vr x V 0, w) := by
  obtain ⟨od, oc, e1, e2, e3, e4, e5⟩ := h
  have hv8 := hF.1
  have key : ∀ k m a, k ≤ V → k < m → ll_Formula_innerToAll_9 m p x a (nI k - 1) w = some (inn vr x k a, w) := by
    intro k
    induction k with
    | zero =>
      intro m a _ hm
      obtain ⟨m, rfl⟩ : ∃ z, m = z + 1 := ⟨m - 1, by omega⟩
      show lb_Formula_innerToAll_9 (ll_Formula_innerToAll_9 m) p x a (nI 0 - 1) w = _
      unfold lb_Formula_innerToAll_9
      rw [if_pos (by decide)]
      rfl
    | succ k ih =>
      intro m a hk hm
      obtain ⟨m, rfl⟩ : ∃ z, m = z + 1 := ⟨m - 1, by omega⟩
      have hv := hF.2.1 k (by omega)
      have hl : q_ld w (p + 1) 0 (nI k) = some (nI (vr k)) := by rw [g_l e2 (by omega) (by omega), e4 k (by omega)]
      show lb_Formula_innerToAll_9 (ll_Formula_innerToAll_9 m) p x a (nI (k + 1) - 1) w = _
      unfold lb_Formula_innerToAll_9 inn
      rw [nI_pred, if_neg (nI_pos (by omega)), g_b1 (g_r e1 rfl), g_b1 hl, g_b2 (f_set _ _), q_bit_p _ (by omega) (by omega)]
      by_cases c : x &&& sl (vr k - 1) = 0
      · rw [if_pos c, if_pos c, ← Int32.sub_eq_add_neg]
        exact ih m _ (by omega) (by omega)
      · rw [if_neg c, if_neg c]
  unfold f_Formula_innerToAll
  rw [g_b1 (g_i e1 rfl)]
  exact key V q_fu 0 (Nat.le_refl _) (by unfold q_fu; omega)
/-- the trace's reader stands so: formula at p, stage s, kind cu, id, set, premises -/
def cT (w : qw) (p : Nat) (s : Int32) (cu : Bool) (id1 now : Int32) (pc p0 p1 : Nat) : Prop := ∃ pr : Nat → Int32, w[7]? = some (.inr (5, [.inr (some 8), .inr (some 13), .inr (some p), .inl s, .inl (qb cu), .inl id1, .inl now, .inl (nI pc)])) ∧ w[13]? = some (.inl (0, 2, pr)) ∧ (0 < pc → pr 0 = nI p0) ∧ (1 < pc → pr 1 = nI p1)
theorem f_main {s id1 now : Int32} {cu : Bool} {pc p0 p1 : Nat} (h : iF w p V vr fa C cl) (ht : cT w p s cu id1 now pc p0 p1) : f_TraceReader_mainVariables w 7 = some (msk vr fa cu V, w) ∧ f_TraceReader_sideVariables w 7 = some (msk vr fa (!cu) V, w) := by
  obtain ⟨od, oc, e1, _⟩ := h
  obtain ⟨pr, t7, _⟩ := ht
  unfold f_TraceReader_mainVariables f_TraceReader_sideVariables
  cases cu
  · constructor
    · rw [g_b1 (g_i t7 rfl), if_pos (show qb false = 0 from rfl), g_b1 (g_r t7 rfl), g_b1 (g_i e1 rfl)]
    · rw [g_b1 (g_i t7 rfl), if_pos (show qb false = 0 from rfl), g_b1 (g_r t7 rfl), g_b1 (g_i e1 rfl)]
      rfl
  · constructor
    · rw [g_b1 (g_i t7 rfl), if_neg (by decide), g_b1 (g_r t7 rfl), g_b1 (g_i e1 rfl)]
    · rw [g_b1 (g_i t7 rfl), if_neg (by decide), g_b1 (g_r t7 rfl), g_b1 (g_i e1 rfl)]
      rfl
theorem f_fol {s id1 now : Int32} {cu : Bool} {pc p0 p1 : Nat} (hF : okF V vr) (hC : okC V vr C cl) (hP : okP V vr S id st) (h : iF w p V vr fa C cl) (ht : cT w p s cu id1 now pc p0 p1) (hp : iP w S id st cb gr) (hpc : pc ≤ 2) (h0 : 0 < pc → p0 < S) (h1 : 1 < pc → p1 < S) : f_TraceReader_follows w 7 = some (qb (fol V vr fa C cl cu now pc (st p0) (st p1)), w) := by
  obtain ⟨hmain, hside⟩ := f_main h ht
  have hinn := fun x => f_inn hF h x
  have hmet := fun x => f_met hC h x
  have hhcl := fun x => f_hcl hC h x
  have hS := hP.1
  obtain ⟨od, oc, e1, _⟩ := h
  obtain ⟨pr, t7, t13, ta, tb⟩ := ht
  obtain ⟨a9, a10, a11, a12, h8, h9, h10, h11, h12, hs⟩ := hp
  unfold f_TraceReader_follows fol
  rw [g_b1 (g_i t7 rfl), i_eq (y := 0) (b := 0) rfl rfl (by omega) (by omega), i_eq (y := 1) (b := 1) rfl rfl (by omega) (by omega)]
  by_cases c0 : pc = 0
  · rw [if_pos c0, if_pos c0, g_b1 (g_i t7 rfl)]
    cases cu with
    | false =>
      rw [if_pos (show qb false = 0 from rfl), g_b1 (g_r t7 rfl), g_b1 (g_i t7 rfl), g_ob (g_is e1), g_b2 (hhcl now), g_ob (qb_z _)]
      rfl
    | true =>
      have hst : f_TraceReader_isStartCube w 7 = some (qb (decide (bwy now = 0) && met cl now C), w) := by
        unfold f_TraceReader_isStartCube f_QP_bothWaysIn
        rw [g_b1 (g_i t7 rfl), g_b2 rfl]
        show (if bwy now = 0 then _ else _) = _
        by_cases c : bwy now = 0
        · rw [if_pos c, g_b1 (g_r t7 rfl), g_b1 (g_i t7 rfl), g_ob (g_is e1), g_b2 (hmet now), decide_eq_true c, Bool.true_and]
          cases met cl now C <;> rfl
        · rw [if_neg c, decide_eq_false c, Bool.false_and]
          rfl
      rw [if_neg (by decide), g_ob (g_is t7), g_b2 hst, g_ob (qb_z _)]
      rfl
  · have hp0 := h0 (by omega)
    have l0 : q_ld w 13 0 0 = some (nI p0) := by
      have := g_l t13 (show 0 < 2 by omega) (by omega)
      rw [ta (by omega)] at this
      exact this
    have l1 : q_ld w 10 0 (nI p0) = some (st p0) := by rw [g_l h10 (by omega) (by omega), (hs p0 hp0).2.1]
    rw [if_neg c0, if_neg c0]
    by_cases c1 : pc = 1
    · have hrd : f_TraceReader_isReductionOf w 7 (st p0) = some (qb (decide (now = rdu vr V (st p0) (msk vr fa cu V) (msk vr fa (!cu) V))), w) := by
        unfold f_TraceReader_isReductionOf f_QP_variablesIn f_QP_literalsOf
        rw [g_b1 (g_r t7 rfl), g_b2 rfl, g_ob (g_is t7), g_b2 hmain, g_ob (g_is e1), g_b2 (hinn _), g_b1 (g_i t7 rfl), g_ob (g_is t7), g_b2 hside, g_b2 rfl]
        show (if now = rdu vr V (st p0) (msk vr fa cu V) (msk vr fa (!cu) V) then _ else _) = _
        by_cases c : now = rdu vr V (st p0) (msk vr fa cu V) (msk vr fa (!cu) V)
        · rw [if_pos c, decide_eq_true c]
          rfl
        · rw [if_neg c, decide_eq_false c]
          rfl
      rw [if_pos c1, if_pos c1, g_b1 (g_r t7 rfl), g_b1 (g_r h8 rfl), g_b1 (g_r t7 rfl), g_b1 l0, g_b1 l1, g_ob (g_is t7), g_b2 hrd, g_ob (qb_z _)]
    · have hp1 := h1 (by omega)
      have l2 : q_ld w 13 0 1 = some (nI p1) := by
        have := g_l t13 (show 1 < 2 by omega) (by omega)
        rw [tb (by omega)] at this
        exact this
      have l3 : q_ld w 10 0 (nI p1) = some (st p1) := by rw [g_l h10 (by omega) (by omega), (hs p1 hp1).2.1]
      have hrs : f_TraceReader_isResolventOf w 7 (st p0) (st p1) = some (qb (rsv vr V now (st p0) (st p1) (msk vr fa cu V) (msk vr fa (!cu) V)), w) := by
        unfold f_TraceReader_isResolventOf f_QP_literalsOf f_QP_bothWaysIn f_QP_variablesIn rsv
        rw [g_ob (g_is t7), g_b2 hmain, g_b2 (f_bc _ _)]
        show (if bcn (opp (st p0) (st p1) (msk vr fa cu V)) = 1 then _ else _) = _
        by_cases c : bcn (opp (st p0) (st p1) (msk vr fa cu V)) = 1
        · rw [if_pos c, g_b2 rfl, g_b2 rfl, g_b2 rfl, g_b2 rfl, g_ob (g_is t7), g_b2 hside, g_b1 (g_i t7 rfl), decide_eq_true c, Bool.true_and]
          show (if now = due (st p0) (st p1) (msk vr fa cu V) then _ else _) = _
          by_cases c2 : now = due (st p0) (st p1) (msk vr fa cu V)
          · rw [if_pos c2, g_ob (g_is t7), g_b2 hmain, decide_eq_true c2, Bool.true_and]
            show (if bwy (due (st p0) (st p1) (msk vr fa cu V)) &&& msk vr fa cu V = 0 then _ else _) = _
            by_cases c3 : bwy (due (st p0) (st p1) (msk vr fa cu V)) &&& msk vr fa cu V = 0
            · rw [if_pos c3, g_b1 (g_r t7 rfl), g_ob (g_is e1), g_b2 (hinn _), decide_eq_true c3, Bool.true_and]
              show (if (((vin (st p0) &&& vin (st p1)) &&& bwy (due (st p0) (st p1) (msk vr fa cu V))) &&& msk vr fa (!cu) V) &&& (inn vr (opp (st p0) (st p1) (msk vr fa cu V)) V 0 ^^^ (-1)) = 0 then _ else _) = _
              by_cases c4 : (((vin (st p0) &&& vin (st p1)) &&& bwy (due (st p0) (st p1) (msk vr fa cu V))) &&& msk vr fa (!cu) V) &&& (inn vr (opp (st p0) (st p1) (msk vr fa cu V)) V 0 ^^^ (-1)) = 0
              · rw [if_pos c4, decide_eq_true c4]
                rfl
              · rw [if_neg c4, decide_eq_false c4]
                rfl
            · rw [if_neg c3, decide_eq_false c3]
              rfl
          · rw [if_neg c2, decide_eq_false c2]
            rfl
        · rw [if_neg c, decide_eq_false c]
          rfl
      rw [if_neg c1, if_neg c1, g_b1 (g_r t7 rfl), g_b1 (g_r h8 rfl), g_b1 (g_r t7 rfl), g_b1 l0, g_b1 l1, g_b1 (g_r t7 rfl), g_b1 (g_r h8 rfl), g_b1 (g_r t7 rfl), g_b1 l2, g_b1 l3, g_ob (g_is t7), g_b2 hrs, g_ob (qb_z _)]
end
