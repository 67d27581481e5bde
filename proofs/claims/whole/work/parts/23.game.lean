/-! the game: its worth, and the class's reckoning of it -/
def met (cl : Nat → Int32) (x : Int32) : Nat → Bool
  | 0 => true
  | k + 1 => met cl x k && decide (¬ cl k &&& x = 0)
/-- the literal of the i-th variable under a value -/
def lit (vr : Nat → Nat) (b : Bool) (i : Nat) : Int32 := if b then sl (vr i - 1) else sl (vr i + 7)
def tru (vr : Nat → Nat) (a : Nat → Bool) : Nat → Int32
  | 0 => 0
  | d + 1 => tru vr a d ||| lit vr (a d) d
/-- whether SOME can win when the last k variables are still to come and these literals are true -/
def gw (V : Nat) (vr : Nat → Nat) (fa : Nat → Bool) (C : Nat) (cl : Nat → Int32) : Nat → Int32 → Bool
  | 0, x => met cl x C
  | k + 1, x => if fa (V - (k + 1)) then gw V vr fa C cl k (x ||| lit vr false (V - (k + 1))) && gw V vr fa C cl k (x ||| lit vr true (V - (k + 1))) else gw V vr fa C cl k (x ||| lit vr false (V - (k + 1))) || gw V vr fa C cl k (x ||| lit vr true (V - (k + 1)))
theorem and_or_ne {c x y : Int32} (h : ¬ c &&& x = 0) : ¬ c &&& (x ||| y) = 0 := by
  intro h2
  refine h (b_ext (fun i hi => ?_))
  have h3 := congrArg (fun z => bt z i) h2
  simp only [b_and, b_or, b_0] at h3
  rw [b_and, b_0]
  cases h4 : bt c i
  · rfl
  · cases h5 : bt x i
    · rfl
    · rw [h4, h5] at h3
      simp at h3
theorem met_or {cl : Nat → Int32} {x y : Int32} : ∀ k, met cl x k = true → met cl (x ||| y) k = true := by
  intro k
  induction k with
  | zero => exact fun h => h
  | succ k ih =>
    intro h
    unfold met at h ⊢
    obtain ⟨h1, h2⟩ := Bool.and_eq_true_iff.mp h
    rw [ih h1, decide_eq_true (and_or_ne (of_decide_eq_true h2))]
    rfl
theorem gw_met {V C : Nat} {vr : Nat → Nat} {fa : Nat → Bool} {cl : Nat → Int32} : ∀ k x, met cl x C = true → gw V vr fa C cl k x = true := by
  intro k
  induction k with
  | zero => exact fun x h => h
  | succ k ih =>
    intro x h
    unfold gw
    rw [ih _ (met_or C h), ih _ (met_or C h)]
    simp
theorem bit_qb : ∀ i, i < 32 → ∀ x : Int32, ((x >>> (nI i &&& 31)) &&& 1) = qb (bt x i) := by
  intro i hi x
  refine b_ext (fun j hj => ?_)
  have h1 : ∀ j, j < 32 → bt 1 j = decide (j = 0) := by decide +kernel
  rw [b_and, b_sshr i hi x hj, h1 j hj]
  by_cases e : j = 0
  · subst e
    rw [if_pos (by omega), decide_eq_true rfl, Bool.and_true, Nat.add_zero]
    cases bt x i
    · rfl
    · rfl
  · rw [decide_eq_false e, Bool.and_false]
    cases bt x i
    · exact (b_0 j).symm
    · show false = bt 1 j
      rw [h1 j hj, decide_eq_false e]
section
variable {w : qw} {p n V C S : Nat} {bf vr id : Nat → Nat} {fa cb : Nat → Bool} {cl st gr : Nat → Int32}
theorem met_f {x : Int32} : ∀ k j, j < k → cl j &&& x = 0 → met cl x k = false := by
  intro k
  induction k with
  | zero => exact fun j hj => absurd hj (Nat.not_lt_zero _)
  | succ k ih =>
    intro j hj h
    unfold met
    by_cases e : j = k
    · subst e
      rw [decide_eq_false (fun z => absurd h z), Bool.and_false]
    · rw [ih j (by omega) h, Bool.false_and]
theorem f_met (hC : okC V vr C cl) (h : iF w p V vr fa C cl) (x : Int32) : f_Formula_isMetBy w p x = some (qb (met cl x C), w) := by
  obtain ⟨od, oc, e1, e2, e3, e4, e5⟩ := h
  have hc := hC.1
  have key : ∀ k m, k ≤ C → k < m → met cl x (C - k) = true → ll_Formula_isMetBy_2 m p x (nI (C - k)) w = some (qb (met cl x C), w) := by
    intro k
    induction k with
    | zero =>
      intro m _ hm hj
      obtain ⟨m, rfl⟩ : ∃ z, m = z + 1 := ⟨m - 1, by omega⟩
      have hj : met cl x C = true := hj
      show lb_Formula_isMetBy_2 (ll_Formula_isMetBy_2 m) p x (nI (C - 0)) w = _
      unfold lb_Formula_isMetBy_2
      rw [g_b1 (g_i e1 rfl), i_le rfl rfl (by omega) (by omega), if_pos (by omega), hj]
      rfl
    | succ k ih =>
      intro m hk hm hj
      obtain ⟨m, rfl⟩ : ∃ z, m = z + 1 := ⟨m - 1, by omega⟩
      show lb_Formula_isMetBy_2 (ll_Formula_isMetBy_2 m) p x (nI (C - (k + 1))) w = _
      unfold lb_Formula_isMetBy_2
      rw [g_b1 (g_i e1 rfl), i_le rfl rfl (by omega) (by omega), if_neg (by omega), g_b1 (g_r e1 rfl), g_b1 (g_l e3 (by omega) (by omega)), e5 _ (by omega)]
      by_cases c : cl (C - (k + 1)) &&& x = 0
      · rw [if_pos c, met_f C (C - (k + 1)) (by omega) c]
        rfl
      · rw [if_neg c, nI_1, show C - (k + 1) + 1 = C - k by omega]
        refine ih m (by omega) (by omega) ?_
        rw [show C - k = C - (k + 1) + 1 by omega]
        show (met cl x (C - (k + 1)) && decide (¬ cl (C - (k + 1)) &&& x = 0)) = true
        rw [hj, decide_eq_true c]
        rfl
  unfold f_Formula_isMetBy
  have := key C q_fu (Nat.le_refl _) (by unfold q_fu; omega) (by rw [Nat.sub_self]; rfl)
  rw [Nat.sub_self] at this
  exact this
theorem f_truth (hF : okF V vr) (h : iF w p V vr fa C cl) {i : Nat} (hi : i < V) (b : Bool) : f_Formula_truth w p (nI i) (qb b) = some (lit vr b i, w) := by
  obtain ⟨od, oc, e1, e2, e3, e4, e5⟩ := h
  have hv := hF.2.1 i hi
  have hv8 := hF.1
  unfold f_Formula_truth lit
  have hl : q_ld w (p + 1) 0 (nI i) = some (nI (vr i)) := by rw [g_l e2 (by omega) (by omega), e4 i hi]
  cases b
  · rw [if_neg (by decide), g_b1 (g_r e1 rfl), g_b1 hl, g_b2 (f_set _ _), q_bit_n _ (by omega) (by omega)]
    rfl
  · rw [if_pos rfl, g_b1 (g_r e1 rfl), g_b1 hl, g_b2 (f_set _ _), q_bit_p _ (by omega) (by omega)]
    rfl
theorem f_scw (hF : okF V vr) (hC : okC V vr C cl) (h : iF w p V vr fa C cl) : ∀ k m x, k ≤ V → k < m → f_Formula_someCanWin m w p (nI (V - k)) x = some (qb (gw V vr fa C cl k x), w) := by
  have hv8 := hF.1
  have hall := fun i hi => f_all hF h (i := i) hi
  have htr := fun i hi b => f_truth hF h (i := i) hi b
  have hm := fun x => f_met hC h x
  obtain ⟨od, oc, e1, e2, e3, e4, e5⟩ := h
  intro k
  induction k with
  | zero =>
    intro m x _ hlt
    obtain ⟨m, rfl⟩ : ∃ z, m = z + 1 := ⟨m - 1, by omega⟩
    show fb_Formula_someCanWin (f_Formula_someCanWin m) w p (nI (V - 0)) x = some (qb (met cl x C), w)
    unfold fb_Formula_someCanWin
    rw [g_ob (g_is e1), g_b2 (hm x)]
    cases met cl x C with
    | true => rw [if_neg (by decide)]; rfl
    | false =>
      rw [if_pos (show qb false = 0 from rfl), if_neg (nI_pos (by omega)), g_b1 (g_i e1 rfl), i_lt rfl rfl (by omega) (by omega), if_neg (by omega)]
      rfl
  | succ k ih =>
    intro m x hk hlt
    obtain ⟨m, rfl⟩ : ∃ z, m = z + 1 := ⟨m - 1, by omega⟩
    show fb_Formula_someCanWin (f_Formula_someCanWin m) w p (nI (V - (k + 1))) x = _
    unfold fb_Formula_someCanWin
    rw [g_ob (g_is e1), g_b2 (hm x)]
    cases hmet : met cl x C with
    | true =>
      rw [if_neg (by decide), gw_met (k + 1) x hmet]
      rfl
    | false =>
      have hl : q_ld w (p + 1) 0 (nI (V - (k + 1))) = some (nI (vr (V - (k + 1)))) := by rw [g_l e2 (by omega) (by omega), e4 _ (by omega)]
      have t0 : f_Formula_truth w p (nI (V - (k + 1))) 0 = _ := htr (V - (k + 1)) (by omega) false
      have t1 : f_Formula_truth w p (nI (V - (k + 1))) 1 = _ := htr (V - (k + 1)) (by omega) true
      rw [if_pos (show qb false = 0 from rfl), if_neg (nI_pos (by omega)), g_b1 (g_i e1 rfl), i_lt rfl rfl (by omega) (by omega), if_pos (by omega), g_b1 (g_r e1 rfl), g_b1 hl, g_ob (g_is e1), g_b2 (hall _ (by omega)), g_ob (g_is e1), g_b2 t0, nI_1, show V - (k + 1) + 1 = V - k by omega, g_b2 (ih m _ (by omega) (by omega)), g_ob (g_is e1), g_b2 t1, g_b2 (ih m _ (by omega) (by omega))]
      have hgw : gw V vr fa C cl (k + 1) x = if fa (V - (k + 1)) then gw V vr fa C cl k (x ||| lit vr false (V - (k + 1))) && gw V vr fa C cl k (x ||| lit vr true (V - (k + 1))) else gw V vr fa C cl k (x ||| lit vr false (V - (k + 1))) || gw V vr fa C cl k (x ||| lit vr true (V - (k + 1))) := rfl
      rw [hgw]
      cases fa (V - (k + 1)) <;> cases gw V vr fa C cl k (x ||| lit vr false (V - (k + 1))) <;> cases gw V vr fa C cl k (x ||| lit vr true (V - (k + 1))) <;> rfl
theorem f_won (hF : okF V vr) (hC : okC V vr C cl) (h : iF w p V vr fa C cl) {d : Nat} (hd : d ≤ V) (x : Int32) : f_Formula_isWon w p (nI d) x = some (qb (gw V vr fa C cl (V - d) (tru vr (bt x) d)), w) := by
  have hv8 := hF.1
  have htr := fun i hi b => f_truth hF h (i := i) hi b
  have hscw := f_scw hF hC h (V - d) 10 (tru vr (bt x) d) (by omega) (by omega)
  rw [show V - (V - d) = d by omega] at hscw
  obtain ⟨od, oc, e1, e2, e3, e4, e5⟩ := h
  have key : ∀ k m, k ≤ d → k < m → ll_Formula_isWon_5 m p (nI d) x (tru vr (bt x) (d - k)) (nI (d - k)) w = some (qb (gw V vr fa C cl (V - d) (tru vr (bt x) d)), w) := by
    intro k
    induction k with
    | zero =>
      intro m _ hm
      obtain ⟨m, rfl⟩ : ∃ z, m = z + 1 := ⟨m - 1, by omega⟩
      show lb_Formula_isWon_5 (ll_Formula_isWon_5 m) p (nI d) x (tru vr (bt x) (d - 0)) (nI (d - 0)) w = _
      unfold lb_Formula_isWon_5
      rw [i_le rfl rfl (by omega) (by omega), if_pos (by omega), Nat.sub_zero, g_b2 hscw, g_ob (qb_z _)]
    | succ k ih =>
      intro m hk hm
      obtain ⟨m, rfl⟩ : ∃ z, m = z + 1 := ⟨m - 1, by omega⟩
      show lb_Formula_isWon_5 (ll_Formula_isWon_5 m) p (nI d) x (tru vr (bt x) (d - (k + 1))) (nI (d - (k + 1))) w = _
      unfold lb_Formula_isWon_5
      rw [i_le rfl rfl (by omega) (by omega), if_neg (by omega), g_b1 (g_i e1 rfl), i_le rfl rfl (by omega) (by omega), if_neg (by omega), g_ob (g_is e1), bit_qb _ (by omega), g_b2 (htr _ (by omega) _), nI_1]
      have ht : tru vr (bt x) (d - (k + 1)) ||| lit vr (bt x (d - (k + 1))) (d - (k + 1)) = tru vr (bt x) (d - k) := by
        rw [show d - k = d - (k + 1) + 1 by omega]
        rfl
      rw [ht, show d - (k + 1) + 1 = d - k by omega]
      exact ih m (by omega) (by omega)
  unfold f_Formula_isWon
  have := key d q_fu (Nat.le_refl _) (by unfold q_fu; omega)
  rw [Nat.sub_self] at this
  exact this
/-- what won answers -/
def sp_won (V : Nat) (vr : Nat → Nat) (fa : Nat → Bool) (C : Nat) (cl : Nat → Int32) (x y : Int32) : Int32 := if x < 0 then 0 else if nI V < x then 0 else qb (gw V vr fa C cl (V - x.toNatClampNeg) (tru vr (bt y) x.toNatClampNeg))
theorem c_won (hF : okF V vr) (hC : okC V vr C cl) (h : IC w n bf V vr fa C cl S id st cb gr) (x y : Int32) : f_QP_won w 0 x y = some (sp_won V vr fa C cl x y, w) := by
  obtain ⟨cu, dr, ⟨_, h0⟩, _, _, hi, _⟩ := h
  have hw := fun d hd => f_won hF hC hi (d := d) hd y
  have hv8 := hF.1
  obtain ⟨od, oc, e1, _⟩ := hi
  unfold f_QP_won sp_won
  by_cases hx : x < 0
  · rw [if_pos hx, if_pos hx]
    rfl
  · obtain ⟨j, hj, rfl⟩ := nI_of hx
    rw [if_neg hx, if_neg hx, g_b1 (g_r h0 rfl), g_b1 (g_i e1 rfl)]
    by_cases c : nI V < nI j
    · rw [if_pos c, if_pos c]
      rfl
    · have hjV : j ≤ V := by
        rcases Nat.lt_or_ge V j with h9 | h9
        · exact absurd (nI_lt h9 hj) c
        · exact h9
      rw [if_neg c, if_neg c, g_b1 (g_r h0 rfl), g_ob (g_is e1), g_b2 (hw j hjV), nI_clamp hj]
      cases gw V vr fa C cl (V - j) (tru vr (bt y) j) <;> rfl
-- numbers as sets of bits
theorem nbt {A j : Nat} (hj : j < 32) : bt (nI A) j = A.testBit j := by
  show (BitVec.ofNat 32 A).getLsbD j = _
  rw [BitVec.getLsbD_ofNat, decide_eq_true hj, Bool.true_and]
theorem tb_add {A k j : Nat} (h : A < 2 ^ k) : (A + 2 ^ k).testBit j = (A.testBit j || decide (k = j)) := by
  have h1 : A + 2 ^ k = 2 ^ k ||| A := by
    have h2 := Nat.two_pow_add_eq_or_of_lt h 1
    rw [Nat.mul_one] at h2
    omega
  rw [h1, Nat.testBit_or, Nat.testBit_two_pow, Bool.or_comm]
theorem or_sl {A k : Nat} (h : A < 2 ^ k) (hk : k < 31) : nI A ||| sl k = nI (A + 2 ^ k) := by
  refine b_ext (fun j hj => ?_)
  rw [b_or, nbt hj, nbt hj, tb_add h, b_sl k (by omega) j hj]
  congr 1
  by_cases e : j = k
  · rw [decide_eq_true e, decide_eq_true e.symm]
  · rw [decide_eq_false e, decide_eq_false (fun z => e z.symm)]
theorem tru_congr {a b : Nat → Bool} : ∀ d, (∀ i, i < d → a i = b i) → tru vr a d = tru vr b d := by
  intro d
  induction d with
  | zero => exact fun _ => rfl
  | succ d ih =>
    intro h
    unfold tru
    rw [ih (fun i hi => h i (by omega)), h d (by omega)]
theorem tb_big {A k : Nat} (h : A < 2 ^ k) : A.testBit k = false := Nat.testBit_lt_two_pow h
/-- play: the last k variables are still to come -/
def ply (V : Nat) (vr : Nat → Nat) (fa : Nat → Bool) (C : Nat) (cl : Nat → Int32) (y : Int32) : Nat → Nat → Nat
  | 0, A => if gw V vr fa C cl 0 (tru vr A.testBit V) then A + 256 else A
  | k + 1, A => if (if fa (V - (k + 1)) then gw V vr fa C cl k (tru vr A.testBit (V - k)) && !gw V vr fa C cl k (tru vr (A + 2 ^ (V - (k + 1))).testBit (V - k)) else bt y (V - (k + 1))) then ply V vr fa C cl y k (A + 2 ^ (V - (k + 1))) else ply V vr fa C cl y k A
theorem f_wonN (hF : okF V vr) (hC : okC V vr C cl) (h : iF w p V vr fa C cl) {d : Nat} (hd : d ≤ V) (A : Nat) : f_Formula_isWon w p (nI d) (nI A) = some (qb (gw V vr fa C cl (V - d) (tru vr A.testBit d)), w) := by
  have hv8 := hF.1
  rw [f_won hF hC h hd, tru_congr d (fun i hi => nbt (by omega))]
theorem c_play (hF : okF V vr) (hC : okC V vr C cl) (h : IC w n bf V vr fa C cl S id st cb gr) (y : Int32) : f_QP_play w 0 y = some (nI (ply V vr fa C cl y V 0), w) := by
  obtain ⟨cu, dr, ⟨_, h0⟩, _, _, hi, _⟩ := h
  have hw := fun d hd A => f_wonN hF hC hi (d := d) hd A
  have hall := fun i hi' => f_all hF hi (i := i) hi'
  have hv8 := hF.1
  obtain ⟨od, oc, e1, e2, e3, e4, e5⟩ := hi
  have key : ∀ k m A, k ≤ V → k < m → A < 2 ^ (V - k) → ll_QP_play_4 m 0 y (nI A) (nI (V - k)) w = some (nI (ply V vr fa C cl y k A), w) := by
    intro k
    induction k with
    | zero =>
      intro m A _ hm hA
      obtain ⟨m, rfl⟩ : ∃ z, m = z + 1 := ⟨m - 1, by omega⟩
      have hw2 := hw V (Nat.le_refl _) A
      rw [Nat.sub_self] at hw2
      show lb_QP_play_4 (ll_QP_play_4 m) 0 y (nI A) (nI (V - 0)) w = some (nI (if gw V vr fa C cl 0 (tru vr A.testBit V) then A + 256 else A), w)
      unfold lb_QP_play_4
      rw [g_b1 (g_r h0 rfl), g_b1 (g_i e1 rfl), i_le rfl rfl (by omega) (by omega), if_pos (by omega), g_b1 (g_r h0 rfl), g_b1 (g_r h0 rfl), g_b1 (g_i e1 rfl), g_ob (g_is e1), g_b2 hw2]
      cases gw V vr fa C cl 0 (tru vr A.testBit V)
      · rfl
      · rw [if_neg (by decide), if_pos rfl, show nI A + 256 = nI (A + 256) from nI_add A 256]
    | succ k ih =>
      intro m A hk hm hA
      obtain ⟨m, rfl⟩ : ∃ z, m = z + 1 := ⟨m - 1, by omega⟩
      have hpow : 2 ^ (V - k) = 2 ^ (V - (k + 1)) + 2 ^ (V - (k + 1)) := by
        rw [show V - k = V - (k + 1) + 1 by omega, Nat.pow_succ]
        omega
      have hl : q_ld w (cu + 1) 0 (nI (V - (k + 1))) = some (nI (vr (V - (k + 1)))) := by rw [g_l e2 (by omega) (by omega), e4 _ (by omega)]
      have fin : ∀ b : Bool, lj_QP_play_55 (ll_QP_play_4 m) 0 y (nI A) (nI (V - (k + 1))) (qb b) w = some (nI (if b then ply V vr fa C cl y k (A + 2 ^ (V - (k + 1))) else ply V vr fa C cl y k A), w) := by
        intro b
        unfold lj_QP_play_55
        rw [nI_1, show V - (k + 1) + 1 = V - k by omega]
        cases b with
        | false =>
          have : nI A ||| (qb false <<< (nI (V - (k + 1)) &&& 31)) = nI A := by
            refine b_ext (fun j hj => ?_)
            rw [b_or, b_shl _ (by omega) _ hj, show qb false = 0 from rfl, b_0, Bool.and_false, Bool.or_false]
          rw [this, if_neg (by decide)]
          exact ih m A (by omega) (by omega) (by omega)
        | true =>
          have : nI A ||| (qb true <<< (nI (V - (k + 1)) &&& 31)) = nI (A + 2 ^ (V - (k + 1))) := or_sl hA (by omega)
          rw [this, if_pos rfl]
          exact ih m _ (by omega) (by omega) (by omega)
      have hpl : ply V vr fa C cl y (k + 1) A = if (if fa (V - (k + 1)) then gw V vr fa C cl k (tru vr A.testBit (V - k)) && !gw V vr fa C cl k (tru vr (A + 2 ^ (V - (k + 1))).testBit (V - k)) else bt y (V - (k + 1))) then ply V vr fa C cl y k (A + 2 ^ (V - (k + 1))) else ply V vr fa C cl y k A := rfl
      rw [hpl]
      show lb_QP_play_4 (ll_QP_play_4 m) 0 y (nI A) (nI (V - (k + 1))) w = _
      unfold lb_QP_play_4
      rw [g_b1 (g_r h0 rfl), g_b1 (g_i e1 rfl), i_le rfl rfl (by omega) (by omega), if_neg (by omega), g_b1 (g_r h0 rfl), g_b1 (g_r h0 rfl), g_b1 (g_r e1 rfl), g_b1 hl, g_ob (g_is e1), g_b2 (hall _ (by omega))]
      cases hfa : fa (V - (k + 1)) with
      | false =>
        rw [if_pos (show qb false = 0 from rfl), bit_qb _ (by omega), fin]
        rfl
      | true =>
        have hw1 := hw (V - k) (by omega) A
        have hw2 := hw (V - k) (by omega) (A + 2 ^ (V - (k + 1)))
        rw [show V - (V - k) = k by omega] at hw1 hw2
        have hch : f_Formula_choiceOfAll w cu (nI (V - (k + 1))) (nI A) = some (qb (gw V vr fa C cl k (tru vr A.testBit (V - k)) && !gw V vr fa C cl k (tru vr (A + 2 ^ (V - (k + 1))).testBit (V - k))), w) := by
          unfold f_Formula_choiceOfAll lj_Formula_choiceOfAll_30
          have ho : nI A ||| ((1 : Int32) <<< (nI (V - (k + 1)) &&& 31)) = nI (A + 2 ^ (V - (k + 1))) := or_sl hA (by omega)
          rw [nI_1, show V - (k + 1) + 1 = V - k by omega, g_ob (g_is e1), g_b2 hw1, g_ob (g_is e1), ho, g_b2 hw2]
          cases gw V vr fa C cl k (tru vr A.testBit (V - k)) <;> cases gw V vr fa C cl k (tru vr (A + 2 ^ (V - (k + 1))).testBit (V - k)) <;> rfl
        rw [if_neg (by decide), g_b1 (g_r h0 rfl), g_ob (g_is e1), g_b2 hch, fin, if_pos rfl]
  unfold f_QP_play
  have := key V q_fu 0 (Nat.le_refl _) (by unfold q_fu; omega) (by rw [Nat.sub_self]; decide)
  rw [Nat.sub_self] at this
  exact this
end
