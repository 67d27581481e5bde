/-! frames; variable, empty, type -/
section
variable {w w' : qw} {L : List Nat} {n V C S p dr cu : Nat} {bf vr id : Nat → Nat} {fa cb : Nat → Bool} {cl st gr : Nat → Int32}
theorem iW.fr (h : iW w n bf) (hf : qfr L w w') (h1 : 1 ∉ L) (h2 : 2 ∉ L) : iW w' n bf := by
  obtain ⟨s1, s2, s3, s4, ch, e1, e2, e3⟩ := h
  exact ⟨s1, s2, s3, s4, ch, hf.at e1 h1, hf.at e2 h2, e3⟩
theorem iR.fr (h : iR w dr) (hf : qfr L w w') (h1 : 3 ∉ L) : iR w' dr := by
  obtain ⟨b1, b2, b3, b4, b5, e1⟩ := h
  exact ⟨b1, b2, b3, b4, b5, hf.at e1 h1⟩
theorem iF.fr (h : iF w p V vr fa C cl) (hf : qfr L w w') (h1 : p ∉ L) (h2 : p + 1 ∉ L) (h3 : p + 2 ∉ L) : iF w' p V vr fa C cl := by
  obtain ⟨od, oc, e1, e2, e3, e4⟩ := h
  exact ⟨od, oc, hf.at e1 h1, hf.at e2 h2, hf.at e3 h3, e4⟩
theorem iD.fr (h : iD w p) (hf : qfr L w w') (h1 : p ∉ L) (h2 : p + 1 ∉ L) (h3 : p + 2 ∉ L) : iD w' p := by
  obtain ⟨a, b, c, d, od, oc, e1, e2, e3⟩ := h
  exact ⟨a, b, c, d, od, oc, hf.at e1 h1, hf.at e2 h2, hf.at e3 h3⟩
theorem iT.fr (h : iT w) (hf : qfr L w w') (h1 : 7 ∉ L) (h2 : 13 ∉ L) : iT w' := by
  obtain ⟨fo, s, c, i, l, p, pr, e1, e2⟩ := h
  exact ⟨fo, s, c, i, l, p, pr, hf.at e1 h1, hf.at e2 h2⟩
theorem iP.fr (h : iP w S id st cb gr) (hf : qfr L w w') (h1 : 8 ∉ L) (h2 : 9 ∉ L) (h3 : 10 ∉ L) (h4 : 11 ∉ L) (h5 : 12 ∉ L) : iP w' S id st cb gr := by
  obtain ⟨a9, a10, a11, a12, e1, e2, e3, e4, e5, e6⟩ := h
  exact ⟨a9, a10, a11, a12, hf.at e1 h1, hf.at e2 h2, hf.at e3 h3, hf.at e4 h4, hf.at e5 h5, e6⟩
theorem iQ.fr (h : iQ w cu dr) (hf : qfr L w w') (h1 : 0 ∉ L) : iQ w' cu dr := ⟨h.1, hf.at h.2 h1⟩
theorem iF.D (h : iF w p V vr fa C cl) : iD w p := by
  obtain ⟨od, oc, e1, e2, e3, e4⟩ := h
  exact ⟨_, _, _, _, od, oc, e1, e2, e3⟩
theorem IC.fr (h : IC w n bf V vr fa C cl S id st cb gr) (hf : qfr L w w') (hL : ∀ k, k < 17 → k ∉ L) : IC w' n bf V vr fa C cl S id st cb gr := by
  obtain ⟨cu, dr, h0, h1, h2, h3, h4, h5, h6⟩ := h
  have hc : cu < 15 ∧ dr < 15 := by
    rcases h0.1 with ⟨e1, e2⟩ | ⟨e1, e2⟩ <;> (subst e1; subst e2; decide)
  exact ⟨cu, dr, h0.fr hf (hL _ (by omega)), h1.fr hf (hL _ (by omega)) (hL _ (by omega)), h2.fr hf (hL _ (by omega)), h3.fr hf (hL _ (by omega)) (hL _ (by omega)) (hL _ (by omega)), h4.fr hf (hL _ (by omega)) (hL _ (by omega)) (hL _ (by omega)), h5.fr hf (hL _ (by omega)) (hL _ (by omega)), h6.fr hf (hL _ (by omega)) (hL _ (by omega)) (hL _ (by omega)) (hL _ (by omega)) (hL _ (by omega))⟩
theorem rB.fr (h : rB w n bf) (hf : qfr L w w') (h1 : 18 ∉ L) : rB w' n bf := by
  obtain ⟨f, e1, e2⟩ := h
  exact ⟨f, hf.at e1 h1, e2⟩
theorem rF.fr (h : rF w V vr fa C cl) (hf : qfr L w w') (h1 : 19 ∉ L) (h2 : 20 ∉ L) (h3 : 21 ∉ L) (h4 : 22 ∉ L) : rF w' V vr fa C cl := by
  obtain ⟨a, b, c, d, e1, e2, e3, e4, e5⟩ := h
  exact ⟨a, b, c, d, hf.at e1 h1, hf.at e2 h2, hf.at e3 h3, hf.at e4 h4, e5⟩
theorem rN.fr (h : rN w) (hf : qfr L w w') (h1 : 23 ∉ L) (h2 : 24 ∉ L) (h3 : 25 ∉ L) (h4 : 26 ∉ L) : rN w' := by
  obtain ⟨a, b, c, d, e1, e2, e3, e4, e5⟩ := h
  exact ⟨a, b, c, d, hf.at e1 h1, hf.at e2 h2, hf.at e3 h3, hf.at e4 h4, e5⟩
theorem rP.fr (h : rP w S id st cb gr) (hf : qfr L w w') (h1 : 27 ∉ L) (h2 : 28 ∉ L) (h3 : 29 ∉ L) (h4 : 30 ∉ L) : rP w' S id st cb gr := by
  obtain ⟨a, b, c, d, e1, e2, e3, e4, e5⟩ := h
  exact ⟨a, b, c, d, hf.at e1 h1, hf.at e2 h2, hf.at e3 h3, hf.at e4 h4, e5⟩
theorem rG.fr (h : rG w) (hf : qfr L w w') (h1 : 31 ∉ L) : rG w' := by
  obtain ⟨f, e1⟩ := h
  exact ⟨f, hf.at e1 h1⟩
theorem IM.fr (h : IM w n bf V vr fa C cl S id st cb gr) (hf : qfr L w w') (hL : ∀ k, 17 ≤ k → k ∉ L) : IM w' n bf V vr fa C cl S id st cb gr := by
  obtain ⟨⟨a1, a2, a3, a4, a5, a6, a7, a8, a9, a10, h0⟩, h1, h2, h3, h4, h5⟩ := h
  exact ⟨⟨a1, a2, a3, a4, a5, a6, a7, a8, a9, a10, hf.at h0 (hL _ (by omega))⟩, h1.fr hf (hL _ (by omega)), h2.fr hf (hL _ (by omega)) (hL _ (by omega)) (hL _ (by omega)) (hL _ (by omega)), h3.fr hf (hL _ (by omega)) (hL _ (by omega)) (hL _ (by omega)) (hL _ (by omega)), h4.fr hf (hL _ (by omega)) (hL _ (by omega)) (hL _ (by omega)) (hL _ (by omega)), h5.fr hf (hL _ (by omega))⟩
-- masks by their bits
theorem b_msk {b : Bool} : ∀ V, (∀ i, i < V → 1 ≤ vr i ∧ vr i ≤ 8) → ∀ j, j < 32 → (bt (msk vr fa b V) j = true ↔ ∃ i, i < V ∧ fa i = b ∧ vr i = j + 1) := by
  intro V
  induction V with
  | zero =>
    intro _ j hj
    constructor
    · intro h
      rw [show msk vr fa b 0 = 0 from rfl, b_0] at h
      cases h
    · rintro ⟨i, hi, _⟩
      omega
  | succ V ih =>
    intro h j hj
    have ih := ih (fun i hi => h i (by omega)) j hj
    have hV := h V (by omega)
    unfold msk
    by_cases hf : fa V = b
    · rw [if_pos hf, b_or, b_sl _ (by omega) j hj, Bool.or_eq_true, ih, decide_eq_true_eq]
      constructor
      · rintro (⟨i, h1, h2, h3⟩ | h1)
        · exact ⟨i, by omega, h2, h3⟩
        · exact ⟨V, by omega, hf, by omega⟩
      · rintro ⟨i, h1, h2, h3⟩
        by_cases hi : i = V
        · subst hi
          exact Or.inr (by omega)
        · exact Or.inl ⟨i, by omega, h2, h3⟩
    · rw [if_neg hf, ih]
      constructor
      · rintro ⟨i, h1, h2, h3⟩
        exact ⟨i, by omega, h2, h3⟩
      · rintro ⟨i, h1, h2, h3⟩
        by_cases hi : i = V
        · subst hi
          exact absurd h2 hf
        · exact ⟨i, by omega, h2, h3⟩
theorem f_set (w : qw) (x : Int32) : f_QP_setOf w x = some (q_bit x, w) := by
  unfold f_QP_setOf q_bit
  by_cases h : x ≤ 0
  · rw [if_pos h, if_pos h]
  · rw [if_neg h, if_neg h]
theorem f_all (hV : okF V vr) (h : iF w p V vr fa C cl) {i : Nat} (hi : i < V) : f_Formula_isForAll w p (nI (vr i)) = some (qb (fa i), w) := by
  obtain ⟨od, oc, e1, _⟩ := h
  have hv := hV.2.1 i hi
  unfold f_Formula_isForAll
  rw [g_b1 (g_i e1 rfl), g_b2 (f_set w _), q_bit_p _ (by omega) (by omega)]
  have hb := b_msk (fa := fa) (b := true) V hV.2.1 (vr i - 1) (by omega)
  by_cases hm : bt (msk vr fa true V) (vr i - 1) = true
  · rw [if_neg (fun z => by rw [(b_and_sl _ (by omega)).mp z] at hm; cases hm)]
    obtain ⟨k, h1, h2, h3⟩ := hb.mp hm
    have hk := hV.2.2 k i h1 hi (by omega)
    subst hk
    rw [h2]
    rfl
  · rw [if_pos ((b_and_sl _ (by omega)).mpr (by simpa using hm))]
    have hf : fa i = false := by
      cases hfi : fa i with
      | false => rfl
      | true => exact absurd (hb.mpr ⟨i, hi, hfi, by omega⟩) hm
    rw [hf]
    rfl
theorem c_variable (hV : okF V vr) (h : IC w n bf V vr fa C cl S id st cb gr) (x : Int32) : f_QP_variable w 0 x = some (sp_at V (fun i => if fa i then nI (vr i) + 10 else nI (vr i)) x, w) := by
  obtain ⟨cu, dr, ⟨_, h0⟩, _, _, hF, _⟩ := h
  have hall := fun i hi => f_all hV hF (i := i) hi
  obtain ⟨od, oc, e1, e2, _, e4, _⟩ := hF
  have hv := hV.1
  unfold f_QP_variable
  by_cases hx : x < 0
  · rw [if_pos hx, sp_lo hx]
  · obtain ⟨j, hj, rfl⟩ := nI_of hx
    rw [if_neg hx, g_b1 (g_r h0 rfl), g_b1 (g_i e1 rfl), i_lt rfl rfl hj (by omega)]
    by_cases hj2 : j < V
    · rw [if_pos hj2, g_b1 (g_r h0 rfl), g_b1 (g_r e1 rfl), g_b1 (g_l e2 (by omega) (by omega)), g_b1 (g_r h0 rfl), g_ob (g_is e1), e4 j hj2, g_b2 (hall j hj2), sp_in hj2 (by omega)]
      cases fa j <;> rfl
    · rw [if_neg hj2, sp_hi (by omega) hj]
theorem m_variable (hV : okF V vr) (h : IM w n bf V vr fa C cl S id st cb gr) (x : Int32) : f_MO_variable w 17 x = some (sp_at V (fun i => if fa i then nI (vr i) + 10 else nI (vr i)) x, w) := by
  obtain ⟨⟨_, _, _, _, _, _, _, _, _, _, h17⟩, _, ⟨av, af, ap, ac, h19, h20, _, _, hr, _⟩, _⟩ := h
  have hv := hV.1
  unfold f_MO_variable
  by_cases hx : x < 0
  · rw [if_pos hx, sp_lo hx]
  · obtain ⟨j, hj, rfl⟩ := nI_of hx
    rw [if_neg hx, g_b1 (g_i h17 rfl), i_le rfl rfl (by omega) hj]
    by_cases hj2 : V ≤ j
    · rw [if_pos hj2, sp_hi hj2 hj]
    · have hr := hr.1 j (by omega)
      rw [if_neg hj2, g_b1 (g_r h17 rfl), g_b1 (g_l h19 (by omega) (by omega)), g_b1 (g_r h17 rfl), g_b1 (g_l h20 (by omega) (by omega)), sp_in (by omega) (by omega), hr.1, hr.2.1]
      cases fa j
      · exact congrArg (fun z => some (z, w)) (Int32.add_zero _)
      · rfl
/-- the first empty set among the last k of S -/
def sp_em (st : Nat → Int32) (S : Nat) : Nat → Int32
  | 0 => -1
  | k + 1 => if st (S - (k + 1)) = 0 then nI (S - (k + 1)) else sp_em st S k
theorem c_empty (hP : okP V vr S id st) (h : IC w n bf V vr fa C cl S id st cb gr) : f_QP_empty w 0 = some (sp_em st S S, w) := by
  obtain ⟨cu, dr, ⟨_, h0⟩, _, _, _, _, _, ⟨a9, a10, a11, a12, h8, _, h10, _, _, hs⟩⟩ := h
  have hS := hP.1
  have key : ∀ k m, k ≤ S → k < m → ll_QP_empty_2 m 0 (nI (S - k)) w = some (sp_em st S k, w) := by
    intro k
    induction k with
    | zero =>
      intro m _ hm
      obtain ⟨m, rfl⟩ : ∃ z, m = z + 1 := ⟨m - 1, by omega⟩
      show lb_QP_empty_2 (ll_QP_empty_2 m) 0 (nI (S - 0)) w = _
      unfold lb_QP_empty_2
      rw [g_b1 (g_r h0 rfl), g_b1 (g_i h8 rfl), i_le rfl rfl (by omega) (by omega), if_pos (by omega)]
      rfl
    | succ k ih =>
      intro m hk hm
      obtain ⟨m, rfl⟩ : ∃ z, m = z + 1 := ⟨m - 1, by omega⟩
      show lb_QP_empty_2 (ll_QP_empty_2 m) 0 (nI (S - (k + 1))) w = _
      unfold lb_QP_empty_2
      rw [g_b1 (g_r h0 rfl), g_b1 (g_i h8 rfl), i_le rfl rfl (by omega) (by omega), if_neg (by omega), g_b1 (g_r h0 rfl), g_b1 (g_r h8 rfl), g_b1 (g_l h10 (by omega) (by omega)), (hs _ (by omega)).2.1, nI_1, show S - (k + 1) + 1 = S - k by omega, ih m (by omega) (by omega)]
      show (if st (S - (k + 1)) = 0 then _ else _) = some (if st (S - (k + 1)) = 0 then _ else _, w)
      by_cases hz : st (S - (k + 1)) = 0
      · rw [if_pos hz, if_pos hz]
      · rw [if_neg hz, if_neg hz]
  unfold f_QP_empty
  have := key S q_fu (Nat.le_refl _) (by unfold q_fu; omega)
  rw [Nat.sub_self] at this
  exact this
theorem m_empty (hP : okP V vr S id st) (h : IM w n bf V vr fa C cl S id st cb gr) : f_MO_empty w 17 = some (sp_em st S S, w) := by
  obtain ⟨⟨_, _, _, _, _, _, _, _, _, _, h17⟩, _, _, _, ⟨a9, a10, a12, a11, _, h28, _, _, hs⟩, _⟩ := h
  have hS := hP.1
  have key : ∀ k m, k ≤ S → k < m → ll_MO_empty_2 m 17 (nI (S - k)) w = some (sp_em st S k, w) := by
    intro k
    induction k with
    | zero =>
      intro m _ hm
      obtain ⟨m, rfl⟩ : ∃ z, m = z + 1 := ⟨m - 1, by omega⟩
      show lb_MO_empty_2 (ll_MO_empty_2 m) 17 (nI (S - 0)) w = _
      unfold lb_MO_empty_2
      rw [g_b1 (g_i h17 rfl), i_le rfl rfl (by omega) (by omega), if_pos (by omega)]
      rfl
    | succ k ih =>
      intro m hk hm
      obtain ⟨m, rfl⟩ : ∃ z, m = z + 1 := ⟨m - 1, by omega⟩
      show lb_MO_empty_2 (ll_MO_empty_2 m) 17 (nI (S - (k + 1))) w = _
      unfold lb_MO_empty_2
      rw [g_b1 (g_i h17 rfl), i_le rfl rfl (by omega) (by omega), if_neg (by omega), g_b1 (g_r h17 rfl), g_b1 (g_l h28 (by omega) (by omega)), (hs _ (by omega)).2.1, nI_1, show S - (k + 1) + 1 = S - k by omega, ih m (by omega) (by omega)]
      show (if st (S - (k + 1)) = 0 then _ else _) = some (if st (S - (k + 1)) = 0 then _ else _, w)
      by_cases hz : st (S - (k + 1)) = 0
      · rw [if_pos hz, if_pos hz]
      · rw [if_neg hz, if_neg hz]
  unfold f_MO_empty
  have := key S q_fu (Nat.le_refl _) (by unfold q_fu; omega)
  rw [Nat.sub_self] at this
  exact this
-- typing
theorem u_b {bf : Nat → Nat} {n c : Nat} {f : Nat → Int32} (h : ∀ i, i < n → f i = nI (bf i)) : ∀ i, i < n + 1 → upd f n (nI c) i = nI (if i = n then c else bf i) := by
  intro i hi
  by_cases e : i = n
  · rw [e, pk_us, if_pos rfl]
  · rw [pk_un e, if_neg e, h i (by omega)]
/-- what type answers, and the buffer behind it -/
theorem c_type (hB : okB n bf) (h : IC w n bf V vr fa C cl S id st cb gr) {c : Nat} (hc : c < 65536) :
    if 32 ≤ c ∧ c ≤ 126 ∧ n < 200 then ∃ w', f_QP_type w 0 (nI c) = some (1, w') ∧ qfr [1, 2] w w' ∧ IC w' (n + 1) (fun i => if i = n then c else bf i) V vr fa C cl S id st cb gr else f_QP_type w 0 (nI c) = some (0, w) := by
  obtain ⟨cu, dr, hq, ⟨s1, s2, s3, s4, ch, e1, e2, e3⟩, h2, h3, h4, h5, h6⟩ := h
  have h0 := hq.2
  have hn := hB.1
  have hlt := g_lt e1
  have hlt2 := g_lt e2
  unfold f_QP_type
  rw [g_b1 (g_r h0 rfl), g_ob (g_is e1)]
  unfold f_Words_append
  rw [i_lt (y := 32) (b := 32) rfl rfl (by omega) (by omega), i_lt (x := 126) (a := 126) rfl rfl (by omega) (by omega)]
  by_cases c1 : c < 32
  · rw [if_neg (by omega), if_pos c1]
    rfl
  · by_cases c2 : 126 < c
    · rw [if_neg (by omega), if_neg c1, if_pos c2]
      rfl
    · rw [if_neg c1, if_neg c2, g_b1 (g_i e1 rfl), i_lt (y := 200) (b := 200) rfl rfl (by omega) (by omega)]
      by_cases c3 : n < 200
      · rw [if_pos ⟨by omega, by omega, c3⟩, if_pos c3, g_b1 (g_r e1 rfl), g_b1 (g_i e1 rfl), g_b1 (g_s e2 c3 (by omega))]
        have e1' : (w.set 2 (.inl (1, 200, upd ch n (vp_nar .char (nI c)))))[1]? = _ := (g_sn (by decide)).trans e1
        rw [g_b1 (g_i e1' rfl), g_b1 (g_p e1' rfl), nI_1]
        have hf : qfr [1, 2] w ((w.set 2 (.inl (1, 200, upd ch n (vp_nar .char (nI c))))).set 1 (.inr (6, [.inr (some 2), .inl (nI (n + 1)), .inl s1, .inl s2, .inl s3, .inl s4]))) := (qfr.refl.set (by decide)).set (by decide)
        refine ⟨_, rfl, hf, cu, dr, hq.fr hf (by decide), ⟨s1, s2, s3, s4, upd ch n (vp_nar .char (nI c)), ?_, ?_, ?_⟩, h2.fr hf (by decide), ?_, ?_, h5.fr hf (by decide) (by decide), h6.fr hf (by decide) (by decide) (by decide) (by decide) (by decide)⟩
        · exact g_ss (by rw [List.length_set]; exact hlt)
        · exact (g_sn (by decide)).trans (g_ss hlt2)
        · have hv : vp_nar .char (nI c) = nI c := by
            have h1 := (pk_charN hc).1
            simp [vp_nar, h1]
          rw [hv]
          exact u_b e3
        · rcases hq.1 with ⟨z1, z2⟩ | ⟨z1, z2⟩ <;> (subst z1; subst z2; exact h3.fr hf (by decide) (by decide) (by decide))
        · rcases hq.1 with ⟨z1, z2⟩ | ⟨z1, z2⟩ <;> (subst z1; subst z2; exact h4.fr hf (by decide) (by decide) (by decide))
      · rw [if_neg (by omega), if_neg c3]
        rfl
theorem m_type (hB : okB n bf) (h : IM w n bf V vr fa C cl S id st cb gr) {c : Nat} (hc : c < 65536) :
    if 32 ≤ c ∧ c ≤ 126 ∧ n < 200 then ∃ w', f_MO_type w 17 (nI c) = some (1, w') ∧ qfr [17, 18] w w' ∧ IM w' (n + 1) (fun i => if i = n then c else bf i) V vr fa C cl S id st cb gr else f_MO_type w 17 (nI c) = some (0, w) := by
  obtain ⟨⟨a1, a2, a3, a4, a5, a6, a7, a8, a9, a10, h0⟩, ⟨f, e2, e3⟩, h2, h3, h4, h5⟩ := h
  have hn := hB.1
  have hlt := g_lt h0
  have hlt2 := g_lt e2
  unfold f_MO_type
  rw [i_lt (y := 32) (b := 32) rfl rfl (by omega) (by omega), i_lt (x := 126) (a := 126) rfl rfl (by omega) (by omega)]
  by_cases c1 : c < 32
  · rw [if_neg (by omega), if_pos c1]
    rfl
  · by_cases c2 : 126 < c
    · rw [if_neg (by omega), if_neg c1, if_pos c2]
      rfl
    · rw [if_neg c1, if_neg c2, g_b1 (g_i h0 rfl), i_eq (y := 200) (b := 200) rfl rfl (by omega) (by omega)]
      by_cases c3 : n = 200
      · rw [if_neg (by omega), if_pos c3]
        rfl
      · rw [if_pos ⟨by omega, by omega, by omega⟩, if_neg c3, g_b1 (g_r h0 rfl), g_b1 (g_i h0 rfl), g_b1 (g_s e2 (by omega) (by omega))]
        have e1' : (w.set 18 (.inl (0, 200, upd f n (nI c))))[17]? = _ := (g_sn (by decide)).trans h0
        rw [g_b1 (g_i e1' rfl), g_b1 (g_p e1' rfl), nI_1]
        have hf : qfr [17, 18] w ((w.set 18 (.inl (0, 200, upd f n (nI c)))).set 17 (mo (nI (n + 1)) (nI V) (nI C) a1 a2 (nI S) a3 a4 a5 a6 a7 a8 a9 a10)) := (qfr.refl.set (by decide)).set (by decide)
        refine ⟨_, rfl, hf, ⟨a1, a2, a3, a4, a5, a6, a7, a8, a9, a10, g_ss (by rw [List.length_set]; exact hlt)⟩, ⟨upd f n (nI c), (g_sn (by decide)).trans (g_ss hlt2), u_b e3⟩, h2.fr hf (by decide) (by decide) (by decide) (by decide), h3.fr hf (by decide) (by decide) (by decide) (by decide), h4.fr hf (by decide) (by decide) (by decide) (by decide), h5.fr hf (by decide)⟩
end
