/-! the class's reading of a word -/
section
variable {w : qw} {n p s e : Nat} {bf : Nat → Nat} {ch : Nat → Int32} {S E nu no : Int32}
theorem r158 (hlt : 1 < w.length) (x1 x4 : Int32) : lj_Words_readNumber_158 1 x1 x4 (w.set 1 (wo1 n S E nu no)) = some (w.set 1 (wo1 n S E nu (if x1 = 0 then x4 else -x4))) := by
  have e1 : (w.set 1 (wo1 n S E nu no))[1]? = some (wo1 n S E nu no) := g_ss hlt
  unfold lj_Words_readNumber_158
  by_cases h : x1 = 0
  · rw [if_pos h, g_b1 (g_p e1 rfl), List.set_set, if_pos h]
    rfl
  · rw [if_neg h, g_b1 (g_p e1 rfl), List.set_set, if_neg h]
    rfl
theorem r91_0 (hlt : 1 < w.length) (x1 x4 x5 : Int32) (m : Nat) : ll_Words_readNumber_91 (m + 1) 1 x1 x4 x5 (w.set 1 (wo1 n S E 0 no)) = some (w.set 1 (wo1 n S E 0 (if x1 = 0 then x4 else -x4))) := by
  have e1 : (w.set 1 (wo1 n S E 0 no))[1]? = some (wo1 n S E 0 no) := g_ss hlt
  show lb_Words_readNumber_91 (ll_Words_readNumber_91 m) 1 x1 x4 x5 (w.set 1 (wo1 n S E 0 no)) = _
  unfold lb_Words_readNumber_91
  rw [g_b1 (g_i e1 rfl), r158 hlt, g_b1 (g_i e1 rfl), if_pos (show (0 : Int32) = 0 from rfl)]
  by_cases h : E ≤ x5
  · rw [if_pos h]
  · rw [if_neg h]
theorem r91 (hB : okB n bf) (hlt : 1 < w.length) (hch : w[2]? = some (.inl (1, 200, ch))) (hcb : ∀ i, i < n → ch i = nI (bf i)) (he : e ≤ n) (x1 : Int32) : ∀ k m a no, k ≤ e → k + 1 < m → ∃ no', ll_Words_readNumber_91 m 1 x1 (nI a) (nI (e - k)) (w.set 1 (wo1 n S (nI e) 1 no)) = some (w.set 1 (wo1 n S (nI e) (qb (ald bf e k)) no')) ∧ (ald bf e k = true → no' = if x1 = 0 then nI (dvl bf e k a) else -nI (dvl bf e k a)) := by
  have hn := hB.1
  intro k
  induction k with
  | zero =>
    intro m a no _ hm
    obtain ⟨m, rfl⟩ : ∃ z, m = z + 1 := ⟨m - 1, by omega⟩
    have e1 : (w.set 1 (wo1 n S (nI e) 1 no))[1]? = some (wo1 n S (nI e) 1 no) := g_ss hlt
    refine ⟨if x1 = 0 then nI a else -nI a, ?_, fun _ => rfl⟩
    show lb_Words_readNumber_91 (ll_Words_readNumber_91 m) 1 x1 (nI a) (nI (e - 0)) (w.set 1 (wo1 n S (nI e) 1 no)) = _
    unfold lb_Words_readNumber_91
    rw [g_b1 (g_i e1 rfl), i_le rfl rfl (by omega) (by omega), if_pos (by omega), r158 hlt]
    rfl
  | succ k ih =>
    intro m a no hk hm
    obtain ⟨m, rfl⟩ : ∃ z, m = z + 2 := ⟨m - 2, by omega⟩
    have e1 : (w.set 1 (wo1 n S (nI e) 1 no))[1]? = some (wo1 n S (nI e) 1 no) := g_ss hlt
    have e2 : (w.set 1 (wo1 n S (nI e) 1 no))[2]? = some (.inl (1, 200, ch)) := (g_sn (by decide)).trans hch
    have hc := hB.2 (e - (k + 1)) (by omega)
    have hl : q_ld (w.set 1 (wo1 n S (nI e) 1 no)) 2 1 (nI (e - (k + 1))) = some (nI (bf (e - (k + 1)))) := by rw [g_l e2 (by omega) (by omega), hcb _ (by omega)]
    have step : ll_Words_readNumber_91 (m + 2) 1 x1 (nI a) (nI (e - (k + 1))) (w.set 1 (wo1 n S (nI e) 1 no)) = if bf (e - (k + 1)) < 48 then lj_Words_readNumber_136 (ll_Words_readNumber_91 (m + 1)) 1 x1 (nI a) (nI (e - (k + 1))) (nI (bf (e - (k + 1)))) 0 1 (w.set 1 (wo1 n S (nI e) 1 no)) else if 57 < bf (e - (k + 1)) then lj_Words_readNumber_136 (ll_Words_readNumber_91 (m + 1)) 1 x1 (nI a) (nI (e - (k + 1))) (nI (bf (e - (k + 1)))) 0 1 (w.set 1 (wo1 n S (nI e) 1 no)) else lj_Words_readNumber_136 (ll_Words_readNumber_91 (m + 1)) 1 x1 (nI a) (nI (e - (k + 1))) (nI (bf (e - (k + 1)))) 1 1 (w.set 1 (wo1 n S (nI e) 1 no)) := by
      show lb_Words_readNumber_91 (ll_Words_readNumber_91 (m + 1)) 1 x1 (nI a) (nI (e - (k + 1))) (w.set 1 (wo1 n S (nI e) 1 no)) = _
      unfold lb_Words_readNumber_91
      rw [g_b1 (g_i e1 rfl), i_le rfl rfl (by omega) (by omega), if_neg (by omega), g_b1 (g_i e1 rfl), if_neg (by decide), g_b1 (g_r e1 rfl), g_b1 hl, i_lt (y := 48) (b := 48) rfl rfl (by omega) (by omega), i_lt (x := 57) (a := 57) rfl rfl (by omega) (by omega)]
    have bad : ∃ no', lj_Words_readNumber_136 (ll_Words_readNumber_91 (m + 1)) 1 x1 (nI a) (nI (e - (k + 1))) (nI (bf (e - (k + 1)))) 0 1 (w.set 1 (wo1 n S (nI e) 1 no)) = some (w.set 1 (wo1 n S (nI e) (qb false) no')) := by
      unfold lj_Words_readNumber_136
      rw [g_ob q_z0, g_b1 (g_p e1 rfl), List.set_set]
      exact ⟨_, r91_0 hlt _ _ _ m⟩
    rw [step]
    unfold ald dig
    by_cases h1 : bf (e - (k + 1)) < 48
    · obtain ⟨no', hb⟩ := bad
      rw [if_pos h1, decide_eq_false (by omega), Bool.false_and]
      exact ⟨no', hb, fun h => by cases h⟩
    · rw [if_neg h1]
      by_cases h2 : 57 < bf (e - (k + 1))
      · obtain ⟨no', hb⟩ := bad
        rw [if_pos h2, decide_eq_false (by omega), Bool.false_and]
        exact ⟨no', hb, fun h => by cases h⟩
      · rw [if_neg h2, decide_eq_true ⟨by omega, by omega⟩, Bool.true_and]
        unfold lj_Words_readNumber_136
        have hv : nI a * 10 + (nI (bf (e - (k + 1))) - 48) = nI (a * 10 + (bf (e - (k + 1)) - 48)) := by
          rw [show nI a * (10 : Int32) = nI (a * 10) from pk_mul a 10, n48 (by omega), nI_add]
        rw [g_ob q_z1, g_b1 (g_p e1 rfl), List.set_set, hv, nI_1, show e - (k + 1) + 1 = e - k by omega]
        exact ih (m + 1) _ no (by omega) (by omega)
theorem c_num (hB : okB n bf) (hlt : 1 < w.length) (hch : w[2]? = some (.inl (1, 200, ch))) (hcb : ∀ i, i < n → ch i = nI (bf i)) (hs : s ≤ e) (he : e ≤ n) : ∃ no', f_Words_readNumber (w.set 1 (wo1 n (nI s) (nI e) nu no)) 1 = some (w.set 1 (wo1 n (nI s) (nI e) (qb (nmb bf s e)) no')) ∧ (nmb bf s e = true → no' = vlu bf s e) := by
  have hn := hB.1
  have e1 : (w.set 1 (wo1 n (nI s) (nI e) nu no))[1]? = some (wo1 n (nI s) (nI e) nu no) := g_ss hlt
  have e2 : (w.set 1 (wo1 n (nI s) (nI e) nu no))[2]? = some (.inl (1, 200, ch)) := (g_sn (by decide)).trans hch
  have hft := ft_in (bf := bf) (s := s) (e := e) hs
  have h48 : ∃ no', lj_Words_readNumber_48 1 (qb (ng bf s e)) (nI (ft bf s e)) (w.set 1 (wo1 n (nI s) (nI e) nu no)) = some (w.set 1 (wo1 n (nI s) (nI e) (qb (nmb bf s e)) no')) ∧ (nmb bf s e = true → no' = vlu bf s e) := by
    have bad : dok bf s e = false → ∀ c, c = w.set 1 (wo1 n (nI s) (nI e) 0 no) → ∃ no', ll_Words_readNumber_91 q_fu 1 (qb (ng bf s e)) 0 (nI (ft bf s e)) c = some (w.set 1 (wo1 n (nI s) (nI e) (qb (nmb bf s e)) no')) ∧ (nmb bf s e = true → no' = vlu bf s e) := by
      intro hd c hc
      subst hc
      have hf : nmb bf s e = false := by unfold nmb; rw [hd]; rfl
      rw [hf]
      exact ⟨_, r91_0 hlt _ _ _ 99999, fun h => by cases h⟩
    unfold lj_Words_readNumber_48
    rw [g_b1 (g_i e1 rfl), pk_sub hft.2, i_lt (y := 1) (b := 1) rfl rfl (by omega) (by omega), i_lt (x := 3) (a := 3) rfl rfl (by omega) (by omega)]
    by_cases c1 : e - ft bf s e < 1
    · rw [if_pos c1, g_ob q_z0, g_b1 (g_p e1 rfl), List.set_set]
      exact bad (by unfold dok; exact decide_eq_false (by omega)) _ rfl
    · rw [if_neg c1]
      by_cases c2 : 3 < e - ft bf s e
      · rw [if_pos c2, g_ob q_z0, g_b1 (g_p e1 rfl), List.set_set]
        exact bad (by unfold dok; exact decide_eq_false (by omega)) _ rfl
      · have hcf := hB.2 (ft bf s e) (by omega)
        have hlf : q_ld (w.set 1 (wo1 n (nI s) (nI e) nu no)) 2 1 (nI (ft bf s e)) = some (nI (bf (ft bf s e))) := by rw [g_l e2 (by omega) (by omega), hcb _ (by omega)]
        have hz : f_Words_hasIdleZero (w.set 1 (wo1 n (nI s) (nI e) nu no)) 1 (nI (ft bf s e)) (nI (e - ft bf s e)) (qb (ng bf s e)) = some (qb (!dok bf s e), w.set 1 (wo1 n (nI s) (nI e) nu no)) := by
          unfold f_Words_hasIdleZero
          rw [g_b1 (g_r e1 rfl), g_b1 hlf, i_eq (y := 48) (b := 48) rfl rfl (by omega) (by omega)]
          by_cases c3 : bf (ft bf s e) = 48
          · rw [if_pos c3, i_le (y := 1) (b := 1) rfl rfl (by omega) (by omega)]
            cases hg : ng bf s e with
            | true =>
              have : dok bf s e = false := by unfold dok; exact decide_eq_false (fun h => h.2.2 ⟨c3, Or.inl hg⟩)
              rw [if_neg (by decide), this]
              rfl
            | false =>
              rw [if_pos (show qb false = 0 from rfl)]
              by_cases c4 : e - ft bf s e ≤ 1
              · have : dok bf s e = true := by
                  unfold dok
                  refine decide_eq_true ⟨by omega, by omega, fun h => ?_⟩
                  rcases h.2 with h | h
                  · rw [hg] at h
                    cases h
                  · omega
                rw [if_pos c4, this]
                rfl
              · have : dok bf s e = false := by unfold dok; exact decide_eq_false (fun h => h.2.2 ⟨c3, Or.inr (by omega)⟩)
                rw [if_neg c4, this]
                rfl
          · have : dok bf s e = true := by
              unfold dok
              exact decide_eq_true ⟨by omega, by omega, fun h => c3 h.1⟩
            rw [if_neg c3, this]
            rfl
        rw [if_neg c2, g_ob (g_is e1), g_b2 hz]
        cases hd : dok bf s e with
        | false =>
          rw [if_neg (by decide), g_ob q_z0, g_b1 (g_p e1 rfl), List.set_set]
          exact bad hd _ rfl
        | true =>
          rw [if_pos (show qb (!true) = 0 from rfl), g_ob q_z1, g_b1 (g_p e1 rfl), List.set_set]
          obtain ⟨no', g1, g2⟩ := r91 (S := nI s) hB hlt hch hcb he (qb (ng bf s e)) (e - ft bf s e) q_fu 0 no (by omega) (by unfold q_fu; omega)
          rw [show e - (e - ft bf s e) = ft bf s e by omega] at g1
          have hnm : nmb bf s e = ald bf e (e - ft bf s e) := by unfold nmb; rw [hd, Bool.true_and]
          rw [hnm]
          refine ⟨no', g1, fun h => ?_⟩
          rw [g2 h]
          unfold vlu
          cases ng bf s e <;> rfl
  unfold f_Words_readNumber
  rw [g_b1 (g_i e1 rfl), g_b1 (g_i e1 rfl), i_le rfl rfl (by omega) (by omega)]
  have h30 : lj_Words_readNumber_30 1 (qb (ng bf s e)) (w.set 1 (wo1 n (nI s) (nI e) nu no)) = lj_Words_readNumber_48 1 (qb (ng bf s e)) (nI (ft bf s e)) (w.set 1 (wo1 n (nI s) (nI e) nu no)) := by
    unfold lj_Words_readNumber_30 ft
    cases ng bf s e with
    | true => rw [if_neg (by decide), g_b1 (g_i e1 rfl), if_pos rfl, nI_1]
    | false => rw [if_pos (show qb false = 0 from rfl), g_b1 (g_i e1 rfl), if_neg (by decide)]
  rw [← h30] at h48
  by_cases c : e ≤ s
  · have hg : ng bf s e = false := by unfold ng; exact decide_eq_false (by omega)
    rw [hg] at h48
    rw [if_pos c]
    exact h48
  · have hc := hB.2 s (by omega)
    have hl : q_ld (w.set 1 (wo1 n (nI s) (nI e) nu no)) 2 1 (nI s) = some (nI (bf s)) := by rw [g_l e2 (by omega) (by omega), hcb _ (by omega)]
    rw [if_neg c, g_b1 (g_r e1 rfl), g_b1 (g_i e1 rfl), g_b1 hl, i_eq (y := 45) (b := 45) rfl rfl (by omega) (by omega)]
    by_cases c2 : bf s = 45
    · have hg : ng bf s e = true := by unfold ng; exact decide_eq_true ⟨by omega, c2⟩
      rw [hg] at h48
      rw [if_pos c2]
      exact h48
    · have hg : ng bf s e = false := by unfold ng; exact decide_eq_false (fun h => c2 h.2)
      rw [hg] at h48
      rw [if_neg c2]
      exact h48
theorem c_adv (hB : okB n bf) (h1 : w[1]? = some (wo1 n S (nI p) nu no)) (hch : w[2]? = some (.inl (1, 200, ch))) (hcb : ∀ i, i < n → ch i = nI (bf i)) (hp : p ≤ n) : ∃ no', f_Words_advance w 1 = some (qb (decide (bg bf n p < en bf n (bg bf n p))), w.set 1 (wo1 n (nI (bg bf n p)) (nI (en bf n (bg bf n p))) (qb (nmb bf (bg bf n p) (en bf n (bg bf n p)))) no')) ∧ (nmb bf (bg bf n p) (en bf n (bg bf n p)) = true → no' = vlu bf (bg bf n p) (en bf n (bg bf n p))) := by
  have hn := hB.1
  have hlt := g_lt h1
  have hbg := bg_in (bf := bf) hp
  have hen := en_in (bf := bf) (n := n) (p := bg bf n p) hbg.2.1
  -- the end
  have last : ∀ s e, s ≤ e → e ≤ n → ∃ no', lj_Words_advance_92 1 (w.set 1 (wo1 n (nI s) (nI e) nu no)) = some (qb (decide (s < e)), w.set 1 (wo1 n (nI s) (nI e) (qb (nmb bf s e)) no')) ∧ (nmb bf s e = true → no' = vlu bf s e) := by
    intro s e hs he
    obtain ⟨no', g1, g2⟩ := c_num (nu := nu) (no := no) hB hlt hch hcb hs he
    have e1 : (w.set 1 (wo1 n (nI s) (nI e) nu no))[1]? = some (wo1 n (nI s) (nI e) nu no) := g_ss hlt
    have e2 : (w.set 1 (wo1 n (nI s) (nI e) (qb (nmb bf s e)) no'))[1]? = some (wo1 n (nI s) (nI e) (qb (nmb bf s e)) no') := g_ss hlt
    refine ⟨no', ?_, g2⟩
    unfold lj_Words_advance_92
    rw [g_ob (g_is e1), g_b1 g1, g_b1 (g_i e2 rfl), g_b1 (g_i e2 rfl), i_le rfl rfl (by omega) (by omega)]
    by_cases c : e ≤ s
    · rw [if_pos c, decide_eq_false (by omega)]
      rfl
    · rw [if_neg c, decide_eq_true (by omega)]
      rfl
  have l54 : ∀ k m s, k ≤ n → k < m → ll_Words_advance_54 m 1 (w.set 1 (wo1 n (nI s) (nI (n - k)) nu no)) = lj_Words_advance_92 1 (w.set 1 (wo1 n (nI s) (nI (edd bf n k)) nu no)) := by
    intro k
    induction k with
    | zero =>
      intro m s _ hm
      obtain ⟨m, rfl⟩ : ∃ z, m = z + 1 := ⟨m - 1, by omega⟩
      have e1 : (w.set 1 (wo1 n (nI s) (nI (n - 0)) nu no))[1]? = some (wo1 n (nI s) (nI (n - 0)) nu no) := g_ss hlt
      show lb_Words_advance_54 (ll_Words_advance_54 m) 1 (w.set 1 (wo1 n (nI s) (nI (n - 0)) nu no)) = _
      unfold lb_Words_advance_54
      rw [g_b1 (g_i e1 rfl), g_b1 (g_i e1 rfl), i_le rfl rfl (by omega) (by omega), if_pos (by omega)]
      rfl
    | succ k ih =>
      intro m s hk hm
      obtain ⟨m, rfl⟩ : ∃ z, m = z + 1 := ⟨m - 1, by omega⟩
      have e1 : (w.set 1 (wo1 n (nI s) (nI (n - (k + 1))) nu no))[1]? = some (wo1 n (nI s) (nI (n - (k + 1))) nu no) := g_ss hlt
      have e2 : (w.set 1 (wo1 n (nI s) (nI (n - (k + 1))) nu no))[2]? = some (.inl (1, 200, ch)) := (g_sn (by decide)).trans hch
      have hc := hB.2 (n - (k + 1)) (by omega)
      have hl : q_ld (w.set 1 (wo1 n (nI s) (nI (n - (k + 1))) nu no)) 2 1 (nI (n - (k + 1))) = some (nI (bf (n - (k + 1)))) := by rw [g_l e2 (by omega) (by omega), hcb _ (by omega)]
      show lb_Words_advance_54 (ll_Words_advance_54 m) 1 (w.set 1 (wo1 n (nI s) (nI (n - (k + 1))) nu no)) = _
      unfold lb_Words_advance_54
      rw [g_b1 (g_i e1 rfl), g_b1 (g_i e1 rfl), i_le rfl rfl (by omega) (by omega), if_neg (by omega), g_b1 (g_r e1 rfl), g_b1 (g_i e1 rfl), g_b1 hl, i_eq (y := 32) (b := 32) rfl rfl (by omega) (by omega)]
      unfold edd
      by_cases c : bf (n - (k + 1)) = 32
      · rw [if_pos c, if_pos c]
      · rw [if_neg c, if_neg c, g_b1 (g_i e1 rfl), g_b1 (g_p e1 rfl), List.set_set, nI_1, show n - (k + 1) + 1 = n - k by omega]
        exact ih m s (by omega) (by omega)
  have l8 : ∀ k m, k ≤ n → k < m → ll_Words_advance_8 m 1 (w.set 1 (wo1 n (nI (n - k)) (nI p) nu no)) = ll_Words_advance_54 q_fu 1 (w.set 1 (wo1 n (nI (bgd bf n k)) (nI (bgd bf n k)) nu no)) := by
    intro k
    induction k with
    | zero =>
      intro m _ hm
      obtain ⟨m, rfl⟩ : ∃ z, m = z + 1 := ⟨m - 1, by omega⟩
      have e1 : (w.set 1 (wo1 n (nI (n - 0)) (nI p) nu no))[1]? = some (wo1 n (nI (n - 0)) (nI p) nu no) := g_ss hlt
      show lb_Words_advance_8 (ll_Words_advance_8 m) 1 (w.set 1 (wo1 n (nI (n - 0)) (nI p) nu no)) = _
      unfold lb_Words_advance_8
      rw [g_b1 (g_i e1 rfl), g_b1 (g_i e1 rfl), i_le rfl rfl (by omega) (by omega), if_pos (by omega), g_b1 (g_i e1 rfl), g_b1 (g_p e1 rfl), List.set_set]
      rfl
    | succ k ih =>
      intro m hk hm
      obtain ⟨m, rfl⟩ : ∃ z, m = z + 1 := ⟨m - 1, by omega⟩
      have e1 : (w.set 1 (wo1 n (nI (n - (k + 1))) (nI p) nu no))[1]? = some (wo1 n (nI (n - (k + 1))) (nI p) nu no) := g_ss hlt
      have e2 : (w.set 1 (wo1 n (nI (n - (k + 1))) (nI p) nu no))[2]? = some (.inl (1, 200, ch)) := (g_sn (by decide)).trans hch
      have hc := hB.2 (n - (k + 1)) (by omega)
      have hl : q_ld (w.set 1 (wo1 n (nI (n - (k + 1))) (nI p) nu no)) 2 1 (nI (n - (k + 1))) = some (nI (bf (n - (k + 1)))) := by rw [g_l e2 (by omega) (by omega), hcb _ (by omega)]
      show lb_Words_advance_8 (ll_Words_advance_8 m) 1 (w.set 1 (wo1 n (nI (n - (k + 1))) (nI p) nu no)) = _
      unfold lb_Words_advance_8
      rw [g_b1 (g_i e1 rfl), g_b1 (g_i e1 rfl), i_le rfl rfl (by omega) (by omega), if_neg (by omega), g_b1 (g_r e1 rfl), g_b1 (g_i e1 rfl), g_b1 hl, i_eq (y := 32) (b := 32) rfl rfl (by omega) (by omega)]
      unfold bgd
      by_cases c : bf (n - (k + 1)) = 32
      · rw [if_pos c, if_pos c, g_b1 (g_i e1 rfl), g_b1 (g_p e1 rfl), List.set_set, nI_1, show n - (k + 1) + 1 = n - k by omega]
        exact ih m (by omega) (by omega)
      · rw [if_neg c, if_neg c, g_b1 (g_i e1 rfl), g_b1 (g_p e1 rfl), List.set_set]
        rfl
  unfold f_Words_advance
  rw [g_b1 (g_i h1 rfl), g_b1 (g_p h1 rfl)]
  have h8 := l8 (n - p) q_fu (by omega) (by unfold q_fu; omega)
  rw [show n - (n - p) = p by omega] at h8
  have h54 := l54 (n - bgd bf n (n - p)) q_fu (bgd bf n (n - p)) (by omega) (by unfold q_fu; omega)
  have hb2 : bgd bf n (n - p) ≤ n := hbg.2.1
  rw [show n - (n - bgd bf n (n - p)) = bgd bf n (n - p) by omega] at h54
  obtain ⟨no', g1, g2⟩ := last (bg bf n p) (en bf n (bg bf n p)) hen.1 hen.2
  refine ⟨no', ?_, g2⟩
  refine Eq.trans ?_ g1
  refine Eq.trans h8 ?_
  exact h54
end
