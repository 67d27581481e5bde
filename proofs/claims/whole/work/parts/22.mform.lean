/-! formula(), in the reference -/
section
variable {w : qw} {n V C S : Nat} {bf vr id : Nat → Nat} {fa cb : Nat → Bool} {cl st gr : Nat → Int32}
/-- behind the loop that empties the places -/
def ex12 (w : qw) : Option (Int32 × qw) :=
  q_b1 (q_pf w 17 1 19 (.inl 0)) fun w36 =>
  q_b1 (q_pf w36 17 1 21 (.inl 0)) fun w37 =>
  q_ob (q_is w37 17 1) <| q_b2 (f_MO_begin w37 17 0) fun v39 w38 =>
  ll_MO_formula_49 q_fu 17 v39 0 w38
theorem l12 : ∀ k m (w : qw) (ap : Nat → Int32), k ≤ 9 → k < m → q_gr w 17 1 11 = some 25 → w[25]? = some (.inl (0, 9, ap)) → (∀ v, v < 9 - k → ap v = -1) → (∀ c, q_gr (w.set 25 c) 17 1 11 = some 25) → ∃ (w' : qw) (ap' : Nat → Int32), ll_MO_formula_12 m 17 (nI (9 - k)) w = ex12 w' ∧ qfr [25] w w' ∧ w'[25]? = some (.inl (0, 9, ap')) ∧ ∀ v, v < 9 → ap' v = -1 := by
  intro k
  induction k with
  | zero =>
    intro m w ap _ hm h1 h2 h3 _
    obtain ⟨m, rfl⟩ : ∃ z, m = z + 1 := ⟨m - 1, by omega⟩
    refine ⟨w, ap, ?_, qfr.refl, h2, h3⟩
    show lb_MO_formula_12 (ll_MO_formula_12 m) 17 (nI (9 - 0)) w = _
    unfold lb_MO_formula_12
    rw [if_pos (by decide)]
    rfl
  | succ k ih =>
    intro m w ap hk hm h1 h2 h3 h4
    obtain ⟨m, rfl⟩ : ∃ z, m = z + 1 := ⟨m - 1, by omega⟩
    have hlt := g_lt h2
    have e2 : (w.set 25 (.inl (0, 9, upd ap (9 - (k + 1)) (-1))))[25]? = _ := g_ss hlt
    obtain ⟨w', ap', g1, g2, g3, g4⟩ := ih m (w.set 25 (.inl (0, 9, upd ap (9 - (k + 1)) (-1)))) (upd ap (9 - (k + 1)) (-1)) (by omega) (by omega) (h4 _) e2 (fun v hv => by
      by_cases e : v = 9 - (k + 1)
      · rw [e, pk_us]
      · rw [pk_un e]
        exact h3 v (by omega)) (fun c => by rw [List.set_set]; exact h4 c)
    refine ⟨w', ap', ?_, (qfr.refl.set (by decide)).trans g2, g3, g4⟩
    show lb_MO_formula_12 (ll_MO_formula_12 m) 17 (nI (9 - (k + 1))) w = _
    unfold lb_MO_formula_12
    rw [i_le (x := 9) (a := 9) rfl rfl (by omega) (by omega), if_neg (by omega), g_b1 h1, g_b1 (g_s h2 (by omega) (by omega)), nI_1, show 9 - (k + 1) + 1 = 9 - k by omega]
    exact g1
theorem l244 {ac : Nat → Int32} : ∀ k m (w : qw) (f : Nat → Int32), k ≤ 12 → k < m → q_gr w 17 1 7 = some 22 → q_gr w 17 1 13 = some 26 → w[22]? = some (.inl (0, 12, f)) → w[26]? = some (.inl (0, 12, ac)) → (∀ i, i < 12 - k → f i = ac i) → (∀ c, q_gr (w.set 22 c) 17 1 7 = some 22 ∧ q_gr (w.set 22 c) 17 1 13 = some 26) → ∃ (w' : qw) (f' : Nat → Int32), ll_MO_formula_244 m 17 (nI (12 - k)) w = some (0, w') ∧ qfr [22] w w' ∧ w'[22]? = some (.inl (0, 12, f')) ∧ ∀ i, i < 12 → f' i = ac i := by
  intro k
  induction k with
  | zero =>
    intro m w f _ hm h1 h1' h2 h2' h3 _
    obtain ⟨m, rfl⟩ : ∃ z, m = z + 1 := ⟨m - 1, by omega⟩
    refine ⟨w, f, ?_, qfr.refl, h2, h3⟩
    show lb_MO_formula_244 (ll_MO_formula_244 m) 17 (nI (12 - 0)) w = _
    unfold lb_MO_formula_244
    rw [if_pos (by decide)]
  | succ k ih =>
    intro m w f hk hm h1 h1' h2 h2' h3 h4
    obtain ⟨m, rfl⟩ : ∃ z, m = z + 1 := ⟨m - 1, by omega⟩
    have hlt := g_lt h2
    have e2 : (w.set 22 (.inl (0, 12, upd f (12 - (k + 1)) (ac (12 - (k + 1))))))[22]? = _ := g_ss hlt
    obtain ⟨w', f', g1, g2, g3, g4⟩ := ih m _ _ (by omega) (by omega) (h4 _).1 (h4 _).2 e2 ((g_sn (by decide)).trans h2') (fun v hv => by
      by_cases e : v = 12 - (k + 1)
      · rw [e, pk_us]
      · rw [pk_un e]
        exact h3 v (by omega)) (fun c => by rw [List.set_set]; exact h4 c)
    refine ⟨w', f', ?_, (qfr.refl.set (by decide)).trans g2, g3, g4⟩
    show lb_MO_formula_244 (ll_MO_formula_244 m) 17 (nI (12 - (k + 1))) w = _
    unfold lb_MO_formula_244
    rw [i_le (x := 12) (a := 12) rfl rfl (by omega) (by omega), if_neg (by omega), g_b1 h1, g_b1 h1', g_b1 (g_l h2' (by omega) (by omega)), g_b1 (g_s h2 (by omega) (by omega)), nI_1, show 12 - (k + 1) + 1 = 12 - k by omega]
    exact g1
theorem l200 {s1 s2 s3 s4 s5 s6 s7 s8 s9 s10 s11 s12 s13 s14 : Int32} {av af : Nat → Int32} (hz : ∀ i, i < 8 → q_z (af i) = true) : ∀ k m (w : qw) (f g : Nat → Int32), k ≤ 8 → k < m → w[17]? = some (mo s1 s2 s3 s4 s5 s6 s7 s8 s9 s10 s11 s12 s13 s14) → w[19]? = some (.inl (0, 8, f)) → w[20]? = some (.inl (2, 8, g)) → w[23]? = some (.inl (0, 8, av)) → w[24]? = some (.inl (2, 8, af)) → (∀ i, i < 8 - k → f i = av i ∧ g i = af i) → ∃ (w' : qw) (f' g' : Nat → Int32), ll_MO_formula_200 m 17 (nI (8 - k)) w = ll_MO_formula_244 q_fu 17 0 w' ∧ qfr [19, 20] w w' ∧ w'[19]? = some (.inl (0, 8, f')) ∧ w'[20]? = some (.inl (2, 8, g')) ∧ ∀ i, i < 8 → f' i = av i ∧ g' i = af i := by
  intro k
  induction k with
  | zero =>
    intro m w f g _ hm h17 h19 h20 h23 h24 h3
    obtain ⟨m, rfl⟩ : ∃ z, m = z + 1 := ⟨m - 1, by omega⟩
    refine ⟨w, f, g, ?_, qfr.refl, h19, h20, h3⟩
    show lb_MO_formula_200 (ll_MO_formula_200 m) 17 (nI (8 - 0)) w = _
    unfold lb_MO_formula_200
    rw [if_pos (by decide)]
  | succ k ih =>
    intro m w f g hk hm h17 h19 h20 h23 h24 h3
    obtain ⟨m, rfl⟩ : ∃ z, m = z + 1 := ⟨m - 1, by omega⟩
    have a17 : (w.set 19 (.inl (0, 8, upd f (8 - (k + 1)) (av (8 - (k + 1))))))[17]? = _ := (g_sn (by decide)).trans h17
    have a20 : (w.set 19 (.inl (0, 8, upd f (8 - (k + 1)) (av (8 - (k + 1))))))[20]? = _ := (g_sn (by decide)).trans h20
    have a23 : (w.set 19 (.inl (0, 8, upd f (8 - (k + 1)) (av (8 - (k + 1))))))[23]? = _ := (g_sn (by decide)).trans h23
    have a24 : (w.set 19 (.inl (0, 8, upd f (8 - (k + 1)) (av (8 - (k + 1))))))[24]? = _ := (g_sn (by decide)).trans h24
    have a19 : (w.set 19 (.inl (0, 8, upd f (8 - (k + 1)) (av (8 - (k + 1))))))[19]? = _ := g_ss (g_lt h19)
    have hfa : qfr [19, 20] w (w.set 19 (.inl (0, 8, upd f (8 - (k + 1)) (av (8 - (k + 1)))))) := qfr.refl.set (by decide)
    show ∃ w' f' g', lb_MO_formula_200 (ll_MO_formula_200 m) 17 (nI (8 - (k + 1))) w = _ ∧ _
    unfold lb_MO_formula_200
    rw [i_le (x := 8) (a := 8) rfl rfl (by omega) (by omega), if_neg (by omega), g_b1 (g_r h17 rfl), g_b1 (g_r h17 rfl), g_b1 (g_l h23 (by omega) (by omega)), g_b1 (g_s h19 (by omega) (by omega))]
    generalize w.set 19 (.inl (0, 8, upd f (8 - (k + 1)) (av (8 - (k + 1))))) = wa at a17 a19 a20 a23 a24 hfa ⊢
    rw [g_b1 (g_r a17 rfl), g_b1 (g_r a17 rfl), g_b1 (g_l a24 (by omega) (by omega)), g_ob (hz _ (by omega)), g_b1 (g_s a20 (by omega) (by omega)), nI_1, show 8 - (k + 1) + 1 = 8 - k by omega]
    obtain ⟨w', f', g', g1, g2, g3, g4, g5⟩ := ih m (wa.set 20 (.inl (2, 8, upd g (8 - (k + 1)) (af (8 - (k + 1)))))) _ _ (by omega) (by omega) ((g_sn (by decide)).trans a17) ((g_sn (by decide)).trans a19) (g_ss (g_lt a20)) ((g_sn (by decide)).trans a23) ((g_sn (by decide)).trans a24) (fun v hv => by
      by_cases e : v = 8 - (k + 1)
      · rw [e, pk_us, pk_us]
        exact ⟨rfl, rfl⟩
      · rw [pk_un e, pk_un e]
        exact h3 v (by omega))
    exact ⟨w', f', g', g1, (hfa.set (by decide)).trans g2, g3, g4, g5⟩
theorem l170 {ap : Nat → Int32} : ∀ k m (w : qw) (f : Nat → Int32), k ≤ 9 → k < m → q_gr w 17 1 5 = some 21 → q_gr w 17 1 11 = some 25 → w[21]? = some (.inl (0, 9, f)) → w[25]? = some (.inl (0, 9, ap)) → (∀ i, i < 9 - k → f i = ap i) → (∀ c, q_gr (w.set 21 c) 17 1 5 = some 21 ∧ q_gr (w.set 21 c) 17 1 11 = some 25) → ∃ (w' : qw) (f' : Nat → Int32), ll_MO_formula_170 m 17 (nI (9 - k)) w = ll_MO_formula_200 q_fu 17 0 w' ∧ qfr [21] w w' ∧ w'[21]? = some (.inl (0, 9, f')) ∧ ∀ i, i < 9 → f' i = ap i := by
  intro k
  induction k with
  | zero =>
    intro m w f _ hm h1 h1' h2 h2' h3 _
    obtain ⟨m, rfl⟩ : ∃ z, m = z + 1 := ⟨m - 1, by omega⟩
    refine ⟨w, f, ?_, qfr.refl, h2, h3⟩
    show lb_MO_formula_170 (ll_MO_formula_170 m) 17 (nI (9 - 0)) w = _
    unfold lb_MO_formula_170
    rw [if_pos (by decide)]
  | succ k ih =>
    intro m w f hk hm h1 h1' h2 h2' h3 h4
    obtain ⟨m, rfl⟩ : ∃ z, m = z + 1 := ⟨m - 1, by omega⟩
    have hlt := g_lt h2
    have e2 : (w.set 21 (.inl (0, 9, upd f (9 - (k + 1)) (ap (9 - (k + 1))))))[21]? = _ := g_ss hlt
    obtain ⟨w', f', g1, g2, g3, g4⟩ := ih m _ _ (by omega) (by omega) (h4 _).1 (h4 _).2 e2 ((g_sn (by decide)).trans h2') (fun v hv => by
      by_cases e : v = 9 - (k + 1)
      · rw [e, pk_us]
      · rw [pk_un e]
        exact h3 v (by omega)) (fun c => by rw [List.set_set]; exact h4 c)
    refine ⟨w', f', ?_, (qfr.refl.set (by decide)).trans g2, g3, g4⟩
    show lb_MO_formula_170 (ll_MO_formula_170 m) 17 (nI (9 - (k + 1))) w = _
    unfold lb_MO_formula_170
    rw [i_le (x := 9) (a := 9) rfl rfl (by omega) (by omega), if_neg (by omega), g_b1 h1, g_b1 h1', g_b1 (g_l h2' (by omega) (by omega)), g_b1 (g_s h2 (by omega) (by omega)), nI_1, show 9 - (k + 1) + 1 = 9 - k by omega]
    exact g1
/-- the loop over the words -/
theorem m_loop (hB : okB n bf) : ∀ k m p s w, n - p < k → k + 1 < m → p ≤ n → mnF s ≤ p → okR s → mR n V C S s w → rB w n bf →
    ∃ w', ll_MO_formula_49 m 17 (nI (bg bf n p)) 0 w = lj_MO_formula_95 17 (nI (rdl rdF bf n k p s).2.1) (rdl rdF bf n k p s).1 w' ∧ qfr [17, 23, 24, 25, 26] w w' ∧ mS n V C S w' ∧ ((rdl rdF bf n k p s).1 = 0 → mR n V C S (rdl rdF bf n k p s).2.2 w') := by
  have hn := hB.1
  intro k
  induction k with
  | zero => intro m p s w hk; omega
  | succ k ih =>
    intro m p s w hk hm hp hmn hs h hb
    obtain ⟨m, rfl⟩ : ∃ z, m = z + 1 := ⟨m - 1, by omega⟩
    have hbg := bg_in (bf := bf) hp
    obtain ⟨⟨_, _, _, _, _, _, _, _, _, _, h17⟩, _⟩ := h.sh
    show ∃ w', lb_MO_formula_49 (ll_MO_formula_49 m) 17 (nI (bg bf n p)) 0 w = _ ∧ _
    unfold lb_MO_formula_49
    rw [g_b1 (g_i h17 rfl), i_le rfl rfl (by omega) (by omega)]
    by_cases hbn : bg bf n p = n
    · have hrd : rdl rdF bf n (k + 1) p s = (0, n, s) := by
        show (if bg bf n p = n then _ else _) = _
        rw [if_pos hbn]
      rw [if_pos (by omega), hrd, hbn]
      exact ⟨w, rfl, qfr.refl, h.sh, fun _ => h⟩
    · have hlt : bg bf n p < n := by omega
      have hgt := en_gt hlt (hbg.2.2 hlt)
      have hen := en_in (bf := bf) (n := n) (p := bg bf n p) (by omega)
      have hend := m_end (p := bg bf n p) hB (g_i h17 rfl) (g_r h17 rfl) hb (by omega)
      have hword := m_word (s := bg bf n p) (e := en bf n (bg bf n p)) hB (g_r h17 rfl) hb hgt hen.2
      rw [wd_tok] at hword
      obtain ⟨w2, r1, r2, r3, r4⟩ := m_read (t := tok bf (bg bf n p) (en bf n (bg bf n p))) tok_ok hs (by omega) h
      have hb2 := hb.fr r2 (by decide)
      obtain ⟨⟨_, _, _, _, _, _, _, _, _, _, q17⟩, _⟩ := r3
      have hbeg := m_begin (p := en bf n (bg bf n p)) hB (g_i q17 rfl) (g_r q17 rfl) hb2 hen.2
      rw [if_neg (by omega), if_pos rfl, g_ob (g_is h17), g_b2 hend, g_ob (g_is h17), g_b2 hword, g_ob (g_is h17), g_b2 r1]
      by_cases hr : (rdF s (tok bf (bg bf n p) (en bf n (bg bf n p)))).1 = 0
      · have hrd : rdl rdF bf n (k + 1) p s = rdl rdF bf n k (en bf n (bg bf n p)) (rdF s (tok bf (bg bf n p) (en bf n (bg bf n p)))).2 := by
          show (if bg bf n p = n then _ else _) = _
          rw [if_neg hbn, if_pos hr]
        have hmn2 := rdF_mn (s := s) (t := tok bf (bg bf n p) (en bf n (bg bf n p)))
        rw [if_pos hr, g_ob (g_is q17), g_b2 hbeg, hrd, hr]
        obtain ⟨w', g1, g2, g3⟩ := ih m (en bf n (bg bf n p)) _ w2 (by omega) (by omega) hen.2 (by omega) (rdF_ok hs hr) (r4 hr) hb2
        exact ⟨w', g1, r2.trans g2, g3⟩
      · have hrd : rdl rdF bf n (k + 1) p s = ((rdF s (tok bf (bg bf n p) (en bf n (bg bf n p)))).1, bg bf n p, (rdF s (tok bf (bg bf n p) (en bf n (bg bf n p)))).2) := by
          show (if bg bf n p = n then _ else _) = _
          rw [if_neg hbn, if_neg hr]
        obtain ⟨m, rfl⟩ : ∃ z, m = z + 1 := ⟨m - 1, by omega⟩
        rw [if_neg hr, hrd]
        refine ⟨w2, ?_, r2, ⟨⟨_, _, _, _, _, _, _, _, _, _, q17⟩, by assumption⟩, fun z => absurd z hr⟩
        show lb_MO_formula_49 (ll_MO_formula_49 m) 17 _ _ w2 = _
        unfold lb_MO_formula_49
        rw [g_b1 (g_i q17 rfl), i_le rfl rfl (by omega) (by omega), if_neg (by omega), if_neg hr]
theorem rdl_mn : ∀ k p s, p ≤ n → mnF s ≤ p → (rdl rdF bf n k p s).1 = 0 → mnF (rdl rdF bf n k p s).2.2 ≤ n := by
  intro k
  induction k with
  | zero => exact fun p s h1 h2 _ => Nat.le_trans h2 h1
  | succ k ih =>
    intro p s hp h
    have hbg := bg_in (bf := bf) hp
    unfold rdl
    by_cases h1 : bg bf n p = n
    · rw [if_pos h1]
      exact fun _ => Nat.le_trans h hp
    · have hlt : bg bf n p < n := by omega
      have hgt := en_gt hlt (hbg.2.2 hlt)
      have hen := en_in (bf := bf) (n := n) (p := bg bf n p) (by omega)
      have hmn2 := rdF_mn (s := s) (t := tok bf (bg bf n p) (en bf n (bg bf n p)))
      rw [if_neg h1]
      by_cases h2 : (rdF s (tok bf (bg bf n p) (en bf n (bg bf n p)))).1 = 0
      · rw [if_pos h2]
        exact ih _ _ hen.2 (by omega)
      · rw [if_neg h2]
        exact fun h3 => absurd h3 h2
theorem m_formula (hB : okB n bf) (hF : okF V vr) (h : IM w n bf V vr fa C cl S id st cb gr) :
    ∃ w', f_MO_formula w 17 = some (rda meF n (frd bf n), w') ∧ qfr [17, 19, 20, 21, 22, 23, 24, 25, 26] w w' ∧
      (rda meF n (frd bf n) = 0 → IM w' 0 bf (frd bf n).2.2.2.1 (frd bf n).2.2.2.2.1 (frd bf n).2.2.2.2.2.1 (frd bf n).2.2.2.2.2.2.1 (frd bf n).2.2.2.2.2.2.2.1 0 id st cb gr) ∧ (¬ rda meF n (frd bf n) = 0 → IM w' 0 bf V vr fa C cl S id st cb gr) := by
  obtain ⟨⟨a1, a2, a3, a4, a5, a6, a7, a8, a9, a10, h17⟩, hb, hrF, ⟨av, af, ap, ac, h23, h24, h25, h26, hz⟩, hrP, hrG⟩ := h
  have hn := hB.1
  have hlt := g_lt h17
  have hp1 : q_pf w 17 1 8 (.inl 0) = some (w.set 17 (mo (nI n) (nI V) (nI C) 0 a2 (nI S) a3 a4 a5 a6 a7 a8 a9 a10)) := g_p h17 rfl
  have hp2 : q_pf (w.set 17 (mo (nI n) (nI V) (nI C) 0 a2 (nI S) a3 a4 a5 a6 a7 a8 a9 a10)) 17 1 12 (.inl 0) = some (w.set 17 (mo (nI n) (nI V) (nI C) 0 0 (nI S) a3 a4 a5 a6 a7 a8 a9 a10)) := by
    rw [g_p (g_ss hlt) rfl, List.set_set]
    rfl
  unfold f_MO_formula
  rw [g_b1 hp1, g_b1 hp2]
  have hfa : qfr [17, 23, 24, 25, 26] w (w.set 17 (mo (nI n) (nI V) (nI C) 0 0 (nI S) a3 a4 a5 a6 a7 a8 a9 a10)) := qfr.refl.set (by decide)
  have a17 : (w.set 17 (mo (nI n) (nI V) (nI C) 0 0 (nI S) a3 a4 a5 a6 a7 a8 a9 a10))[17]? = _ := g_ss hlt
  have a23 : (w.set 17 (mo (nI n) (nI V) (nI C) 0 0 (nI S) a3 a4 a5 a6 a7 a8 a9 a10))[23]? = _ := (g_sn (by decide)).trans h23
  have a24 : (w.set 17 (mo (nI n) (nI V) (nI C) 0 0 (nI S) a3 a4 a5 a6 a7 a8 a9 a10))[24]? = _ := (g_sn (by decide)).trans h24
  have a25 : (w.set 17 (mo (nI n) (nI V) (nI C) 0 0 (nI S) a3 a4 a5 a6 a7 a8 a9 a10))[25]? = _ := (g_sn (by decide)).trans h25
  have a26 : (w.set 17 (mo (nI n) (nI V) (nI C) 0 0 (nI S) a3 a4 a5 a6 a7 a8 a9 a10))[26]? = _ := (g_sn (by decide)).trans h26
  generalize w.set 17 (mo (nI n) (nI V) (nI C) 0 0 (nI S) a3 a4 a5 a6 a7 a8 a9 a10) = wa at hfa a17 a23 a24 a25 a26 ⊢
  obtain ⟨wb, apb, l1, l2, l3, l4⟩ := l12 9 q_fu wa ap (by omega) (by unfold q_fu; omega) (g_r a17 rfl) a25 (fun v hv => by omega) (fun c => g_r ((g_sn (by decide)).trans a17) rfl)
  have l1 : ll_MO_formula_12 q_fu 17 0 wa = ex12 wb := l1
  have b17 : wb[17]? = _ := l2.at a17 (by decide)
  have hltb := g_lt b17
  have hfb : qfr [17, 23, 24, 25, 26] w wb := hfa.trans (l2.mono (by decide))
  rw [l1]
  unfold ex12
  have hp3 : q_pf wb 17 1 19 (.inl 0) = some (wb.set 17 (mo (nI n) (nI V) (nI C) 0 0 (nI S) 0 a4 a5 a6 a7 a8 a9 a10)) := g_p b17 rfl
  have hp4 : q_pf (wb.set 17 (mo (nI n) (nI V) (nI C) 0 0 (nI S) 0 a4 a5 a6 a7 a8 a9 a10)) 17 1 21 (.inl 0) = some (wb.set 17 (mo (nI n) (nI V) (nI C) 0 0 (nI S) 0 a4 0 a6 a7 a8 a9 a10)) := by
    rw [g_p (g_ss hltb) rfl, List.set_set]
    rfl
  rw [g_b1 hp3, g_b1 hp4]
  have c17 : (wb.set 17 (mo (nI n) (nI V) (nI C) 0 0 (nI S) 0 a4 0 a6 a7 a8 a9 a10))[17]? = _ := g_ss hltb
  have hfc : qfr [17, 23, 24, 25, 26] w (wb.set 17 (mo (nI n) (nI V) (nI C) 0 0 (nI S) 0 a4 0 a6 a7 a8 a9 a10)) := hfb.set (by decide)
  have hR0 : mR n V C S s0 (wb.set 17 (mo (nI n) (nI V) (nI C) 0 0 (nI S) 0 a4 0 a6 a7 a8 a9 a10)) := by
    refine ⟨a4, 0, a6, a7, a8, a9, a10, av, af, apb, ac, c17, (g_sn (by decide)).trans (l2.at a23 (by decide)), (g_sn (by decide)).trans (l2.at a24 (by decide)), (g_sn (by decide)).trans l3, (g_sn (by decide)).trans (l2.at a26 (by decide)), ⟨fun i hi => absurd hi (Nat.not_lt_zero _), fun v hv _ => l4 v hv⟩, fun i hi => absurd hi (Nat.not_lt_zero _), hz, fun z => absurd z (by decide), fun z => absurd z (by decide)⟩
  generalize wb.set 17 (mo (nI n) (nI V) (nI C) 0 0 (nI S) 0 a4 0 a6 a7 a8 a9 a10) = wc at c17 hfc hR0 ⊢
  have hbc := hb.fr hfc (by decide)
  have hbeg := m_begin (p := 0) hB (g_i c17 rfl) (g_r c17 rfl) hbc (Nat.zero_le _)
  have hbeg : f_MO_begin wc 17 0 = some (nI (bg bf n 0), wc) := hbeg
  rw [g_ob (g_is c17), g_b2 hbeg]
  obtain ⟨wd, m1, m2, m3, m4⟩ := m_loop (V := V) (C := C) (S := S) hB (n + 1) q_fu 0 s0 wc (by omega) (by unfold q_fu; omega) (Nat.zero_le _) (Nat.zero_le _) okR_s0 hR0 hbc
  rw [m1]
  have hfd : qfr [17, 23, 24, 25, 26] w wd := hfc.trans m2
  have hrngs := rdl_rng (rd := rdF) (bf := bf) (n := n) (fun s t => rdF_rng) (n + 1) 0 s0 (Nat.zero_le _)
  have h00 := rda_0 (me := meF) (x := frd bf n) hn hrngs
  have hok := rdl_okR (bf := bf) (n := n) (n + 1) 0 s0 okR_s0
  -- what stays where nothing is taken over
  have keep : ∀ b1 b2 b3 b4 b5 b6 b7 b8 b9 b10, IM (wd.set 17 (mo 0 (nI V) (nI C) b1 b2 (nI S) b3 b4 b5 b6 b7 b8 b9 b10)) 0 bf V vr fa C cl S id st cb gr := by
    intro b1 b2 b3 b4 b5 b6 b7 b8 b9 b10
    obtain ⟨⟨_, _, _, _, _, _, _, _, _, _, d17⟩, hN⟩ := m3
    have hfe : qfr [17, 23, 24, 25, 26] w (wd.set 17 (mo 0 (nI V) (nI C) b1 b2 (nI S) b3 b4 b5 b6 b7 b8 b9 b10)) := hfd.set (by decide)
    have hff : qfr [17] wd (wd.set 17 (mo 0 (nI V) (nI C) b1 b2 (nI S) b3 b4 b5 b6 b7 b8 b9 b10)) := qfr.refl.set (by decide)
    obtain ⟨f, e1, e2⟩ := hb
    exact ⟨⟨b1, b2, b3, b4, b5, b6, b7, b8, b9, b10, g_ss (g_lt d17)⟩, ⟨f, hfe.at e1 (by decide), fun i hi => absurd hi (Nat.not_lt_zero _)⟩, hrF.fr hfe (by decide) (by decide) (by decide) (by decide), hN.fr hff (by decide) (by decide) (by decide) (by decide), hrP.fr hfe (by decide) (by decide) (by decide) (by decide), hrG.fr hfe (by decide)⟩
  have hfr9 : ∀ c, qfr [17, 19, 20, 21, 22, 23, 24, 25, 26] w (wd.set 17 c) := fun c => (hfd.mono (by decide)).set (by decide)
  show ∃ w', lj_MO_formula_95 17 (nI (frd bf n).2.1) (frd bf n).1 wd = some (rda meF n (frd bf n), w') ∧ _
  unfold lj_MO_formula_95
  by_cases hr0 : (frd bf n).1 = 0
  · have hR := m4 hr0
    have hokR := hok hr0
    generalize hfe : (rdl rdF bf n (n + 1) 0 s0).2.2 = sf at hR hokR
    have hfe2 : (frd bf n).2.2 = sf := hfe
    have hans : rda meF n (frd bf n) = if meF sf then 0 else (-1000 : Int32) * 1 - nI n := by
      unfold rda
      rw [if_pos hr0, hfe2]
    rw [hfe2, hr0]
    obtain ⟨ph, V', vr', fa', C', cl', al', mn', now'⟩ := sf
    obtain ⟨o1, o2, o3, o4⟩ := hokR
    have hme : meF (ph, V', vr', fa', C', cl', al', mn', now') = decide (ph = 0 ∨ (ph = 2 ∧ now' = 0)) := rfl
    obtain ⟨b4, b5, b6, b7, b8, b9, b10, bv, bfa, bp, bc, d17, d23, d24, d25, d26, drv, dac, dz, d1, d2⟩ := hR
    have hltd := g_lt d17
    have hp5 : q_pf wd 17 1 1 (.inl 0) = some (wd.set 17 (mo 0 (nI V) (nI C) (nI V') (nI C') (nI S) (nI ph) b4 b5 b6 b7 b8 b9 b10)) := g_p d17 rfl
    have e17 : (wd.set 17 (mo 0 (nI V) (nI C) (nI V') (nI C') (nI S) (nI ph) b4 b5 b6 b7 b8 b9 b10))[17]? = _ := g_ss hltd
    rw [g_b1 (g_i d17 rfl), g_b1 hp5, if_pos (by decide), g_b1 (g_i e17 rfl), i_eq (y := 1) (b := 1) rfl rfl (by omega) (by omega)]
    have bad : meF (ph, V', vr', fa', C', cl', al', mn', now') = false → ∃ w', (some ((-1000 : Int32) - nI n, wd.set 17 (mo 0 (nI V) (nI C) (nI V') (nI C') (nI S) (nI ph) b4 b5 b6 b7 b8 b9 b10)) : Option (Int32 × qw)) = some (rda meF n (frd bf n), w') ∧ qfr [17, 19, 20, 21, 22, 23, 24, 25, 26] w w' ∧ (rda meF n (frd bf n) = 0 → IM w' 0 bf V' vr' fa' C' cl' 0 id st cb gr) ∧ (¬ rda meF n (frd bf n) = 0 → IM w' 0 bf V vr fa C cl S id st cb gr) := by
      intro hm
      have hans2 : rda meF n (frd bf n) = (-1000 : Int32) - nI n := by
        rw [hans, hm, if_neg (by decide)]
        rfl
      refine ⟨_, by rw [hans2], hfr9 _, fun z => ?_, fun _ => keep _ _ _ _ _ _ _ _ _ _⟩
      have := (h00.mp z).2
      rw [hfe2, hm] at this
      cases this
    have good : meF (ph, V', vr', fa', C', cl', al', mn', now') = true → ∃ w', lj_MO_formula_146 17 (wd.set 17 (mo 0 (nI V) (nI C) (nI V') (nI C') (nI S) (nI ph) b4 b5 b6 b7 b8 b9 b10)) = some (rda meF n (frd bf n), w') ∧ qfr [17, 19, 20, 21, 22, 23, 24, 25, 26] w w' ∧ (rda meF n (frd bf n) = 0 → IM w' 0 bf V' vr' fa' C' cl' 0 id st cb gr) ∧ (¬ rda meF n (frd bf n) = 0 → IM w' 0 bf V vr fa C cl S id st cb gr) := by
      intro hm
      have hans2 : rda meF n (frd bf n) = 0 := by rw [hans, hm, if_pos rfl]
      unfold lj_MO_formula_146
      have hp6 : q_pf (wd.set 17 (mo 0 (nI V) (nI C) (nI V') (nI C') (nI S) (nI ph) b4 b5 b6 b7 b8 b9 b10)) 17 1 2 (.inl (nI V')) = some (wd.set 17 (mo 0 (nI V') (nI C) (nI V') (nI C') (nI S) (nI ph) b4 b5 b6 b7 b8 b9 b10)) := by
        rw [g_p e17 rfl, List.set_set]
        rfl
      have hp7 : q_pf (wd.set 17 (mo 0 (nI V') (nI C) (nI V') (nI C') (nI S) (nI ph) b4 b5 b6 b7 b8 b9 b10)) 17 1 6 (.inl (nI C')) = some (wd.set 17 (mo 0 (nI V') (nI C') (nI V') (nI C') (nI S) (nI ph) b4 b5 b6 b7 b8 b9 b10)) := by
        rw [g_p (g_ss hltd) rfl, List.set_set]
        rfl
      have hp8 : q_pf (wd.set 17 (mo 0 (nI V') (nI C') (nI V') (nI C') (nI S) (nI ph) b4 b5 b6 b7 b8 b9 b10)) 17 1 14 (.inl 0) = some (wd.set 17 (mo 0 (nI V') (nI C') (nI V') (nI C') (nI 0) (nI ph) b4 b5 b6 b7 b8 b9 b10)) := by
        rw [g_p (g_ss hltd) rfl, List.set_set]
        rfl
      rw [g_b1 (g_i e17 rfl), g_b1 hp6, g_b1 (g_i (g_ss hltd) rfl), g_b1 hp7, g_b1 hp8]
      have hfe : qfr [17] wd (wd.set 17 (mo 0 (nI V') (nI C') (nI V') (nI C') (nI 0) (nI ph) b4 b5 b6 b7 b8 b9 b10)) := qfr.refl.set (by decide)
      have f17 : (wd.set 17 (mo 0 (nI V') (nI C') (nI V') (nI C') (nI 0) (nI ph) b4 b5 b6 b7 b8 b9 b10))[17]? = _ := g_ss hltd
      generalize wd.set 17 (mo 0 (nI V') (nI C') (nI V') (nI C') (nI 0) (nI ph) b4 b5 b6 b7 b8 b9 b10) = we at hfe f17 ⊢
      obtain ⟨o19, o20, o21, o22, r19, r20, r21, r22, _⟩ := hrF
      obtain ⟨wf, f21, t1, t2, t3, t4⟩ := l170 (ap := bp) 9 q_fu we o21 (by omega) (by unfold q_fu; omega) (g_r f17 rfl) (g_r f17 rfl) (hfe.at (hfd.at r21 (by decide)) (by decide)) (hfe.at d25 (by decide)) (fun i hi => by omega) (fun c => ⟨g_r ((g_sn (by decide)).trans f17) rfl, g_r ((g_sn (by decide)).trans f17) rfl⟩)
      have t1 : ll_MO_formula_170 q_fu 17 0 we = _ := t1
      have hff := hfe.mono (T := [17, 19, 20, 21, 22]) (by decide)
      have hfg := hff.trans (t2.mono (by decide))
      obtain ⟨wg, f19, f20, u1, u2, u3, u4, u5⟩ := l200 (av := bv) (af := bfa) dz 8 q_fu wf o19 o20 (by omega) (by unfold q_fu; omega) (t2.at f17 (by decide)) (t2.at (hfe.at (hfd.at r19 (by decide)) (by decide)) (by decide)) (t2.at (hfe.at (hfd.at r20 (by decide)) (by decide)) (by decide)) (t2.at (hfe.at d23 (by decide)) (by decide)) (t2.at (hfe.at d24 (by decide)) (by decide)) (fun i hi => by omega)
      have u1 : ll_MO_formula_200 q_fu 17 0 wf = _ := u1
      have hfh := hfg.trans (u2.mono (by decide))
      have g17 : wg[17]? = _ := u2.at (t2.at f17 (by decide)) (by decide)
      obtain ⟨wh, f22, v1, v2, v3, v4⟩ := l244 (ac := bc) 12 q_fu wg o22 (by omega) (by unfold q_fu; omega) (g_r g17 rfl) (g_r g17 rfl) (u2.at (t2.at (hfe.at (hfd.at r22 (by decide)) (by decide)) (by decide)) (by decide)) (u2.at (t2.at (hfe.at d26 (by decide)) (by decide)) (by decide)) (fun i hi => by omega) (fun c => ⟨g_r ((g_sn (by decide)).trans g17) rfl, g_r ((g_sn (by decide)).trans g17) rfl⟩)
      have v1 : ll_MO_formula_244 q_fu 17 0 wg = _ := v1
      have hfi := hfh.trans (v2.mono (by decide))
      have hfj : qfr [17, 19, 20, 21, 22, 23, 24, 25, 26] w wh := (hfd.mono (by decide)).trans (hfi.mono (by decide))
      refine ⟨wh, ?_, hfj, fun _ => ?_, fun z => absurd hans2 z⟩
      · rw [t1, u1, v1, hans2]
      · obtain ⟨f, e1, e2⟩ := hb
        have hv8 := o2.1
        refine ⟨⟨_, _, _, _, _, _, _, _, _, _, v2.at g17 (by decide)⟩, ⟨f, hfj.at e1 (by decide), fun i hi => absurd hi (Nat.not_lt_zero _)⟩, ⟨f19, f20, f21, f22, v2.at u3 (by decide), v2.at u4 (by decide), v2.at (u2.at t3 (by decide)) (by decide), v3, ⟨fun i hi => ?_, fun v hv hno => ?_⟩, fun i hi => ?_⟩, ⟨bv, bfa, bp, bc, hfi.at d23 (by decide), hfi.at d24 (by decide), hfi.at d25 (by decide), hfi.at d26 (by decide), dz⟩, ?_, hrG.fr hfj (by decide)⟩
        · have q1 := drv.1 i hi
          have q2 := u5 i (by omega)
          have q3 := o2.2.1 i hi
          rw [q2.1, q2.2, t4 _ (by omega)]
          exact q1
        · rw [t4 v hv]
          exact drv.2 v hv hno
        · have := o3.1
          rw [v4 i (by omega)]
          exact dac i hi
        · obtain ⟨p1, p2, p3, p4, y1, y2, y3, y4, y5⟩ := hrP
          exact ⟨p1, p2, p3, p4, hfj.at y1 (by decide), hfj.at y2 (by decide), hfj.at y3 (by decide), hfj.at y4 (by decide), fun i hi => absurd hi (Nat.not_lt_zero _)⟩
    by_cases c1 : ph = 1
    · rw [if_pos c1]
      exact bad (by rw [hme]; exact decide_eq_false (by omega))
    · rw [if_neg c1, g_b1 (g_i e17 rfl), i_eq (y := 2) (b := 2) rfl rfl (by omega) (by omega)]
      by_cases c2 : ph = 2
      · obtain ⟨_, q2⟩ := d2 c2
        have q3 := (o4 c2).2
        subst q2
        rw [if_pos c2, g_b1 (g_i e17 rfl)]
        have hmnb : mn' ≤ 1000 := by
          have := rdl_mn (bf := bf) (n := n) (n + 1) 0 s0 (Nat.zero_le _) (Nat.zero_le _) hr0
          rw [hfe] at this
          have : mn' ≤ n := this
          omega
        rw [i_le (y := 0) (b := 0) rfl rfl (by omega) (by omega)]
        by_cases c3 : mn' = 0
        · rw [if_pos (by omega)]
          exact good (by rw [hme]; exact decide_eq_true (Or.inr ⟨c2, q3.mp c3⟩))
        · rw [if_neg (by omega)]
          exact bad (by rw [hme]; exact decide_eq_false (fun z => z.elim (fun z => by omega) (fun z => c3 (q3.mpr z.2))))
      · rw [if_neg c2]
        exact good (by rw [hme]; exact decide_eq_true (Or.inl (by omega)))
  · obtain ⟨⟨b1, b2, b3, b4, b5, b6, b7, b8, b9, b10, d17⟩, _⟩ := m3
    have hltd := g_lt d17
    have hp5 : q_pf wd 17 1 1 (.inl 0) = some (wd.set 17 (mo 0 (nI V) (nI C) b1 b2 (nI S) b3 b4 b5 b6 b7 b8 b9 b10)) := g_p d17 rfl
    obtain ⟨r, hr6, hre⟩ := rng_n hrngs.1
    have hre : (frd bf n).1 = nI r := hre
    have hr1 : r ≠ 0 := fun e => hr0 (by rw [hre, e]; rfl)
    have hans : rda meF n (frd bf n) = (-1000 : Int32) * (frd bf n).1 - nI (frd bf n).2.1 := by
      unfold rda
      rw [if_neg hr0]
    rw [g_b1 (g_i d17 rfl), g_b1 hp5, hans, hre, i_le (y := 0) (b := 0) rfl rfl (by omega) (by omega), if_neg (by omega)]
    refine ⟨_, rfl, hfr9 _, fun z => ?_, fun _ => keep _ _ _ _ _ _ _ _ _ _⟩
    rw [← hre, ← hans] at z
    exact absurd (h00.mp z).1 hr0
end
