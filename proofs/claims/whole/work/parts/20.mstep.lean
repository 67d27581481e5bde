/-! one step of the formula's reader, in the reference -/
def q_oth (x : Int32) : Int32 := ((x >>> ((8 : Int32) &&& 31)) &&& 255) ||| ((x &&& 255) <<< ((8 : Int32) &&& 31))
theorem b_oth (x : Int32) {i : Nat} (hi : i < 32) : bt (q_oth x) i = if i < 8 then bt x (i + 8) else if i < 16 then bt x (i - 8) else false := by
  unfold q_oth
  rw [b_or, b_and, b_sshr8 x hi, b_255, b_shl8 _ hi, b_and, b_255]
  by_cases h1 : i < 8
  · rw [if_pos h1, if_pos (by omega), decide_eq_true h1, decide_eq_false (by omega), Bool.and_true, Bool.false_and, Bool.or_false, Nat.add_comm]
  · rw [if_neg h1, decide_eq_false h1, Bool.and_false, Bool.false_or, decide_eq_true (by omega), Bool.true_and]
    by_cases h2 : i < 16
    · rw [if_pos h2, decide_eq_true (by omega), Bool.and_true]
    · rw [if_neg h2, decide_eq_false (by omega), Bool.and_false]
theorem oth_lbt (x : Int32) (sg : Bool) {d : Nat} (h1 : 1 ≤ d) (h2 : d ≤ 8) : bt (q_oth x) (lbt sg d) = bt x (lbt (!sg) d) := by
  have hl := lbt_lt sg (d := d) h2
  rw [b_oth x (by omega)]
  cases sg
  · show (if d - 1 < 8 then bt x (d - 1 + 8) else _) = bt x (d + 7)
    rw [if_pos (by omega), show d - 1 + 8 = d + 7 by omega]
  · show (if d + 7 < 8 then _ else if d + 7 < 16 then bt x (d + 7 - 8) else _) = bt x (d - 1)
    rw [if_neg (by omega), if_pos (by omega), show d + 7 - 8 = d - 1 by omega]
theorem f_oth (w : qw) (x : Int32) : f_MO_other w x = some (q_oth x, w) := rfl
theorem f_mbit (w : qw) (x : Int32) : f_MO_bit w x = some (q_bit x, w) := by
  unfold f_MO_bit q_bit
  have : -x + 7 = 7 - x := by rw [Int32.sub_eq_add_neg, Int32.add_comm]
  rw [this]
  by_cases h : x ≤ 0
  · rw [if_pos h, if_pos h]
  · rw [if_neg h, if_neg h]
def mR (n V0 C0 S : Nat) (s : ps) (w : qw) : Prop := match s with
  | (ph, V, vr, fa, C, cl, al, mn, now) => ∃ (a m nw own cubes f0 f1 : Int32) (av af ap ac : Nat → Int32), w[17]? = some (mo (nI n) (nI V0) (nI C0) (nI V) (nI C) (nI S) (nI ph) a m nw own cubes f0 f1) ∧ w[23]? = some (.inl (0, 8, av)) ∧ w[24]? = some (.inl (2, 8, af)) ∧ w[25]? = some (.inl (0, 9, ap)) ∧ w[26]? = some (.inl (0, 12, ac)) ∧ rV V vr fa av af ap ∧ (∀ i, i < C → ac i = cl i) ∧ (∀ i, i < 8 → q_z (af i) = true) ∧ (ph = 1 → a = qb al ∧ m = nI mn) ∧ (ph = 2 → nw = now ∧ m = nI mn)
def mS (n V0 C0 S : Nat) (w : qw) : Prop := (∃ (newv newc state all many now own cubes f0 f1 : Int32), w[17]? = some (mo (nI n) (nI V0) (nI C0) newv newc (nI S) state all many now own cubes f0 f1)) ∧ rN w
def mnF (s : ps) : Nat := s.2.2.2.2.2.2.2.1
section
variable {w : qw} {n V0 C0 S ph V C mn d : Nat} {vr : Nat → Nat} {fa : Nat → Bool} {cl : Nat → Int32} {al sg : Bool} {now : Int32}
theorem mR.sh {s : ps} (h : mR n V0 C0 S s w) : mS n V0 C0 S w := by
  obtain ⟨ph, V, vr, fa, C, cl, al, mn, now⟩ := s
  obtain ⟨a, m, nw, own, cubes, f0, f1, av, af, ap, ac, h17, h23, h24, h25, h26, _, _, hz, _⟩ := h
  exact ⟨⟨_, _, _, _, _, _, _, _, _, _, h17⟩, av, af, ap, ac, h23, h24, h25, h26, hz⟩
theorem ap_in (hF : okF V vr) {av af ap : Nat → Int32} (h : rV V vr fa av af ap) (h2 : d ≤ 8) : (dcl vr V d = true → ∃ i, i < V ∧ ap d = nI i) ∧ (dcl vr V d = false → ap d = -1) := by
  constructor
  · intro hd
    obtain ⟨i, h3, h4⟩ := (dcl_iff V).mp hd
    exact ⟨i, h3, by rw [← h4]; exact (h.1 i h3).2.2⟩
  · intro hd
    exact h.2 d (by omega) (fun i hi e => by rw [(dcl_iff V).mpr ⟨i, hi, e⟩] at hd; cases hd)
theorem rV_up (hF : okF V vr) {av af ap : Nat → Int32} (h : rV V vr fa av af ap) (hd : dcl vr V d = false) : rV (V + 1) (up vr V d) (up fa V al) (upd av V (nI d)) (upd af V (qb al)) (upd ap d (nI V)) := by
  have hno : ∀ i, i < V → vr i ≠ d := fun i hi e => by
    rw [(dcl_iff V).mpr ⟨i, hi, e⟩] at hd
    cases hd
  constructor
  · intro i hi
    by_cases e : i = V
    · subst e
      rw [pk_us, pk_us, up_s, up_s, pk_us]
      exact ⟨rfl, rfl, rfl⟩
    · rw [pk_un e, pk_un e, up_n e, up_n e, pk_un (hno i (by omega))]
      exact h.1 i (by omega)
  · intro v hv hn
    have h1 := hn V (by omega)
    rw [up_s] at h1
    rw [pk_un (fun e => h1 e.symm)]
    refine h.2 v hv (fun i hi => ?_)
    have h2 := hn i (by omega)
    rw [up_n (by omega)] at h2
    exact h2
theorem m_clause' (hd : d ≤ 999) (hmn : mn ≤ 1000) (hF : okF V vr) (hC : okC V vr C cl) (h : mR n V0 C0 S (2, V, vr, fa, C, cl, al, mn, now) w) :
    ∃ w', lj_MO_read_103 17 (nt sg d) w = some ((rdC V vr fa C cl al mn now sg d).1, w') ∧ qfr [17, 23, 24, 25, 26] w w' ∧ mS n V0 C0 S w' ∧ ((rdC V vr fa C cl al mn now sg d).1 = 0 → mR n V0 C0 S (rdC V vr fa C cl al mn now sg d).2 w') := by
  have hS := h.sh
  obtain ⟨a, m, nw, own, cubes, f0, f1, av, af, ap, ac, h17, h23, h24, h25, h26, hrv, hac, hz, h1, h2⟩ := h
  obtain ⟨hnw, hm⟩ := h2 rfl
  subst hnw
  subst hm
  have hzz := nt_int sg (d := d) (by omega)
  have hlt := g_lt h17
  have hlt6 := g_lt h26
  have hc12 := hC.1
  unfold lj_MO_read_103 rdC
  rw [z_eq hzz (show (0 : Int32).toInt = 0 by decide), z_lt hzz (show (-8 : Int32).toInt = -8 by decide), z_lt (show (8 : Int32).toInt = 8 by decide) hzz]
  by_cases c0 : d = 0
  · have k1 : zt sg d = 0 := by subst c0; cases sg <;> rfl
    rw [if_pos k1, if_pos c0, g_b1 (g_i h17 rfl), i_eq (y := 12) (b := 12) rfl rfl (by omega) (by omega)]
    by_cases c1 : C = 12
    · rw [if_pos c1, if_pos c1]
      exact ⟨w, rfl, qfr.refl, hS, fun z => absurd z x4⟩
    · have e17 : (w.set 26 (.inl (0, 12, upd ac C nw)))[17]? = _ := (g_sn (by decide)).trans h17
      have hlt' : 17 < (w.set 26 (.inl (0, 12, upd ac C nw))).length := by rw [List.length_set]; exact hlt
      rw [if_neg c1, if_neg c1, g_b1 (g_r h17 rfl), g_b1 (g_i h17 rfl), g_b1 (g_i h17 rfl), g_b1 (g_s h26 (by omega) (by omega)), g_b1 (g_i e17 rfl), g_b1 (g_p e17 rfl), nI_1, g_b1 (g_p (g_ss hlt') rfl), List.set_set, g_b1 (g_p (g_ss hlt') rfl), List.set_set]
      have hR : mR n V0 C0 S (2, V, vr, fa, C + 1, up cl C nw, al, 0, 0) ((w.set 26 (.inl (0, 12, upd ac C nw))).set 17 (mo (nI n) (nI V0) (nI C0) (nI V) (nI (C + 1)) (nI S) (nI 2) a 0 0 own cubes f0 f1)) := by
        refine ⟨a, 0, 0, own, cubes, f0, f1, av, af, ap, upd ac C nw, g_ss hlt', ?_, ?_, ?_, ?_, hrv, ?_, hz, fun z => by omega, fun _ => ⟨rfl, rfl⟩⟩
        · rw [g_sn (by decide), g_sn (by decide)]; exact h23
        · rw [g_sn (by decide), g_sn (by decide)]; exact h24
        · rw [g_sn (by decide), g_sn (by decide)]; exact h25
        · rw [g_sn (by decide)]; exact g_ss hlt6
        · intro i hi
          by_cases e : i = C
          · subst e
            rw [pk_us, up_s]
          · rw [pk_un e, up_n e, hac i (by omega)]
      exact ⟨_, rfl, (qfr.refl.set (by decide)).set (by decide), hR.sh, fun _ => hR⟩
  · have k1 : ¬ zt sg d = 0 := by
      cases sg
      · rw [zt_p]; omega
      · rw [zt_n]; omega
    rw [if_neg k1, if_neg c0]
    by_cases c8 : 8 < d
    · rw [if_pos (show 8 < d ∨ dcl vr V d = false from Or.inl c8)]
      cases sg
      · rw [zt_p, if_neg (show ¬ (d : Int) < -8 by omega), if_pos (show (8 : Int) < (d : Int) by omega)]
        exact ⟨w, rfl, qfr.refl, hS, fun z => absurd z x2⟩
      · rw [zt_n, if_pos (show -(d : Int) < -8 by omega)]
        exact ⟨w, rfl, qfr.refl, hS, fun z => absurd z x2⟩
    · have k2 : ¬ zt sg d < -8 := by
        cases sg
        · rw [zt_p]; omega
        · rw [zt_n]; omega
      have k3 : ¬ 8 < zt sg d := by
        cases sg
        · rw [zt_p]; omega
        · rw [zt_n]; omega
      rw [if_neg k2, if_neg k3, g_b1 (g_r h17 rfl)]
      have hgo : (if (0 : Int32) ≤ nt sg d then lj_MO_read_179 17 (nt sg d) (nt sg d) 25 w else lj_MO_read_179 17 (nt sg d) (-nt sg d) 25 w) = lj_MO_read_179 17 (nt sg d) (nI d) 25 w := by
        rw [z_le (show (0 : Int32).toInt = 0 by decide) hzz]
        cases sg
        · rw [zt_p, if_pos (by omega)]
          rfl
        · rw [zt_n, if_neg (by omega), nt_neg]
          rfl
      rw [hgo]
      unfold lj_MO_read_179
      rw [g_b1 (g_l h25 (show d < 9 by omega) (by omega))]
      have hap := ap_in hF hrv (show d ≤ 8 by omega)
      cases hdc : dcl vr V d with
      | false =>
        rw [hap.2 hdc, if_neg (by decide), if_pos (Or.inr rfl)]
        exact ⟨w, rfl, qfr.refl, hS, fun z => absurd z x2⟩
      | true =>
        obtain ⟨i, hi, hie⟩ := hap.1 hdc
        have hv8 := hF.1
        have hl1 := lbt_lt sg (d := d) (by omega)
        have hl2 := lbt_lt (!sg) (d := d) (by omega)
        rw [hie, if_pos (nI_pos' (by omega)), if_neg (by simp; omega), g_b1 (g_i h17 rfl), g_b1 (g_i h17 rfl), g_b2 (f_oth _ _), g_b2 (f_mbit _ _), nt_bit sg (by omega) (by omega)]
        have hb : bt (nw ||| q_oth nw) (lbt sg d) = (bt nw (lbt sg d) || bt nw (lbt (!sg) d)) := by
          rw [b_or, oth_lbt nw sg (by omega) (by omega)]
        by_cases c2 : bt nw (lbt sg d) = true ∨ bt nw (lbt (!sg) d) = true
        · have hb2 : bt (nw ||| q_oth nw) (lbt sg d) = true := by rw [hb, Bool.or_eq_true]; exact c2
          rw [if_neg (fun z => by rw [(b_and_sl _ (by omega)).mp z] at hb2; cases hb2), if_pos c2]
          exact ⟨w, rfl, qfr.refl, hS, fun z => absurd z x3⟩
        · have hb2 : bt (nw ||| q_oth nw) (lbt sg d) = false := by
            cases h9 : bt (nw ||| q_oth nw) (lbt sg d)
            · rfl
            · rw [hb, Bool.or_eq_true] at h9
              exact absurd h9 c2
          rw [if_pos ((b_and_sl _ (by omega)).mpr hb2), if_neg c2, g_b1 (g_i h17 rfl), g_b2 (f_mbit _ _), nt_bit sg (by omega) (by omega), g_b1 (g_p h17 rfl), g_b1 (g_i (g_ss hlt) rfl), g_b1 (g_p (g_ss hlt) rfl), List.set_set, nI_1]
          have hR : mR n V0 C0 S (2, V, vr, fa, C, cl, al, mn + 1, nw ||| sl (lbt sg d)) (w.set 17 (mo (nI n) (nI V0) (nI C0) (nI V) (nI C) (nI S) (nI 2) a (nI (mn + 1)) (nw ||| sl (lbt sg d)) own cubes f0 f1)) := by
            refine ⟨a, nI (mn + 1), nw ||| sl (lbt sg d), own, cubes, f0, f1, av, af, ap, ac, g_ss hlt, ?_, ?_, ?_, ?_, hrv, hac, hz, fun z => by omega, fun _ => ⟨rfl, rfl⟩⟩
            · rw [g_sn (by decide)]; exact h23
            · rw [g_sn (by decide)]; exact h24
            · rw [g_sn (by decide)]; exact h25
            · rw [g_sn (by decide)]; exact h26
          exact ⟨_, rfl, qfr.refl.set (by decide), hR.sh, fun _ => hR⟩
theorem m_block (hd : d ≤ 999) (hmn : mn ≤ 1000) (hF : okF V vr) (hC : okC V vr C cl) (h : mR n V0 C0 S (1, V, vr, fa, C, cl, al, mn, now) w) :
    ∃ w', f_MO_readInBlock w 17 (nt sg d) = some ((rdB V vr fa C cl al mn now sg d).1, w') ∧ qfr [17, 23, 24, 25, 26] w w' ∧ mS n V0 C0 S w' ∧ ((rdB V vr fa C cl al mn now sg d).1 = 0 → mR n V0 C0 S (rdB V vr fa C cl al mn now sg d).2 w') := by
  have hS := h.sh
  obtain ⟨a, m, nw, own, cubes, f0, f1, av, af, ap, ac, h17, h23, h24, h25, h26, hrv, hac, hz, h1, h2⟩ := h
  obtain ⟨ha, hm⟩ := h1 rfl
  subst ha
  subst hm
  have hzz := nt_int sg (d := d) (by omega)
  have hlt := g_lt h17
  have hlt3 := g_lt h23
  have hlt4 := g_lt h24
  have hlt5 := g_lt h25
  unfold f_MO_readInBlock rdB
  rw [z_lt hzz (show (0 : Int32).toInt = 0 by decide), z_eq hzz (show (0 : Int32).toInt = 0 by decide)]
  by_cases c0 : d = 0
  · have k1 : zt sg d = 0 := by subst c0; cases sg <;> rfl
    rw [if_neg (by omega), if_pos k1, if_pos c0, g_b1 (g_i h17 rfl), i_eq (y := 0) (b := 0) rfl rfl (by omega) (by omega)]
    by_cases c1 : mn = 0
    · rw [if_pos c1, if_pos c1]
      exact ⟨w, rfl, qfr.refl, hS, fun z => absurd z x1⟩
    · unfold lj_MO_readInBlock_17
      rw [if_neg c1, if_neg c1, z_eq hzz (show (0 : Int32).toInt = 0 by decide), if_pos k1, g_b1 (g_p h17 rfl)]
      have hR : mR n V0 C0 S (0, V, vr, fa, C, cl, al, mn, now) (w.set 17 (mo (nI n) (nI V0) (nI C0) (nI V) (nI C) (nI S) (nI 0) (qb al) (nI mn) nw own cubes f0 f1)) := by
        refine ⟨_, _, nw, own, cubes, f0, f1, av, af, ap, ac, g_ss hlt, ?_, ?_, ?_, ?_, hrv, hac, hz, fun z => by omega, fun z => by omega⟩
        · rw [g_sn (by decide)]; exact h23
        · rw [g_sn (by decide)]; exact h24
        · rw [g_sn (by decide)]; exact h25
        · rw [g_sn (by decide)]; exact h26
      exact ⟨_, rfl, qfr.refl.set (by decide), hR.sh, fun _ => hR⟩
  · rw [if_neg c0]
    cases sg with
    | true =>
      rw [zt_n, if_pos (show -(d : Int) < 0 by omega), if_pos rfl]
      exact ⟨w, rfl, qfr.refl, hS, fun z => absurd z x1⟩
    | false =>
      unfold lj_MO_readInBlock_17
      rw [zt_p, if_neg (show ¬ (d : Int) < 0 by omega), if_neg (show ¬ (d : Int) = 0 by omega), if_neg (show ¬ (false = true) by decide), z_eq hzz (show (0 : Int32).toInt = 0 by decide), zt_p, if_neg (show ¬ (d : Int) = 0 by omega), z_lt (show (8 : Int32).toInt = 8 by decide) hzz, zt_p]
      by_cases c8 : 8 < d
      · rw [if_pos (show (8 : Int) < (d : Int) by omega), if_pos (Or.inl c8)]
        exact ⟨w, rfl, qfr.refl, hS, fun z => absurd z x2⟩
      · have hap := ap_in hF hrv (show d ≤ 8 by omega)
        have hl : q_ld w 25 0 (nt false d) = some (ap d) := g_l h25 (show d < 9 by omega) (by omega)
        rw [if_neg (show ¬ (8 : Int) < (d : Int) by omega), g_b1 (g_r h17 rfl), g_b1 hl]
        cases hdc : dcl vr V d with
        | true =>
          obtain ⟨i, hi, hie⟩ := hap.1 hdc
          have hv8 := hF.1
          rw [hie, if_neg (nI_pos (by omega)), if_pos (Or.inr rfl)]
          exact ⟨w, rfl, qfr.refl, hS, fun z => absurd z x2⟩
        | false =>
          have hV8 := okF_lt hF ⟨by omega, by omega⟩ hdc
          have hst : q_st w 25 0 (nt false d) (nI V) = some (w.set 25 (.inl (0, 9, upd ap d (nI V)))) := g_s h25 (show d < 9 by omega) (by omega)
          have e17a : (w.set 25 (.inl (0, 9, upd ap d (nI V))))[17]? = _ := (g_sn (by decide)).trans h17
          have e23a : (w.set 25 (.inl (0, 9, upd ap d (nI V))))[23]? = _ := (g_sn (by decide)).trans h23
          have e24a : (w.set 25 (.inl (0, 9, upd ap d (nI V))))[24]? = _ := (g_sn (by decide)).trans h24
          have e26a : (w.set 25 (.inl (0, 9, upd ap d (nI V))))[26]? = _ := (g_sn (by decide)).trans h26
          have e25a : (w.set 25 (.inl (0, 9, upd ap d (nI V))))[25]? = _ := g_ss hlt5
          have hfa : qfr [17, 23, 24, 25, 26] w (w.set 25 (.inl (0, 9, upd ap d (nI V)))) := qfr.refl.set (by decide)
          rw [hap.2 hdc, if_pos (by decide), if_neg (by simp; omega), g_b1 (g_r h17 rfl), g_b1 (g_i h17 rfl), g_b1 hst]
          generalize w.set 25 (.inl (0, 9, upd ap d (nI V))) = wa at e17a e23a e24a e25a e26a hfa ⊢
          have e17b : (wa.set 23 (.inl (0, 8, upd av V (nI d))))[17]? = _ := (g_sn (by decide)).trans e17a
          have e23b : (wa.set 23 (.inl (0, 8, upd av V (nI d))))[23]? = _ := g_ss (g_lt e23a)
          have e24b : (wa.set 23 (.inl (0, 8, upd av V (nI d))))[24]? = _ := (g_sn (by decide)).trans e24a
          have e25b : (wa.set 23 (.inl (0, 8, upd av V (nI d))))[25]? = _ := (g_sn (by decide)).trans e25a
          have e26b : (wa.set 23 (.inl (0, 8, upd av V (nI d))))[26]? = _ := (g_sn (by decide)).trans e26a
          have hfb : qfr [17, 23, 24, 25, 26] w (wa.set 23 (.inl (0, 8, upd av V (nI d)))) := hfa.set (by decide)
          have hst2 : q_st wa 23 0 (nI V) (nt false d) = some (wa.set 23 (.inl (0, 8, upd av V (nI d)))) := g_s e23a hV8 (by omega)
          rw [g_b1 (g_r e17a rfl), g_b1 (g_i e17a rfl), g_b1 hst2]
          generalize wa.set 23 (.inl (0, 8, upd av V (nI d))) = wb at e17b e23b e24b e25b e26b hfb ⊢
          have e17c : (wb.set 24 (.inl (2, 8, upd af V (qb al))))[17]? = _ := (g_sn (by decide)).trans e17b
          have e23c : (wb.set 24 (.inl (2, 8, upd af V (qb al))))[23]? = _ := (g_sn (by decide)).trans e23b
          have e24c : (wb.set 24 (.inl (2, 8, upd af V (qb al))))[24]? = _ := g_ss (g_lt e24b)
          have e25c : (wb.set 24 (.inl (2, 8, upd af V (qb al))))[25]? = _ := (g_sn (by decide)).trans e25b
          have e26c : (wb.set 24 (.inl (2, 8, upd af V (qb al))))[26]? = _ := (g_sn (by decide)).trans e26b
          have hfc : qfr [17, 23, 24, 25, 26] w (wb.set 24 (.inl (2, 8, upd af V (qb al)))) := hfb.set (by decide)
          rw [g_b1 (g_r e17b rfl), g_b1 (g_i e17b rfl), g_b1 (g_i e17b rfl), g_ob (qb_z al), g_b1 (g_s e24b hV8 (by omega))]
          generalize wb.set 24 (.inl (2, 8, upd af V (qb al))) = wc at e17c e23c e24c e25c e26c hfc ⊢
          have hltc := g_lt e17c
          rw [g_b1 (g_i e17c rfl), g_b1 (g_p e17c rfl), nI_1, g_b1 (g_i (g_ss hltc) rfl), g_b1 (g_p (g_ss hltc) rfl), List.set_set, nI_1]
          have hR : mR n V0 C0 S (1, V + 1, up vr V d, up fa V al, C, cl, al, mn + 1, now) (wc.set 17 (mo (nI n) (nI V0) (nI C0) (nI (V + 1)) (nI C) (nI S) (nI 1) (qb al) (nI (mn + 1)) nw own cubes f0 f1)) := by
            refine ⟨_, _, nw, own, cubes, f0, f1, upd av V (nI d), upd af V (qb al), upd ap d (nI V), ac, g_ss hltc, ?_, ?_, ?_, ?_, rV_up hF hrv hdc, hac, ?_, fun _ => ⟨rfl, rfl⟩, fun z => by omega⟩
            · rw [g_sn (by decide)]; exact e23c
            · rw [g_sn (by decide)]; exact e24c
            · rw [g_sn (by decide)]; exact e25c
            · rw [g_sn (by decide)]; exact e26c
            · intro i hi
              by_cases e : i = V
              · subst e
                rw [pk_us]
                exact qb_z al
              · rw [pk_un e]
                exact hz i hi
          exact ⟨_, rfl, hfc.set (by decide), hR.sh, fun _ => hR⟩
theorem m_read {s : ps} {t : tk} (ht : okT t) (hs : okR s) (hmn : mnF s ≤ 1000) (h : mR n V0 C0 S s w) :
    ∃ w', f_MO_read w 17 (twd t) = some ((rdF s t).1, w') ∧ qfr [17, 23, 24, 25, 26] w w' ∧ mS n V0 C0 S w' ∧ ((rdF s t).1 = 0 → mR n V0 C0 S (rdF s t).2 w') := by
  have hS := h.sh
  obtain ⟨ph, V, vr, fa, C, cl, al, mn, now⟩ := s
  obtain ⟨hs1, hs2, hs3, hs4⟩ := hs
  have hmn : mn ≤ 1000 := hmn
  unfold f_MO_read
  cases t with
  | inr c =>
    obtain ⟨a, m, nw, own, cubes, f0, f1, av, af, ap, ac, h17, h23, h24, h25, h26, hrv, hac, hz, h1, h2⟩ := h
    have hlt := g_lt h17
    have hcc : c = 0 ∨ c = 97 ∨ c = 101 ∨ c = 114 ∨ c = 115 := ht
    have hrd : rdF (ph, V, vr, fa, C, cl, al, mn, now) (.inr c) = if ph = 0 ∧ (c = 97 ∨ c = 101) then (0, (1, V, vr, fa, C, cl, decide (c = 97), 0, now)) else (1, (ph, V, vr, fa, C, cl, al, mn, now)) := rfl
    rw [hrd]
    by_cases c0 : c = 0
    · have : twd (.inr c) = 5000 := by show (if c = 0 then _ else _) = _; rw [if_pos c0]
      rw [this, if_pos rfl, if_neg (by omega)]
      exact ⟨w, rfl, qfr.refl, hS, fun z => absurd z x1⟩
    · have htw : twd (.inr c) = nI (4000 + c) := by show (if c = 0 then _ else _) = _; rw [if_neg c0]
      have last : ∀ b : Bool, ∃ w', lj_MO_read_52 17 (qb b) 17 w = some (0, w') ∧ qfr [17, 23, 24, 25, 26] w w' ∧ mR n V0 C0 S (1, V, vr, fa, C, cl, b, 0, now) w' := by
        intro b
        unfold lj_MO_read_52
        rw [g_ob (qb_z b), g_b1 (g_p h17 rfl), g_b1 (g_p (g_ss hlt) rfl), List.set_set, g_b1 (g_p (g_ss hlt) rfl), List.set_set]
        refine ⟨_, rfl, qfr.refl.set (by decide), qb b, 0, nw, own, cubes, f0, f1, av, af, ap, ac, g_ss hlt, ?_, ?_, ?_, ?_, hrv, hac, hz, fun _ => ⟨rfl, rfl⟩, fun z => by omega⟩
        · rw [g_sn (by decide)]; exact h23
        · rw [g_sn (by decide)]; exact h24
        · rw [g_sn (by decide)]; exact h25
        · rw [g_sn (by decide)]; exact h26
      rw [htw, i_eq (y := 5000) (b := 5000) rfl rfl (by omega) (by omega), if_neg (by omega), i_le (y := 1000) (b := 1000) rfl rfl (by omega) (by omega), if_neg (by omega), g_b1 (g_i h17 rfl), i_eq (y := 0) (b := 0) rfl rfl (by omega) (by omega)]
      by_cases cp : ph = 0
      · rw [if_pos cp, i_eq (y := 4097) (b := 4097) rfl rfl (by omega) (by omega), i_eq (y := 4101) (b := 4101) rfl rfl (by omega) (by omega)]
        unfold lj_MO_read_39
        rw [i_eq (y := 4097) (b := 4097) rfl rfl (by omega) (by omega)]
        by_cases c1 : c = 97
        · obtain ⟨w', g1, g2, g3⟩ := last true
          rw [if_pos (by omega), if_pos (by omega), if_pos ⟨cp, Or.inl c1⟩, decide_eq_true c1]
          exact ⟨w', g1, g2, g3.sh, fun _ => g3⟩
        · by_cases c2 : c = 101
          · obtain ⟨w', g1, g2, g3⟩ := last false
            rw [if_neg (by omega), if_pos (by omega), if_neg (by omega), if_pos ⟨cp, Or.inr c2⟩, decide_eq_false c1]
            exact ⟨w', g1, g2, g3.sh, fun _ => g3⟩
          · rw [if_neg (by omega), if_neg (by omega), if_neg (by omega)]
            exact ⟨w, rfl, qfr.refl, hS, fun z => absurd z x1⟩
      · rw [if_neg cp, if_neg (fun z => cp z.1)]
        exact ⟨w, rfl, qfr.refl, hS, fun z => absurd z x1⟩
  | inl x =>
    obtain ⟨sg, d⟩ := x
    have hd : d ≤ 999 := ht
    have hzz := nt_int sg (d := d) (by omega)
    have hrd : rdF (ph, V, vr, fa, C, cl, al, mn, now) (.inl (sg, d)) = if ph = 1 then rdB V vr fa C cl al mn now sg d else if ph = 2 then rdC V vr fa C cl al mn now sg d else rdC V vr fa C cl al 0 0 sg d := rfl
    have htw : twd (.inl (sg, d)) = nt sg d := rfl
    have k1 : ¬ zt sg d = 5000 := by
      cases sg
      · rw [zt_p]; omega
      · rw [zt_n]; omega
    have k2 : zt sg d ≤ 1000 := by
      cases sg
      · rw [zt_p]; omega
      · rw [zt_n]; omega
    rw [hrd, htw, z_eq hzz (show (5000 : Int32).toInt = 5000 by decide), if_neg k1, z_le hzz (show (1000 : Int32).toInt = 1000 by decide), if_pos k2]
    have hh := h
    obtain ⟨a, m, nw, own, cubes, f0, f1, av, af, ap, ac, h17, h23, h24, h25, h26, hrv, hac, hz, h1, h2⟩ := hh
    have hlt := g_lt h17
    rw [g_b1 (g_i h17 rfl), i_eq (y := 1) (b := 1) rfl rfl (by omega) (by omega)]
    by_cases c1 : ph = 1
    · subst c1
      obtain ⟨w', g1, g2⟩ := m_block (sg := sg) hd hmn hs2 hs3 h
      rw [if_pos rfl, g_ob (g_is h17), g_b2 g1, if_pos rfl]
      exact ⟨w', rfl, g2⟩
    · rw [if_neg c1, g_b1 (g_i h17 rfl), i_eq (y := 0) (b := 0) rfl rfl (by omega) (by omega), if_neg c1]
      by_cases c2 : ph = 2
      · subst c2
        rw [if_neg (by omega), if_pos rfl]
        exact m_clause' hd hmn hs2 hs3 h
      · rw [if_pos (by omega), if_neg c2, g_b1 (g_p h17 rfl), g_b1 (g_p (g_ss hlt) rfl), List.set_set, g_b1 (g_p (g_ss hlt) rfl), List.set_set]
        have hR : mR n V0 C0 S (2, V, vr, fa, C, cl, al, 0, 0) (w.set 17 (mo (nI n) (nI V0) (nI C0) (nI V) (nI C) (nI S) (nI 2) a 0 0 own cubes f0 f1)) := by
          refine ⟨a, 0, 0, own, cubes, f0, f1, av, af, ap, ac, g_ss hlt, ?_, ?_, ?_, ?_, hrv, hac, hz, fun z => by omega, fun _ => ⟨rfl, rfl⟩⟩
          · rw [g_sn (by decide)]; exact h23
          · rw [g_sn (by decide)]; exact h24
          · rw [g_sn (by decide)]; exact h25
          · rw [g_sn (by decide)]; exact h26
        obtain ⟨w', g1, g2, g3⟩ := m_clause' (sg := sg) hd (show 0 ≤ 1000 by omega) hs2 hs3 hR
        exact ⟨w', g1, (qfr.refl.set (by decide)).trans g2, g3⟩
theorem rdF_mn {s : ps} {t : tk} : mnF (rdF s t).2 ≤ mnF s + 1 := by
  obtain ⟨ph, V, vr, fa, C, cl, al, mn, now⟩ := s
  show mnF (rdF (ph, V, vr, fa, C, cl, al, mn, now) t).2 ≤ mn + 1
  cases t with
  | inr c =>
    show mnF (if ph = 0 ∧ (c = 97 ∨ c = 101) then _ else _ : Int32 × ps).2 ≤ mn + 1
    split
    · exact Nat.zero_le _
    · exact Nat.le_succ _
  | inl x =>
    show mnF (if ph = 1 then _ else _ : Int32 × ps).2 ≤ mn + 1
    unfold rdB rdC
    repeat' split
    all_goals first | exact Nat.zero_le _ | exact Nat.le_succ _ | exact Nat.le_refl _ | (show 0 + 1 ≤ mn + 1; omega)
end
