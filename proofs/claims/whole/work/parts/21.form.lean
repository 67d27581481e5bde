/-! formula(), in the class -/
theorem d2_1 {α : Type} {c2 : Bool} {o1 o2 : Option α} : q_d2 true c2 o1 o2 = o1 := by cases c2 <;> rfl
theorem d2_2 {α : Type} {o1 o2 : Option α} : q_d2 false true o1 o2 = o2 := rfl
def s0 : ps := (0, 0, fun _ => 0, fun _ => false, 0, fun _ => 0, false, 0, 0)
def rng (x : Int32) : Prop := x = 0 ∨ x = 1 ∨ x = 2 ∨ x = 3 ∨ x = 4 ∨ x = 5
theorem rdF_rng {s : ps} {t : tk} : rng (rdF s t).1 := by
  obtain ⟨ph, V, vr, fa, C, cl, al, mn, now⟩ := s
  cases t with
  | inr c =>
    show rng (if ph = 0 ∧ (c = 97 ∨ c = 101) then _ else _ : Int32 × ps).1
    split
    · exact Or.inl rfl
    · exact Or.inr (Or.inl rfl)
  | inl x =>
    show rng (if ph = 1 then _ else _ : Int32 × ps).1
    unfold rdB rdC
    repeat' split
    all_goals first | exact Or.inl rfl | exact Or.inr (Or.inl rfl) | exact Or.inr (Or.inr (Or.inl rfl)) | exact Or.inr (Or.inr (Or.inr (Or.inl rfl))) | exact Or.inr (Or.inr (Or.inr (Or.inr (Or.inl rfl))))
section
variable {σ : Type} {rd : σ → tk → Int32 × σ} {me : σ → Bool} {n : Nat} {bf : Nat → Nat}
theorem rdl_rng (hr : ∀ s t, rng (rd s t).1) : ∀ k p s, p ≤ n → rng (rdl rd bf n k p s).1 ∧ (rdl rd bf n k p s).2.1 ≤ n := by
  intro k
  induction k with
  | zero => exact fun p s _ => ⟨Or.inl rfl, Nat.le_refl _⟩
  | succ k ih =>
    intro p s hp
    have hb := bg_in (bf := bf) hp
    have he := en_in (bf := bf) (n := n) (p := bg bf n p) hb.2.1
    unfold rdl
    by_cases h1 : bg bf n p = n
    · rw [if_pos h1]
      exact ⟨Or.inl rfl, Nat.le_refl _⟩
    · rw [if_neg h1]
      by_cases h2 : (rd s (tok bf (bg bf n p) (en bf n (bg bf n p)))).1 = 0
      · rw [if_pos h2]
        exact ih _ _ he.2
      · rw [if_neg h2]
        exact ⟨hr _ _, hb.2.1⟩
theorem neg_ne : ∀ p, p < 201 → ∀ r, r < 6 → r ≠ 0 → ¬ (-1000 : Int32) * nI r - nI p = 0 := by decide +kernel
theorem rng_n {x : Int32} (h : rng x) : ∃ r, r < 6 ∧ x = nI r := by
  rcases h with h | h | h | h | h | h
  · exact ⟨0, by omega, h⟩
  · exact ⟨1, by omega, h⟩
  · exact ⟨2, by omega, h⟩
  · exact ⟨3, by omega, h⟩
  · exact ⟨4, by omega, h⟩
  · exact ⟨5, by omega, h⟩
/-- a reading answers 0 where nothing is wrong and the end may stand, and there alone -/
theorem rda_0 {x : Int32 × Nat × σ} (hn : n ≤ 200) (h : rng x.1 ∧ x.2.1 ≤ n) : rda me n x = 0 ↔ x.1 = 0 ∧ me x.2.2 = true := by
  unfold rda
  by_cases h1 : x.1 = 0
  · rw [if_pos h1]
    cases hm : me x.2.2 with
    | true => simp [h1]
    | false =>
      constructor
      · intro h2
        rw [if_neg (by decide)] at h2
        exact absurd h2 (neg_ne n (by omega) 1 (by omega) (by omega))
      · intro h2
        cases h2.2
  · rw [if_neg h1]
    constructor
    · intro h2
      obtain ⟨r, h3, h4⟩ := rng_n h.1
      rw [h4] at h2 h1
      exact absurd h2 (neg_ne x.2.1 (by omega) r h3 (fun e => h1 (by rw [e]; rfl)))
    · intro h2
      exact absurd h2.1 h1
end
section
variable {w : qw} {n V C S : Nat} {bf vr id : Nat → Nat} {fa cb : Nat → Bool} {cl st gr : Nat → Int32}
/-- what formula() reads -/
def frd (bf : Nat → Nat) (n : Nat) : Int32 × Nat × ps := rdl rdF bf n (n + 1) 0 s0
theorem okR_s0 : okR s0 := ⟨Nat.zero_le _, ⟨Nat.zero_le _, fun i hi => absurd hi (Nat.not_lt_zero _), fun i j hi => absurd hi (Nat.not_lt_zero _)⟩, ⟨Nat.zero_le _, fun i hi => absurd hi (Nat.not_lt_zero _)⟩, fun h => absurd h (by decide)⟩
theorem rdl_okR : ∀ k p s, okR s → (rdl rdF bf n k p s).1 = 0 → okR (rdl rdF bf n k p s).2.2 := by
  intro k
  induction k with
  | zero => exact fun p s h _ => h
  | succ k ih =>
    intro p s h
    unfold rdl
    by_cases h1 : bg bf n p = n
    · rw [if_pos h1]
      exact fun _ => h
    · rw [if_neg h1]
      by_cases h2 : (rdF s (tok bf (bg bf n p) (en bf n (bg bf n p)))).1 = 0
      · rw [if_pos h2]
        exact ih _ _ (rdF_ok h h2)
      · rw [if_neg h2]
        exact fun h3 => absurd h3 h2
theorem c_formula (hB : okB n bf) (h : IC w n bf V vr fa C cl S id st cb gr) :
    ∃ w', f_QP_formula w 0 = some (rda meF n (frd bf n), w') ∧ qfr [0, 1, 3, 4, 5, 6, 8, 14, 15, 16] w w' ∧
      (rda meF n (frd bf n) = 0 → IC w' 0 bf (frd bf n).2.2.2.1 (frd bf n).2.2.2.2.1 (frd bf n).2.2.2.2.2.1 (frd bf n).2.2.2.2.2.2.1 (frd bf n).2.2.2.2.2.2.2.1 0 id st cb gr) ∧ (¬ rda meF n (frd bf n) = 0 → IC w' 0 bf V vr fa C cl S id st cb gr) := by
  obtain ⟨cu, dr, hq, hW, hR, hFc, hDr, hT, hP⟩ := h
  have h0 := hq.2
  have hdr : dr = 4 ∨ dr = 14 := by rcases hq.1 with z | z <;> omega
  have hn := hB.1
  have hlen : 0 < w.length := g_lt h0
  -- begin
  obtain ⟨b1, b2, b3, b4, b5, h3⟩ := hR
  obtain ⟨d1, d2, d3, d4, od, oc, g1, g2, g3⟩ := hDr
  have hl3 := g_lt h3
  have hld := g_lt g1
  have hbeg : ∃ w2, f_FormulaReader_begin w 3 = some w2 ∧ qfr [3, dr, dr + 1, dr + 2] w w2 ∧ cR dr s0 w2 := by
    unfold f_FormulaReader_begin f_Formula_forget
    rw [g_b1 (g_r h3 rfl), g_ob (g_is g1), g_b1 (g_p g1 rfl), g_b1 (g_p (g_ss hld) rfl), List.set_set, g_b1 (g_p (g_ss hld) rfl), List.set_set, g_b1 (g_p (g_ss hld) rfl), List.set_set]
    have hfa : qfr [3, dr, dr + 1, dr + 2] w (w.set dr (.inr (2, [.inr (some (dr + 1)), .inr (some (dr + 2)), .inl 0, .inl 0, .inl 0, .inl 0]))) := qfr.refl.set (by simp)
    have ea : (w.set dr (.inr (2, [.inr (some (dr + 1)), .inr (some (dr + 2)), .inl 0, .inl 0, .inl 0, .inl 0])))[dr]? = _ := g_ss hld
    have eb : (w.set dr (.inr (2, [.inr (some (dr + 1)), .inr (some (dr + 2)), .inl 0, .inl 0, .inl 0, .inl 0])))[dr + 1]? = _ := (g_sn (by omega)).trans g2
    have ec : (w.set dr (.inr (2, [.inr (some (dr + 1)), .inr (some (dr + 2)), .inl 0, .inl 0, .inl 0, .inl 0])))[dr + 2]? = _ := (g_sn (by omega)).trans g3
    have e3 : (w.set dr (.inr (2, [.inr (some (dr + 1)), .inr (some (dr + 2)), .inl 0, .inl 0, .inl 0, .inl 0])))[3]? = _ := (g_sn (by omega)).trans h3
    show ∃ w2, q_b1 (some (w.set dr (.inr (2, [.inr (some (dr + 1)), .inr (some (dr + 2)), .inl 0, .inl 0, .inl 0, .inl 0])))) _ = some w2 ∧ _
    rw [g_b1 rfl]
    generalize w.set dr (.inr (2, [.inr (some (dr + 1)), .inr (some (dr + 2)), .inl 0, .inl 0, .inl 0, .inl 0])) = wa at hfa ea eb ec e3 ⊢
    have hl3a := g_lt e3
    rw [g_ob q_z1, g_b1 (g_p e3 rfl), g_ob q_z0, g_b1 (g_p (g_ss hl3a) rfl), List.set_set, g_b1 (g_p (g_ss hl3a) rfl), List.set_set]
    refine ⟨_, rfl, hfa.set (by simp), ⟨b3, b4, g_ss hl3a, fun z => absurd z (by decide)⟩, od, oc, ?_, ?_, ?_, fun i hi => absurd hi (Nat.not_lt_zero _), fun i hi => absurd hi (Nat.not_lt_zero _)⟩
    · rw [g_sn (by omega)]; exact ea
    · rw [g_sn (by omega)]; exact eb
    · rw [g_sn (by omega)]; exact ec
  obtain ⟨w2, hb1, hb2, hb3⟩ := hbeg
  -- the words
  have hW2 : iW w2 n bf := hW.fr hb2 (by simp; omega) (by simp; omega)
  have hz0 : w2[0]? = _ := hb2.at h0 (by simp; omega)
  obtain ⟨s1, s2, s3, s4, ch, e1, e2, ech⟩ := hW2
  have hl1 := g_lt e1
  have hrew : f_Words_rewind w2 1 = some (w2.set 1 (wo1 n s1 0 s3 s4)) := by
    unfold f_Words_rewind
    rw [g_b1 (g_p e1 rfl)]
    rfl
  -- what holds at every word
  have hfI : ∀ w1 : qw, ∀ c, qfr [1] w1 (w1.set 1 c) := fun w1 c => qfr.refl.set (by decide)
  have hloop := c_loop (rd := rdF) (me := meF) (n := n) (bf := bf) (a1 := 3) (I := fun s w1 => cR dr s w1 ∧ okR s) (J := fun w1 => qfr [1, 3, dr, dr + 1, dr + 2] w w1 ∧ iR w1 dr ∧ iD w1 dr) hB
    (fun w1 hJ => g_r (hJ.1.at h0 (by simp; omega)) rfl)
    (fun w1 c hJ => ⟨hJ.1.set (by simp), hJ.2.1.fr (hfI w1 c) (by decide), hJ.2.2.fr (hfI w1 c) (by simp; omega) (by simp; omega) (by simp)⟩)
    (fun s w1 c hI => by
      obtain ⟨ph, V, vr, fa, C, cl, al, mn, now⟩ := s
      obtain ⟨⟨⟨x3, x4, y1, y2⟩, y3⟩, y4⟩ := hI
      exact ⟨⟨⟨x3, x4, (hfI w1 c).at y1 (by decide), y2⟩, y3.fr (hfI w1 c) (by simp; omega) (by simp; omega) (by simp)⟩, y4⟩)
    (fun w1 hJ => by
      obtain ⟨_, _, _, _, ch, _, y2, y3⟩ := hW
      exact ⟨ch, hJ.1.at y2 (by simp; omega), y3⟩)
    (fun s w1 t ht hI hJ hat => by
      obtain ⟨w3, y1, y2, y3, y4, y5⟩ := f_take (by omega : 4 ≤ dr) ht hI.2 hI.1 hat
      obtain ⟨_, _, _, _, _, z3⟩ := hJ.2.1
      refine ⟨w3, ?_, ⟨hJ.1.trans (y2.mono (by simp)), y3, y4⟩, y2.2 1 (by simp; omega), fun h9 => ⟨y5 h9, rdF_ok hI.2 h9⟩⟩
      rw [g_is z3, d2_1]
      exact y1)
    (fun s w1 hI hJ => by
      obtain ⟨_, _, _, _, _, z3⟩ := hJ.2.1
      rw [g_is z3, d2_1]
      exact f_may hI.2 hI.1)
    (n + 1) q_fu 0 s0 (w2.set 1 (wo1 n s1 0 s3 s4)) 0 s1 s3 s4 (by omega) (by unfold q_fu; omega) (by omega) (by omega) (Or.inl rfl)
    ⟨by
      obtain ⟨⟨x3, x4, y1, y2⟩, y3⟩ := hb3
      exact ⟨⟨x3, x4, (hfI w2 _).at y1 (by decide), y2⟩, y3.fr (hfI w2 _) (by simp; omega) (by simp; omega) (by simp)⟩, okR_s0⟩
    ⟨(hb2.mono (by simp)).set (by simp), by
      obtain ⟨⟨x3, x4, y1, y2⟩, y3⟩ := hb3
      exact ⟨_, _, _, _, _, (hfI w2 _).at y1 (by decide)⟩, by
      obtain ⟨_, y3⟩ := hb3
      exact y3.D.fr (hfI w2 _) (by simp; omega) (by simp; omega) (by simp)⟩
    (g_ss hl1)
  obtain ⟨w4, S', E', nu', no', k1, ⟨k2, k3, k4⟩, k5, k6⟩ := hloop
  have hrb : f_QP_readBuffer w2 0 3 = some (rda meF n (frd bf n), w4) := by
    unfold f_QP_readBuffer
    rw [g_b1 (g_r hz0 rfl), g_ob (g_is e1), g_b1 hrew]
    exact k1
  have hz4 : w4[0]? = _ := k2.at h0 (by simp; omega)
  have hrngs := rdl_rng (rd := rdF) (bf := bf) (n := n) (fun s t => rdF_rng) (n + 1) 0 s0 (Nat.zero_le _)
  have h00 := rda_0 (me := meF) (x := frd bf n) hn hrngs
  have hT4 := hT.fr k2 (by simp; omega) (by simp; omega)
  have hP4 := hP.fr k2 (by simp; omega) (by simp; omega) (by simp; omega) (by simp; omega) (by simp; omega)
  have hW4 : iW w4 0 bf := by
    obtain ⟨_, _, _, _, ch, _, y2, y3⟩ := hW
    exact ⟨_, _, _, _, ch, k5, k2.at y2 (by simp; omega), fun i hi => absurd hi (Nat.not_lt_zero _)⟩
  have hF4 : iF w4 cu V vr fa C cl := by
    rcases hq.1 with ⟨z1, z2⟩ | ⟨z1, z2⟩ <;> (subst z1; subst z2; exact hFc.fr k2 (by decide) (by decide) (by decide))
  unfold f_QP_formula
  rw [g_b1 (g_r h0 rfl), g_ob (g_is h3), g_b1 hb1, g_b1 (g_r hz0 rfl), g_ob (g_is hz0), g_b2 hrb]
  by_cases hans : rda meF n (frd bf n) = 0
  · rw [if_pos hans]
    obtain ⟨hr0, hme⟩ := h00.mp hans
    obtain ⟨hcR, hokR⟩ := k6 hr0
    generalize hfe : (rdl rdF bf n (n + 1) 0 s0).2.2 = sf at hcR hokR
    have hfe2 : (frd bf n).2.2 = sf := hfe
    rw [hfe2]
    obtain ⟨ph, V', vr', fa', C', cl', al', mn', now'⟩ := sf
    obtain ⟨⟨x3, x4, y1, y2⟩, y3⟩ := hcR
    have hl34 := g_lt y1
    have hex : f_FormulaReader_exchange w4 3 cu = some (dr, w4.set 3 (.inr (3, [.inr (some cu), .inl (qb (decide (ph = 0))), .inl (qb (decide (ph = 1))), .inl x3, .inl x4, .inl (if ph = 2 then now' else 0)]))) := by
      unfold f_FormulaReader_exchange
      rw [g_b1 (g_r y1 rfl), g_b1 (g_p y1 rfl)]
      rfl
    rw [g_b1 (g_r hz4 rfl), g_b1 (g_r hz4 rfl), g_ob (g_is y1), g_b2 hex]
    -- the draft is the old one now
    have hfx : qfr [3] w4 (w4.set 3 (.inr (3, [.inr (some cu), .inl (qb (decide (ph = 0))), .inl (qb (decide (ph = 1))), .inl x3, .inl x4, .inl (if ph = 2 then now' else 0)]))) := qfr.refl.set (by decide)
    have hx3 : (w4.set 3 (.inr (3, [.inr (some cu), .inl (qb (decide (ph = 0))), .inl (qb (decide (ph = 1))), .inl x3, .inl x4, .inl (if ph = 2 then now' else 0)])))[3]? = _ := g_ss hl34
    generalize w4.set 3 (.inr (3, [.inr (some cu), .inl (qb (decide (ph = 0))), .inl (qb (decide (ph = 1))), .inl x3, .inl x4, .inl (if ph = 2 then now' else 0)])) = w8 at hfx hx3 ⊢
    have hz8 : w8[0]? = _ := hfx.at hz4 (by decide)
    have hl08 := g_lt hz8
    have hpf : q_pf w8 0 0 4 (.inr (some dr)) = some (w8.set 0 (.inr (0, [.inr (some 1), .inr (some 3), .inr (some 7), .inr (some 8), .inr (some dr)]))) := g_p hz8 rfl
    rw [g_b1 hpf]
    have hfy : qfr [0] w8 (w8.set 0 (.inr (0, [.inr (some 1), .inr (some 3), .inr (some 7), .inr (some 8), .inr (some dr)]))) := qfr.refl.set (by decide)
    have hy0 : (w8.set 0 (.inr (0, [.inr (some 1), .inr (some 3), .inr (some 7), .inr (some 8), .inr (some dr)])))[0]? = _ := g_ss hl08
    generalize w8.set 0 (.inr (0, [.inr (some 1), .inr (some 3), .inr (some 7), .inr (some 8), .inr (some dr)])) = w10 at hfy hy0 ⊢
    obtain ⟨p9, p10, p11, p12, p8, q9, q10, q11, q12, q13⟩ := (hP4.fr hfx (by decide) (by decide) (by decide) (by decide) (by decide)).fr hfy (by decide) (by decide) (by decide) (by decide) (by decide)
    have hl8 := g_lt p8
    unfold f_Proof_forget
    rw [g_b1 (g_r hy0 rfl), g_ob (g_is p8), g_b1 (g_p p8 rfl), g_b1 rfl]
    have hfz : qfr [8] w10 (w10.set 8 (.inr (4, [.inr (some 9), .inr (some 10), .inr (some 11), .inr (some 12), .inl 0]))) := qfr.refl.set (by decide)
    have hall : qfr [0, 3, 8] w4 (w10.set 8 (.inr (4, [.inr (some 9), .inr (some 10), .inr (some 11), .inr (some 12), .inl 0]))) := ((hfx.mono (by simp)).trans (hfy.mono (by simp))).trans (hfz.mono (by simp))
    have hk2 : qfr [0, 1, 3, 4, 5, 6, 8, 14, 15, 16] w w4 := by
      rcases hdr with z | z <;> (subst z; exact k2.mono (by decide))
    refine ⟨_, rfl, hk2.trans (hall.mono (by decide)), fun _ => ⟨dr, cu, ⟨by rcases hq.1 with z | z <;> omega, hfz.at hy0 (by decide)⟩, hW4.fr hall (by decide) (by decide), ⟨_, _, _, _, _, hfz.at (hfy.at hx3 (by decide)) (by decide)⟩, ?_, ?_, hT4.fr hall (by decide) (by decide), ⟨p9, p10, p11, p12, g_ss hl8, hfz.at q9 (by decide), hfz.at q10 (by decide), hfz.at q11 (by decide), hfz.at q12 (by decide), fun i hi => absurd hi (Nat.not_lt_zero _)⟩⟩, fun z => absurd hans z⟩
    · rcases hdr with z | z <;> (subst z; exact y3.fr hall (by decide) (by decide) (by decide))
    · rcases hq.1 with ⟨z1, z2⟩ | ⟨z1, z2⟩ <;> (subst z1; subst z2; exact hF4.D.fr hall (by decide) (by decide) (by decide))
  · rw [if_neg hans]
    have hk2 : qfr [0, 1, 3, 4, 5, 6, 8, 14, 15, 16] w w4 := by
      rcases hdr with z | z <;> (subst z; exact k2.mono (by decide))
    exact ⟨w4, rfl, hk2, fun z => absurd z hans, fun _ => ⟨cu, dr, ⟨hq.1, hz4⟩, hW4, k3, hF4, k4, hT4, hP4⟩⟩
end
