/-! a word as a token: a number (its sign, its size), or a letter (0: neither) -/
abbrev tk : Type := (Bool × Nat) ⊕ Nat
def tok (bf : Nat → Nat) (s e : Nat) : tk := if e = s + 1 ∧ (bf s = 97 ∨ bf s = 101 ∨ bf s = 114 ∨ bf s = 115) then .inr (bf s) else if nmb bf s e then .inl (ng bf s e, dvl bf e (e - ft bf s e) 0) else .inr 0
def twd (t : tk) : Int32 := match t with
  | .inl x => if x.1 then -nI x.2 else nI x.2
  | .inr c => if c = 0 then 5000 else nI (4000 + c)
def okT (t : tk) : Prop := match t with
  | .inl x => x.2 ≤ 999
  | .inr c => c = 0 ∨ c = 97 ∨ c = 101 ∨ c = 114 ∨ c = 115
section
variable {w : qw} {n p s e : Nat} {bf : Nat → Nat} {ch : Nat → Int32} {S E nu no : Int32}
theorem wd_tok : wd bf s e = twd (tok bf s e) := by
  unfold wd tok
  by_cases h : e = s + 1 ∧ (bf s = 97 ∨ bf s = 101 ∨ bf s = 114 ∨ bf s = 115)
  · rw [if_pos h, if_pos h]
    show _ = if bf s = 0 then 5000 else nI (4000 + bf s)
    rw [if_neg (by omega)]
  · rw [if_neg h, if_neg h]
    by_cases h2 : nmb bf s e = true
    · rw [if_pos h2, if_pos h2]
      rfl
    · rw [if_neg h2, if_neg h2]
      rfl
theorem dvl_lt : ∀ k a, ald bf e k = true → dvl bf e k a < (a + 1) * 10 ^ k := by
  intro k
  induction k with
  | zero =>
    intro a _
    show a < (a + 1) * 1
    omega
  | succ k ih =>
    intro a h
    unfold ald at h
    obtain ⟨h1, h2⟩ := Bool.and_eq_true_iff.mp h
    unfold dig at h1
    have h1 := of_decide_eq_true h1
    have h3 := ih (a * 10 + (bf (e - (k + 1)) - 48)) h2
    show dvl bf e k (a * 10 + (bf (e - (k + 1)) - 48)) < _
    have h4 : (a * 10 + (bf (e - (k + 1)) - 48) + 1) * 10 ^ k ≤ (a + 1) * 10 * 10 ^ k := Nat.mul_le_mul_right _ (by omega)
    have h5 : (a + 1) * 10 ^ (k + 1) = (a + 1) * 10 * 10 ^ k := by
      rw [Nat.pow_succ, Nat.mul_comm (10 ^ k) 10, Nat.mul_assoc]
    omega
theorem tok_ok : okT (tok bf s e) := by
  unfold tok
  by_cases h : e = s + 1 ∧ (bf s = 97 ∨ bf s = 101 ∨ bf s = 114 ∨ bf s = 115)
  · rw [if_pos h]
    exact Or.inr h.2
  · rw [if_neg h]
    by_cases h2 : nmb bf s e = true
    · rw [if_pos h2]
      show dvl bf e (e - ft bf s e) 0 ≤ 999
      unfold nmb at h2
      obtain ⟨h3, h4⟩ := Bool.and_eq_true_iff.mp h2
      unfold dok at h3
      have h3 := of_decide_eq_true h3
      have h5 := dvl_lt (e - ft bf s e) 0 h4
      have h6 : 10 ^ (e - ft bf s e) ≤ 10 ^ 3 := Nat.pow_le_pow_right (by omega) h3.2.1
      omega
    · rw [if_neg h2]
      exact Or.inl rfl
/-- a letter is no number -/
theorem nmb_ltr (h : e = s + 1 ∧ (bf s = 97 ∨ bf s = 101 ∨ bf s = 114 ∨ bf s = 115)) : nmb bf s e = false := by
  have hg : ng bf s e = false := by unfold ng; exact decide_eq_false (by omega)
  have hf : ft bf s e = s := by unfold ft; rw [hg]; rfl
  unfold nmb
  rw [hf, h.1, show s + 1 - s = 1 by omega]
  have : ald bf (s + 1) 1 = false := by
    unfold ald dig
    rw [show s + 1 - (0 + 1) = s by omega, decide_eq_false (by omega)]
    rfl
  rw [this, Bool.and_false]
theorem nmb_tok : nmb bf s e = match tok bf s e with | .inl _ => true | .inr _ => false := by
  unfold tok
  by_cases h : e = s + 1 ∧ (bf s = 97 ∨ bf s = 101 ∨ bf s = 114 ∨ bf s = 115)
  · rw [if_pos h, nmb_ltr h]
  · rw [if_neg h]
    by_cases h2 : nmb bf s e = true
    · rw [if_pos h2, h2]
    · rw [if_neg h2]
      simpa using h2
theorem vlu_tok (h : nmb bf s e = true) : vlu bf s e = twd (tok bf s e) := by
  unfold tok
  by_cases h1 : e = s + 1 ∧ (bf s = 97 ∨ bf s = 101 ∨ bf s = 114 ∨ bf s = 115)
  · rw [nmb_ltr h1] at h
    cases h
  · rw [if_neg h1, if_pos h]
    rfl
theorem ltr_tok {c : Nat} (hc : c = 97 ∨ c = 101 ∨ c = 114 ∨ c = 115) : (e = s + 1 ∧ bf s = c) ↔ tok bf s e = .inr c := by
  unfold tok
  constructor
  · rintro ⟨h1, h2⟩
    rw [if_pos ⟨h1, by omega⟩, h2]
  · intro h
    by_cases h1 : e = s + 1 ∧ (bf s = 97 ∨ bf s = 101 ∨ bf s = 114 ∨ bf s = 115)
    · rw [if_pos h1] at h
      exact ⟨h1.1, Sum.inr.inj h⟩
    · rw [if_neg h1] at h
      by_cases h2 : nmb bf s e = true
      · rw [if_pos h2] at h
        cases h
      · rw [if_neg h2] at h
        have := Sum.inr.inj h
        omega
theorem edd_sp : ∀ k, k ≤ n → edd bf n k < n → bf (edd bf n k) = 32 := by
  intro k
  induction k with
  | zero => exact fun _ h => absurd h (Nat.lt_irrefl _)
  | succ k ih =>
    intro hk
    unfold edd
    by_cases h : bf (n - (k + 1)) = 32
    · rw [if_pos h]
      exact fun _ => h
    · rw [if_neg h]
      exact ih (by omega)
theorem en_sp (h : p ≤ n) (h2 : en bf n p < n) : bf (en bf n p) = 32 := edd_sp (n - p) (by omega) h2
theorem bg_sp (h : p < n) (h2 : bf p = 32) : p < bg bf n p := by
  unfold bg
  obtain ⟨k, hk⟩ : ∃ k, n - p = k + 1 := ⟨n - p - 1, by omega⟩
  rw [hk]
  unfold bgd
  rw [if_pos (by rw [show n - (k + 1) = p by omega]; exact h2)]
  have := (bgd_in (bf := bf) (n := n) k (by omega)).1
  omega
/-- what the words of a reader hold: the token at which they stand -/
def atT (w : qw) (n : Nat) (t : tk) : Prop := ∃ S E no, w[1]? = some (wo1 n S E (match t with | .inl _ => 1 | .inr _ => 0) no) ∧ (∀ x, t = .inl x → no = twd t) ∧ ∀ c, (c = 97 ∨ c = 101 ∨ c = 114 ∨ c = 115) → f_Words_isLetter w 1 (nI c) = some (qb (decide (t = .inr c)), w)
theorem at_tok (hB : okB n bf) (h1 : w[1]? = some (wo1 n (nI s) (nI e) (qb (nmb bf s e)) no)) (h2 : nmb bf s e = true → no = vlu bf s e) (hch : w[2]? = some (.inl (1, 200, ch))) (hcb : ∀ i, i < n → ch i = nI (bf i)) (hs : s < e) (he : e ≤ n) : atT w n (tok bf s e) := by
  have hn := hB.1
  have hc := hB.2 s (by omega)
  refine ⟨nI s, nI e, no, ?_, ?_, ?_⟩
  · rw [h1, nmb_tok]
    cases tok bf s e <;> rfl
  · intro x hx
    have : nmb bf s e = true := by rw [nmb_tok, hx]
    rw [h2 this, vlu_tok this]
  · intro c hcc
    have hl : q_ld w 2 1 (nI s) = some (nI (bf s)) := by rw [g_l hch (by omega) (by omega), hcb _ (by omega)]
    unfold f_Words_isLetter
    rw [g_b1 (g_i h1 rfl), g_b1 (g_i h1 rfl), pk_sub (by omega), i_eq (y := 1) (b := 1) rfl rfl (by omega) (by omega), g_b1 (g_r h1 rfl), g_b1 (g_i h1 rfl), g_b1 hl, i_eq rfl rfl (by omega) (by omega)]
    have hiff := ltr_tok (bf := bf) (s := s) (e := e) hcc
    by_cases c1 : e - s = 1
    · rw [if_pos c1]
      by_cases c2 : bf s = c
      · rw [if_pos c2, decide_eq_true (hiff.mp ⟨by omega, c2⟩)]
        rfl
      · rw [if_neg c2, decide_eq_false (fun h => c2 (hiff.mpr h).2)]
        rfl
    · rw [if_neg c1, decide_eq_false (fun h => by have := (hiff.mpr h).1; omega)]
      rfl
end
/-- a reader over the words, from the place p on: what is wrong first (0: nothing), where, and the reader's state -/
def rdl {σ : Type} (rd : σ → tk → Int32 × σ) (bf : Nat → Nat) (n : Nat) : Nat → Nat → σ → Int32 × Nat × σ
  | 0, _, s => (0, n, s)
  | k + 1, p, s => if bg bf n p = n then (0, n, s) else if (rd s (tok bf (bg bf n p) (en bf n (bg bf n p)))).1 = 0 then rdl rd bf n k (en bf n (bg bf n p)) (rd s (tok bf (bg bf n p) (en bf n (bg bf n p)))).2 else ((rd s (tok bf (bg bf n p) (en bf n (bg bf n p)))).1, bg bf n p, (rd s (tok bf (bg bf n p) (en bf n (bg bf n p)))).2)
/-- the answer of a reading -/
def rda {σ : Type} (me : σ → Bool) (n : Nat) (x : Int32 × Nat × σ) : Int32 := if x.1 = 0 then (if me x.2.2 then 0 else (-1000 : Int32) * 1 - nI n) else (-1000 : Int32) * x.1 - nI x.2.1
section
variable {σ : Type} {rd : σ → tk → Int32 × σ} {me : σ → Bool} {n a1 : Nat} {bf : Nat → Nat} {I : σ → qw → Prop} {J : qw → Prop}
theorem c_last (x2 : Int32) {w : qw} {S E nu no : Int32} (h0 : q_gr w 0 0 0 = some 1) (h0' : ∀ c, q_gr (w.set 1 c) 0 0 0 = some 1) (h1 : w[1]? = some (wo1 n S E nu no)) : lj_QP_readBuffer_64 0 x2 w = some (if x2 = 0 then 0 else (-1000 : Int32) * x2 - S, w.set 1 (wo1 0 S E nu no)) := by
  have e2 : f_Words_forget w 1 = some (w.set 1 (wo1 0 S E nu no)) := by
    unfold f_Words_forget
    rw [g_b1 (g_p h1 rfl)]
    rfl
  have e3 : f_Words_place w 1 = some (S, w) := by
    unfold f_Words_place
    rw [g_b1 (g_i h1 rfl)]
  unfold lj_QP_readBuffer_64
  by_cases h : x2 = 0
  · rw [if_pos h, if_pos h, g_b1 h0, g_ob (g_is h1), g_b1 e2]
  · rw [if_neg h, if_neg h, g_b1 h0, g_ob (g_is h1), g_b2 e3, g_b1 h0, g_ob (g_is h1), g_b1 e2]
/-- the class's loop over the words, whatever reads them -/
theorem c_loop (hB : okB n bf) (h0 : ∀ w, J w → q_gr w 0 0 0 = some 1) (hJ : ∀ w c, J w → J (w.set 1 c)) (hI : ∀ s w c, I s w → I s (w.set 1 c)) (hch : ∀ w, J w → ∃ ch, w[2]? = some (.inl (1, 200, ch)) ∧ ∀ i, i < n → ch i = nI (bf i))
    (take : ∀ s w t, okT t → I s w → J w → atT w n t → ∃ w', q_d2 (q_is w a1 3) (q_is w a1 5) (f_FormulaReader_take w a1 1) (f_TraceReader_take w a1 1) = some ((rd s t).1, w') ∧ J w' ∧ w'[1]? = w[1]? ∧ ((rd s t).1 = 0 → I (rd s t).2 w'))
    (may : ∀ s w, I s w → J w → q_d2 (q_is w a1 3) (q_is w a1 5) (f_FormulaReader_mayEnd w a1) (f_TraceReader_mayEnd w a1) = some (qb (me s), w)) :
    ∀ k m p s w c S nu no, n - p < k → k + 1 < m → p ≤ n → 2 * c ≤ p + 1 → (c = 0 ∨ (p < n → bf p = 32)) → I s w → J w → w[1]? = some (wo1 n S (nI p) nu no) →
      ∃ w' S' E' nu' no', ll_QP_readBuffer_11 m 0 a1 0 (nI c) w = some (rda me n (rdl rd bf n k p s), w') ∧ J w' ∧ w'[1]? = some (wo1 0 S' E' nu' no') ∧ ((rdl rd bf n k p s).1 = 0 → I (rdl rd bf n k p s).2.2 w') := by
  have hn := hB.1
  have l49 : ∀ x2 w S E nu no, ¬ x2 = 0 → J w → w[1]? = some (wo1 n S E nu no) → lj_QP_readBuffer_49 0 a1 x2 w = some ((-1000 : Int32) * x2 - S, w.set 1 (wo1 0 S E nu no)) := by
    intro x2 w S E nu no hx hj h1
    unfold lj_QP_readBuffer_49
    rw [if_neg hx, c_last x2 (h0 w hj) (fun c => h0 _ (hJ w c hj)) h1, if_neg hx]
  intro k
  induction k with
  | zero => intro m p s w c S nu no hk; omega
  | succ k ih =>
    intro m p s w c S nu no hk hm hp hc hsp hIw hJw h1
    obtain ⟨m, rfl⟩ : ∃ z, m = z + 1 := ⟨m - 1, by omega⟩
    obtain ⟨ch, hch1, hch2⟩ := hch w hJw
    obtain ⟨no1, ha, hno⟩ := c_adv hB h1 hch1 hch2 hp
    have hbg := bg_in (bf := bf) hp
    have hlt := g_lt h1
    show ∃ w' S' E' nu' no', lb_QP_readBuffer_11 (ll_QP_readBuffer_11 m) 0 a1 0 (nI c) w = some (rda me n (rdl rd bf n (k + 1) p s), w') ∧ J w' ∧ w'[1]? = some (wo1 0 S' E' nu' no') ∧ ((rdl rd bf n (k + 1) p s).1 = 0 → I (rdl rd bf n (k + 1) p s).2.2 w')
    unfold lb_QP_readBuffer_11
    rw [i_le (x := 200) (a := 200) rfl rfl (by omega) (by omega), if_neg (by omega), if_pos rfl, g_b1 (h0 w hJw), g_ob (g_is h1), g_b2 ha]
    have hJ1 := hJ w (wo1 n (nI (bg bf n p)) (nI (en bf n (bg bf n p))) (qb (nmb bf (bg bf n p) (en bf n (bg bf n p)))) no1) hJw
    have hI1 := hI s w (wo1 n (nI (bg bf n p)) (nI (en bf n (bg bf n p))) (qb (nmb bf (bg bf n p) (en bf n (bg bf n p)))) no1) hIw
    have e1 : (w.set 1 (wo1 n (nI (bg bf n p)) (nI (en bf n (bg bf n p))) (qb (nmb bf (bg bf n p) (en bf n (bg bf n p)))) no1))[1]? = some (wo1 n (nI (bg bf n p)) (nI (en bf n (bg bf n p))) (qb (nmb bf (bg bf n p) (en bf n (bg bf n p)))) no1) := g_ss hlt
    generalize w.set 1 (wo1 n (nI (bg bf n p)) (nI (en bf n (bg bf n p))) (qb (nmb bf (bg bf n p) (en bf n (bg bf n p)))) no1) = w1 at hJ1 hI1 e1 ⊢
    by_cases hb : bg bf n p = n
    · have hen : en bf n (bg bf n p) = n := by
        have := en_in (bf := bf) (n := n) (p := bg bf n p) (by omega)
        omega
      have hrd : rdl rd bf n (k + 1) p s = (0, n, s) := by
        show (if bg bf n p = n then _ else _) = _
        rw [if_pos hb]
      rw [decide_eq_false (by omega), if_pos (show qb false = 0 from rfl), hrd]
      unfold lj_QP_readBuffer_49
      rw [if_pos rfl, g_b2 (may s w1 hI1 hJ1)]
      unfold rda
      cases hme : me s with
      | true =>
        rw [if_neg (by decide), c_last 0 (h0 w1 hJ1) (fun c => h0 _ (hJ w1 c hJ1)) e1, if_pos rfl]
        refine ⟨w1.set 1 (wo1 0 (nI (bg bf n p)) (nI (en bf n (bg bf n p))) (qb (nmb bf (bg bf n p) (en bf n (bg bf n p)))) no1), nI (bg bf n p), nI (en bf n (bg bf n p)), qb (nmb bf (bg bf n p) (en bf n (bg bf n p))), no1, ?_, hJ w1 _ hJ1, g_ss (g_lt e1), fun _ => hI s w1 _ hI1⟩
        simp [hme]
      | false =>
        rw [if_pos (show qb false = 0 from rfl), c_last 1 (h0 w1 hJ1) (fun c => h0 _ (hJ w1 c hJ1)) e1, if_neg (by decide)]
        refine ⟨w1.set 1 (wo1 0 (nI (bg bf n p)) (nI (en bf n (bg bf n p))) (qb (nmb bf (bg bf n p) (en bf n (bg bf n p)))) no1), nI (bg bf n p), nI (en bf n (bg bf n p)), qb (nmb bf (bg bf n p) (en bf n (bg bf n p))), no1, ?_, hJ w1 _ hJ1, g_ss (g_lt e1), fun _ => hI s w1 _ hI1⟩
        simp [hme, hb]
    · have hbn : bg bf n p < n := by omega
      have hgt := en_gt hbn (hbg.2.2 hbn)
      have hen := en_in (bf := bf) (n := n) (p := bg bf n p) (by omega)
      obtain ⟨ch1, hc1, hc2⟩ := hch w1 hJ1
      have hat := at_tok hB e1 hno hc1 hc2 hgt hen.2
      obtain ⟨w2, ht, hJ2, e2, hI2⟩ := take s w1 (tok bf (bg bf n p) (en bf n (bg bf n p))) tok_ok hI1 hJ1 hat
      rw [decide_eq_true hgt, if_neg (by decide), g_b1 (h0 w1 hJ1), g_b2 ht, nI_1]
      by_cases hr : (rd s (tok bf (bg bf n p) (en bf n (bg bf n p)))).1 = 0
      · have hrd : rdl rd bf n (k + 1) p s = rdl rd bf n k (en bf n (bg bf n p)) (rd s (tok bf (bg bf n p) (en bf n (bg bf n p)))).2 := by
          show (if bg bf n p = n then _ else _) = _
          rw [if_neg hb, if_pos hr]
        rw [hrd, hr]
        have hcc : 2 * (c + 1) ≤ en bf n (bg bf n p) + 1 := by
          rcases hsp with h | h
          · omega
          · have := bg_sp (bf := bf) (n := n) (p := p) (by omega) (h (by omega))
            omega
        exact ih m (en bf n (bg bf n p)) _ w2 (c + 1) _ _ _ (by omega) (by omega) hen.2 hcc (Or.inr (fun h => en_sp (by omega) h)) (hI2 hr) hJ2 (e2.trans e1)
      · have hrd : rdl rd bf n (k + 1) p s = ((rd s (tok bf (bg bf n p) (en bf n (bg bf n p)))).1, bg bf n p, (rd s (tok bf (bg bf n p) (en bf n (bg bf n p)))).2) := by
          show (if bg bf n p = n then _ else _) = _
          rw [if_neg hb, if_neg hr]
        rw [hrd]
        obtain ⟨m, rfl⟩ : ∃ z, m = z + 1 := ⟨m - 1, by omega⟩
        have hfin : ll_QP_readBuffer_11 (m + 1) 0 a1 (rd s (tok bf (bg bf n p) (en bf n (bg bf n p)))).1 (nI (c + 1)) w2 = lj_QP_readBuffer_49 0 a1 (rd s (tok bf (bg bf n p) (en bf n (bg bf n p)))).1 w2 := by
          show lb_QP_readBuffer_11 (ll_QP_readBuffer_11 m) 0 a1 _ (nI (c + 1)) w2 = _
          unfold lb_QP_readBuffer_11
          rw [if_neg hr]
          by_cases h9 : (200 : Int32) ≤ nI (c + 1)
          · rw [if_pos h9]
          · rw [if_neg h9]
        rw [hfin, l49 _ w2 _ _ _ _ hr hJ2 (e2.trans e1)]
        refine ⟨w2.set 1 (wo1 0 (nI (bg bf n p)) (nI (en bf n (bg bf n p))) (qb (nmb bf (bg bf n p) (en bf n (bg bf n p)))) no1), nI (bg bf n p), nI (en bf n (bg bf n p)), qb (nmb bf (bg bf n p) (en bf n (bg bf n p))), no1, ?_, hJ w2 _ hJ2, g_ss (g_lt (e2.trans e1)), fun h => absurd h hr⟩
        unfold rda
        rw [if_neg hr]
end
