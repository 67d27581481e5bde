/-! the buffer's words: where they begin and end, what they are worth -/
abbrev wo1 (n : Nat) (s e nu no : Int32) : qc := .inr (6, [.inr (some 2), .inl (nI n), .inl s, .inl e, .inl nu, .inl no])
def bgd (bf : Nat → Nat) (n : Nat) : Nat → Nat
  | 0 => n
  | k + 1 => if bf (n - (k + 1)) = 32 then bgd bf n k else n - (k + 1)
def edd (bf : Nat → Nat) (n : Nat) : Nat → Nat
  | 0 => n
  | k + 1 => if bf (n - (k + 1)) = 32 then n - (k + 1) else edd bf n k
def bg (bf : Nat → Nat) (n p : Nat) : Nat := bgd bf n (n - p)
def en (bf : Nat → Nat) (n p : Nat) : Nat := edd bf n (n - p)
def dig (c : Nat) : Bool := decide (48 ≤ c ∧ c ≤ 57)
def ald (bf : Nat → Nat) (e : Nat) : Nat → Bool
  | 0 => true
  | k + 1 => dig (bf (e - (k + 1))) && ald bf e k
def dvl (bf : Nat → Nat) (e : Nat) : Nat → Nat → Nat
  | 0, a => a
  | k + 1, a => dvl bf e k (a * 10 + (bf (e - (k + 1)) - 48))
/-- whether a word begins with -; where its digits begin; whether it is a number; its worth -/
def ng (bf : Nat → Nat) (s e : Nat) : Bool := decide (s < e ∧ bf s = 45)
def ft (bf : Nat → Nat) (s e : Nat) : Nat := if ng bf s e then s + 1 else s
def dok (bf : Nat → Nat) (s e : Nat) : Bool := decide (1 ≤ e - ft bf s e ∧ e - ft bf s e ≤ 3 ∧ ¬ (bf (ft bf s e) = 48 ∧ (ng bf s e = true ∨ 1 < e - ft bf s e)))
def nmb (bf : Nat → Nat) (s e : Nat) : Bool := dok bf s e && ald bf e (e - ft bf s e)
def vlu (bf : Nat → Nat) (s e : Nat) : Int32 := if ng bf s e then -nI (dvl bf e (e - ft bf s e) 0) else nI (dvl bf e (e - ft bf s e) 0)
section
variable {w : qw} {n p s e : Nat} {bf : Nat → Nat}
theorem bgd_in : ∀ k, k ≤ n → n - k ≤ bgd bf n k ∧ bgd bf n k ≤ n ∧ (bgd bf n k < n → bf (bgd bf n k) ≠ 32) := by
  intro k
  induction k with
  | zero => exact fun _ => ⟨Nat.le_refl _, Nat.le_refl _, fun h => absurd h (Nat.lt_irrefl _)⟩
  | succ k ih =>
    intro hk
    have ih := ih (by omega)
    unfold bgd
    by_cases h : bf (n - (k + 1)) = 32
    · rw [if_pos h]
      exact ⟨by omega, ih.2.1, ih.2.2⟩
    · rw [if_neg h]
      exact ⟨Nat.le_refl _, by omega, fun _ => h⟩
theorem edd_in : ∀ k, k ≤ n → n - k ≤ edd bf n k ∧ edd bf n k ≤ n := by
  intro k
  induction k with
  | zero => exact fun _ => ⟨Nat.le_refl _, Nat.le_refl _⟩
  | succ k ih =>
    intro hk
    have ih := ih (by omega)
    unfold edd
    by_cases h : bf (n - (k + 1)) = 32
    · rw [if_pos h]
      exact ⟨Nat.le_refl _, by omega⟩
    · rw [if_neg h]
      exact ⟨by omega, ih.2⟩
theorem bg_in (h : p ≤ n) : p ≤ bg bf n p ∧ bg bf n p ≤ n ∧ (bg bf n p < n → bf (bg bf n p) ≠ 32) := by
  have h1 := bgd_in (bf := bf) (n := n) (n - p) (by omega)
  exact ⟨by have := h1.1; unfold bg; omega, h1.2.1, h1.2.2⟩
theorem en_in (h : p ≤ n) : p ≤ en bf n p ∧ en bf n p ≤ n := by
  have h1 := edd_in (bf := bf) (n := n) (n - p) (by omega)
  exact ⟨by have := h1.1; unfold en; omega, h1.2⟩
theorem en_gt (h : p < n) (hb : bf p ≠ 32) : p < en bf n p := by
  unfold en
  obtain ⟨k, hk⟩ : ∃ k, n - p = k + 1 := ⟨n - p - 1, by omega⟩
  rw [hk]
  unfold edd
  rw [if_neg (by rw [show n - (k + 1) = p by omega]; exact hb)]
  have := (edd_in (bf := bf) (n := n) k (by omega)).1
  omega
theorem ft_in (h : s ≤ e) : s ≤ ft bf s e ∧ ft bf s e ≤ e := by
  unfold ft ng
  by_cases hh : s < e ∧ bf s = 45
  · rw [if_pos (by simpa using hh)]
    omega
  · rw [if_neg (by simpa using hh)]
    omega
-- the reference
theorem m_begin (hB : okB n bf) (h1 : q_gi w 17 1 1 = some (nI n)) (h2 : q_gr w 17 1 0 = some 18) (hb : rB w n bf) (hp : p ≤ n) : f_MO_begin w 17 (nI p) = some (nI (bg bf n p), w) := by
  obtain ⟨f, e1, e2⟩ := hb
  have hn := hB.1
  have key : ∀ k m, k ≤ n → k < m → ll_MO_begin_2 m 17 (nI (n - k)) w = some (nI (bgd bf n k), w) := by
    intro k
    induction k with
    | zero =>
      intro m _ hm
      obtain ⟨m, rfl⟩ : ∃ z, m = z + 1 := ⟨m - 1, by omega⟩
      show lb_MO_begin_2 (ll_MO_begin_2 m) 17 (nI (n - 0)) w = _
      unfold lb_MO_begin_2
      rw [g_b1 h1, i_le rfl rfl (by omega) (by omega), if_pos (by omega)]
      rfl
    | succ k ih =>
      intro m hk hm
      obtain ⟨m, rfl⟩ : ∃ z, m = z + 1 := ⟨m - 1, by omega⟩
      have hc := hB.2 (n - (k + 1)) (by omega)
      show lb_MO_begin_2 (ll_MO_begin_2 m) 17 (nI (n - (k + 1))) w = _
      unfold lb_MO_begin_2
      rw [g_b1 h1, i_le rfl rfl (by omega) (by omega), if_neg (by omega), g_b1 h2, g_b1 (g_l e1 (by omega) (by omega)), e2 _ (by omega), i_eq (y := 32) (b := 32) rfl rfl (by omega) (by omega)]
      unfold bgd
      by_cases hc : bf (n - (k + 1)) = 32
      · rw [if_pos hc, if_pos hc, nI_1, show n - (k + 1) + 1 = n - k by omega]
        exact ih m (by omega) (by omega)
      · rw [if_neg hc, if_neg hc]
  unfold f_MO_begin bg
  have := key (n - p) q_fu (by omega) (by unfold q_fu; omega)
  rw [show n - (n - p) = p by omega] at this
  exact this
theorem m_end (hB : okB n bf) (h1 : q_gi w 17 1 1 = some (nI n)) (h2 : q_gr w 17 1 0 = some 18) (hb : rB w n bf) (hp : p ≤ n) : f_MO_end w 17 (nI p) = some (nI (en bf n p), w) := by
  obtain ⟨f, e1, e2⟩ := hb
  have hn := hB.1
  have key : ∀ k m, k ≤ n → k < m → ll_MO_end_2 m 17 (nI (n - k)) w = some (nI (edd bf n k), w) := by
    intro k
    induction k with
    | zero =>
      intro m _ hm
      obtain ⟨m, rfl⟩ : ∃ z, m = z + 1 := ⟨m - 1, by omega⟩
      show lb_MO_end_2 (ll_MO_end_2 m) 17 (nI (n - 0)) w = _
      unfold lb_MO_end_2
      rw [g_b1 h1, i_le rfl rfl (by omega) (by omega), if_pos (by omega)]
      rfl
    | succ k ih =>
      intro m hk hm
      obtain ⟨m, rfl⟩ : ∃ z, m = z + 1 := ⟨m - 1, by omega⟩
      have hc := hB.2 (n - (k + 1)) (by omega)
      show lb_MO_end_2 (ll_MO_end_2 m) 17 (nI (n - (k + 1))) w = _
      unfold lb_MO_end_2
      rw [g_b1 h1, i_le rfl rfl (by omega) (by omega), if_neg (by omega), g_b1 h2, g_b1 (g_l e1 (by omega) (by omega)), e2 _ (by omega), i_eq (y := 32) (b := 32) rfl rfl (by omega) (by omega)]
      unfold edd
      by_cases hc : bf (n - (k + 1)) = 32
      · rw [if_pos hc, if_pos hc]
      · rw [if_neg hc, if_neg hc, nI_1, show n - (k + 1) + 1 = n - k by omega]
        exact ih m (by omega) (by omega)
  unfold f_MO_end en
  have := key (n - p) q_fu (by omega) (by unfold q_fu; omega)
  rw [show n - (n - p) = p by omega] at this
  exact this
theorem n48 {c : Nat} (h : 48 ≤ c) : nI c - 48 = nI (c - 48) := pk_sub (a := c) (b := 48) h
theorem m_digits (hB : okB n bf) (h2 : q_gr w 17 1 0 = some 18) (hb : rB w n bf) (he : e ≤ n) (hs : s ≤ e) {f : Nat} : ∀ k m a, k ≤ e → k < m → ll_MO_word_112 m 17 (nI s) (nI e) (nI f) (nI a) (nI (e - k)) w = some (if ald bf e k then (if nI f ≤ nI s then nI (dvl bf e k a) else -nI (dvl bf e k a)) else 5000, w) := by
  obtain ⟨fb, e1, e2⟩ := hb
  have hn := hB.1
  intro k
  induction k with
  | zero =>
    intro m a _ hm
    obtain ⟨m, rfl⟩ : ∃ z, m = z + 1 := ⟨m - 1, by omega⟩
    show lb_MO_word_112 (ll_MO_word_112 m) 17 (nI s) (nI e) (nI f) (nI a) (nI (e - 0)) w = _
    unfold lb_MO_word_112
    rw [i_le rfl rfl (by omega) (by omega), if_pos (by omega), if_pos (show ald bf e 0 = true from rfl)]
    show _ = some (if nI f ≤ nI s then nI a else -nI a, w)
    by_cases h : nI f ≤ nI s
    · rw [if_pos h, if_pos h]
    · rw [if_neg h, if_neg h]
  | succ k ih =>
    intro m a hk hm
    obtain ⟨m, rfl⟩ : ∃ z, m = z + 1 := ⟨m - 1, by omega⟩
    have hc := hB.2 (e - (k + 1)) (by omega)
    show lb_MO_word_112 (ll_MO_word_112 m) 17 (nI s) (nI e) (nI f) (nI a) (nI (e - (k + 1))) w = _
    unfold lb_MO_word_112
    have hl : q_ld w 18 0 (nI (e - (k + 1))) = some (nI (bf (e - (k + 1)))) := by rw [g_l e1 (by omega) (by omega), e2 _ (by omega)]
    rw [i_le rfl rfl (by omega) (by omega), if_neg (by omega), g_b1 h2, g_b1 hl, i_lt (y := 48) (b := 48) rfl rfl (by omega) (by omega), g_b1 h2, g_b1 hl, i_le (y := 57) (b := 57) rfl rfl (by omega) (by omega), g_b1 h2, g_b1 hl]
    unfold ald dig
    by_cases h1 : bf (e - (k + 1)) < 48
    · rw [if_pos h1, decide_eq_false (by omega)]
      rfl
    · rw [if_neg h1]
      by_cases h2 : bf (e - (k + 1)) ≤ 57
      · rw [if_pos h2, decide_eq_true ⟨by omega, h2⟩, Bool.true_and, nI_1, show e - (k + 1) + 1 = e - k by omega]
        have hv : (10 : Int32) * nI a + nI (bf (e - (k + 1))) - 48 = nI (a * 10 + (bf (e - (k + 1)) - 48)) := by
          rw [show (10 : Int32) * nI a = nI (10 * a) from pk_mul 10 a, nI_add, n48 (by omega), show 10 * a + bf (e - (k + 1)) - 48 = a * 10 + (bf (e - (k + 1)) - 48) by omega]
        rw [hv]
        exact ih m _ (by omega) (by omega)
      · rw [if_neg h2, decide_eq_false (by omega)]
        rfl
/-- what the reference makes of a word -/
def wd (bf : Nat → Nat) (s e : Nat) : Int32 := if e = s + 1 ∧ (bf s = 97 ∨ bf s = 101 ∨ bf s = 114 ∨ bf s = 115) then nI (4000 + bf s) else if nmb bf s e then vlu bf s e else 5000
theorem m_word (hB : okB n bf) (h2 : q_gr w 17 1 0 = some 18) (hb : rB w n bf) (hs : s < e) (he : e ≤ n) : f_MO_word w 17 (nI s) (nI e) = some (wd bf s e, w) := by
  have hn := hB.1
  have hc := hB.2 s (by omega)
  have hbb := hb
  obtain ⟨f, e1, e2⟩ := hb
  have hl : q_ld w 18 0 (nI s) = some (nI (bf s)) := by rw [g_l e1 (by omega) (by omega), e2 _ (by omega)]
  have hft := ft_in (bf := bf) (s := s) (e := e) (by omega)
  have core : ¬ (e = s + 1 ∧ (bf s = 97 ∨ bf s = 101 ∨ bf s = 114 ∨ bf s = 115)) → lj_MO_word_44 17 (nI s) (nI e) (nI (bf s)) w = some (wd bf s e, w) := by
    intro hno
    unfold wd
    rw [if_neg hno]
    have h57 : lj_MO_word_57 17 (nI s) (nI e) (nI (ft bf s e)) w = some (if nmb bf s e then vlu bf s e else 5000, w) := by
      unfold lj_MO_word_57 nmb
      rw [pk_sub hft.2]
      have key := m_digits (w := w) hB h2 hbb he (by omega : s ≤ e) (f := ft bf s e) (e - ft bf s e) q_fu 0 (by omega) (by unfold q_fu; omega)
      rw [show e - (e - ft bf s e) = ft bf s e by omega] at key
      have hvl : (if nI (ft bf s e) ≤ nI s then nI (dvl bf e (e - ft bf s e) 0) else -nI (dvl bf e (e - ft bf s e) 0)) = vlu bf s e := by
        unfold vlu
        by_cases hh : ng bf s e = true
        · have : ft bf s e = s + 1 := by unfold ft; rw [if_pos hh]
          rw [if_pos hh, if_neg (by rw [this]; exact nI_ge (by omega) (by omega))]
        · have : ft bf s e = s := by unfold ft; rw [if_neg hh]
          rw [if_neg hh, if_pos (by rw [this]; exact nI_le (Nat.le_refl _) (by omega))]
      rw [hvl] at key
      rw [i_lt (y := 1) (b := 1) rfl rfl (by omega) (by omega), i_lt (x := 3) (a := 3) rfl rfl (by omega) (by omega)]
      by_cases c1 : e - ft bf s e < 1
      · have : dok bf s e = false := by unfold dok; exact decide_eq_false (by omega)
        rw [if_pos c1, this]
        rfl
      · rw [if_neg c1]
        by_cases c2 : 3 < e - ft bf s e
        · have : dok bf s e = false := by unfold dok; exact decide_eq_false (by omega)
          rw [if_pos c2, this]
          rfl
        · have hcf := hB.2 (ft bf s e) (by omega)
          have hlf : q_ld w 18 0 (nI (ft bf s e)) = some (nI (bf (ft bf s e))) := by rw [g_l e1 (by omega) (by omega), e2 _ (by omega)]
          rw [if_neg c2, g_b1 h2, g_b1 hlf, i_eq (y := 48) (b := 48) rfl rfl (by omega) (by omega)]
          by_cases c3 : bf (ft bf s e) = 48
          · rw [if_pos c3, i_lt (x := 1) (a := 1) rfl rfl (by omega) (by omega)]
            by_cases c4 : 1 < e - ft bf s e
            · have : dok bf s e = false := by unfold dok; exact decide_eq_false (fun h => h.2.2 ⟨c3, Or.inr c4⟩)
              rw [if_pos c4, this]
              rfl
            · rw [if_neg c4, i_le rfl rfl (by omega) (by omega)]
              by_cases c5 : ng bf s e = true
              · have hf1 : ft bf s e = s + 1 := by unfold ft; rw [if_pos c5]
                have : dok bf s e = false := by unfold dok; exact decide_eq_false (fun h => h.2.2 ⟨c3, Or.inl c5⟩)
                rw [if_neg (by omega), this]
                rfl
              · have hf1 : ft bf s e = s := by unfold ft; rw [if_neg c5]
                have : dok bf s e = true := by
                  unfold dok
                  refine decide_eq_true ⟨by omega, by omega, fun h => ?_⟩
                  rcases h.2 with h | h
                  · exact c5 h
                  · exact c4 h
                rw [if_pos (by omega), this, Bool.true_and]
                exact key
          · have : dok bf s e = true := by
              unfold dok
              exact decide_eq_true ⟨by omega, by omega, fun h => c3 h.1⟩
            rw [if_neg c3, this, Bool.true_and]
            exact key
    unfold lj_MO_word_44
    rw [i_eq (y := 45) (b := 45) rfl rfl (by omega) (by omega)]
    by_cases c : bf s = 45
    · have hf1 : ft bf s e = s + 1 := by unfold ft ng; rw [if_pos (decide_eq_true ⟨hs, c⟩)]
      rw [if_pos c, nI_1, ← hf1]
      exact h57
    · have hf1 : ft bf s e = s := by unfold ft ng; rw [if_neg (by simp [c])]
      rw [hf1] at h57
      rw [if_neg c]
      exact h57
  unfold f_MO_word
  rw [g_b1 h2, g_b1 hl, nI_1, i_eq rfl rfl (by omega) (by omega), i_eq (y := 97) (b := 97) rfl rfl (by omega) (by omega), i_eq (y := 101) (b := 101) rfl rfl (by omega) (by omega), i_eq (y := 114) (b := 114) rfl rfl (by omega) (by omega), i_eq (y := 115) (b := 115) rfl rfl (by omega) (by omega), show (4000 : Int32) + nI (bf s) = nI (4000 + bf s) from nI_add 4000 _]
  by_cases c : e = s + 1
  · rw [if_pos c]
    by_cases c1 : bf s = 97
    · rw [if_pos c1]
      unfold wd
      rw [if_pos ⟨c, Or.inl c1⟩]
    · rw [if_neg c1]
      by_cases c2 : bf s = 101
      · rw [if_pos c2]
        unfold wd
        rw [if_pos ⟨c, Or.inr (Or.inl c2)⟩]
      · rw [if_neg c2]
        by_cases c3 : bf s = 114
        · rw [if_pos c3]
          unfold wd
          rw [if_pos ⟨c, Or.inr (Or.inr (Or.inl c3))⟩]
        · rw [if_neg c3]
          by_cases c4 : bf s = 115
          · rw [if_pos c4]
            unfold wd
            rw [if_pos ⟨c, Or.inr (Or.inr (Or.inr c4))⟩]
          · rw [if_neg c4]
            exact core (by omega)
  · rw [if_neg c]
    exact core (by omega)
end
