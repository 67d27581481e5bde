/-! the formula's reader: one step, in the class -/
def up {α : Type} (f : Nat → α) (k : Nat) (v : α) : Nat → α := fun i => if i = k then v else f i
theorem up_s {α : Type} {f : Nat → α} {k : Nat} {v : α} : up f k v k = v := if_pos rfl
theorem up_n {α : Type} {f : Nat → α} {k i : Nat} {v : α} (h : i ≠ k) : up f k v i = f i := if_neg h
/-- whether a variable stands among the first V -/
def dcl (vr : Nat → Nat) : Nat → Nat → Bool
  | 0, _ => false
  | V + 1, v => dcl vr V v || decide (vr V = v)
theorem dcl_iff {vr : Nat → Nat} {v : Nat} : ∀ V, dcl vr V v = true ↔ ∃ i, i < V ∧ vr i = v := by
  intro V
  induction V with
  | zero =>
    constructor
    · intro h
      cases h
    · rintro ⟨i, hi, _⟩
      omega
  | succ V ih =>
    unfold dcl
    rw [Bool.or_eq_true, ih, decide_eq_true_eq]
    constructor
    · rintro (⟨i, h1, h2⟩ | h)
      · exact ⟨i, by omega, h2⟩
      · exact ⟨V, by omega, h⟩
    · rintro ⟨i, h1, h2⟩
      by_cases hi : i = V
      · subst hi
        exact Or.inr h2
      · exact Or.inl ⟨i, by omega, h2⟩
theorem pigeon : ∀ (m : Nat) (f : Nat → Nat), (∀ i, i < m + 1 → f i < m) → ∃ i j, i < j ∧ j < m + 1 ∧ f i = f j := by
  intro m
  induction m with
  | zero =>
    intro f h
    have := h 0 (by omega)
    omega
  | succ m ih =>
    intro f h
    by_cases hc : f (m + 1) = m
    · by_cases hx : ∃ i, i < m + 1 ∧ f i = m
      · obtain ⟨i, h1, h2⟩ := hx
        exact ⟨i, m + 1, h1, by omega, by omega⟩
      · obtain ⟨i, j, h1, h2, h3⟩ := ih f (fun i hi => by
          have h4 := h i (by omega)
          have h5 : f i ≠ m := fun e => hx ⟨i, hi, e⟩
          omega)
        exact ⟨i, j, h1, by omega, h3⟩
    · have hcl := h (m + 1) (by omega)
      obtain ⟨i, j, h1, h2, h3⟩ := ih (fun i => if f i = m then f (m + 1) else f i) (fun i hi => by
        have h4 := h i (by omega)
        show (if f i = m then f (m + 1) else f i) < m
        by_cases e : f i = m
        · rw [if_pos e]
          omega
        · rw [if_neg e]
          omega)
      have h3 : (if f i = m then f (m + 1) else f i) = (if f j = m then f (m + 1) else f j) := h3
      by_cases ei : f i = m
      · by_cases ej : f j = m
        · exact ⟨i, j, h1, by omega, by omega⟩
        · rw [if_pos ei, if_neg ej] at h3
          exact ⟨j, m + 1, h2, by omega, h3.symm⟩
      · by_cases ej : f j = m
        · rw [if_neg ei, if_pos ej] at h3
          exact ⟨i, m + 1, by omega, by omega, h3⟩
        · rw [if_neg ei, if_neg ej] at h3
          exact ⟨i, j, h1, by omega, h3⟩
theorem okF_lt {V d : Nat} {vr : Nat → Nat} (h : okF V vr) (hd : 1 ≤ d ∧ d ≤ 8) (hn : dcl vr V d = false) : V < 8 := by
  have hV := h.1
  rcases Nat.lt_or_ge V 8 with hlt | hge
  · exact hlt
  · have hV8 : V = 8 := by omega
    subst hV8
    exfalso
    have hno : ∀ i, i < 8 → vr i ≠ d := fun i hi e => by
      rw [(dcl_iff 8).mpr ⟨i, hi, e⟩] at hn
      cases hn
    obtain ⟨i, j, h1, h2, h3⟩ := pigeon 7 (fun i => if vr i < d then vr i - 1 else vr i - 2) (fun i hi => by
      have h4 := h.2.1 i (by omega)
      have h5 := hno i (by omega)
      show (if vr i < d then vr i - 1 else vr i - 2) < 7
      by_cases e : vr i < d
      · rw [if_pos e]
        omega
      · rw [if_neg e]
        omega)
    have h3 : (if vr i < d then vr i - 1 else vr i - 2) = (if vr j < d then vr j - 1 else vr j - 2) := h3
    have a1 := h.2.1 i (by omega)
    have a2 := h.2.1 j (by omega)
    have a3 := hno i (by omega)
    have a4 := hno j (by omega)
    have : vr i = vr j := by
      by_cases e1 : vr i < d
      · by_cases e2 : vr j < d
        · rw [if_pos e1, if_pos e2] at h3
          omega
        · rw [if_pos e1, if_neg e2] at h3
          omega
      · by_cases e2 : vr j < d
        · rw [if_neg e1, if_pos e2] at h3
          omega
        · rw [if_neg e1, if_neg e2] at h3
          omega
    have := h.2.2 i j (by omega) (by omega) this
    omega
theorem msk_up {vr : Nat → Nat} {fa : Nat → Bool} {b : Bool} {V d : Nat} {al : Bool} : ∀ k, k ≤ V → msk (up vr V d) (up fa V al) b k = msk vr fa b k := by
  intro k
  induction k with
  | zero => exact fun _ => rfl
  | succ k ih =>
    intro hk
    unfold msk
    rw [up_n (by omega), up_n (by omega), ih (by omega)]
-- numbers with a sign
theorem z_lt {α : Type} {x y : Int32} {a b : Int} {p q : α} (hx : x.toInt = a) (hy : y.toInt = b) : (if x < y then p else q) = if a < b then p else q := by
  subst hx; subst hy
  by_cases h : x < y
  · rw [if_pos h, if_pos (Int32.lt_iff_toInt_lt.mp h)]
  · rw [if_neg h, if_neg (fun z => h (Int32.lt_iff_toInt_lt.mpr z))]
theorem z_le {α : Type} {x y : Int32} {a b : Int} {p q : α} (hx : x.toInt = a) (hy : y.toInt = b) : (if x ≤ y then p else q) = if a ≤ b then p else q := by
  subst hx; subst hy
  by_cases h : x ≤ y
  · rw [if_pos h, if_pos (Int32.le_iff_toInt_le.mp h)]
  · rw [if_neg h, if_neg (fun z => h (Int32.le_iff_toInt_le.mpr z))]
theorem z_eq {α : Type} {x y : Int32} {a b : Int} {p q : α} (hx : x.toInt = a) (hy : y.toInt = b) : (if x = y then p else q) = if a = b then p else q := by
  subst hx; subst hy
  by_cases h : x = y
  · rw [if_pos h, if_pos (by rw [h])]
  · rw [if_neg h, if_neg (fun z => h (Int32.toInt_inj.mp z))]
def nt (sg : Bool) (d : Nat) : Int32 := if sg then -nI d else nI d
def zt (sg : Bool) (d : Nat) : Int := if sg then -(d : Int) else d
theorem nt_int (sg : Bool) {d : Nat} (h : d < 2 ^ 31) : (nt sg d).toInt = zt sg d := by
  cases sg
  · exact nI_toInt h
  · exact sb_negT h
theorem zt_p (d : Nat) : zt false d = (d : Int) := rfl
theorem zt_n (d : Nat) : zt true d = -(d : Int) := rfl
def lbt (sg : Bool) (d : Nat) : Nat := if sg then d + 7 else d - 1
theorem nt_bit (sg : Bool) {d : Nat} (h1 : 1 ≤ d) (h2 : d ≤ 8) : q_bit (nt sg d) = sl (lbt sg d) := by
  cases sg
  · exact q_bit_p d (by omega) (by omega)
  · exact q_bit_n d (by omega) (by omega)
theorem nt_neg (sg : Bool) (d : Nat) : -nt sg d = nt (!sg) d := by
  cases sg
  · rfl
  · exact Int32.neg_neg
theorem lbt_lt (sg : Bool) {d : Nat} (h2 : d ≤ 8) : lbt sg d < 16 := by
  unfold lbt
  cases sg
  · exact Nat.lt_of_le_of_lt (Nat.sub_le d 1) (by omega)
  · show d + 7 < 16
    omega
theorem lits_bt {m : Int32} {j : Nat} (hj : j < 32) : bt (m ||| (m <<< ((8 : Int32) &&& 31))) j = (bt m j || (decide (8 ≤ j) && bt m (j - 8))) := by
  rw [b_or, b_shl8 m hj]
section
variable {w : qw} {p V C : Nat} {vr : Nat → Nat} {fa : Nat → Bool} {cl : Nat → Int32}
theorem f_hasLit (hV : okF V vr) (h : iF w p V vr fa C cl) (sg : Bool) {d : Nat} (hd : d ≤ 999) : f_Formula_hasLiteral w p (nt sg d) = some (qb (decide (1 ≤ d ∧ d ≤ 8) && dcl vr V d), w) := by
  obtain ⟨od, oc, e1, _⟩ := h
  have hz := nt_int sg (d := d) (by omega)
  unfold f_Formula_hasLiteral
  rw [z_eq hz (show (0 : Int32).toInt = 0 by decide), z_lt hz (show (-8 : Int32).toInt = -8 by decide), z_lt (show (8 : Int32).toInt = 8 by decide) hz]
  by_cases c0 : d = 0
  · subst c0
    rw [if_pos (by cases sg <;> rfl), decide_eq_false (by omega)]
    rfl
  · have hz0 : ¬ zt sg d = 0 := by
      unfold zt
      cases sg
      · show ¬ (d : Int) = 0
        omega
      · show ¬ -(d : Int) = 0
        omega
    rw [if_neg hz0]
    by_cases c8 : 8 < d
    · rw [decide_eq_false (by omega)]
      cases sg
      · rw [zt_p, if_neg (show ¬ (d : Int) < -8 by omega), if_pos (show (8 : Int) < (d : Int) by omega)]
        rfl
      · rw [zt_n, if_pos (show -(d : Int) < -8 by omega)]
        rfl
    · have k1 : ¬ zt sg d < -8 := by
        cases sg
        · rw [zt_p]
          omega
        · rw [zt_n]
          omega
      have k2 : ¬ 8 < zt sg d := by
        cases sg
        · rw [zt_p]
          omega
        · rw [zt_n]
          omega
      rw [if_neg k1, if_neg k2]
      have hl := lbt_lt sg (d := d) (by omega)
      rw [g_b1 (g_i e1 rfl), g_b1 (g_i e1 rfl)]
      unfold f_QP_literalsOf
      rw [g_b2 rfl, g_b2 (f_set w _), nt_bit sg (by omega) (by omega), decide_eq_true (by omega), Bool.true_and]
      have hb : bt ((msk vr fa true V ||| msk vr fa false V) ||| ((msk vr fa true V ||| msk vr fa false V) <<< ((8 : Int32) &&& 31))) (lbt sg d) = dcl vr V d := by
        have hm : ∀ j, j < 32 → (bt (msk vr fa true V ||| msk vr fa false V) j = true ↔ ∃ i, i < V ∧ vr i = j + 1) := by
          intro j hj
          rw [b_or, Bool.or_eq_true, b_msk V hV.2.1 j hj, b_msk V hV.2.1 j hj]
          constructor
          · rintro (⟨i, h1, _, h3⟩ | ⟨i, h1, _, h3⟩) <;> exact ⟨i, h1, h3⟩
          · rintro ⟨i, h1, h3⟩
            cases hf : fa i
            · exact Or.inr ⟨i, h1, hf, h3⟩
            · exact Or.inl ⟨i, h1, hf, h3⟩
        have hhi : ∀ j, 8 ≤ j → j < 32 → bt (msk vr fa true V ||| msk vr fa false V) j = false := by
          intro j h1 h2
          cases hbt : bt (msk vr fa true V ||| msk vr fa false V) j with
          | false => rfl
          | true =>
            obtain ⟨i, h3, h4⟩ := (hm j h2).mp hbt
            have := hV.2.1 i h3
            omega
        have hlo : bt (msk vr fa true V ||| msk vr fa false V) (d - 1) = dcl vr V d := by
          cases hdc : dcl vr V d with
          | true =>
            obtain ⟨i, h3, h4⟩ := (dcl_iff V).mp hdc
            exact (hm (d - 1) (by omega)).mpr ⟨i, h3, by omega⟩
          | false =>
            cases hbt : bt (msk vr fa true V ||| msk vr fa false V) (d - 1) with
            | false => rfl
            | true =>
              obtain ⟨i, h3, h4⟩ := (hm (d - 1) (by omega)).mp hbt
              rw [(dcl_iff V).mpr ⟨i, h3, by omega⟩] at hdc
              cases hdc
        rw [lits_bt (by omega)]
        cases sg
        · show (bt _ (d - 1) || (decide (8 ≤ d - 1) && _)) = _
          rw [hlo, decide_eq_false (by omega), Bool.false_and, Bool.or_false]
        · show (bt _ (d + 7) || (decide (8 ≤ d + 7) && bt _ (d + 7 - 8))) = _
          rw [hhi (d + 7) (by omega) (by omega), decide_eq_true (by omega), show d + 7 - 8 = d - 1 by omega, hlo, Bool.true_and, Bool.false_or]
      cases hdc : dcl vr V d with
      | true =>
        rw [if_neg (fun z => by rw [(b_and_sl _ (by omega)).mp z, hdc] at hb; cases hb)]
        rfl
      | false =>
        rw [if_pos ((b_and_sl _ (by omega)).mpr (hb.trans hdc))]
        rfl
theorem f_addv (h : iF w p V vr fa C cl) (hV8 : V < 8) {d : Nat} (h1 : 1 ≤ d) (h2 : d ≤ 8) (al : Bool) : ∃ w', f_Formula_addVariable w p (nI d) (qb al) = some w' ∧ qfr [p, p + 1, p + 2] w w' ∧ iF w' p (V + 1) (up vr V d) (up fa V al) C cl := by
  obtain ⟨od, oc, e1, e2, e3, e4, e5⟩ := h
  have hl1 := g_lt e1
  have hl2 := g_lt e2
  have hs : q_bit (nI d) = sl (d - 1) := nt_bit false h1 h2
  have hod : ∀ i, i < V + 1 → upd od V (nI d) i = nI (up vr V d i) := by
    intro i hi
    by_cases e : i = V
    · subst e
      rw [pk_us, up_s]
    · rw [pk_un e, up_n e, e4 i (by omega)]
  have hmt : msk (up vr V d) (up fa V al) true (V + 1) = if al = true then msk vr fa true V ||| sl (d - 1) else msk vr fa true V := by
    show (if up fa V al V = true then msk (up vr V d) (up fa V al) true V ||| sl (up vr V d V - 1) else msk (up vr V d) (up fa V al) true V) = _
    rw [up_s, up_s, msk_up V (Nat.le_refl _)]
  have hmf : msk (up vr V d) (up fa V al) false (V + 1) = if al = false then msk vr fa false V ||| sl (d - 1) else msk vr fa false V := by
    show (if up fa V al V = false then msk (up vr V d) (up fa V al) false V ||| sl (up vr V d V - 1) else msk (up vr V d) (up fa V al) false V) = _
    rw [up_s, up_s, msk_up V (Nat.le_refl _)]
  have e1a : (w.set (p + 1) (.inl (0, 8, upd od V (nI d))))[p]? = _ := (g_sn (by omega)).trans e1
  have hl3 : p < (w.set (p + 1) (.inl (0, 8, upd od V (nI d)))).length := by rw [List.length_set]; exact hl1
  have e1b : ((w.set (p + 1) (.inl (0, 8, upd od V (nI d)))).set p (.inr (2, [.inr (some (p + 1)), .inr (some (p + 2)), .inl (nI (V + 1)), .inl (nI C), .inl (msk vr fa true V), .inl (msk vr fa false V)])))[p]? = _ := g_ss hl3
  unfold f_Formula_addVariable
  rw [g_b1 (g_i e1 rfl), i_lt (y := 8) (b := 8) rfl rfl (by omega) (by omega), if_pos hV8, g_b1 (g_r e1 rfl), g_b1 (g_i e1 rfl), g_b1 (g_s e2 (by omega) (by omega)), g_b1 (g_i e1a rfl), g_b1 (g_p e1a rfl), nI_1]
  cases al with
  | false =>
    rw [if_pos (show qb false = 0 from rfl)]
    have e1c := g_p (v := .inl (msk vr fa false V ||| sl (d - 1))) (k := 5) e1b rfl
    refine ⟨((w.set (p + 1) (.inl (0, 8, upd od V (nI d)))).set p (.inr (2, [.inr (some (p + 1)), .inr (some (p + 2)), .inl (nI (V + 1)), .inl (nI C), .inl (msk vr fa true V), .inl (msk vr fa false V)]))).set p (.inr (2, [.inr (some (p + 1)), .inr (some (p + 2)), .inl (nI (V + 1)), .inl (nI C), .inl (msk vr fa true V), .inl (msk vr fa false V ||| sl (d - 1))])), ?_, ?_, ?_⟩
    rotate_left
    · exact ((qfr.refl.set (by simp)).set (by simp)).set (c := .inr (2, [.inr (some (p + 1)), .inr (some (p + 2)), .inl (nI (V + 1)), .inl (nI C), .inl (msk vr fa true V), .inl (msk vr fa false V ||| sl (d - 1))])) (a := p) (by simp)
    · refine ⟨upd od V (nI d), oc, ?_, ?_, ?_, hod, e5⟩
      · rw [g_ss (by rw [List.length_set]; exact hl3), hmt, hmf]
        rfl
      · rw [g_sn (by omega), g_sn (by omega)]
        exact g_ss hl2
      · rw [g_sn (by omega), g_sn (by omega), g_sn (by omega)]
        exact e3
    · refine Eq.trans (g_b1 (g_i e1b rfl)) ?_
      rw [g_b2 (f_set _ _), hs]
      exact g_b1 e1c
  | true =>
    rw [if_neg (by decide)]
    have e1c := g_p (v := .inl (msk vr fa true V ||| sl (d - 1))) (k := 4) e1b rfl
    refine ⟨((w.set (p + 1) (.inl (0, 8, upd od V (nI d)))).set p (.inr (2, [.inr (some (p + 1)), .inr (some (p + 2)), .inl (nI (V + 1)), .inl (nI C), .inl (msk vr fa true V), .inl (msk vr fa false V)]))).set p (.inr (2, [.inr (some (p + 1)), .inr (some (p + 2)), .inl (nI (V + 1)), .inl (nI C), .inl (msk vr fa true V ||| sl (d - 1)), .inl (msk vr fa false V)])), ?_, ?_, ?_⟩
    rotate_left
    · exact ((qfr.refl.set (by simp)).set (by simp)).set (c := .inr (2, [.inr (some (p + 1)), .inr (some (p + 2)), .inl (nI (V + 1)), .inl (nI C), .inl (msk vr fa true V ||| sl (d - 1)), .inl (msk vr fa false V)])) (a := p) (by simp)
    · refine ⟨upd od V (nI d), oc, ?_, ?_, ?_, hod, e5⟩
      · rw [g_ss (by rw [List.length_set]; exact hl3), hmt, hmf]
        rfl
      · rw [g_sn (by omega), g_sn (by omega)]
        exact g_ss hl2
      · rw [g_sn (by omega), g_sn (by omega), g_sn (by omega)]
        exact e3
    · refine Eq.trans (g_b1 (g_i e1b rfl)) ?_
      rw [g_b2 (f_set _ _), hs]
      exact g_b1 e1c
theorem f_addc (h : iF w p V vr fa C cl) (hC : C < 12) (x : Int32) : ∃ w', f_Formula_addClause w p x = some (1, w') ∧ qfr [p, p + 1, p + 2] w w' ∧ iF w' p V vr fa (C + 1) (up cl C x) := by
  obtain ⟨od, oc, e1, e2, e3, e4, e5⟩ := h
  have hl1 := g_lt e1
  have hl2 := g_lt e3
  have e1a : (w.set (p + 2) (.inl (0, 12, upd oc C x)))[p]? = _ := (g_sn (by omega)).trans e1
  have hl3 : p < (w.set (p + 2) (.inl (0, 12, upd oc C x))).length := by rw [List.length_set]; exact hl1
  unfold f_Formula_addClause
  rw [g_b1 (g_i e1 rfl), i_lt (y := 12) (b := 12) rfl rfl (by omega) (by omega), if_pos hC, g_b1 (g_r e1 rfl), g_b1 (g_i e1 rfl), g_b1 (g_s e3 (by omega) (by omega)), g_b1 (g_i e1a rfl), g_b1 (g_p e1a rfl), nI_1]
  refine ⟨_, rfl, (qfr.refl.set (by simp)).set (by simp), od, upd oc C x, g_ss hl3, ?_, ?_, e4, ?_⟩
  · rw [g_sn (by omega), g_sn (by omega)]
    exact e2
  · rw [g_sn (by omega)]
    exact g_ss hl2
  · intro i hi
    by_cases e : i = C
    · subst e
      rw [pk_us, up_s]
    · rw [pk_un e, up_n e, e5 i (by omega)]
theorem f_addc12 (h : iF w p V vr fa C cl) (hC : C = 12) (x : Int32) : f_Formula_addClause w p x = some (0, w) := by
  obtain ⟨od, oc, e1, _⟩ := h
  unfold f_Formula_addClause
  rw [g_b1 (g_i e1 rfl), i_lt (y := 12) (b := 12) rfl rfl (by omega) (by omega), if_neg (by omega)]
  rfl
end
