/-! ===== Int32 by its bits: bt x i ===== -/
def bt (x : Int32) (i : Nat) : Bool := x.toBitVec.getLsbD i
theorem b_ext {x y : Int32} (h : ∀ i, i < 32 → bt x i = bt y i) : x = y := Int32.toBitVec_inj.mp (BitVec.eq_of_getLsbD_eq (fun i hi => h i hi))
theorem b_or (x y : Int32) (i : Nat) : bt (x ||| y) i = (bt x i || bt y i) := by unfold bt; rw [Int32.toBitVec_or, BitVec.getLsbD_or]
theorem b_and (x y : Int32) (i : Nat) : bt (x &&& y) i = (bt x i && bt y i) := by unfold bt; rw [Int32.toBitVec_and, BitVec.getLsbD_and]
theorem b_xor (x y : Int32) (i : Nat) : bt (x ^^^ y) i = (bt x i ^^ bt y i) := by unfold bt; rw [Int32.toBitVec_xor, BitVec.getLsbD_xor]
theorem b_big {x : Int32} {i : Nat} (h : 32 ≤ i) : bt x i = false := BitVec.getLsbD_of_ge _ _ h
theorem b_255 (i : Nat) : bt 255 i = decide (i < 8) := by
  rcases Nat.lt_or_ge i 32 with h | h
  · exact (by decide +kernel : ∀ i, i < 32 → bt 255 i = decide (i < 8)) i h
  · rw [b_big h, decide_eq_false (by omega)]
theorem b_65535 (i : Nat) : bt 65535 i = decide (i < 16) := by
  rcases Nat.lt_or_ge i 32 with h | h
  · exact (by decide +kernel : ∀ i, i < 32 → bt 65535 i = decide (i < 16)) i h
  · rw [b_big h, decide_eq_false (by omega)]
theorem b_m1 : ∀ i, i < 32 → bt (-1) i = true := by decide +kernel
theorem b_0 (i : Nat) : bt 0 i = false := BitVec.getLsbD_zero
theorem s_l : ∀ n, n < 32 → ((nI n &&& 31).toBitVec.smod 32).toNat = n := by decide +kernel
theorem s_u : ∀ n, n < 32 → (((nI n).toUInt32 &&& Int32.toUInt32 31).toBitVec % 32).toNat = n := by decide +kernel
theorem b_shl (n : Nat) (hn : n < 32) (x : Int32) {i : Nat} (hi : i < 32) : bt (x <<< (nI n &&& 31)) i = (decide (n ≤ i) && bt x (i - n)) := by
  unfold bt
  rw [Int32.toBitVec_shiftLeft]
  show (x.toBitVec <<< ((nI n &&& 31).toBitVec.smod 32).toNat).getLsbD i = _
  rw [s_l n hn, BitVec.getLsbD_shiftLeft]
  rcases Nat.lt_or_ge i n with h | h
  · simp [h, Nat.not_le.mpr h]
  · simp [hi, h, Nat.not_lt.mpr h]
theorem b_ushr (n : Nat) (hn : n < 32) (x : Int32) (i : Nat) : bt ((x.toUInt32 >>> ((nI n).toUInt32 &&& Int32.toUInt32 31)).toInt32) i = bt x (n + i) := by
  show (x.toUInt32 >>> ((nI n).toUInt32 &&& Int32.toUInt32 31)).toBitVec.getLsbD i = x.toUInt32.toBitVec.getLsbD (n + i)
  rw [UInt32.toBitVec_shiftRight]
  show (x.toUInt32.toBitVec >>> (((nI n).toUInt32 &&& Int32.toUInt32 31).toBitVec % 32).toNat).getLsbD i = _
  rw [s_u n hn, BitVec.getLsbD_ushiftRight]
theorem b_sshr (n : Nat) (hn : n < 32) (x : Int32) {i : Nat} (hi : i < 32) : bt (x >>> (nI n &&& 31)) i = if n + i < 32 then bt x (n + i) else bt x 31 := by
  unfold bt
  rw [Int32.toBitVec_shiftRight]
  show (x.toBitVec.sshiftRight ((nI n &&& 31).toBitVec.smod 32).toNat).getLsbD i = _
  rw [s_l n hn, BitVec.getLsbD_sshiftRight, BitVec.msb_eq_getLsbD_last]
  simp [hi]
theorem b_shl8 (x : Int32) {i : Nat} (hi : i < 32) : bt (x <<< ((8 : Int32) &&& 31)) i = (decide (8 ≤ i) && bt x (i - 8)) := b_shl 8 (by omega) x hi
theorem b_shl16 (x : Int32) {i : Nat} (hi : i < 32) : bt (x <<< ((16 : Int32) &&& 31)) i = (decide (16 ≤ i) && bt x (i - 16)) := b_shl 16 (by omega) x hi
theorem b_shl24 (x : Int32) {i : Nat} (hi : i < 32) : bt (x <<< ((24 : Int32) &&& 31)) i = (decide (24 ≤ i) && bt x (i - 24)) := b_shl 24 (by omega) x hi
theorem b_sshr8 (x : Int32) {i : Nat} (hi : i < 32) : bt (x >>> ((8 : Int32) &&& 31)) i = if 8 + i < 32 then bt x (8 + i) else bt x 31 := b_sshr 8 (by omega) x hi
/-! pure: bits of sets, one bit, lookups -/
def sl (k : Nat) : Int32 := (1 : Int32) <<< (nI k &&& 31)
theorem b_sl : ∀ k, k < 32 → ∀ i, i < 32 → bt (sl k) i = decide (i = k) := by decide +kernel
theorem b_and_sl (x : Int32) {k : Nat} (hk : k < 32) : x &&& sl k = 0 ↔ bt x k = false := by
  constructor
  · intro h
    have h1 := congrArg (fun y => bt y k) h
    simp only [b_and, b_sl k hk k hk, b_0] at h1
    simpa using h1
  · intro h
    refine b_ext (fun i hi => ?_)
    rw [b_and, b_sl k hk i hi, b_0]
    by_cases e : i = k
    · subst e
      simp [h]
    · simp [e]
def qb (b : Bool) : Int32 := if b then 1 else 0
theorem qb_0 (b : Bool) : qb b = 0 ↔ b = false := by cases b <;> decide
theorem qb_1 (b : Bool) : qb b = 1 ↔ b = true := by cases b <;> decide
theorem qb_z (b : Bool) : q_z (qb b) = true := by cases b <;> rfl
theorem qb_inj {a b : Bool} : qb a = qb b ↔ a = b := by cases a <;> cases b <;> decide
theorem q_z0 : q_z 0 = true := rfl
theorem q_z1 : q_z 1 = true := rfl
/-- the set of a literal -/
def q_bit (x : Int32) : Int32 := if x ≤ 0 then (1 : Int32) <<< (((7 : Int32) - x) &&& 31) else (1 : Int32) <<< ((x - 1) &&& 31)
theorem q_bit_p : ∀ v, v < 9 → 0 < v → q_bit (nI v) = sl (v - 1) := by decide +kernel
theorem q_bit_n : ∀ v, v < 9 → 0 < v → q_bit (-nI v) = sl (v + 7) := by decide +kernel
-- reading and writing, where a cell is known
theorem g_i {w : qw} {a ci k : Nat} {fs : List qv} {v : Int32} (h : w[a]? = some (.inr (ci, fs))) (hk : fs[k]? = some (.inl v)) : q_gi w a ci k = some v := by
  simp [q_gi, h, hk]
theorem g_r {w : qw} {a ci k : Nat} {fs : List qv} {v : Nat} (h : w[a]? = some (.inr (ci, fs))) (hk : fs[k]? = some (.inr (some v))) : q_gr w a ci k = some v := by
  simp [q_gr, h, hk]
theorem g_is {w : qw} {a ci : Nat} {fs : List qv} (h : w[a]? = some (.inr (ci, fs))) : q_is w a ci = true := by
  simp [q_is, h]
theorem g_p {w : qw} {a ci k : Nat} {fs : List qv} {v : qv} (h : w[a]? = some (.inr (ci, fs))) (hk : Nat.ble (k + 1) fs.length = true) : q_pf w a ci k v = some (w.set a (.inr (ci, fs.set k v))) := by
  have hk : k < fs.length := Nat.le_of_ble_eq_true hk
  simp [q_pf, h, hk]
theorem g_l {w : qw} {a t n : Nat} {f : Nat → Int32} {i : Nat} (h : w[a]? = some (.inl (t, n, f))) (hi : i < n) (hn : n < 2 ^ 31) : q_ld w a t (nI i) = some (f i) := by
  have h1 := nI_in hi hn
  simp only [q_ld, h]
  rw [if_pos ⟨trivial, h1⟩, nI_clamp (by omega)]
theorem g_s {w : qw} {a t n : Nat} {f : Nat → Int32} {i : Nat} {v : Int32} (h : w[a]? = some (.inl (t, n, f))) (hi : i < n) (hn : n < 2 ^ 31) : q_st w a t (nI i) v = some (w.set a (.inl (t, n, upd f i v))) := by
  have h1 := nI_in hi hn
  simp only [q_st, h]
  rw [if_pos ⟨trivial, h1⟩, nI_clamp (by omega)]
theorem g_b1 {α β : Type} {o : Option α} {a : α} {k : α → Option β} (h : o = some a) : q_b1 o k = k a := by rw [h]; rfl
theorem g_b2 {α β : Type} {o : Option (α × qw)} {a : α} {w : qw} {k : α → qw → Option β} (h : o = some (a, w)) : q_b2 o k = k a w := by rw [h]; rfl
theorem g_ob {α : Type} {c : Bool} {o : Option α} (h : c = true) : q_ob c o = o := by rw [h]; rfl
theorem g_ss {w : qw} {a : Nat} {c : qc} (h : a < w.length) : (w.set a c)[a]? = some c := by simp [h]
theorem g_sn {w : qw} {a b : Nat} {c : qc} (h : a ≠ b) : (w.set a c)[b]? = w[b]? := List.getElem?_set_ne h
theorem g_lt {w : qw} {a : Nat} {c : qc} (h : w[a]? = some c) : a < w.length := (List.getElem?_eq_some_iff.mp h).1
/-- two worlds that differ at most at some places -/
def qfr (S : List Nat) (w w' : qw) : Prop := w'.length = w.length ∧ ∀ k, k ∉ S → w'[k]? = w[k]?
theorem qfr.refl {S : List Nat} {w : qw} : qfr S w w := ⟨rfl, fun _ _ => rfl⟩
theorem qfr.set {S : List Nat} {w w' : qw} {a : Nat} {c : qc} (h : qfr S w w') (ha : a ∈ S) : qfr S w (w'.set a c) := ⟨by rw [List.length_set]; exact h.1, fun k hk => (g_sn (fun e => hk (by rw [← e]; exact ha))).trans (h.2 k hk)⟩
theorem qfr.trans {S : List Nat} {w w1 w2 : qw} (h : qfr S w w1) (h2 : qfr S w1 w2) : qfr S w w2 := ⟨h2.1.trans h.1, fun k hk => (h2.2 k hk).trans (h.2 k hk)⟩
theorem qfr.mono {S T : List Nat} {w w1 : qw} (h : qfr S w w1) (hs : ∀ k ∈ S, k ∈ T) : qfr T w w1 := ⟨h.1, fun k hk => h.2 k (fun e => hk (hs k e))⟩
theorem qfr.at {S : List Nat} {w w1 : qw} {k : Nat} {x : Option qc} (h : qfr S w w1) (hx : w[k]? = x) (hk : k ∉ S) : w1[k]? = x := (h.2 k hk).trans hx
