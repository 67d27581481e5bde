/-! one form of world, context and contract for all methods.  A world is a list of cells, named by their places; g.2.2 gives their addresses.
qG X nL pc lv st w: from pc, with locals lv, stack st and world w, the machine comes to X's goal.  A method is a function of its world and its arguments,
to an answer and a new world, or to none (a place out of range, no such cell, no end in sight): its contract holds wherever it isn't none. -/
abbrev qv : Type := Int32 ⊕ Option Nat
abbrev qc : Type := (Nat × Nat × (Nat → Int32)) ⊕ (Nat × List qv)
abbrev qw : Type := List qc
abbrev qk_G : Type := va_G × (Nat → ClassId) × (Nat → Nat)
def qk_v (g : qk_G) (x : qv) : Value := match x with
  | .inl x => .int x
  | .inr none => .null
  | .inr (some k) => .ref (g.2.2 k)
def qk_e (g : qk_G) (c : qc) : va_E := match c with
  | .inl x => .inl (g.2.1 x.1, x.2.1, .inl x.2.2)
  | .inr x => .inr (x.1, x.2.map (qk_v g))
def qk_ws (g : qk_G) (w : qw) : va_W := w.mapIdx (fun k c => (g.2.2 k, qk_e g c))
theorem qk_wk {g : qk_G} {w : qw} {k : Nat} {c : qc} (h : w[k]? = some c) : (qk_ws g w)[k]? = some (g.2.2 k, qk_e g c) := by
  unfold qk_ws
  rw [List.getElem?_mapIdx, h]
  rfl
theorem qk_wset (g : qk_G) (w : qw) (k : Nat) (c : qc) : qk_ws g (w.set k c) = (qk_ws g w).set k (g.2.2 k, qk_e g c) := by
  unfold qk_ws
  exact List.mapIdx_set
theorem qk_cat (g : qk_G) (x : qv) : (qk_v g x).category = 1 := by
  rcases x with x | _ | k <;> rfl
theorem qk_cs (g : qk_G) (st : List qv) : ((st.map (qk_v g)).map fun v => v.category).sum = st.length := by
  induction st with
  | nil => rfl
  | cons x xs ih =>
    simp only [List.map_cons, List.sum_cons, List.length_cons, qk_cat]
    rw [ih]
    omega
abbrev qk_tys (g : qk_G) : List (ClassId × FieldType) := [(g.2.1 0, .int), (g.2.1 1, .char), (g.2.1 2, .boolean)]
-- what the tables say at every call: classes and arrays; links across the nest (fields, methods); faces.  qk_nf, qk_nm, qk_fw, qk_W, classes: lists, printed ahead
def qk_K (g : qk_G) (U : State) : Prop :=
  va_K g.1 classes (qk_tys g) U ∧ (∀ q ∈ qk_nf, va_Nw (.fieldLinkNest q.1 q.2.1 q.2.2.1 q.2.2.2.1 q.2.2.2.2.1 q.2.2.2.2.2) U) ∧
  (∀ q ∈ qk_nm, va_Nw (.methodLinkNest q.1 q.2.1 q.2.2.1 q.2.2.2) U) ∧ ∀ q ∈ qk_fw, va_Fw q.1 q.2.1 q.2.2 U
theorem qk_Kw {g : qk_G} {s U : State} (hW : s.WarmedH U.vm) (h : qk_K g s) : qk_K g U :=
  ⟨va_K.moved hW.alike h.1, fun q hq => va_Nw.warmF hW (h.2.1 q hq), fun q hq => va_Nw.warmM hW (h.2.2.1 q hq), fun q hq => va_Fw.moved (qk_fw_ok q hq) hW.alike (h.2.2.2 q hq)⟩
theorem qk_Ks {g : qk_G} {u U : State} (e : u.vm = U.vm) (h : qk_K g u) : qk_K g U := by
  have ha : u.vm.Alike U.vm := by rw [e]; exact Vm.Alike.refl _
  exact ⟨va_K.moved ha h.1, fun q hq => va_Nw.same rfl e (h.2.1 q hq), fun q hq => va_Nw.same rfl e (h.2.2.1 q hq), fun q hq => va_Fw.moved (qk_fw_ok q hq) ha (h.2.2.2 q hq)⟩
-- a method's start and end
def qk_p (g : qk_G) (av : List qv) (sz : Nat) (w : qw) : Array Value → State → Prop := va_Pc (av.map (qk_v g)) (fun U => U.heap.size = sz ∧ va_P g.1 classes (qk_ws g w) U.heap ∧ qk_K g U ∧ va_D (fun _ => True) (qk_ws g w))
theorem qk_pb {g : qk_G} {av : List qv} {sz : Nat} {w : qw} : FrameBlind (qk_p g av sz w) := fun a U f mk q => by
  obtain ⟨q0, q1, qP, qK, qD⟩ := q
  exact ⟨q0, q1, qP, qk_Ks (u := U) (U := U.calling f mk a) rfl qK, qD⟩
def qk_B (g : qk_G) (w w' : qw) (sz : Nat) (t : State) : Prop := va_P g.1 classes (qk_ws g w') t.heap ∧ va_D (va_A (qk_ws g w) sz) (qk_ws g w')
def qk_qi (g : qk_G) (r : Int32) (w w' : qw) (sz : Nat) : Array Value → State → Outcome → State → Prop := va_Qi (S := Unit) (fun r' _ => r' = r) (fun _ t => qk_B g w w' sz t) (va_A (qk_ws g w) sz)
def qk_qv (g : qk_G) (w w' : qw) (sz : Nat) : Array Value → State → Outcome → State → Prop := va_Qv (S := Unit) (fun _ => True) (fun _ t => qk_B g w w' sz t) (va_A (qk_ws g w) sz)
def qk_qr (g : qk_G) (r : Nat) (w w' : qw) (sz : Nat) : Array Value → State → Outcome → State → Prop := va_Qr (S := Unit) (fun _ => True) (fun _ a t => a = g.2.2 r ∧ qk_B g w w' sz t) (va_A (qk_ws g w) sz)
abbrev qk_rm (fr lo : Nat) : Room := { frames := fr, cells := 0, slots := 0, locals := lo }
def qMi (l : Launch) (g : qk_G) (sz : Nat) (y : MethodName) (b : ByteArray) (mL : Nat) (ret : Option FieldType) (fr lo : Nat) (av : List qv) (w : qw) (r : Int32) (w' : qw) : Prop := Met l y (.code y b mL ret :: qk_W) (qk_rm fr lo) (qk_p g av sz w) (qk_qi g r w w' sz) 0 0 (va_A (qk_ws g w) sz)
def qMv (l : Launch) (g : qk_G) (sz : Nat) (y : MethodName) (b : ByteArray) (mL : Nat) (ret : Option FieldType) (fr lo : Nat) (av : List qv) (w w' : qw) : Prop := Met l y (.code y b mL ret :: qk_W) (qk_rm fr lo) (qk_p g av sz w) (qk_qv g w w' sz) 0 0 (va_A (qk_ws g w) sz)
def qMr (l : Launch) (g : qk_G) (sz : Nat) (y : MethodName) (b : ByteArray) (mL : Nat) (ret : Option FieldType) (fr lo : Nat) (av : List qv) (w : qw) (r : Nat) (w' : qw) : Prop := Met l y (.code y b mL ret :: qk_W) (qk_rm fr lo) (qk_p g av sz w) (qk_qr g r w w' sz) 0 0 (va_A (qk_ws g w) sz)
-- the pure side: what methods are written in
def q_b1 {α β : Type} (o : Option α) (k : α → Option β) : Option β := match o with
  | some a => k a
  | none => none
def q_b2 {α β : Type} (o : Option (α × qw)) (k : α → qw → Option β) : Option β := match o with
  | some q => k q.1 q.2
  | none => none
def q_ob {α : Type} (c : Bool) (o : Option α) : Option α := match c with
  | true => o
  | false => none
def q_d2 {α : Type} (c1 c2 : Bool) (o1 o2 : Option α) : Option α := match c1, c2 with
  | true, _ => o1
  | false, true => o2
  | false, false => none
theorem q_nn {α : Type} {r : α} {P : Prop} (h : (none : Option α) = some r) : P := by cases h
theorem q_b1_s {α β : Type} {o : Option α} {k : α → Option β} {r : β} (h : q_b1 o k = some r) : ∃ a, o = some a ∧ k a = some r := by
  cases o with
  | none => exact q_nn (show (none : Option β) = some r from h)
  | some a => exact ⟨a, rfl, h⟩
theorem q_b2_s {α β : Type} {o : Option (α × qw)} {k : α → qw → Option β} {r : β} (h : q_b2 o k = some r) : ∃ a w, o = some (a, w) ∧ k a w = some r := by
  cases o with
  | none => exact q_nn (show (none : Option β) = some r from h)
  | some a => exact ⟨a.1, a.2, rfl, h⟩
theorem q_ob_s {α : Type} {c : Bool} {o : Option α} {r : α} (h : q_ob c o = some r) : c = true ∧ o = some r := by
  cases c with
  | false => exact q_nn (show (none : Option α) = some r from h)
  | true => exact ⟨rfl, h⟩
theorem q_d2_s {α β : Type} {c1 c2 : Bool} {o1 o2 : Option (α × qw)} {f : α → qw → Option β} {r : β} (h : q_b2 (q_d2 c1 c2 o1 o2) f = some r) : (c1 = true ∧ q_b2 o1 f = some r) ∨ (c2 = true ∧ q_b2 o2 f = some r) := by
  cases c1
  · cases c2
    · exact q_nn (show (none : Option β) = some r from h)
    · exact Or.inr ⟨rfl, h⟩
  · exact Or.inl ⟨rfl, h⟩
theorem q_sw {α : Type} {c : Prop} [Decidable c] {A B : Option α} {res : α} {G : Prop} (hF : (if c then A else B) = some res) (kt : c → A = some res → G) (kf : ¬ c → B = some res → G) : G := by
  by_cases h : c
  · rw [if_pos h] at hF
    exact kt h hF
  · rw [if_neg h] at hF
    exact kf h hF
def q_is (w : qw) (a ci : Nat) : Bool := match w[a]? with
  | some (.inr x) => x.1 == ci
  | _ => false
theorem q_is_s {w : qw} {a ci : Nat} (h : q_is w a ci = true) : ∃ fs, w[a]? = some (.inr (ci, fs)) := by
  unfold q_is at h
  split at h
  · rename_i x hx
    obtain ⟨c, fs⟩ := x
    have hc : c = ci := by simpa using h
    subst hc
    exact ⟨fs, hx⟩
  · cases h
def q_gi (w : qw) (a ci k : Nat) : Option Int32 := match w[a]? with
  | some (.inr x) => if x.1 = ci then (match x.2[k]? with | some (.inl v) => some v | _ => none) else none
  | _ => none
theorem q_gi_s {w : qw} {a ci k : Nat} {v : Int32} (h : q_gi w a ci k = some v) : ∃ fs, w[a]? = some (.inr (ci, fs)) ∧ fs[k]? = some (.inl v) := by
  unfold q_gi at h
  split at h
  · rename_i x hx
    obtain ⟨c, fs⟩ := x
    split at h
    · rename_i hc
      split at h
      · rename_i v' hv
        cases h
        cases hc
        exact ⟨fs, hx, hv⟩
      · cases h
    · cases h
  · cases h
def q_gr (w : qw) (a ci k : Nat) : Option Nat := match w[a]? with
  | some (.inr x) => if x.1 = ci then (match x.2[k]? with | some (.inr (some v)) => some v | _ => none) else none
  | _ => none
theorem q_gr_s {w : qw} {a ci k : Nat} {v : Nat} (h : q_gr w a ci k = some v) : ∃ fs, w[a]? = some (.inr (ci, fs)) ∧ fs[k]? = some (.inr (some v)) := by
  unfold q_gr at h
  split at h
  · rename_i x hx
    obtain ⟨c, fs⟩ := x
    split at h
    · rename_i hc
      split at h
      · rename_i v' hv
        cases h
        cases hc
        exact ⟨fs, hx, hv⟩
      · cases h
    · cases h
  · cases h
def q_pf (w : qw) (a ci k : Nat) (v : qv) : Option qw := match w[a]? with
  | some (.inr x) => if x.1 = ci ∧ k < x.2.length then some (w.set a (.inr (x.1, x.2.set k v))) else none
  | _ => none
theorem q_pf_s {w w' : qw} {a ci k : Nat} {v : qv} (h : q_pf w a ci k v = some w') : ∃ fs, w[a]? = some (.inr (ci, fs)) ∧ k < fs.length ∧ w' = w.set a (.inr (ci, fs.set k v)) := by
  unfold q_pf at h
  split at h
  · rename_i x hx
    obtain ⟨c, fs⟩ := x
    split at h
    · rename_i hc
      obtain ⟨h1, h2⟩ := hc
      cases h
      cases h1
      exact ⟨fs, hx, h2, rfl⟩
    · cases h
  · cases h
def q_ld (w : qw) (a t : Nat) (i : Int32) : Option Int32 := match w[a]? with
  | some (.inl x) => if x.1 = t ∧ ¬ (i < 0 ∨ x.2.1 ≤ i.toNatClampNeg) then some (x.2.2 i.toNatClampNeg) else none
  | _ => none
theorem q_ld_s {w : qw} {a t : Nat} {i v : Int32} (h : q_ld w a t i = some v) : ∃ n f, w[a]? = some (.inl (t, n, f)) ∧ vp_in i n ∧ f i.toNatClampNeg = v := by
  unfold q_ld at h
  split at h
  · rename_i x hx
    obtain ⟨c, n, f⟩ := x
    split at h
    · rename_i hc
      obtain ⟨h1, h2⟩ := hc
      cases h
      cases h1
      exact ⟨n, f, hx, h2, rfl⟩
    · cases h
  · cases h
def q_st (w : qw) (a t : Nat) (i v : Int32) : Option qw := match w[a]? with
  | some (.inl x) => if x.1 = t ∧ ¬ (i < 0 ∨ x.2.1 ≤ i.toNatClampNeg) then some (w.set a (.inl (x.1, x.2.1, upd x.2.2 i.toNatClampNeg v))) else none
  | _ => none
theorem q_st_s {w w' : qw} {a t : Nat} {i v : Int32} (h : q_st w a t i v = some w') : ∃ n f, w[a]? = some (.inl (t, n, f)) ∧ vp_in i n ∧ w' = w.set a (.inl (t, n, upd f i.toNatClampNeg v)) := by
  unfold q_st at h
  split at h
  · rename_i x hx
    obtain ⟨c, n, f⟩ := x
    split at h
    · rename_i hc
      obtain ⟨h1, h2⟩ := hc
      cases h
      cases h1
      exact ⟨n, f, hx, h2, rfl⟩
    · cases h
  · cases h
def q_len (w : qw) (a : Nat) : Option Int32 := match w[a]? with
  | some (.inl x) => if x.1 < 3 then some (Int32.ofNat x.2.1) else none
  | _ => none
theorem q_len_s {w : qw} {a : Nat} {v : Int32} (h : q_len w a = some v) : ∃ t n f, w[a]? = some (.inl (t, n, f)) ∧ t < 3 ∧ Int32.ofNat n = v := by
  unfold q_len at h
  split at h
  · rename_i x hx
    obtain ⟨c, n, f⟩ := x
    split at h
    · rename_i hc
      cases h
      exact ⟨c, n, f, hx, hc, rfl⟩
    · cases h
  · cases h
def q_z (x : Int32) : Bool := decide (x = 0) || decide (x = 1)
theorem q_z_s {x : Int32} (h : q_z x = true) : x = 0 ∨ x = 1 := by
  unfold q_z at h
  simpa using h
def q_fu : Nat := 100000
-- the context of a walk
abbrev qX : Type := Program × Launch × Env × Room × State × MethodId × Array Value × List Frame × Method × Code × (State → Prop) × qk_G × (Nat → Prop) × Nat × Nat
def qk_lv (g : qk_G) (lv : List (Nat × qv)) : List (Nat × Value) := lv.map (fun q => (q.1, qk_v g q.2))
def qG (X : qX) (nL pc : Nat) (lv : List (Nat × qv)) (st : List qv) (w : qw) : Prop := match X with
  | (p, l, e, R, s, m, args, below, meth, c, Q, g, A, cells, slots) => ∀ (ls : Array Slot) (H : Heap) (locs : List Loc), lv_has ls nL (qk_lv g lv) → va_P g.1 classes (qk_ws g w) H → va_D A (qk_ws g w) → va_S A s.heap H locs → W p l e R s m args below meth c H locs cells slots Q (F0 m pc ls (st.map (qk_v g)))
def qC (X : qX) (cc : ByteArray) (own : String) (nL fr lo : Nat) : Prop := match X with
  | (p, _, _, R, s, m, args, _, _, c, _, g, A, cells, slots) => p.tables.exec = Jvm.exec ∧ c.code = cc ∧ c.maxLocals = nL ∧ s.vm.findClass own = some m.cls ∧ (∀ w ∈ qk_W, w.before args s = true) ∧ qk_K g s ∧ (∀ q, s.heap.size ≤ q → A q) ∧ (fr ≤ R.frames ∧ lo ≤ R.locals) ∧ cells ≤ R.cells ∧ slots ≤ R.slots
def qRi (X : qX) (cc : ByteArray) (r : Int32) (w : qw) : Prop := match X with
  | (p, l, e, R, s, m, args, below, meth, c, Q, g, A, cells, slots) => ∀ (pc : Nat) (ls : Array Slot) (H : Heap) (locs : List Loc), decode cc pc = .ok (.ireturn, 1) → va_P g.1 classes (qk_ws g w) H → va_D A (qk_ws g w) → va_S A s.heap H locs → W p l e R s m args below meth c H locs cells slots Q (F0 m pc ls [.int r])
def qRz (X : qX) (cc : ByteArray) (r : Int32) (w : qw) : Prop := q_z r = true → qRi X cc r w
def qRv (X : qX) (cc : ByteArray) (w : qw) : Prop := match X with
  | (p, l, e, R, s, m, args, below, meth, c, Q, g, A, cells, slots) => ∀ (pc : Nat) (ls : Array Slot) (H : Heap) (locs : List Loc), decode cc pc = .ok (.return_, 1) → va_P g.1 classes (qk_ws g w) H → va_D A (qk_ws g w) → va_S A s.heap H locs → W p l e R s m args below meth c H locs cells slots Q (F0 m pc ls [])
def qRr (X : qX) (cc : ByteArray) (r : Nat) (w : qw) : Prop := match X with
  | (p, l, e, R, s, m, args, below, meth, c, Q, g, A, cells, slots) => ∀ (pc : Nat) (ls : Array Slot) (H : Heap) (locs : List Loc), decode cc pc = .ok (.areturn, 1) → va_P g.1 classes (qk_ws g w) H → va_D A (qk_ws g w) → va_S A s.heap H locs → W p l e R s m args below meth c H locs cells slots Q (F0 m pc ls [.ref (g.2.2 r)])
theorem qk_lat {g : qk_G} {ls : Array Slot} {nL : Nat} {lv : List (Nat × qv)} {i : Nat} {v : qv} (hl : lv_has ls nL (qk_lv g lv)) (q : Nat) (h : lv[q]? = some (i, v)) : ls[i]? = some (.val (qk_v g v)) := lv_at hl q (by unfold qk_lv; rw [List.getElem?_map, h]; rfl)
theorem qk_lst {g : qk_G} {ls : Array Slot} {nL i : Nat} {v : qv} {lv lv' : List (Nat × qv)} (h : lv_has ls nL ((i, qk_v g v) :: (qk_lv g lv).filter (fun q => !(q.1 == i) && !(q.1 + 1 == i && q.2.category == 2)))) (e : (i, v) :: lv.filter (fun q => !(q.1 == i)) = lv') : lv_has ls nL (qk_lv g lv') := by
  subst e
  refine ⟨h.1, h.2.1, fun q hq => h.2.2 q ?_⟩
  obtain ⟨r, hr, hrq⟩ := List.mem_map.mp hq
  subst hrq
  rcases List.mem_cons.mp hr with hr | hr
  · subst hr
    exact List.mem_cons_self
  · obtain ⟨h1, h2⟩ := List.mem_filter.mp hr
    refine List.mem_cons_of_mem _ (List.mem_filter.mpr ⟨List.mem_map.mpr ⟨r, h1, rfl⟩, ?_⟩)
    have hc := qk_cat g r.2
    simp only [hc]
    simpa using h2
theorem qG_sub {X : qX} {nL pc : Nat} {lv lv' : List (Nat × qv)} {st : List qv} {w : qw} (is : List Nat) (h : is.filterMap (fun i => lv[i]?) = lv') (k : qG X nL pc lv' st w) : qG X nL pc lv st w := by
  obtain ⟨p, l, e, R, s, m, args, below, meth, c, Q, g, A, cells, slots⟩ := X
  intro ls H locs hl hP hD hS
  refine k ls H locs ⟨hl.1, hl.2.1, fun q hq => hl.2.2 q ?_⟩ hP hD hS
  obtain ⟨r, hr, hrq⟩ := List.mem_map.mp hq
  subst hrq
  subst h
  obtain ⟨i, -, hi⟩ := List.mem_filterMap.mp hr
  exact List.mem_map.mpr ⟨r, List.mem_of_getElem? hi, rfl⟩
-- what a row asks of the tables: a field's link, a field that may be written, a call's words
def qF (own : String) (idx ci k : Nat) : Prop := ∃ (C : String) (T : u_T) (N : Nat), classes[ci]? = some (C, T, N) ∧ k < N ∧ (∀ w ∈ u_ws C T N, w ∈ qk_W) ∧ (Cond.fieldLink own idx (T k).1 (T k).2.1 (T k).2.2.1 ∈ qk_W ∨ ∃ host, (own, idx, (T k).1, (T k).2.1, (T k).2.2.1, host) ∈ qk_nf)
def qP (own : String) (idx ci k : Nat) (ty : FieldType) : Prop := ∃ (C : String) (T : u_T) (N : Nat) (ty0 : Nat → FieldType), classes[ci]? = some (C, T, N) ∧ k < N ∧ (∀ w ∈ u_ws C T N, w ∈ qk_W) ∧ (Cond.fieldLink own idx (T k).1 (T k).2.1 (T k).2.2.1 ∈ qk_W ∨ ∃ host, (own, idx, (T k).1, (T k).2.1, (T k).2.2.1, host) ∈ qk_nf) ∧ (∀ k, k < N → parseFieldDescriptor (T k).2.2.1 = some (ty0 k)) ∧ (∀ a, a < N → ∀ b, b < N → a ≠ b → (T a).2.1 ≠ (T b).2.1) ∧ (T k).2.2.2 = false ∧ parseFieldDescriptor (T k).2.2.1 = some ty
def qV (own : String) (idx : Nat) (y : MethodName) (b : ByteArray) (mL : Nat) (ret : Option FieldType) (n ci : Nat) : Prop :=
  (Cond.methodLink own idx y ∈ qk_W ∨ ∃ host, (own, idx, y, host) ∈ qk_nm) ∧ Cond.code y b mL ret ∈ qk_W ∧ Cond.instanceMethod y ∈ qk_W ∧ Cond.selects y.cls y y ∈ qk_W ∧ Cond.initialized y.cls ∈ qk_W ∧ (∃ T N, classes[ci]? = some (y.cls, T, N)) ∧ (y.cls ≠ "java/lang/invoke/MethodHandle" ∧ y.cls ≠ "java/lang/invoke/VarHandle" ∧ (parseMethodDescriptor y.desc).map (fun d => d.parameters.length) = some n)
def qS (own : String) (idx : Nat) (y : MethodName) (b : ByteArray) (mL : Nat) (ret : Option FieldType) (n : Nat) : Prop :=
  (Cond.methodLink own idx y ∈ qk_W ∨ ∃ host, (own, idx, y, host) ∈ qk_nm) ∧ Cond.code y b mL ret ∈ qk_W ∧ Cond.static y ∈ qk_W ∧ Cond.initialized y.cls ∈ qk_W ∧ (y.cls ≠ "java/lang/invoke/MethodHandle" ∧ y.cls ≠ "java/lang/invoke/VarHandle" ∧ (parseMethodDescriptor y.desc).map (fun d => d.parameters.length) = some n)
def qI (own : String) (idx : Nat) (x y : MethodName) (b : ByteArray) (mL : Nat) (ret : Option FieldType) (n ci : Nat) : Prop :=
  Cond.methodLink own idx x ∈ qk_W ∧ Cond.code y b mL ret ∈ qk_W ∧ Cond.instanceMethod y ∈ qk_W ∧ Cond.selects y.cls x y ∈ qk_W ∧ Cond.initialized y.cls ∈ qk_W ∧ (∃ T N, classes[ci]? = some (y.cls, T, N)) ∧ (y.cls, x, y) ∈ qk_fw ∧ (x.cls ≠ "java/lang/invoke/MethodHandle" ∧ x.cls ≠ "java/lang/invoke/VarHandle" ∧ (parseMethodDescriptor x.desc).map (fun d => d.parameters.length) = some n)
theorem qk_gN {w0 : Cond} (h : w0 ∈ qk_W) : GoodIn qk_W (w0 :: qk_W) := fun w hw => by
  rcases List.mem_cons.mp hw with hw | hw
  · subst hw
    exact ⟨h, qk_gd _ h⟩
  · exact ⟨hw, qk_gd _ hw⟩
theorem qk_g4 {a b c d w0 : Cond} (ha : a ∈ qk_W) (hb : b ∈ qk_W) (hc : c ∈ qk_W) (hd : d ∈ qk_W) (h : w0 ∈ qk_W) : GoodIn qk_W (([a, b, c, d] : List Cond) ++ (w0 :: qk_W)) := fun w hw => by
  have h1 : w ∈ qk_W := by
    rcases List.mem_append.mp hw with hw | hw
    · simp only [List.mem_cons, List.not_mem_nil, or_false] at hw
      rcases hw with hw | hw | hw | hw <;> (subst hw; assumption)
    · rcases List.mem_cons.mp hw with hw | hw
      · subst hw
        exact h
      · exact hw
  exact ⟨h1, qk_gd _ h1⟩
section
variable {X : qX} {cc : ByteArray} {own : String} {nL fr lo pc pc' : Nat} {lv lv' : List (Nat × qv)} {st : List qv} {w : qw} {α : Type} {A B : Option α} {res : α}
theorem s_iconst {n : Int} {v : Int32} (hC : qC X cc own nL fr lo) (d : decode cc pc = .ok (.iconst n, 1)) (e : pc + 1 = pc') (hv : Int32.ofInt n = v) (k : qG X nL pc' lv (.inl v :: st) w) : qG X nL pc lv st w := by
  subst e
  obtain ⟨p, l, e, R, s, m, args, below, meth, c, Q, g, A, cells, slots⟩ := X
  obtain ⟨hx, hb, hml, hown, hw, hK, hA, hR, hZ⟩ := hC
  intro ls H locs hl hP hD hS
  exact lv_iconst hx hb d hv (k ls H locs hl hP hD hS)
theorem s_bipush {n : Int} {v : Int32} (hC : qC X cc own nL fr lo) (d : decode cc pc = .ok (.bipush n, 2)) (e : pc + 2 = pc') (hv : (Int8.ofInt n).toInt32 = v) (k : qG X nL pc' lv (.inl v :: st) w) : qG X nL pc lv st w := by
  subst e
  obtain ⟨p, l, e, R, s, m, args, below, meth, c, Q, g, A, cells, slots⟩ := X
  obtain ⟨hx, hb, hml, hown, hw, hK, hA, hR, hZ⟩ := hC
  intro ls H locs hl hP hD hS
  exact lv_bipush hx hb d hv (k ls H locs hl hP hD hS)
theorem s_sipush {n : Int} {v : Int32} (hC : qC X cc own nL fr lo) (d : decode cc pc = .ok (.sipush n, 3)) (e : pc + 3 = pc') (hv : (Int16.ofInt n).toInt32 = v) (k : qG X nL pc' lv (.inl v :: st) w) : qG X nL pc lv st w := by
  subst e
  obtain ⟨p, l, e, R, s, m, args, below, meth, c, Q, g, A, cells, slots⟩ := X
  obtain ⟨hx, hb, hml, hown, hw, hK, hA, hR, hZ⟩ := hC
  intro ls H locs hl hP hD hS
  exact lv_sipush hx hb d hv (k ls H locs hl hP hD hS)
theorem s_ldc {idx : Nat} {v : Int32} (hC : qC X cc own nL fr lo) (d : decode cc pc = .ok (.ldc idx, 2)) (e : pc + 2 = pc') (hv : Cond.constant own idx v ∈ qk_W) (k : qG X nL pc' lv (.inl v :: st) w) : qG X nL pc lv st w := by
  subst e
  obtain ⟨p, l, e, R, s, m, args, below, meth, c, Q, g, A, cells, slots⟩ := X
  obtain ⟨hx, hb, hml, hown, hw, hK, hA, hR, hZ⟩ := hC
  intro ls H locs hl hP hD hS
  exact lv_ldc hx hb hown (hw _ hv) d (k ls H locs hl hP hD hS)
theorem s_ldc_w {idx : Nat} {v : Int32} (hC : qC X cc own nL fr lo) (d : decode cc pc = .ok (.ldc_w idx, 3)) (e : pc + 3 = pc') (hv : Cond.constant own idx v ∈ qk_W) (k : qG X nL pc' lv (.inl v :: st) w) : qG X nL pc lv st w := by
  subst e
  obtain ⟨p, l, e, R, s, m, args, below, meth, c, Q, g, A, cells, slots⟩ := X
  obtain ⟨hx, hb, hml, hown, hw, hK, hA, hR, hZ⟩ := hC
  intro ls H locs hl hP hD hS
  exact lv_ldcw hx hb hown (hw _ hv) d (k ls H locs hl hP hD hS)
theorem s_iload_n {i : Fin 4} {x : Int32} (hC : qC X cc own nL fr lo) (d : decode cc pc = .ok (.iload_n i, 1)) (e : pc + 1 = pc') (q : Nat) (h : lv[q]? = some ((i : Nat), .inl x)) (k : qG X nL pc' lv (.inl x :: st) w) : qG X nL pc lv st w := by
  subst e
  obtain ⟨p, l, e, R, s, m, args, below, meth, c, Q, g, A, cells, slots⟩ := X
  obtain ⟨hx, hb, hml, hown, hw, hK, hA, hR, hZ⟩ := hC
  intro ls H locs hl hP hD hS
  exact lv_iload_n hx hb d rfl (qk_lat hl q h) (k ls H locs hl hP hD hS)
theorem s_iload {i : Nat} {x : Int32} (hC : qC X cc own nL fr lo) (d : decode cc pc = .ok (.iload i, 2)) (e : pc + 2 = pc') (q : Nat) (h : lv[q]? = some (i, .inl x)) (k : qG X nL pc' lv (.inl x :: st) w) : qG X nL pc lv st w := by
  subst e
  obtain ⟨p, l, e, R, s, m, args, below, meth, c, Q, g, A, cells, slots⟩ := X
  obtain ⟨hx, hb, hml, hown, hw, hK, hA, hR, hZ⟩ := hC
  intro ls H locs hl hP hD hS
  exact lv_iload hx hb d (qk_lat hl q h) (k ls H locs hl hP hD hS)
theorem s_aload_n {i : Fin 4} {x : Nat} (hC : qC X cc own nL fr lo) (d : decode cc pc = .ok (.aload_n i, 1)) (e : pc + 1 = pc') (q : Nat) (h : lv[q]? = some ((i : Nat), .inr (some x))) (k : qG X nL pc' lv (.inr (some x) :: st) w) : qG X nL pc lv st w := by
  subst e
  obtain ⟨p, l, e, R, s, m, args, below, meth, c, Q, g, A, cells, slots⟩ := X
  obtain ⟨hx, hb, hml, hown, hw, hK, hA, hR, hZ⟩ := hC
  intro ls H locs hl hP hD hS
  exact lv_aload_n hx hb d rfl (qk_lat hl q h) (k ls H locs hl hP hD hS)
theorem s_aload {i : Nat} {x : Nat} (hC : qC X cc own nL fr lo) (d : decode cc pc = .ok (.aload i, 2)) (e : pc + 2 = pc') (q : Nat) (h : lv[q]? = some (i, .inr (some x))) (k : qG X nL pc' lv (.inr (some x) :: st) w) : qG X nL pc lv st w := by
  subst e
  obtain ⟨p, l, e, R, s, m, args, below, meth, c, Q, g, A, cells, slots⟩ := X
  obtain ⟨hx, hb, hml, hown, hw, hK, hA, hR, hZ⟩ := hC
  intro ls H locs hl hP hD hS
  exact lv_aload hx hb d (qk_lat hl q h) (k ls H locs hl hP hD hS)
theorem s_istore_n {i : Fin 4} {x : Int32} (hC : qC X cc own nL fr lo) (d : decode cc pc = .ok (.istore_n i, 1)) (e : pc + 1 = pc') (hn : (i : Nat) < nL) (h : ((i : Nat), (.inl x : qv)) :: lv.filter (fun q => !(q.1 == (i : Nat))) = lv') (k : qG X nL pc' lv' st w) : qG X nL pc lv (.inl x :: st) w := by
  subst e
  obtain ⟨p, l, e, R, s, m, args, below, meth, c, Q, g, A, cells, slots⟩ := X
  obtain ⟨hx, hb, hml, hown, hw, hK, hA, hR, hZ⟩ := hC
  intro ls H locs hl hP hD hS
  exact lv_istore_n hx hb d rfl hl hn rfl (fun ls hl2 => k ls H locs (qk_lst hl2 h) hP hD hS)
theorem s_istore {i : Nat} {x : Int32} (hC : qC X cc own nL fr lo) (d : decode cc pc = .ok (.istore i, 2)) (e : pc + 2 = pc') (hn : i < nL) (h : (i, (.inl x : qv)) :: lv.filter (fun q => !(q.1 == i)) = lv') (k : qG X nL pc' lv' st w) : qG X nL pc lv (.inl x :: st) w := by
  subst e
  obtain ⟨p, l, e, R, s, m, args, below, meth, c, Q, g, A, cells, slots⟩ := X
  obtain ⟨hx, hb, hml, hown, hw, hK, hA, hR, hZ⟩ := hC
  intro ls H locs hl hP hD hS
  exact lv_istore hx hb d hl hn rfl (fun ls hl2 => k ls H locs (qk_lst hl2 h) hP hD hS)
theorem s_astore_n {i : Fin 4} {x : Nat} (hC : qC X cc own nL fr lo) (d : decode cc pc = .ok (.astore_n i, 1)) (e : pc + 1 = pc') (hn : (i : Nat) < nL) (h : ((i : Nat), (.inr (some x) : qv)) :: lv.filter (fun q => !(q.1 == (i : Nat))) = lv') (k : qG X nL pc' lv' st w) : qG X nL pc lv (.inr (some x) :: st) w := by
  subst e
  obtain ⟨p, l, e, R, s, m, args, below, meth, c, Q, g, A, cells, slots⟩ := X
  obtain ⟨hx, hb, hml, hown, hw, hK, hA, hR, hZ⟩ := hC
  intro ls H locs hl hP hD hS
  exact lv_astore_n hx hb d rfl hl hn rfl (fun ls hl2 => k ls H locs (qk_lst hl2 h) hP hD hS)
theorem s_astore {i : Nat} {x : Nat} (hC : qC X cc own nL fr lo) (d : decode cc pc = .ok (.astore i, 2)) (e : pc + 2 = pc') (hn : i < nL) (h : (i, (.inr (some x) : qv)) :: lv.filter (fun q => !(q.1 == i)) = lv') (k : qG X nL pc' lv' st w) : qG X nL pc lv (.inr (some x) :: st) w := by
  subst e
  obtain ⟨p, l, e, R, s, m, args, below, meth, c, Q, g, A, cells, slots⟩ := X
  obtain ⟨hx, hb, hml, hown, hw, hK, hA, hR, hZ⟩ := hC
  intro ls H locs hl hP hD hS
  exact lv_astore hx hb d hl hn rfl (fun ls hl2 => k ls H locs (qk_lst hl2 h) hP hD hS)
theorem s_iinc {i : Nat} {n : Int} {x n' : Int32} (hC : qC X cc own nL fr lo) (d : decode cc pc = .ok (.iinc i n, 3)) (e : pc + 3 = pc') (q : Nat) (hq : lv[q]? = some (i, .inl x)) (hv : Int32.ofInt n = n') (hn : i < nL) (h : (i, (.inl (x + n') : qv)) :: lv.filter (fun q => !(q.1 == i)) = lv') (k : qG X nL pc' lv' st w) : qG X nL pc lv st w := by
  subst e
  obtain ⟨p, l, e, R, s, m, args, below, meth, c, Q, g, A, cells, slots⟩ := X
  obtain ⟨hx, hb, hml, hown, hw, hK, hA, hR, hZ⟩ := hC
  intro ls H locs hl hP hD hS
  exact lv_iinc (k := q) hx hb d hl (by unfold qk_lv; rw [List.getElem?_map, hq]; rfl) (by rw [hv]) hn rfl (fun ls hl2 => k ls H locs (qk_lst hl2 h) hP hD hS)
theorem s_iadd {x y : Int32} (hC : qC X cc own nL fr lo) (d : decode cc pc = .ok (.iadd, 1)) (e : pc + 1 = pc') (k : qG X nL pc' lv (.inl (x + y) :: st) w) : qG X nL pc lv (.inl y :: .inl x :: st) w := by
  subst e
  obtain ⟨p, l, e, R, s, m, args, below, meth, c, Q, g, A, cells, slots⟩ := X
  obtain ⟨hx, hb, hml, hown, hw, hK, hA, hR, hZ⟩ := hC
  intro ls H locs hl hP hD hS
  exact lv_iadd hx hb d (k ls H locs hl hP hD hS)
theorem s_isub {x y : Int32} (hC : qC X cc own nL fr lo) (d : decode cc pc = .ok (.isub, 1)) (e : pc + 1 = pc') (k : qG X nL pc' lv (.inl (x - y) :: st) w) : qG X nL pc lv (.inl y :: .inl x :: st) w := by
  subst e
  obtain ⟨p, l, e, R, s, m, args, below, meth, c, Q, g, A, cells, slots⟩ := X
  obtain ⟨hx, hb, hml, hown, hw, hK, hA, hR, hZ⟩ := hC
  intro ls H locs hl hP hD hS
  exact lv_isub hx hb d (k ls H locs hl hP hD hS)
theorem s_imul {x y : Int32} (hC : qC X cc own nL fr lo) (d : decode cc pc = .ok (.imul, 1)) (e : pc + 1 = pc') (k : qG X nL pc' lv (.inl (x * y) :: st) w) : qG X nL pc lv (.inl y :: .inl x :: st) w := by
  subst e
  obtain ⟨p, l, e, R, s, m, args, below, meth, c, Q, g, A, cells, slots⟩ := X
  obtain ⟨hx, hb, hml, hown, hw, hK, hA, hR, hZ⟩ := hC
  intro ls H locs hl hP hD hS
  exact lv_imul hx hb d (k ls H locs hl hP hD hS)
theorem s_iand {x y : Int32} (hC : qC X cc own nL fr lo) (d : decode cc pc = .ok (.iand, 1)) (e : pc + 1 = pc') (k : qG X nL pc' lv (.inl (x &&& y) :: st) w) : qG X nL pc lv (.inl y :: .inl x :: st) w := by
  subst e
  obtain ⟨p, l, e, R, s, m, args, below, meth, c, Q, g, A, cells, slots⟩ := X
  obtain ⟨hx, hb, hml, hown, hw, hK, hA, hR, hZ⟩ := hC
  intro ls H locs hl hP hD hS
  exact lv_iand hx hb d (k ls H locs hl hP hD hS)
theorem s_ior {x y : Int32} (hC : qC X cc own nL fr lo) (d : decode cc pc = .ok (.ior, 1)) (e : pc + 1 = pc') (k : qG X nL pc' lv (.inl (x ||| y) :: st) w) : qG X nL pc lv (.inl y :: .inl x :: st) w := by
  subst e
  obtain ⟨p, l, e, R, s, m, args, below, meth, c, Q, g, A, cells, slots⟩ := X
  obtain ⟨hx, hb, hml, hown, hw, hK, hA, hR, hZ⟩ := hC
  intro ls H locs hl hP hD hS
  exact lv_ior hx hb d (k ls H locs hl hP hD hS)
theorem s_ixor {x y : Int32} (hC : qC X cc own nL fr lo) (d : decode cc pc = .ok (.ixor, 1)) (e : pc + 1 = pc') (k : qG X nL pc' lv (.inl (x ^^^ y) :: st) w) : qG X nL pc lv (.inl y :: .inl x :: st) w := by
  subst e
  obtain ⟨p, l, e, R, s, m, args, below, meth, c, Q, g, A, cells, slots⟩ := X
  obtain ⟨hx, hb, hml, hown, hw, hK, hA, hR, hZ⟩ := hC
  intro ls H locs hl hP hD hS
  exact lv_ixor hx hb d (k ls H locs hl hP hD hS)
theorem s_ishl {x y : Int32} (hC : qC X cc own nL fr lo) (d : decode cc pc = .ok (.ishl, 1)) (e : pc + 1 = pc') (k : qG X nL pc' lv (.inl (x <<< (y &&& 31)) :: st) w) : qG X nL pc lv (.inl y :: .inl x :: st) w := by
  subst e
  obtain ⟨p, l, e, R, s, m, args, below, meth, c, Q, g, A, cells, slots⟩ := X
  obtain ⟨hx, hb, hml, hown, hw, hK, hA, hR, hZ⟩ := hC
  intro ls H locs hl hP hD hS
  exact lv_ishl hx hb d (k ls H locs hl hP hD hS)
theorem s_ishr {x y : Int32} (hC : qC X cc own nL fr lo) (d : decode cc pc = .ok (.ishr, 1)) (e : pc + 1 = pc') (k : qG X nL pc' lv (.inl (x >>> (y &&& 31)) :: st) w) : qG X nL pc lv (.inl y :: .inl x :: st) w := by
  subst e
  obtain ⟨p, l, e, R, s, m, args, below, meth, c, Q, g, A, cells, slots⟩ := X
  obtain ⟨hx, hb, hml, hown, hw, hK, hA, hR, hZ⟩ := hC
  intro ls H locs hl hP hD hS
  exact lv_ishr hx hb d (k ls H locs hl hP hD hS)
theorem s_iushr {x y : Int32} (hC : qC X cc own nL fr lo) (d : decode cc pc = .ok (.iushr, 1)) (e : pc + 1 = pc') (k : qG X nL pc' lv (.inl (x.toUInt32 >>> (y.toUInt32 &&& Int32.toUInt32 31)).toInt32 :: st) w) : qG X nL pc lv (.inl y :: .inl x :: st) w := by
  subst e
  obtain ⟨p, l, e, R, s, m, args, below, meth, c, Q, g, A, cells, slots⟩ := X
  obtain ⟨hx, hb, hml, hown, hw, hK, hA, hR, hZ⟩ := hC
  intro ls H locs hl hP hD hS
  exact lv_iushr hx hb d rfl (k ls H locs hl hP hD hS)
theorem s_idiv {x y : Int32} (hC : qC X cc own nL fr lo) (d : decode cc pc = .ok (.idiv, 1)) (e : pc + 1 = pc') (hne : ¬ y = 0) (k : qG X nL pc' lv (.inl (x / y) :: st) w) : qG X nL pc lv (.inl y :: .inl x :: st) w := by
  subst e
  obtain ⟨p, l, e, R, s, m, args, below, meth, c, Q, g, A, cells, slots⟩ := X
  obtain ⟨hx, hb, hml, hown, hw, hK, hA, hR, hZ⟩ := hC
  intro ls H locs hl hP hD hS
  exact lv_idiv hx hb d hne (k ls H locs hl hP hD hS)
theorem s_irem {x y : Int32} (hC : qC X cc own nL fr lo) (d : decode cc pc = .ok (.irem, 1)) (e : pc + 1 = pc') (hne : ¬ y = 0) (k : qG X nL pc' lv (.inl (x - x / y * y) :: st) w) : qG X nL pc lv (.inl y :: .inl x :: st) w := by
  subst e
  obtain ⟨p, l, e, R, s, m, args, below, meth, c, Q, g, A, cells, slots⟩ := X
  obtain ⟨hx, hb, hml, hown, hw, hK, hA, hR, hZ⟩ := hC
  intro ls H locs hl hP hD hS
  exact lv_irem hx hb d hne (k ls H locs hl hP hD hS)
theorem s_ineg {x : Int32} (hC : qC X cc own nL fr lo) (d : decode cc pc = .ok (.ineg, 1)) (e : pc + 1 = pc') (k : qG X nL pc' lv (.inl (-x) :: st) w) : qG X nL pc lv (.inl x :: st) w := by
  subst e
  obtain ⟨p, l, e, R, s, m, args, below, meth, c, Q, g, A, cells, slots⟩ := X
  obtain ⟨hx, hb, hml, hown, hw, hK, hA, hR, hZ⟩ := hC
  intro ls H locs hl hP hD hS
  exact lv_ineg hx hb d (k ls H locs hl hP hD hS)
theorem s_i2c {x : Int32} (hC : qC X cc own nL fr lo) (d : decode cc pc = .ok (.i2c, 1)) (e : pc + 1 = pc') (k : qG X nL pc' lv (.inl (x.toUInt32 % 65536).toInt32 :: st) w) : qG X nL pc lv (.inl x :: st) w := by
  subst e
  obtain ⟨p, l, e, R, s, m, args, below, meth, c, Q, g, A, cells, slots⟩ := X
  obtain ⟨hx, hb, hml, hown, hw, hK, hA, hR, hZ⟩ := hC
  intro ls H locs hl hP hD hS
  exact lv_i2c hx hb d rfl (k ls H locs hl hP hD hS)
theorem s_dup {a : qv} (hC : qC X cc own nL fr lo) (d : decode cc pc = .ok (.dup, 1)) (e : pc + 1 = pc') (k : qG X nL pc' lv (a :: a :: st) w) : qG X nL pc lv (a :: st) w := by
  subst e
  obtain ⟨p, l, e, R, s, m, args, below, meth, c, Q, g, A, cells, slots⟩ := X
  obtain ⟨hx, hb, hml, hown, hw, hK, hA, hR, hZ⟩ := hC
  intro ls H locs hl hP hD hS
  exact lv_dup hx hb d (qk_cat g a) (k ls H locs hl hP hD hS)
theorem s_pop {a : qv} (hC : qC X cc own nL fr lo) (d : decode cc pc = .ok (.pop, 1)) (e : pc + 1 = pc') (k : qG X nL pc' lv st w) : qG X nL pc lv (a :: st) w := by
  subst e
  obtain ⟨p, l, e, R, s, m, args, below, meth, c, Q, g, A, cells, slots⟩ := X
  obtain ⟨hx, hb, hml, hown, hw, hK, hA, hR, hZ⟩ := hC
  intro ls H locs hl hP hD hS
  exact lv_pop hx hb d (qk_cat g a) (k ls H locs hl hP hD hS)
theorem s_dup_x1 {a b : qv} (hC : qC X cc own nL fr lo) (d : decode cc pc = .ok (.dup_x1, 1)) (e : pc + 1 = pc') (k : qG X nL pc' lv (a :: b :: a :: st) w) : qG X nL pc lv (a :: b :: st) w := by
  subst e
  obtain ⟨p, l, e, R, s, m, args, below, meth, c, Q, g, A, cells, slots⟩ := X
  obtain ⟨hx, hb, hml, hown, hw, hK, hA, hR, hZ⟩ := hC
  intro ls H locs hl hP hD hS
  exact lv_dup_x1 hx hb d (qk_cat g a) (qk_cat g b) (k ls H locs hl hP hD hS)
theorem s_dup_x2 {a b c : qv} (hC : qC X cc own nL fr lo) (d : decode cc pc = .ok (.dup_x2, 1)) (e : pc + 1 = pc') (k : qG X nL pc' lv (a :: b :: c :: a :: st) w) : qG X nL pc lv (a :: b :: c :: st) w := by
  subst e
  obtain ⟨p, l, e, R, s, m, args, below, meth, c, Q, g, A, cells, slots⟩ := X
  obtain ⟨hx, hb, hml, hown, hw, hK, hA, hR, hZ⟩ := hC
  intro ls H locs hl hP hD hS
  exact lv_dup_x2 hx hb d (qk_cat g a) (qk_cat g b) (qk_cat g _) (k ls H locs hl hP hD hS)
theorem s_dup2 {a b : qv} (hC : qC X cc own nL fr lo) (d : decode cc pc = .ok (.dup2, 1)) (e : pc + 1 = pc') (k : qG X nL pc' lv (a :: b :: a :: b :: st) w) : qG X nL pc lv (a :: b :: st) w := by
  subst e
  obtain ⟨p, l, e, R, s, m, args, below, meth, c, Q, g, A, cells, slots⟩ := X
  obtain ⟨hx, hb, hml, hown, hw, hK, hA, hR, hZ⟩ := hC
  intro ls H locs hl hP hD hS
  exact lv_dup2_11 hx hb d (qk_cat g a) (qk_cat g b) (k ls H locs hl hP hD hS)
theorem s_goto {off : Int} {tgt : Nat} (hC : qC X cc own nL fr lo) (d : decode cc pc = .ok (.goto off, 3)) (ht : (pc : Int) + off = (tgt : Int)) (k : qG X nL tgt lv st w) : qG X nL pc lv st w := by
  obtain ⟨p, l, e, R, s, m, args, below, meth, c, Q, g, A, cells, slots⟩ := X
  obtain ⟨hx, hb, hml, hown, hw, hK, hA, hR, hZ⟩ := hC
  intro ls H locs hl hP hD hS
  exact lv_goto hx hb d ht (k ls H locs hl hP hD hS)
theorem s_icmp_eq {x y : Int32} {off : Int} {tgt : Nat} (hC : qC X cc own nL fr lo) (d : decode cc pc = .ok (.if_icmp .eq off, 3)) (ht : (pc : Int) + off = (tgt : Int)) (e : pc + 3 = pc') (hF : (if x = y then A else B) = some res) (kt : A = some res → qG X nL tgt lv st w) (kf : B = some res → qG X nL pc' lv st w) : qG X nL pc lv (.inl y :: .inl x :: st) w := by
  subst e
  obtain ⟨p, l, e, R, s, m, args, below, meth, c, Q, g, A, cells, slots⟩ := X
  obtain ⟨hx, hb, hml, hown, hw, hK, hA, hR, hZ⟩ := hC
  intro ls H locs hl hP hD hS
  exact lv_icmp_eq hx hb d ht (fun h => kt (by rw [if_pos h] at hF; exact hF) ls H locs hl hP hD hS) (fun h => kf (by rw [if_neg h] at hF; exact hF) ls H locs hl hP hD hS)
theorem s_if_eq {x : Int32} {off : Int} {tgt : Nat} (hC : qC X cc own nL fr lo) (d : decode cc pc = .ok (.ifCond .eq off, 3)) (ht : (pc : Int) + off = (tgt : Int)) (e : pc + 3 = pc') (hF : (if x = 0 then A else B) = some res) (kt : A = some res → qG X nL tgt lv st w) (kf : B = some res → qG X nL pc' lv st w) : qG X nL pc lv (.inl x :: st) w := by
  subst e
  obtain ⟨p, l, e, R, s, m, args, below, meth, c, Q, g, A, cells, slots⟩ := X
  obtain ⟨hx, hb, hml, hown, hw, hK, hA, hR, hZ⟩ := hC
  intro ls H locs hl hP hD hS
  exact lv_if_eq hx hb d ht (fun h => kt (by rw [if_pos h] at hF; exact hF) ls H locs hl hP hD hS) (fun h => kf (by rw [if_neg h] at hF; exact hF) ls H locs hl hP hD hS)
theorem s_icmp_ne {x y : Int32} {off : Int} {tgt : Nat} (hC : qC X cc own nL fr lo) (d : decode cc pc = .ok (.if_icmp .ne off, 3)) (ht : (pc : Int) + off = (tgt : Int)) (e : pc + 3 = pc') (hF : (if x = y then A else B) = some res) (kt : B = some res → qG X nL tgt lv st w) (kf : A = some res → qG X nL pc' lv st w) : qG X nL pc lv (.inl y :: .inl x :: st) w := by
  subst e
  obtain ⟨p, l, e, R, s, m, args, below, meth, c, Q, g, A, cells, slots⟩ := X
  obtain ⟨hx, hb, hml, hown, hw, hK, hA, hR, hZ⟩ := hC
  intro ls H locs hl hP hD hS
  exact lv_icmp_ne hx hb d ht (fun h => kt (by rw [if_neg h] at hF; exact hF) ls H locs hl hP hD hS) (fun h => kf (by rw [if_pos h] at hF; exact hF) ls H locs hl hP hD hS)
theorem s_if_ne {x : Int32} {off : Int} {tgt : Nat} (hC : qC X cc own nL fr lo) (d : decode cc pc = .ok (.ifCond .ne off, 3)) (ht : (pc : Int) + off = (tgt : Int)) (e : pc + 3 = pc') (hF : (if x = 0 then A else B) = some res) (kt : B = some res → qG X nL tgt lv st w) (kf : A = some res → qG X nL pc' lv st w) : qG X nL pc lv (.inl x :: st) w := by
  subst e
  obtain ⟨p, l, e, R, s, m, args, below, meth, c, Q, g, A, cells, slots⟩ := X
  obtain ⟨hx, hb, hml, hown, hw, hK, hA, hR, hZ⟩ := hC
  intro ls H locs hl hP hD hS
  exact lv_if_ne hx hb d ht (fun h => kt (by rw [if_neg h] at hF; exact hF) ls H locs hl hP hD hS) (fun h => kf (by rw [if_pos h] at hF; exact hF) ls H locs hl hP hD hS)
theorem s_icmp_lt {x y : Int32} {off : Int} {tgt : Nat} (hC : qC X cc own nL fr lo) (d : decode cc pc = .ok (.if_icmp .lt off, 3)) (ht : (pc : Int) + off = (tgt : Int)) (e : pc + 3 = pc') (hF : (if x < y then A else B) = some res) (kt : A = some res → qG X nL tgt lv st w) (kf : B = some res → qG X nL pc' lv st w) : qG X nL pc lv (.inl y :: .inl x :: st) w := by
  subst e
  obtain ⟨p, l, e, R, s, m, args, below, meth, c, Q, g, A, cells, slots⟩ := X
  obtain ⟨hx, hb, hml, hown, hw, hK, hA, hR, hZ⟩ := hC
  intro ls H locs hl hP hD hS
  exact lv_icmp_lt hx hb d ht (fun h => kt (by rw [if_pos h] at hF; exact hF) ls H locs hl hP hD hS) (fun h => kf (by rw [if_neg h] at hF; exact hF) ls H locs hl hP hD hS)
theorem s_if_lt {x : Int32} {off : Int} {tgt : Nat} (hC : qC X cc own nL fr lo) (d : decode cc pc = .ok (.ifCond .lt off, 3)) (ht : (pc : Int) + off = (tgt : Int)) (e : pc + 3 = pc') (hF : (if x < 0 then A else B) = some res) (kt : A = some res → qG X nL tgt lv st w) (kf : B = some res → qG X nL pc' lv st w) : qG X nL pc lv (.inl x :: st) w := by
  subst e
  obtain ⟨p, l, e, R, s, m, args, below, meth, c, Q, g, A, cells, slots⟩ := X
  obtain ⟨hx, hb, hml, hown, hw, hK, hA, hR, hZ⟩ := hC
  intro ls H locs hl hP hD hS
  exact lv_if_lt hx hb d ht (fun h => kt (by rw [if_pos h] at hF; exact hF) ls H locs hl hP hD hS) (fun h => kf (by rw [if_neg h] at hF; exact hF) ls H locs hl hP hD hS)
theorem s_icmp_ge {x y : Int32} {off : Int} {tgt : Nat} (hC : qC X cc own nL fr lo) (d : decode cc pc = .ok (.if_icmp .ge off, 3)) (ht : (pc : Int) + off = (tgt : Int)) (e : pc + 3 = pc') (hF : (if y ≤ x then A else B) = some res) (kt : A = some res → qG X nL tgt lv st w) (kf : B = some res → qG X nL pc' lv st w) : qG X nL pc lv (.inl y :: .inl x :: st) w := by
  subst e
  obtain ⟨p, l, e, R, s, m, args, below, meth, c, Q, g, A, cells, slots⟩ := X
  obtain ⟨hx, hb, hml, hown, hw, hK, hA, hR, hZ⟩ := hC
  intro ls H locs hl hP hD hS
  exact lv_icmp_ge hx hb d ht (fun h => kt (by rw [if_pos h] at hF; exact hF) ls H locs hl hP hD hS) (fun h => kf (by rw [if_neg h] at hF; exact hF) ls H locs hl hP hD hS)
theorem s_if_ge {x : Int32} {off : Int} {tgt : Nat} (hC : qC X cc own nL fr lo) (d : decode cc pc = .ok (.ifCond .ge off, 3)) (ht : (pc : Int) + off = (tgt : Int)) (e : pc + 3 = pc') (hF : (if 0 ≤ x then A else B) = some res) (kt : A = some res → qG X nL tgt lv st w) (kf : B = some res → qG X nL pc' lv st w) : qG X nL pc lv (.inl x :: st) w := by
  subst e
  obtain ⟨p, l, e, R, s, m, args, below, meth, c, Q, g, A, cells, slots⟩ := X
  obtain ⟨hx, hb, hml, hown, hw, hK, hA, hR, hZ⟩ := hC
  intro ls H locs hl hP hD hS
  exact lv_if_ge hx hb d ht (fun h => kt (by rw [if_pos h] at hF; exact hF) ls H locs hl hP hD hS) (fun h => kf (by rw [if_neg h] at hF; exact hF) ls H locs hl hP hD hS)
theorem s_icmp_gt {x y : Int32} {off : Int} {tgt : Nat} (hC : qC X cc own nL fr lo) (d : decode cc pc = .ok (.if_icmp .gt off, 3)) (ht : (pc : Int) + off = (tgt : Int)) (e : pc + 3 = pc') (hF : (if y < x then A else B) = some res) (kt : A = some res → qG X nL tgt lv st w) (kf : B = some res → qG X nL pc' lv st w) : qG X nL pc lv (.inl y :: .inl x :: st) w := by
  subst e
  obtain ⟨p, l, e, R, s, m, args, below, meth, c, Q, g, A, cells, slots⟩ := X
  obtain ⟨hx, hb, hml, hown, hw, hK, hA, hR, hZ⟩ := hC
  intro ls H locs hl hP hD hS
  exact lv_icmp_gt hx hb d ht (fun h => kt (by rw [if_pos h] at hF; exact hF) ls H locs hl hP hD hS) (fun h => kf (by rw [if_neg h] at hF; exact hF) ls H locs hl hP hD hS)
theorem s_if_gt {x : Int32} {off : Int} {tgt : Nat} (hC : qC X cc own nL fr lo) (d : decode cc pc = .ok (.ifCond .gt off, 3)) (ht : (pc : Int) + off = (tgt : Int)) (e : pc + 3 = pc') (hF : (if 0 < x then A else B) = some res) (kt : A = some res → qG X nL tgt lv st w) (kf : B = some res → qG X nL pc' lv st w) : qG X nL pc lv (.inl x :: st) w := by
  subst e
  obtain ⟨p, l, e, R, s, m, args, below, meth, c, Q, g, A, cells, slots⟩ := X
  obtain ⟨hx, hb, hml, hown, hw, hK, hA, hR, hZ⟩ := hC
  intro ls H locs hl hP hD hS
  exact lv_if_gt hx hb d ht (fun h => kt (by rw [if_pos h] at hF; exact hF) ls H locs hl hP hD hS) (fun h => kf (by rw [if_neg h] at hF; exact hF) ls H locs hl hP hD hS)
theorem s_icmp_le {x y : Int32} {off : Int} {tgt : Nat} (hC : qC X cc own nL fr lo) (d : decode cc pc = .ok (.if_icmp .le off, 3)) (ht : (pc : Int) + off = (tgt : Int)) (e : pc + 3 = pc') (hF : (if x ≤ y then A else B) = some res) (kt : A = some res → qG X nL tgt lv st w) (kf : B = some res → qG X nL pc' lv st w) : qG X nL pc lv (.inl y :: .inl x :: st) w := by
  subst e
  obtain ⟨p, l, e, R, s, m, args, below, meth, c, Q, g, A, cells, slots⟩ := X
  obtain ⟨hx, hb, hml, hown, hw, hK, hA, hR, hZ⟩ := hC
  intro ls H locs hl hP hD hS
  exact lv_icmp_le hx hb d ht (fun h => kt (by rw [if_pos h] at hF; exact hF) ls H locs hl hP hD hS) (fun h => kf (by rw [if_neg h] at hF; exact hF) ls H locs hl hP hD hS)
theorem s_if_le {x : Int32} {off : Int} {tgt : Nat} (hC : qC X cc own nL fr lo) (d : decode cc pc = .ok (.ifCond .le off, 3)) (ht : (pc : Int) + off = (tgt : Int)) (e : pc + 3 = pc') (hF : (if x ≤ 0 then A else B) = some res) (kt : A = some res → qG X nL tgt lv st w) (kf : B = some res → qG X nL pc' lv st w) : qG X nL pc lv (.inl x :: st) w := by
  subst e
  obtain ⟨p, l, e, R, s, m, args, below, meth, c, Q, g, A, cells, slots⟩ := X
  obtain ⟨hx, hb, hml, hown, hw, hK, hA, hR, hZ⟩ := hC
  intro ls H locs hl hP hD hS
  exact lv_if_le hx hb d ht (fun h => kt (by rw [if_pos h] at hF; exact hF) ls H locs hl hP hD hS) (fun h => kf (by rw [if_neg h] at hF; exact hF) ls H locs hl hP hD hS)
theorem s_look {x k : Int32} {dflt off : Int} {ps : Array (Int × Int)} {len tgt : Nat} (hC : qC X cc own nL fr lo) (d : decode cc pc = .ok (.lookupswitch dflt ps, len)) (hxk : x = k) (hp : (ps.toList.zip (ps.toList.drop 1)).all (fun (a, next) => a.1 < next.1) = true) (ho : Op.lookupswitch.offset ps.toList dflt k.toInt = off) (ht : (pc : Int) + off = (tgt : Int)) (k : qG X nL tgt lv st w) : qG X nL pc lv (.inl x :: st) w := by
  subst hxk
  obtain ⟨p, l, e, R, s, m, args, below, meth, c, Q, g, A, cells, slots⟩ := X
  obtain ⟨hx, hb, hml, hown, hw, hK, hA, hR, hZ⟩ := hC
  intro ls H locs hl hP hD hS
  exact lv_lookup hx hb d hp ho ht (k ls H locs hl hP hD hS)
theorem s_lookd {x : Int32} {dflt : Int} {ps : Array (Int × Int)} {len tgt : Nat} (hC : qC X cc own nL fr lo) (d : decode cc pc = .ok (.lookupswitch dflt ps, len)) (hp : (ps.toList.zip (ps.toList.drop 1)).all (fun (a, next) => a.1 < next.1) = true) (ho : Op.lookupswitch.offset ps.toList dflt x.toInt = dflt) (ht : (pc : Int) + dflt = (tgt : Int)) (k : qG X nL tgt lv st w) : qG X nL pc lv (.inl x :: st) w := by
  obtain ⟨p, l, e, R, s, m, args, below, meth, c, Q, g, A, cells, slots⟩ := X
  obtain ⟨hx, hb, hml, hown, hw, hK, hA, hR, hZ⟩ := hC
  intro ls H locs hl hP hD hS
  exact lv_lookup hx hb d hp ho ht (k ls H locs hl hP hD hS)
theorem s_tab {x k : Int32} {dflt lo' hi off : Int} {offs : Array Int} {len tgt : Nat} (hC : qC X cc own nL fr lo) (d : decode cc pc = .ok (.tableswitch dflt lo' hi offs, len)) (hxk : x = k) (h1 : ¬ k.toInt < lo') (h2 : ¬ hi < k.toInt) (ho : offs[(k.toInt - lo').toNat]? = some off) (ht : (pc : Int) + off = (tgt : Int)) (k : qG X nL tgt lv st w) : qG X nL pc lv (.inl x :: st) w := by
  subst hxk
  obtain ⟨p, l, e, R, s, m, args, below, meth, c, Q, g, A, cells, slots⟩ := X
  obtain ⟨hx, hb, hml, hown, hw, hK, hA, hR, hZ⟩ := hC
  intro ls H locs hl hP hD hS
  exact lv_tableIn hx hb d h1 h2 ho ht (k ls H locs hl hP hD hS)
theorem s_tabd {x : Int32} {dflt lo' hi : Int} {offs : Array Int} {len tgt : Nat} (hC : qC X cc own nL fr lo) (d : decode cc pc = .ok (.tableswitch dflt lo' hi offs, len)) (h : x.toInt < lo' ∨ hi < x.toInt) (ht : (pc : Int) + dflt = (tgt : Int)) (k : qG X nL tgt lv st w) : qG X nL pc lv (.inl x :: st) w := by
  obtain ⟨p, l, e, R, s, m, args, below, meth, c, Q, g, A, cells, slots⟩ := X
  obtain ⟨hx, hb, hml, hown, hw, hK, hA, hR, hZ⟩ := hC
  intro ls H locs hl hP hD hS
  exact lv_tableOut hx hb d h ht (k ls H locs hl hP hD hS)
theorem q_tabo {x : Int32} (lo' hi : Int) (h : ∀ z : Int, lo' ≤ z → z ≤ hi → ¬ x = Int32.ofInt z) : x.toInt < lo' ∨ hi < x.toInt := by
  by_cases h1 : x.toInt < lo'
  · exact Or.inl h1
  · by_cases h2 : hi < x.toInt
    · exact Or.inr h2
    · exact absurd (Int32.ofInt_toInt x).symm (h x.toInt (by omega) (by omega))
theorem s_geti {a idx ci i : Nat} {f : Int32 → Option α} (hC : qC X cc own nL fr lo) (hf : qF own idx ci i) (d : decode cc pc = .ok (.getfield idx, 3)) (e : pc + 3 = pc') (hF : q_b1 (q_gi w a ci i) f = some res) (k : ∀ v, f v = some res → qG X nL pc' lv (.inl v :: st) w) : qG X nL pc lv (.inr (some a) :: st) w := by
  subst e
  obtain ⟨v, h1, h2⟩ := q_b1_s hF
  obtain ⟨fs, h3, h4⟩ := q_gi_s h1
  obtain ⟨C, T, N, hc, hk, hin, hlk⟩ := hf
  obtain ⟨p, l, e, R, s, m, args, below, meth, c, Q, g, A, cells, slots⟩ := X
  obtain ⟨hx, hb, hml, hown, hw, hK, hA, hR, hZ⟩ := hC
  intro ls H locs hl hP hD hS
  have he := qk_wk (g := g) h3
  have hv : (fs.map (qk_v g))[i]? = some (qk_v g (.inl v)) := by rw [List.getElem?_map, h4]; rfl
  rcases hlk with hlk | ⟨host, hlk⟩
  · exact va_get hx hb hw hin hown hK.1 hP a he hc i hk (hw _ hlk) (fun _ h9 => h9) hv d (k v h2 ls H locs hl hP hD hS)
  · exact va_getN hx hb hw hin hown hK.1 hP a he hc i hk (va_Nw.use rfl (hK.2.1 _ hlk)) (fun _ h9 => h9) hv d (k v h2 ls H locs hl hP hD hS)
theorem s_getr {a idx ci i : Nat} {f : Nat → Option α} (hC : qC X cc own nL fr lo) (hf : qF own idx ci i) (d : decode cc pc = .ok (.getfield idx, 3)) (e : pc + 3 = pc') (hF : q_b1 (q_gr w a ci i) f = some res) (k : ∀ v, f v = some res → qG X nL pc' lv (.inr (some v) :: st) w) : qG X nL pc lv (.inr (some a) :: st) w := by
  subst e
  obtain ⟨v, h1, h2⟩ := q_b1_s hF
  obtain ⟨fs, h3, h4⟩ := q_gr_s h1
  obtain ⟨C, T, N, hc, hk, hin, hlk⟩ := hf
  obtain ⟨p, l, e, R, s, m, args, below, meth, c, Q, g, A, cells, slots⟩ := X
  obtain ⟨hx, hb, hml, hown, hw, hK, hA, hR, hZ⟩ := hC
  intro ls H locs hl hP hD hS
  have he := qk_wk (g := g) h3
  have hv : (fs.map (qk_v g))[i]? = some (qk_v g (.inr (some v))) := by rw [List.getElem?_map, h4]; rfl
  rcases hlk with hlk | ⟨host, hlk⟩
  · exact va_get hx hb hw hin hown hK.1 hP a he hc i hk (hw _ hlk) (fun _ h9 => h9) hv d (k v h2 ls H locs hl hP hD hS)
  · exact va_getN hx hb hw hin hown hK.1 hP a he hc i hk (va_Nw.use rfl (hK.2.1 _ hlk)) (fun _ h9 => h9) hv d (k v h2 ls H locs hl hP hD hS)
theorem s_put0 {a idx ci i : Nat} {v : qv} {ty : FieldType} {f : qw → Option α} (hC : qC X cc own nL fr lo) (hf : qP own idx ci i ty) (hn : ∀ g, narrow ty (qk_v g v) = qk_v g v ∧ fits ty (qk_v g v) = true) (d : decode cc pc = .ok (.putfield idx, 3)) (e : pc + 3 = pc') (hF : q_b1 (q_pf w a ci i v) f = some res) (k : ∀ w, f w = some res → qG X nL pc' lv st w) : qG X nL pc lv (v :: .inr (some a) :: st) w := by
  subst e
  obtain ⟨w1, h1, h2⟩ := q_b1_s hF
  obtain ⟨fs, h3, h4, h5⟩ := q_pf_s h1
  obtain ⟨C, T, N, ty0, hc, hk, hin, hlk, hty, hnm, hfin, hd⟩ := hf
  obtain ⟨p, l, e, R, s, m, args, below, meth, c, Q, g, A, cells, slots⟩ := X
  obtain ⟨hx, hb, hml, hown, hw, hK, hA, hR, hZ⟩ := hC
  intro ls H locs hl hP hD hS
  have he := qk_wk (g := g) h3
  have hs : qk_ws g w1 = (qk_ws g w).set a (g.2.2 a, .inr (ci, (fs.map (qk_v g)).set i (qk_v g v))) := by rw [h5, qk_wset, ← List.map_set]; rfl
  have kk : ∀ (H1 : Heap) (locs1 : List Loc), va_P g.1 classes ((qk_ws g w).set a (g.2.2 a, .inr (ci, (fs.map (qk_v g)).set i (qk_v g v)))) H1 → va_D A ((qk_ws g w).set a (g.2.2 a, .inr (ci, (fs.map (qk_v g)).set i (qk_v g v)))) → va_S A s.heap H1 locs1 → W p l e R s m args below meth c H1 locs1 cells slots Q (F0 m (pc + 3) ls (st.map (qk_v g))) := fun H1 locs1 hP1 hD1 hS1 => k w1 h2 ls H1 locs1 hl (by rw [hs]; exact hP1) (by rw [hs]; exact hD1) hS1
  rcases hlk with hlk | ⟨host, hlk⟩
  · exact va_put hx hb hw hin ty0 hty hnm hown hK.1 hP hD hS a he hc i hk (hw _ hlk) (fun _ h9 => h9) hfin hd (hn g).1 (hn g).2 (by rw [List.length_map]; exact h4) d kk
  · exact va_putN hx hb hw hin ty0 hty hnm hown hK.1 hP hD hS a he hc i hk (va_Nw.use rfl (hK.2.1 _ hlk)) (fun _ h9 => h9) hfin hd (hn g).1 (hn g).2 (by rw [List.length_map]; exact h4) d kk
theorem s_puti {a idx ci i : Nat} {v : Int32} {f : qw → Option α} (hC : qC X cc own nL fr lo) (hf : qP own idx ci i .int) (d : decode cc pc = .ok (.putfield idx, 3)) (e : pc + 3 = pc') (hF : q_b1 (q_pf w a ci i (.inl v)) f = some res) (k : ∀ w, f w = some res → qG X nL pc' lv st w) : qG X nL pc lv (.inl v :: .inr (some a) :: st) w := s_put0 hC hf (fun _ => ⟨rfl, rfl⟩) d e hF k
theorem q_zn {x : Int32} (h : q_z x = true) : narrow .boolean (.int x) = .int x ∧ fits .boolean (.int x) = true := by
  rcases q_z_s h with h | h <;> (subst h; exact ⟨rfl, rfl⟩)
theorem s_putz {a idx ci i : Nat} {v : Int32} {f : qw → Option α} (hC : qC X cc own nL fr lo) (hf : qP own idx ci i .boolean) (d : decode cc pc = .ok (.putfield idx, 3)) (e : pc + 3 = pc') (hF : q_ob (q_z v) (q_b1 (q_pf w a ci i (.inl v)) f) = some res) (k : ∀ w, f w = some res → qG X nL pc' lv st w) : qG X nL pc lv (.inl v :: .inr (some a) :: st) w := s_put0 hC hf (fun _ => q_zn (q_ob_s hF).1) d e (q_ob_s hF).2 k
theorem s_putr {a idx ci i : Nat} {v : Nat} {ty : FieldType} {f : qw → Option α} (hC : qC X cc own nL fr lo) (hf : qP own idx ci i ty) (hn : ∀ a : Nat, narrow ty (.ref a) = .ref a ∧ fits ty (.ref a) = true) (d : decode cc pc = .ok (.putfield idx, 3)) (e : pc + 3 = pc') (hF : q_b1 (q_pf w a ci i (.inr (some v))) f = some res) (k : ∀ w, f w = some res → qG X nL pc' lv st w) : qG X nL pc lv (.inr (some v) :: .inr (some a) :: st) w := s_put0 hC hf (fun g => hn _) d e hF k
theorem s_iald {a : Nat} {i : Int32} {f : Int32 → Option α} (hC : qC X cc own nL fr lo) (d : decode cc pc = .ok (.iaload, 1)) (e : pc + 1 = pc') (hF : q_b1 (q_ld w a 0 i) f = some res) (k : ∀ v, f v = some res → qG X nL pc' lv (.inl v :: st) w) : qG X nL pc lv (.inl i :: .inr (some a) :: st) w := by
  subst e
  obtain ⟨v, h1, h2⟩ := q_b1_s hF
  obtain ⟨n, f0, h3, h4, h5⟩ := q_ld_s h1
  subst h5
  obtain ⟨p, l, e, R, s, m, args, below, meth, c, Q, g, A, cells, slots⟩ := X
  obtain ⟨hx, hb, hml, hown, hw, hK, hA, hR, hZ⟩ := hC
  intro ls H locs hl hP hD hS
  exact va_iald hx hb hK.1 hP a 0 (qk_wk (g := g) h3) rfl h4 d (k _ h2 ls H locs hl hP hD hS)
theorem s_cald {a : Nat} {i : Int32} {f : Int32 → Option α} (hC : qC X cc own nL fr lo) (d : decode cc pc = .ok (.caload, 1)) (e : pc + 1 = pc') (hF : q_b1 (q_ld w a 1 i) f = some res) (k : ∀ v, f v = some res → qG X nL pc' lv (.inl v :: st) w) : qG X nL pc lv (.inl i :: .inr (some a) :: st) w := by
  subst e
  obtain ⟨v, h1, h2⟩ := q_b1_s hF
  obtain ⟨n, f0, h3, h4, h5⟩ := q_ld_s h1
  subst h5
  obtain ⟨p, l, e, R, s, m, args, below, meth, c, Q, g, A, cells, slots⟩ := X
  obtain ⟨hx, hb, hml, hown, hw, hK, hA, hR, hZ⟩ := hC
  intro ls H locs hl hP hD hS
  exact va_cald hx hb hK.1 hP a 1 (qk_wk (g := g) h3) rfl h4 d (k _ h2 ls H locs hl hP hD hS)
theorem s_zald {a : Nat} {i : Int32} {f : Int32 → Option α} (hC : qC X cc own nL fr lo) (d : decode cc pc = .ok (.baload, 1)) (e : pc + 1 = pc') (hF : q_b1 (q_ld w a 2 i) f = some res) (k : ∀ v, f v = some res → qG X nL pc' lv (.inl v :: st) w) : qG X nL pc lv (.inl i :: .inr (some a) :: st) w := by
  subst e
  obtain ⟨v, h1, h2⟩ := q_b1_s hF
  obtain ⟨n, f0, h3, h4, h5⟩ := q_ld_s h1
  subst h5
  obtain ⟨p, l, e, R, s, m, args, below, meth, c, Q, g, A, cells, slots⟩ := X
  obtain ⟨hx, hb, hml, hown, hw, hK, hA, hR, hZ⟩ := hC
  intro ls H locs hl hP hD hS
  exact va_zald hx hb hK.1 hP a 2 (qk_wk (g := g) h3) rfl h4 d (k _ h2 ls H locs hl hP hD hS)
theorem s_iast {a : Nat} {i v : Int32} {f : qw → Option α} (hC : qC X cc own nL fr lo) (d : decode cc pc = .ok (.iastore, 1)) (e : pc + 1 = pc') (hF : q_b1 (q_st w a 0 i v) f = some res) (k : ∀ w, f w = some res → qG X nL pc' lv st w) : qG X nL pc lv (.inl v :: .inl i :: .inr (some a) :: st) w := by
  subst e
  obtain ⟨w1, h1, h2⟩ := q_b1_s hF
  obtain ⟨n, f0, h3, h4, h5⟩ := q_st_s h1
  obtain ⟨p, l, e, R, s, m, args, below, meth, c, Q, g, A, cells, slots⟩ := X
  obtain ⟨hx, hb, hml, hown, hw, hK, hA, hR, hZ⟩ := hC
  intro ls H locs hl hP hD hS
  have hs : qk_ws g w1 = (qk_ws g w).set a (g.2.2 a, .inl (g.2.1 0, n, .inl (upd f0 i.toNatClampNeg v))) := by rw [h5, qk_wset]; rfl
  exact va_iast hx hb hK.1 hP hD hS a 0 (qk_wk (g := g) h3) rfl h4 d (fun H1 locs1 hP1 hD1 hS1 => k w1 h2 ls H1 locs1 hl (by rw [hs]; exact hP1) (by rw [hs]; exact hD1) hS1)
theorem s_cast {a : Nat} {i v : Int32} {f : qw → Option α} (hC : qC X cc own nL fr lo) (d : decode cc pc = .ok (.castore, 1)) (e : pc + 1 = pc') (hF : q_b1 (q_st w a 1 i (vp_nar .char v)) f = some res) (k : ∀ w, f w = some res → qG X nL pc' lv st w) : qG X nL pc lv (.inl v :: .inl i :: .inr (some a) :: st) w := by
  subst e
  obtain ⟨w1, h1, h2⟩ := q_b1_s hF
  obtain ⟨n, f0, h3, h4, h5⟩ := q_st_s h1
  obtain ⟨p, l, e, R, s, m, args, below, meth, c, Q, g, A, cells, slots⟩ := X
  obtain ⟨hx, hb, hml, hown, hw, hK, hA, hR, hZ⟩ := hC
  intro ls H locs hl hP hD hS
  have hs : qk_ws g w1 = (qk_ws g w).set a (g.2.2 a, .inl (g.2.1 1, n, .inl (upd f0 i.toNatClampNeg (vp_nar .char v)))) := by rw [h5, qk_wset]; rfl
  exact va_cast hx hb hK.1 hP hD hS a 1 (qk_wk (g := g) h3) rfl h4 d (fun H1 locs1 hP1 hD1 hS1 => k w1 h2 ls H1 locs1 hl (by rw [hs]; exact hP1) (by rw [hs]; exact hD1) hS1)
theorem s_zast {a : Nat} {i v : Int32} {f : qw → Option α} (hC : qC X cc own nL fr lo) (d : decode cc pc = .ok (.bastore, 1)) (e : pc + 1 = pc') (hF : q_ob (q_z v) (q_b1 (q_st w a 2 i v) f) = some res) (k : ∀ w, f w = some res → qG X nL pc' lv st w) : qG X nL pc lv (.inl v :: .inl i :: .inr (some a) :: st) w := by
  subst e
  obtain ⟨hz, hF⟩ := q_ob_s hF
  obtain ⟨w1, h1, h2⟩ := q_b1_s hF
  obtain ⟨n, f0, h3, h4, h5⟩ := q_st_s h1
  obtain ⟨p, l, e, R, s, m, args, below, meth, c, Q, g, A, cells, slots⟩ := X
  obtain ⟨hx, hb, hml, hown, hw, hK, hA, hR, hZ⟩ := hC
  intro ls H locs hl hP hD hS
  have hs : qk_ws g w1 = (qk_ws g w).set a (g.2.2 a, .inl (g.2.1 2, n, .inl (upd f0 i.toNatClampNeg v))) := by rw [h5, qk_wset]; rfl
  have hv : vp_nar .boolean v = v := by rcases q_z_s hz with h | h <;> (subst h; rfl)
  exact va_zast hx hb hK.1 hP hD hS a 2 (qk_wk (g := g) h3) rfl h4 d (fun H1 locs1 hP1 hD1 hS1 => k w1 h2 ls H1 locs1 hl (by rw [hs]; rw [hv] at hP1; exact hP1) (by rw [hs]; rw [hv] at hD1; exact hD1) hS1)
theorem s_len {a : Nat} {f : Int32 → Option α} (hC : qC X cc own nL fr lo) (d : decode cc pc = .ok (.arraylength, 1)) (e : pc + 1 = pc') (hF : q_b1 (q_len w a) f = some res) (k : ∀ v, f v = some res → qG X nL pc' lv (.inl v :: st) w) : qG X nL pc lv (.inr (some a) :: st) w := by
  subst e
  obtain ⟨v, h1, h2⟩ := q_b1_s hF
  obtain ⟨t, n, f0, h3, h4, h5⟩ := q_len_s h1
  obtain ⟨p, l, e, R, s, m, args, below, meth, c, Q, g, A, cells, slots⟩ := X
  obtain ⟨hx, hb, hml, hown, hw, hK, hA, hR, hZ⟩ := hC
  intro ls H locs hl hP hD hS
  have he := qk_wk (g := g) h3
  have kk := k v h2 ls H locs hl hP hD hS
  match t, h4 with
  | 0, _ => exact va_alen hx hb hK.1 hP a 0 he rfl h5 d kk
  | 1, _ => exact va_alen hx hb hK.1 hP a 1 he rfl h5 d kk
  | 2, _ => exact va_alen hx hb hK.1 hP a 2 he rfl h5 d kk
theorem s_iret {x r : Int32} {w' : qw} (hC : qC X cc own nL fr lo) (hR : qRi X cc r w') (d : decode cc pc = .ok (.ireturn, 1)) (hF : some (x, w) = some (r, w')) : qG X nL pc lv [.inl x] w := by
  cases hF
  obtain ⟨p, l, e, R, s, m, args, below, meth, c, Q, g, A, cells, slots⟩ := X
  obtain ⟨hx, hb, hml, hown, hw, hK, hA, hRR, hZ⟩ := hC
  intro ls H locs hl hP hD hS
  exact hR pc ls H locs d hP hD hS
theorem s_zret {x r : Int32} {w' : qw} (hC : qC X cc own nL fr lo) (hR : qRz X cc r w') (d : decode cc pc = .ok (.ireturn, 1)) (hF : q_ob (q_z x) (some (x, w)) = some (r, w')) : qG X nL pc lv [.inl x] w := by
  obtain ⟨h1, h2⟩ := q_ob_s hF
  cases h2
  exact s_iret hC (hR h1) d rfl
theorem s_vret {w' : qw} (hC : qC X cc own nL fr lo) (hR : qRv X cc w') (d : decode cc pc = .ok (.return_, 1)) (hF : some w = some w') : qG X nL pc lv [] w := by
  cases hF
  obtain ⟨p, l, e, R, s, m, args, below, meth, c, Q, g, A, cells, slots⟩ := X
  obtain ⟨hx, hb, hml, hown, hw, hK, hA, hRR, hZ⟩ := hC
  intro ls H locs hl hP hD hS
  exact hR pc ls H locs d hP hD hS
theorem s_aret {x r : Nat} {w' : qw} (hC : qC X cc own nL fr lo) (hR : qRr X cc r w') (d : decode cc pc = .ok (.areturn, 1)) (hF : some (x, w) = some (r, w')) : qG X nL pc lv [.inr (some x)] w := by
  cases hF
  obtain ⟨p, l, e, R, s, m, args, below, meth, c, Q, g, A, cells, slots⟩ := X
  obtain ⟨hx, hb, hml, hown, hw, hK, hA, hRR, hZ⟩ := hC
  intro ls H locs hl hP hD hS
  exact hR pc ls H locs d hP hD hS
end
section
variable {p : Program} {l : Launch} {e : Env} {R : Room} {s : State} {m : MethodId} {args : Array Value} {below : List Frame} {meth : Method} {c : Code} {H : Heap} {locs : List Loc} {cells slots : Nat} {Q : State → Prop}
variable {pc : Nat} {ls : Array Slot} {rest st0 : List Value} {a : Array Value} {g : qk_G} {A : Nat → Prop} {w w' : qw}
theorem qk_fr (hD : va_D A (qk_ws g w)) (hS : va_S A s.heap H locs) (hA : ∀ q, s.heap.size ≤ q → A q) : ∀ q, va_A (qk_ws g w) H.size q → A q := fun q h => by
  rcases h with ⟨k, e, h⟩ | h
  · exact hD.2 k (q, e) h
  · exact hA q (Nat.le_trans hS.1 h)
theorem qk_ai {r : Int32} (hr : va_Run p l e R s m args below meth c H locs cells slots 0 0 (F0 m pc ls st0) rest (qk_qi g r w w' H.size a) (va_A (qk_ws g w) H.size)) (hD : va_D A (qk_ws g w)) (hS : va_S A s.heap H locs) (hA : ∀ q, s.heap.size ≤ q → A q)
    (k : ∀ (H1 : Heap) (locs1 : List Loc), va_P g.1 classes (qk_ws g w') H1 → va_D A (qk_ws g w') → va_S A s.heap H1 locs1 → W p l e R s m args below meth c H1 locs1 cells slots Q (F0 m (pc + 3) ls (.int r :: rest))) : W p l e R s m args below meth c H locs cells slots Q (F0 m pc ls st0) := by
  have hF := qk_fr (w := w) hD hS hA
  refine va_calli hr hS (fun q _ h => hF q h) hF (fun r2 u t H1 locs1 ht hvm hp hB hz hk hS1 => ?_)
  subst hp
  obtain ⟨hP1, hD1⟩ := hB
  rw [ht] at hP1
  exact k H1 locs1 hP1 (hD1.weaken (fun _ q _ h => hF q.1 h)) hS1
theorem qk_av (hr : va_Run p l e R s m args below meth c H locs cells slots 0 0 (F0 m pc ls st0) rest (qk_qv g w w' H.size a) (va_A (qk_ws g w) H.size)) (hD : va_D A (qk_ws g w)) (hS : va_S A s.heap H locs) (hA : ∀ q, s.heap.size ≤ q → A q)
    (k : ∀ (H1 : Heap) (locs1 : List Loc), va_P g.1 classes (qk_ws g w') H1 → va_D A (qk_ws g w') → va_S A s.heap H1 locs1 → W p l e R s m args below meth c H1 locs1 cells slots Q (F0 m (pc + 3) ls rest)) : W p l e R s m args below meth c H locs cells slots Q (F0 m pc ls st0) := by
  have hF := qk_fr (w := w) hD hS hA
  refine va_callv hr hS (fun q _ h => hF q h) hF (fun u t H1 locs1 ht hvm hp hB hz hk hS1 => ?_)
  obtain ⟨hP1, hD1⟩ := hB
  rw [ht] at hP1
  exact k H1 locs1 hP1 (hD1.weaken (fun _ q _ h => hF q.1 h)) hS1
theorem qk_ar {r : Nat} (hr : va_Run p l e R s m args below meth c H locs cells slots 0 0 (F0 m pc ls st0) rest (qk_qr g r w w' H.size a) (va_A (qk_ws g w) H.size)) (hD : va_D A (qk_ws g w)) (hS : va_S A s.heap H locs) (hA : ∀ q, s.heap.size ≤ q → A q)
    (k : ∀ (H1 : Heap) (locs1 : List Loc), va_P g.1 classes (qk_ws g w') H1 → va_D A (qk_ws g w') → va_S A s.heap H1 locs1 → W p l e R s m args below meth c H1 locs1 cells slots Q (F0 m (pc + 3) ls (.ref (g.2.2 r) :: rest))) : W p l e R s m args below meth c H locs cells slots Q (F0 m pc ls st0) := by
  have hF := qk_fr (w := w) hD hS hA
  refine va_callr hr hS (fun q _ h => hF q h) hF (fun u ra t H1 locs1 ht hvm hp hB hz hk hS1 => ?_)
  obtain ⟨hra, hP1, hD1⟩ := hB
  subst hra
  rw [ht] at hP1
  exact k H1 locs1 hP1 (hD1.weaken (fun _ q _ h => hF q.1 h)) hS1
theorem qk_aF {r : Int32} (hr : va_Run5 p l e R s m args below meth c H locs cells slots 0 0 (F0 m pc ls st0) rest (qk_qi g r w w' H.size a) (va_A (qk_ws g w) H.size)) (hD : va_D A (qk_ws g w)) (hS : va_S A s.heap H locs) (hA : ∀ q, s.heap.size ≤ q → A q)
    (k : ∀ (H1 : Heap) (locs1 : List Loc), va_P g.1 classes (qk_ws g w') H1 → va_D A (qk_ws g w') → va_S A s.heap H1 locs1 → W p l e R s m args below meth c H1 locs1 cells slots Q (F0 m (pc + 5) ls (.int r :: rest))) : W p l e R s m args below meth c H locs cells slots Q (F0 m pc ls st0) := by
  have hF := qk_fr (w := w) hD hS hA
  refine va_callFi hr hS (fun q _ h => hF q h) hF (fun r2 u t H1 locs1 ht hvm hp hB hz hk hS1 => ?_)
  subst hp
  obtain ⟨hP1, hD1⟩ := hB
  rw [ht] at hP1
  exact k H1 locs1 hP1 (hD1.weaken (fun _ q _ h => hF q.1 h)) hS1
theorem qk_st (g : qk_G) (As rest : List qv) (b : qv) : (As.reverse ++ b :: rest).map (qk_v g) = (As.map (qk_v g)).reverse ++ qk_v g b :: rest.map (qk_v g) := by
  rw [List.map_append, List.map_reverse, List.map_cons]
theorem qk_st0 (g : qk_G) (As rest : List qv) : (As.reverse ++ rest).map (qk_v g) = (As.map (qk_v g)).reverse ++ rest.map (qk_v g) := by
  rw [List.map_append, List.map_reverse]
variable {cc bytes : ByteArray} {own : String} {y : MethodName} {ret : Option FieldType} {mL nL idx n ci fr lo fr' lo' b : Nat} {As rs : List qv} {Qc : Array Value → State → Outcome → State → Prop} {free : Addr → Prop}
theorem qk_V (hx : p.tables.exec = Jvm.exec) (hb : c.code = cc) (hml : c.maxLocals = nL) (hown : s.vm.findClass own = some m.cls) (hw : ∀ w ∈ qk_W, w.before args s = true) (hK : qk_K g s) (hR : fr ≤ R.frames ∧ lo ≤ R.locals) (hZ : cells ≤ R.cells ∧ slots ≤ R.slots) (hv : qV own idx y bytes mL ret n ci) (hroom : fr' + 1 ≤ fr ∧ 8 + (mL + 11) + lo' ≤ lo) (hn : As.length = n) (hr : rs.length ≤ 8) (d : decode cc pc = .ok (.invokevirtual idx, 3))
    (hM : Met l y (.code y bytes mL ret :: qk_W) (qk_rm fr' lo') (qk_p g (.inr (some b) :: As) H.size w) Qc 0 0 free) (hi : q_is w b ci = true) (hP : va_P g.1 classes (qk_ws g w) H) (hD : va_D A (qk_ws g w)) (hsz : ls.size = nL) :
    va_Run p l e R s m args below meth c H locs cells slots 0 0 (F0 m pc ls ((As.reverse ++ .inr (some b) :: rs).map (qk_v g))) (rs.map (qk_v g)) (Qc (Value.ref (g.2.2 b) :: As.map (qk_v g)).toArray) free := by
  obtain ⟨hlk, h1, h2, h3, h4, ⟨T, N, h5⟩, h6⟩ := hv
  obtain ⟨fs, hi⟩ := q_is_s hi
  have hp : PreV s H y.cls (g.2.2 b) (qk_p g (.inr (some b) :: As) H.size w) (As.map (qk_v g)) := ⟨qk_pb, va_recv hK.1 hP h5 (qk_wk (g := g) hi), fun U hU hW => ⟨rfl, by rw [hU], by rw [hU]; exact hP, qk_Kw hW hK, hD.weaken (fun _ _ _ _ => trivial)⟩⟩
  have hrm : (qk_rm fr' lo').frames + 1 ≤ R.frames ∧ 8 + (mL + 11) + (qk_rm fr' lo').locals ≤ R.locals := ⟨Nat.le_trans hroom.1 hR.1, Nat.le_trans hroom.2 hR.2⟩
  have hcat : 2 * (F0 m pc ls ((As.reverse ++ .inr (some b) :: rs).map (qk_v g))).monitorRoom + ((rs.map (qk_v g)).map fun v => v.category).sum ≤ 8 := lv_room (by rw [qk_cs]; exact hr)
  rcases hlk with hlk | ⟨host, hlk⟩
  · exact va_runV ⟨hx, hb, hml, hown, hw⟩ hM (cwV n hw (qk_g4 hlk h2 h3 h4 h1) rfl rfl rfl ⟨rfl, h6⟩ hrm) hp rfl (by rw [List.length_map]; exact hn) hsz (qk_st g As rs _) hcat d hZ
  · exact va_runVN ⟨hx, hb, hml, hown, hw⟩ hM ⟨va_cnB n hw (qk_gN h1) rfl rfl rfl (hK.2.2.1 _ hlk) (hw _ h4) h6 hrm, hw _ h2, hw _ h3⟩ hp rfl (by rw [List.length_map]; exact hn) hsz (qk_st g As rs _) hcat d hZ
theorem qk_S (hx : p.tables.exec = Jvm.exec) (hb : c.code = cc) (hml : c.maxLocals = nL) (hown : s.vm.findClass own = some m.cls) (hw : ∀ w ∈ qk_W, w.before args s = true) (hK : qk_K g s) (hR : fr ≤ R.frames ∧ lo ≤ R.locals) (hZ : cells ≤ R.cells ∧ slots ≤ R.slots) (hv : qS own idx y bytes mL ret n) (hroom : fr' + 1 ≤ fr ∧ 8 + (mL + 11) + lo' ≤ lo) (hn : As.length = n) (hr : rs.length ≤ 8) (d : decode cc pc = .ok (.invokestatic idx, 3))
    (hM : Met l y (.code y bytes mL ret :: qk_W) (qk_rm fr' lo') (qk_p g As H.size w) Qc 0 0 free) (hP : va_P g.1 classes (qk_ws g w) H) (hD : va_D A (qk_ws g w)) (hsz : ls.size = nL) :
    va_Run p l e R s m args below meth c H locs cells slots 0 0 (F0 m pc ls ((As.reverse ++ rs).map (qk_v g))) (rs.map (qk_v g)) (Qc (As.map (qk_v g)).toArray) free := by
  obtain ⟨hlk, h1, h2, h4, h6⟩ := hv
  have hp : PreS s H (qk_p g As H.size w) (As.map (qk_v g)) := ⟨qk_pb, fun U hU hW => ⟨rfl, by rw [hU], by rw [hU]; exact hP, qk_Kw hW hK, hD.weaken (fun _ _ _ _ => trivial)⟩⟩
  have hrm : (qk_rm fr' lo').frames + 1 ≤ R.frames ∧ 8 + (mL + 11) + (qk_rm fr' lo').locals ≤ R.locals := ⟨Nat.le_trans hroom.1 hR.1, Nat.le_trans hroom.2 hR.2⟩
  have hcat : 2 * (F0 m pc ls ((As.reverse ++ rs).map (qk_v g))).monitorRoom + ((rs.map (qk_v g)).map fun v => v.category).sum ≤ 8 := lv_room (by rw [qk_cs]; exact hr)
  rcases hlk with hlk | ⟨host, hlk⟩
  · exact va_runS ⟨hx, hb, hml, hown, hw⟩ hM ⟨callB_of n hw (qk_gN h1) rfl rfl rfl (hw _ h4) (hw _ hlk) h6 hrm, hw _ h2⟩ hp rfl (by rw [List.length_map]; exact hn) hsz (qk_st0 g As rs) hcat d hZ
  · exact va_runSN ⟨hx, hb, hml, hown, hw⟩ hM ⟨va_cnB n hw (qk_gN h1) rfl rfl rfl (hK.2.2.1 _ hlk) (hw _ h4) h6 hrm, hw _ h2, trivial⟩ hp rfl (by rw [List.length_map]; exact hn) hsz (qk_st0 g As rs) hcat d hZ
theorem qk_I {x : MethodName} {cnt : Nat} (hx : p.tables.exec = Jvm.exec) (hb : c.code = cc) (hml : c.maxLocals = nL) (hown : s.vm.findClass own = some m.cls) (hw : ∀ w ∈ qk_W, w.before args s = true) (hK : qk_K g s) (hR : fr ≤ R.frames ∧ lo ≤ R.locals) (hZ : cells ≤ R.cells ∧ slots ≤ R.slots) (hv : qI own idx x y bytes mL ret n ci) (hroom : fr' + 1 ≤ fr ∧ 8 + (mL + 11) + lo' ≤ lo) (hn : As.length = n) (hr : rs.length ≤ 8) (d : decode cc pc = .ok (.invokeinterface idx cnt, 5))
    (hM : Met l y (.code y bytes mL ret :: qk_W) (qk_rm fr' lo') (qk_p g (.inr (some b) :: As) H.size w) Qc 0 0 free) (hi : q_is w b ci = true) (hP : va_P g.1 classes (qk_ws g w) H) (hD : va_D A (qk_ws g w)) (hsz : ls.size = nL) :
    va_Run5 p l e R s m args below meth c H locs cells slots 0 0 (F0 m pc ls ((As.reverse ++ .inr (some b) :: rs).map (qk_v g))) (rs.map (qk_v g)) (Qc (Value.ref (g.2.2 b) :: As.map (qk_v g)).toArray) free := by
  obtain ⟨hlk, h1, h2, h3, h4, ⟨T, N, h5⟩, hfw, h6⟩ := hv
  obtain ⟨fs, hi⟩ := q_is_s hi
  have hp : PreV s H y.cls (g.2.2 b) (qk_p g (.inr (some b) :: As) H.size w) (As.map (qk_v g)) := ⟨qk_pb, va_recv hK.1 hP h5 (qk_wk (g := g) hi), fun U hU hW => ⟨rfl, by rw [hU], by rw [hU]; exact hP, qk_Kw hW hK, hD.weaken (fun _ _ _ _ => trivial)⟩⟩
  have hrm : (qk_rm fr' lo').frames + 1 ≤ R.frames ∧ 8 + (mL + 11) + (qk_rm fr' lo').locals ≤ R.locals := ⟨Nat.le_trans hroom.1 hR.1, Nat.le_trans hroom.2 hR.2⟩
  have hcat : 2 * (F0 m pc ls ((As.reverse ++ .inr (some b) :: rs).map (qk_v g))).monitorRoom + ((rs.map (qk_v g)).map fun v => v.category).sum ≤ 8 := lv_room (by rw [qk_cs]; exact hr)
  exact va_runF (hK.1.1 ci _ h5).2 ⟨hx, hb, hml, hown, hw⟩ hM (va_cwF n hw (qk_g4 hlk h3 h2 h4 h1) rfl rfl rfl (hK.2.2.2 _ hfw) h6 hrm) hp rfl (by rw [List.length_map]; exact hn) hsz (qk_st g As rs _) hcat d hZ
end
section
variable {X : qX} {cc : ByteArray} {own : String} {nL fr lo pc pc' : Nat} {lv : List (Nat × qv)} {stk rs As : List qv} {w : qw} {α : Type} {res : α}
variable {idx n ci mL fr' lo' a : Nat} {y : MethodName} {bytes : ByteArray} {ret : Option FieldType}
theorem s_cVi {o : Option (Int32 × qw)} {f : Int32 → qw → Option α} (hC : qC X cc own nL fr lo) (hv : qV own idx y bytes mL ret n ci) (hn : As.length = n) (hst : As.reverse ++ .inr (some a) :: rs = stk) (hrs : rs.length ≤ 8) (hroom : fr' + 1 ≤ fr ∧ 8 + (mL + 11) + lo' ≤ lo) (d : decode cc pc = .ok (.invokevirtual idx, 3)) (e : pc + 3 = pc') (hM : ∀ l g sz r w', o = some (r, w') → qMi l g sz y bytes mL ret fr' lo' (.inr (some a) :: As) w r w') (hF : q_ob (q_is w a ci) (q_b2 o f) = some res) (k : ∀ r w', f r w' = some res → qG X nL pc' lv (.inl r :: rs) w') : qG X nL pc lv stk w := by
  subst e; subst hst
  obtain ⟨hi, hF⟩ := q_ob_s hF
  obtain ⟨r, w1, h1, h2⟩ := q_b2_s hF
  obtain ⟨p, l, ee, R, s, m, args, below, meth, c, Q, g, A, cells, slots⟩ := X
  obtain ⟨hx, hb, hml, hown, hw, hK, hA, hR, hZ⟩ := hC
  intro ls H locs hl hP hD hS
  exact qk_ai (qk_V hx hb hml hown hw hK hR hZ hv hroom hn hrs d (hM l g H.size r w1 h1) hi hP hD hl.1) hD hS hA (fun H1 locs1 hP1 hD1 hS1 => k r w1 h2 ls H1 locs1 hl hP1 hD1 hS1)
theorem s_cVv {o : Option qw} {f : qw → Option α} (hC : qC X cc own nL fr lo) (hv : qV own idx y bytes mL ret n ci) (hn : As.length = n) (hst : As.reverse ++ .inr (some a) :: rs = stk) (hrs : rs.length ≤ 8) (hroom : fr' + 1 ≤ fr ∧ 8 + (mL + 11) + lo' ≤ lo) (d : decode cc pc = .ok (.invokevirtual idx, 3)) (e : pc + 3 = pc') (hM : ∀ l g sz w', o = some w' → qMv l g sz y bytes mL ret fr' lo' (.inr (some a) :: As) w w') (hF : q_ob (q_is w a ci) (q_b1 o f) = some res) (k : ∀ w', f w' = some res → qG X nL pc' lv rs w') : qG X nL pc lv stk w := by
  subst e; subst hst
  obtain ⟨hi, hF⟩ := q_ob_s hF
  obtain ⟨w1, h1, h2⟩ := q_b1_s hF
  obtain ⟨p, l, ee, R, s, m, args, below, meth, c, Q, g, A, cells, slots⟩ := X
  obtain ⟨hx, hb, hml, hown, hw, hK, hA, hR, hZ⟩ := hC
  intro ls H locs hl hP hD hS
  exact qk_av (qk_V hx hb hml hown hw hK hR hZ hv hroom hn hrs d (hM l g H.size w1 h1) hi hP hD hl.1) hD hS hA (fun H1 locs1 hP1 hD1 hS1 => k w1 h2 ls H1 locs1 hl hP1 hD1 hS1)
theorem s_cVr {o : Option (Nat × qw)} {f : Nat → qw → Option α} (hC : qC X cc own nL fr lo) (hv : qV own idx y bytes mL ret n ci) (hn : As.length = n) (hst : As.reverse ++ .inr (some a) :: rs = stk) (hrs : rs.length ≤ 8) (hroom : fr' + 1 ≤ fr ∧ 8 + (mL + 11) + lo' ≤ lo) (d : decode cc pc = .ok (.invokevirtual idx, 3)) (e : pc + 3 = pc') (hM : ∀ l g sz r w', o = some (r, w') → qMr l g sz y bytes mL ret fr' lo' (.inr (some a) :: As) w r w') (hF : q_ob (q_is w a ci) (q_b2 o f) = some res) (k : ∀ r w', f r w' = some res → qG X nL pc' lv (.inr (some r) :: rs) w') : qG X nL pc lv stk w := by
  subst e; subst hst
  obtain ⟨hi, hF⟩ := q_ob_s hF
  obtain ⟨r, w1, h1, h2⟩ := q_b2_s hF
  obtain ⟨p, l, ee, R, s, m, args, below, meth, c, Q, g, A, cells, slots⟩ := X
  obtain ⟨hx, hb, hml, hown, hw, hK, hA, hR, hZ⟩ := hC
  intro ls H locs hl hP hD hS
  exact qk_ar (qk_V hx hb hml hown hw hK hR hZ hv hroom hn hrs d (hM l g H.size r w1 h1) hi hP hD hl.1) hD hS hA (fun H1 locs1 hP1 hD1 hS1 => k r w1 h2 ls H1 locs1 hl hP1 hD1 hS1)
theorem s_cSi {o : Option (Int32 × qw)} {f : Int32 → qw → Option α} (hC : qC X cc own nL fr lo) (hv : qS own idx y bytes mL ret n) (hn : As.length = n) (hst : As.reverse ++ rs = stk) (hrs : rs.length ≤ 8) (hroom : fr' + 1 ≤ fr ∧ 8 + (mL + 11) + lo' ≤ lo) (d : decode cc pc = .ok (.invokestatic idx, 3)) (e : pc + 3 = pc') (hM : ∀ l g sz r w', o = some (r, w') → qMi l g sz y bytes mL ret fr' lo' (As) w r w') (hF : q_b2 o f = some res) (k : ∀ r w', f r w' = some res → qG X nL pc' lv (.inl r :: rs) w') : qG X nL pc lv stk w := by
  subst e; subst hst
  obtain ⟨r, w1, h1, h2⟩ := q_b2_s hF
  obtain ⟨p, l, ee, R, s, m, args, below, meth, c, Q, g, A, cells, slots⟩ := X
  obtain ⟨hx, hb, hml, hown, hw, hK, hA, hR, hZ⟩ := hC
  intro ls H locs hl hP hD hS
  exact qk_ai (qk_S hx hb hml hown hw hK hR hZ hv hroom hn hrs d (hM l g H.size r w1 h1) hP hD hl.1) hD hS hA (fun H1 locs1 hP1 hD1 hS1 => k r w1 h2 ls H1 locs1 hl hP1 hD1 hS1)
theorem s_cSv {o : Option qw} {f : qw → Option α} (hC : qC X cc own nL fr lo) (hv : qS own idx y bytes mL ret n) (hn : As.length = n) (hst : As.reverse ++ rs = stk) (hrs : rs.length ≤ 8) (hroom : fr' + 1 ≤ fr ∧ 8 + (mL + 11) + lo' ≤ lo) (d : decode cc pc = .ok (.invokestatic idx, 3)) (e : pc + 3 = pc') (hM : ∀ l g sz w', o = some w' → qMv l g sz y bytes mL ret fr' lo' (As) w w') (hF : q_b1 o f = some res) (k : ∀ w', f w' = some res → qG X nL pc' lv rs w') : qG X nL pc lv stk w := by
  subst e; subst hst
  obtain ⟨w1, h1, h2⟩ := q_b1_s hF
  obtain ⟨p, l, ee, R, s, m, args, below, meth, c, Q, g, A, cells, slots⟩ := X
  obtain ⟨hx, hb, hml, hown, hw, hK, hA, hR, hZ⟩ := hC
  intro ls H locs hl hP hD hS
  exact qk_av (qk_S hx hb hml hown hw hK hR hZ hv hroom hn hrs d (hM l g H.size w1 h1) hP hD hl.1) hD hS hA (fun H1 locs1 hP1 hD1 hS1 => k w1 h2 ls H1 locs1 hl hP1 hD1 hS1)
theorem s_cSr {o : Option (Nat × qw)} {f : Nat → qw → Option α} (hC : qC X cc own nL fr lo) (hv : qS own idx y bytes mL ret n) (hn : As.length = n) (hst : As.reverse ++ rs = stk) (hrs : rs.length ≤ 8) (hroom : fr' + 1 ≤ fr ∧ 8 + (mL + 11) + lo' ≤ lo) (d : decode cc pc = .ok (.invokestatic idx, 3)) (e : pc + 3 = pc') (hM : ∀ l g sz r w', o = some (r, w') → qMr l g sz y bytes mL ret fr' lo' (As) w r w') (hF : q_b2 o f = some res) (k : ∀ r w', f r w' = some res → qG X nL pc' lv (.inr (some r) :: rs) w') : qG X nL pc lv stk w := by
  subst e; subst hst
  obtain ⟨r, w1, h1, h2⟩ := q_b2_s hF
  obtain ⟨p, l, ee, R, s, m, args, below, meth, c, Q, g, A, cells, slots⟩ := X
  obtain ⟨hx, hb, hml, hown, hw, hK, hA, hR, hZ⟩ := hC
  intro ls H locs hl hP hD hS
  exact qk_ar (qk_S hx hb hml hown hw hK hR hZ hv hroom hn hrs d (hM l g H.size r w1 h1) hP hD hl.1) hD hS hA (fun H1 locs1 hP1 hD1 hS1 => k r w1 h2 ls H1 locs1 hl hP1 hD1 hS1)
theorem s_cIi {x : MethodName} {cnt : Nat} {o : Option (Int32 × qw)} {f : Int32 → qw → Option α} (hC : qC X cc own nL fr lo) (hv : qI own idx x y bytes mL ret n ci) (hn : As.length = n) (hst : As.reverse ++ .inr (some a) :: rs = stk) (hrs : rs.length ≤ 8) (hroom : fr' + 1 ≤ fr ∧ 8 + (mL + 11) + lo' ≤ lo) (d : decode cc pc = .ok (.invokeinterface idx cnt, 5)) (e : pc + 5 = pc') (hM : ∀ l g sz r w', o = some (r, w') → qMi l g sz y bytes mL ret fr' lo' (.inr (some a) :: As) w r w') (hi : q_is w a ci = true) (hF : q_b2 o f = some res) (k : ∀ r w', f r w' = some res → qG X nL pc' lv (.inl r :: rs) w') : qG X nL pc lv stk w := by
  subst e; subst hst
  obtain ⟨r, w1, h1, h2⟩ := q_b2_s hF
  obtain ⟨p, l, ee, R, s, m, args, below, meth, c, Q, g, A, cells, slots⟩ := X
  obtain ⟨hx, hb, hml, hown, hw, hK, hA, hR, hZ⟩ := hC
  intro ls H locs hl hP hD hS
  exact qk_aF (qk_I hx hb hml hown hw hK hR hZ hv hroom hn hrs d (hM l g H.size r w1 h1) hi hP hD hl.1) hD hS hA (fun H1 locs1 hP1 hD1 hS1 => k r w1 h2 ls H1 locs1 hl hP1 hD1 hS1)
end
def qk_arg : Nat → List qv → List (Nat × qv)
  | _, [] => []
  | i, x :: xs => (i, x) :: qk_arg (i + 1) xs
theorem qk_args (g : qk_G) (av : List qv) : ∀ i, lv_args i (av.map (qk_v g)) = qk_lv g (qk_arg i av) := by
  induction av with
  | nil => exact fun i => rfl
  | cons x xs ih =>
    intro i
    show (i, qk_v g x) :: lv_args (if (qk_v g x).category = 2 then i + 2 else i + 1) (xs.map (qk_v g)) = (i, qk_v g x) :: qk_lv g (qk_arg (i + 1) xs)
    rw [qk_cat, if_neg (by decide), ih]
theorem qk_sll (g : qk_G) (av : List qv) : (lg_sl (av.map (qk_v g))).length = av.length := by
  induction av with
  | nil => rfl
  | cons x xs ih =>
    have h : lg_sl ((x :: xs).map (qk_v g)) = Slot.val (qk_v g x) :: lg_sl (xs.map (qk_v g)) := by
      unfold lg_sl
      rw [List.map_cons, List.flatMap_cons, qk_cat, if_neg (by decide)]
      rfl
    rw [h, List.length_cons, ih, List.length_cons]
section
variable {l : Launch} {g : qk_G} {sz nL fr lo : Nat} {y : MethodName} {b : ByteArray} {av : List qv} {w w' : qw}
theorem qk_met_i {r : Int32} (hy : plainName y.cls = true) (hlen : av.length ≤ nL) (k : ∀ X, qC X b y.cls nL fr lo → qRi X b r w' → qG X nL 0 (qk_arg 0 av) [] w) : qMi l g sz y b nL (some .int) fr lo av w r w' := by
  refine Met.ofW (cc := b) (maxL := nL) (ret := (some .int)) hy rfl ?_
  intro p e s m aa below meth c s₁ B hml hv
  obtain ⟨rfl, hsz, hP, hK, hD0⟩ := hv
  subst hsz
  have hx := B.exec
  have hb := B.bytes
  have hr := B.returns
  have hts := atoms_spec (ws := .code y b nL (some .int) :: qk_W) B.pre
  have hlocks := B.notSynchronized
  have hl := lv_entry (av.map (qk_v g)) (n := nL) (by rw [qk_sll]; exact hlen)
  rw [qk_args] at hl
  rw [lg_entry_eq]
  refine k (p, l, e, _, s, m, _, below, meth, c, _, g, va_A (qk_ws g w) s.heap.size, 0, 0) ⟨hx, hb, hml, findClass_of_methodNamed B.named, fun w h => hts w (List.mem_cons_of_mem _ h), hK, fun q h => Or.inr h, ⟨Nat.le_refl _, Nat.le_refl _⟩, Nat.zero_le _, Nat.zero_le _⟩ ?_ _ s.heap [] hl hP hD0.self va_S.rf
  intro pc ls H locs d hP hD hS
  exact W.iret hx hb hr (fun t ht hW => ⟨⟨r, (), rfl, rfl, by rw [ht]; exact hP, hD⟩, hS.F ht⟩) hS.2.2 d
theorem qk_met_z {r : Int32} (hy : plainName y.cls = true) (hlen : av.length ≤ nL) (k : ∀ X, qC X b y.cls nL fr lo → qRz X b r w' → qG X nL 0 (qk_arg 0 av) [] w) : qMi l g sz y b nL (some .boolean) fr lo av w r w' := by
  refine Met.ofW (cc := b) (maxL := nL) (ret := (some .boolean)) hy rfl ?_
  intro p e s m aa below meth c s₁ B hml hv
  obtain ⟨rfl, hsz, hP, hK, hD0⟩ := hv
  subst hsz
  have hx := B.exec
  have hb := B.bytes
  have hr := B.returns
  have hts := atoms_spec (ws := .code y b nL (some .boolean) :: qk_W) B.pre
  have hlocks := B.notSynchronized
  have hl := lv_entry (av.map (qk_v g)) (n := nL) (by rw [qk_sll]; exact hlen)
  rw [qk_args] at hl
  rw [lg_entry_eq]
  refine k (p, l, e, _, s, m, _, below, meth, c, _, g, va_A (qk_ws g w) s.heap.size, 0, 0) ⟨hx, hb, hml, findClass_of_methodNamed B.named, fun w h => hts w (List.mem_cons_of_mem _ h), hK, fun q h => Or.inr h, ⟨Nat.le_refl _, Nat.le_refl _⟩, Nat.zero_le _, Nat.zero_le _⟩ ?_ _ s.heap [] hl hP hD0.self va_S.rf
  intro hz
  intro pc ls H locs d hP hD hS
  exact W.zret hx hb hr (q_zn hz).1 (fun t ht hW => ⟨⟨r, (), rfl, rfl, by rw [ht]; exact hP, hD⟩, hS.F ht⟩) hS.2.2 d
theorem qk_met_v (hy : plainName y.cls = true) (hlen : av.length ≤ nL) (k : ∀ X, qC X b y.cls nL fr lo → qRv X b w' → qG X nL 0 (qk_arg 0 av) [] w) : qMv l g sz y b nL none fr lo av w w' := by
  refine Met.ofW (cc := b) (maxL := nL) (ret := none) hy rfl ?_
  intro p e s m aa below meth c s₁ B hml hv
  obtain ⟨rfl, hsz, hP, hK, hD0⟩ := hv
  subst hsz
  have hx := B.exec
  have hb := B.bytes
  have hr := B.returns
  have hts := atoms_spec (ws := .code y b nL none :: qk_W) B.pre
  have hlocks := B.notSynchronized
  have hl := lv_entry (av.map (qk_v g)) (n := nL) (by rw [qk_sll]; exact hlen)
  rw [qk_args] at hl
  rw [lg_entry_eq]
  refine k (p, l, e, _, s, m, _, below, meth, c, _, g, va_A (qk_ws g w) s.heap.size, 0, 0) ⟨hx, hb, hml, findClass_of_methodNamed B.named, fun w h => hts w (List.mem_cons_of_mem _ h), hK, fun q h => Or.inr h, ⟨Nat.le_refl _, Nat.le_refl _⟩, Nat.zero_le _, Nat.zero_le _⟩ ?_ _ s.heap [] hl hP hD0.self va_S.rf
  intro pc ls H locs d hP hD hS
  exact W.vret hx hb hr (fun t ht hW => ⟨⟨(), rfl, trivial, by rw [ht]; exact hP, hD⟩, hS.F ht⟩) hS.2.2 d
theorem qk_met_r {r : Nat} {rt : FieldType} (hy : plainName y.cls = true) (hlen : av.length ≤ nL) (hrt : (∃ n, rt = .object n) ∨ ∃ t, rt = .array t) (k : ∀ X, qC X b y.cls nL fr lo → qRr X b r w' → qG X nL 0 (qk_arg 0 av) [] w) : qMr l g sz y b nL (some rt) fr lo av w r w' := by
  refine Met.ofW (cc := b) (maxL := nL) (ret := (some rt)) hy rfl ?_
  intro p e s m aa below meth c s₁ B hml hv
  obtain ⟨rfl, hsz, hP, hK, hD0⟩ := hv
  subst hsz
  have hx := B.exec
  have hb := B.bytes
  have hr := B.returns
  have hts := atoms_spec (ws := .code y b nL (some rt) :: qk_W) B.pre
  have hlocks := B.notSynchronized
  have hl := lv_entry (av.map (qk_v g)) (n := nL) (by rw [qk_sll]; exact hlen)
  rw [qk_args] at hl
  rw [lg_entry_eq]
  refine k (p, l, e, _, s, m, _, below, meth, c, _, g, va_A (qk_ws g w) s.heap.size, 0, 0) ⟨hx, hb, hml, findClass_of_methodNamed B.named, fun w h => hts w (List.mem_cons_of_mem _ h), hK, fun q h => Or.inr h, ⟨Nat.le_refl _, Nat.le_refl _⟩, Nat.zero_le _, Nat.zero_le _⟩ ?_ _ s.heap [] hl hP hD0.self va_S.rf
  intro pc ls H locs d hP hD hS
  exact W.aret hx hb hr hrt (Or.inr ⟨_, rfl⟩) (fun t ht hW => ⟨⟨(), _, rfl, trivial, rfl, by rw [ht]; exact hP, hD⟩, hS.F ht⟩) hS.2.2 d
end
