/-! THE CLAIM OUT OF ONE WALK OF THE LAW'S BODY. Your part is whole_start (and what it stands on); all else here is the same for every law, but numbers. -/
def R_law : String := "QuantifierProofsLaw"
def lw_P (b : Addr) (xs : List Int32) (args : Array Value) (s : State) : Prop := args = #[.ref b] ∧ s.IntsAt b xs ∧ xs.length ≤ 1536 ∧ (Jvm.Cond.and given_1 narrow_1).before args s = true
def lw_Q (_ : Array Value) (s : State) (o : Outcome) (t : State) : Prop := o = .returned (some (.int 1)) ∧ Framed s o t [] 600000 7302250
def lw_Z (below : List Frame) (a : Array Value) (s : State) : State → Prop := fun t => ∃ o, t.status = .running ∧ Ended t below o ∧ lw_Q a s o t
/-- the law's own end, with 1 on the stack, nothing written that was there before, its room as the claim has it -/
theorem lw_ret {p : Program} {l : Launch} {e : Env} {s : State} {m : MethodId} {below : List Frame} {meth : Method} {c : Code} {b : Nat} (hx : p.tables.exec = Jvm.exec) (hb : c.code = code) (hr : meth.sig.returnType = ret) (hlocks : meth.locks = false) {pc : Nat} {H : Heap} {ls : Array Slot} (hdg : decode code pc = .ok (.ireturn, 1)) : W p l e room_1 s m #[Value.ref b] below meth c H [] 600000 7302250 (lw_Z below #[Value.ref b] s) (F0 m pc ls [.int 1]) := by
  intro T hT X
  obtain ⟨fs, hret, hrun, hended, hW, hframe⟩ := X.leave (v := some (.int 1)) (hlocks := hlocks) (fun h => by rw [hr] at h; cases h)
  have hmeth' : T.vm.method? m = some meth := X.method'
  refine ⟨T.setFrames fs, ?_, .returned (some (.int 1)), hrun, hended, rfl, ⟨_, rfl⟩, hW, hframe⟩
  jvm_step X.here [X.here.top, hx, hb, hdg, hmeth', hr, ret, narrow_b1]
  (try refine ⟨rfl, ?_⟩); (try refine ⟨rfl, ?_⟩)
  first | (intro acts; rw [hret _ acts rfl rfl rfl]) | rw [hret _ _ rfl rfl rfl]
  exact Steps.refl _
/-- what holds at the law's entry: the machine, the code, the tables' words (any of lw_tbl by 'hts w (by decide +kernel)'), the script of L ints xs at the cell b, what the Statement gives of the start (any of its parts by flat_of_before) -/
def lw_At (p : Program) (s : State) (m : MethodId) (meth : Method) (c : Code) (b L : Nat) (xs : Nat → Int32) : Prop :=
  p.tables.exec = Jvm.exec ∧ c.code = code ∧ meth.sig.returnType = ret ∧ c.maxLocals = 4 ∧ s.vm.findClass R_law = some m.cls ∧ (∀ w ∈ lw_tbl, w.before #[Value.ref b] s = true) ∧ va_X b L xs s s.heap ∧ b < s.heap.size ∧ meth.locks = false ∧ (Jvm.Cond.and given_1 narrow_1).before #[Value.ref b] s = true
/-- the world behind both constructors -/
def w_start : qw := [
  .inr (0, [.inr (some 1), .inr (some 3), .inr (some 7), .inr (some 8), .inr (some 14)]),
  .inr (6, [.inr (some 2), .inl 0, .inl 0, .inl 0, .inl 0, .inl 0]),
  .inl (1, 200, fun _ => 0),
  .inr (3, [.inr (some 4), .inl 0, .inl 0, .inl 0, .inl 0, .inl 0]),
  .inr (2, [.inr (some 5), .inr (some 6), .inl 0, .inl 0, .inl 0, .inl 0]),
  .inl (0, 8, fun _ => 0),
  .inl (0, 12, fun _ => 0),
  .inr (5, [.inr (some 8), .inr (some 13), .inr (some 14), .inl 0, .inl 0, .inl 0, .inl 0, .inl 0]),
  .inr (4, [.inr (some 9), .inr (some 10), .inr (some 11), .inr (some 12), .inl 0]),
  .inl (0, 24, fun _ => 0),
  .inl (0, 24, fun _ => 0),
  .inl (0, 24, fun _ => 0),
  .inl (2, 24, fun _ => 0),
  .inl (0, 2, fun _ => 0),
  .inr (2, [.inr (some 15), .inr (some 16), .inl 0, .inl 0, .inl 0, .inl 0]),
  .inl (0, 8, fun _ => 0),
  .inl (0, 12, fun _ => 0),
  .inr (1, [.inr (some 18), .inl 0, .inl 0, .inr (some 19), .inr (some 20), .inr (some 21), .inl 0, .inr (some 22), .inl 0, .inr (some 23), .inr (some 24), .inr (some 25), .inl 0, .inr (some 26), .inl 0, .inr (some 27), .inr (some 28), .inr (some 29), .inr (some 30), .inl 0, .inl 0, .inl 0, .inl 0, .inl 0, .inl 0, .inl 0, .inl 0, .inr (some 31)]),
  .inl (0, 200, fun _ => 0),
  .inl (0, 8, fun _ => 0),
  .inl (2, 8, fun _ => 0),
  .inl (0, 9, (upd (upd (upd (upd (upd (upd (upd (upd (upd (fun _ => 0) 0 (-1)) 1 (-1)) 2 (-1)) 3 (-1)) 4 (-1)) 5 (-1)) 6 (-1)) 7 (-1)) 8 (-1))),
  .inl (0, 12, fun _ => 0),
  .inl (0, 8, fun _ => 0),
  .inl (2, 8, fun _ => 0),
  .inl (0, 9, fun _ => 0),
  .inl (0, 12, fun _ => 0),
  .inl (0, 24, fun _ => 0),
  .inl (0, 24, fun _ => 0),
  .inl (2, 24, fun _ => 0),
  .inl (0, 24, fun _ => 0),
  .inl (2, 256, fun _ => 0)]
theorem q_arr {args : Array Value} {s : State} {ty : FieldType} (h : (Cond.arrayClass ty).before args s = true) : ∃ cA, ArrOfT s cA ty ∧ s.vm.findClass ("[" ++ ty.toString) = some cA := by
  obtain ⟨c, k, comp, h1, h2, h3⟩ := Cond.arrayClass_spec h
  exact ⟨c, fun n z => ⟨fun k h => (by cases h), k, h2, comp, h3⟩, h1⟩
set_option maxRecDepth 100000 in
theorem q_nfl : qk_nf.map (fun q => Cond.fieldLinkNest q.1 q.2.1 q.2.2.1 q.2.2.2.1 q.2.2.2.2.1 q.2.2.2.2.2) = qk_nfp.filterMap (fun i => lw_tbl[i]?) := by decide +kernel
set_option maxRecDepth 100000 in
theorem q_nml : qk_nm.map (fun q => Cond.methodLinkNest q.1 q.2.1 q.2.2.1 q.2.2.2) = qk_nmp.filterMap (fun i => lw_tbl[i]?) := by decide +kernel
theorem q_inl {α : Type} {l : List α} {f : α → Cond} {ps : List Nat} (h : l.map f = ps.filterMap (fun i => lw_tbl[i]?)) (q : α) (hq : q ∈ l) : f q ∈ lw_tbl := by
  have h1 : f q ∈ l.map f := List.mem_map.mpr ⟨q, hq, rfl⟩
  rw [h] at h1
  obtain ⟨i, -, hi⟩ := List.mem_filterMap.mp h1
  exact List.mem_of_getElem? hi
set_option maxRecDepth 100000 in
theorem q_fwl : ∀ q ∈ qk_fw, Cond.declares q.2.1 ∈ lw_tbl ∧ Cond.interfaceMethod q.2.1.cls q.2.1.cls q.2.1.name q.2.1.desc ∈ lw_tbl ∧ Cond.publicMethod q.2.2 ∈ lw_tbl ∧ Cond.unhidden q.1 q.2.1.name q.2.1.desc ∈ lw_tbl ∧ Cond.castable q.1 q.2.1.cls ∈ lw_tbl := by decide +kernel
set_option maxRecDepth 100000 in
set_option maxHeartbeats 4000000 in
theorem q_tables {args : Array Value} {s : State} (hts : ∀ w ∈ lw_tbl, w.before args s = true) : ∃ (D : va_G) (ar : Nat → ClassId), ∀ ρ : Nat → Nat, qk_K (D, ar, ρ) s := by
  have hw : ∀ w ∈ qk_W, w.before args s = true := fun w h => hts w (List.mem_filter.mp h).1
  obtain ⟨c0, i0, k0⟩ := u_known hw in_QP (hw _ ia_QP)
  obtain ⟨c1, i1, k1⟩ := u_known hw in_MO (hw _ ia_MO)
  obtain ⟨c2, i2, k2⟩ := u_known hw in_Formula (hw _ ia_Formula)
  obtain ⟨c3, i3, k3⟩ := u_known hw in_FormulaReader (hw _ ia_FormulaReader)
  obtain ⟨c4, i4, k4⟩ := u_known hw in_Proof (hw _ ia_Proof)
  obtain ⟨c5, i5, k5⟩ := u_known hw in_TraceReader (hw _ ia_TraceReader)
  obtain ⟨c6, i6, k6⟩ := u_known hw in_Words (hw _ ia_Words)
  obtain ⟨t0, e0, f0⟩ := q_arr (hw _ ar_int)
  obtain ⟨t1, e1, f1⟩ := q_arr (hw _ ar_char)
  obtain ⟨t2, e2, f2⟩ := q_arr (hw _ ar_boolean)
  refine ⟨(fun k => match k with | 0 => c0 | 1 => c1 | 2 => c2 | 3 => c3 | 4 => c4 | 5 => c5 | _ => c6, fun k => match k with | 0 => i0 | 1 => i1 | 2 => i2 | 3 => i3 | 4 => i4 | 5 => i5 | _ => i6), fun k => match k with | 0 => t0 | 1 => t1 | _ => t2, fun ρ => ⟨⟨fun c q hc => ?_, fun k q hk => ?_⟩, fun q hq => va_Nw.of rfl (hts _ (q_inl q_nfl q hq)), fun q hq => va_Nw.of rfl (hts _ (q_inl q_nml q hq)), fun q hq => ?_⟩⟩
  · have hlt : c < 7 := (List.getElem?_eq_some_iff.mp hc).1
    rcases (show c = 0 ∨ c = 1 ∨ c = 2 ∨ c = 3 ∨ c = 4 ∨ c = 5 ∨ c = 6 by omega) with rfl | rfl | rfl | rfl | rfl | rfl | rfl
    · cases hc
      exact k0
    · cases hc
      exact k1
    · cases hc
      exact k2
    · cases hc
      exact k3
    · cases hc
      exact k4
    · cases hc
      exact k5
    · cases hc
      exact k6
  · have hlt : k < 3 := (List.getElem?_eq_some_iff.mp hk).1
    rcases (show k = 0 ∨ k = 1 ∨ k = 2 by omega) with rfl | rfl | rfl
    · cases hk
      exact ⟨e0, f0⟩
    · cases hk
      exact ⟨e1, f1⟩
    · cases hk
      exact ⟨e2, f2⟩
  · exact va_Fw.of (A := args) (hts _ (q_fwl q hq).1) (hts _ (q_fwl q hq).2.1) (hts _ (q_fwl q hq).2.2.1) (hts _ (q_fwl q hq).2.2.2.1) (hts _ (q_fwl q hq).2.2.2.2)
theorem qn_LA_9 : qN R_law 9 y_QP_init b_QP_init 1 := ⟨Or.inl ml_LA_9, ic_QP_init, ii_QP_init, in_c_QP, rfl, by decide +kernel⟩
theorem qn_LA_12 : qN R_law 12 y_MO_init b_MO_init 2 := ⟨Or.inl ml_LA_12, ic_MO_init, ii_MO_init, in_c_MO, rfl, by decide +kernel⟩
theorem q_nilP {D : va_G} {cl : List vw_C} {H : Heap} : va_P D cl [] H := fun k q h => by simp at h
theorem q_nilD {A : Nat → Prop} : va_D A [] := ⟨fun i j p q h => by simp at h, fun k q h => by simp at h⟩
def q_adr (b q0 : Nat) (u : List Nat) (q8 : Nat) (v : List Nat) : Nat → Nat := fun k => if k = 1000 then b else ([q0, (u.getD 0 0), (u.getD 1 0), (u.getD 2 0), (u.getD 3 0), (u.getD 4 0), (u.getD 5 0), (u.getD 6 0), (u.getD 7 0), (u.getD 8 0), (u.getD 9 0), (u.getD 10 0), (u.getD 11 0), (u.getD 12 0), (u.getD 13 0), (u.getD 14 0), (u.getD 15 0), q8, (v.getD 0 0), (v.getD 1 0), (v.getD 2 0), (v.getD 3 0), (v.getD 4 0), (v.getD 5 0), (v.getD 6 0), (v.getD 7 0), (v.getD 8 0), (v.getD 9 0), (v.getD 10 0), (v.getD 11 0), (v.getD 12 0), (v.getD 13 0)] : List Nat).getD k 0
set_option maxRecDepth 100000 in
set_option maxHeartbeats 4000000 in
theorem q_world (D : va_G) (ar : Nat → ClassId) (b q0 : Nat) (u : List Nat) (q8 : Nat) (v : List Nat) (ρ : Nat → Nat) : wo_QP_init (D, ar, ρ) q0 u ++ wo_MO_init (D, ar, ρ) q8 v = qk_ws (D, ar, q_adr b q0 u q8 v) w_start := by
  unfold qk_ws w_start
  simp only [List.mapIdx_cons, List.mapIdx_nil]
  rfl
set_option maxRecDepth 100000 in
set_option maxHeartbeats 4000000 in
theorem start_of {p : Program} {e : Env} {s : State} {m : MethodId} {below : List Frame} {meth : Method} {c : Code} (l : Launch) {b L : Nat} {xs : Nat → Int32} (hF : ∃ w', f_LA_law L xs w_start 0 17 0 = some (1, w')) (C0 : lw_At p s m meth c b L xs) : W p l e room_1 s m #[Value.ref b] below meth c s.heap [] 0 0 (lw_Z below #[Value.ref b] s) (entryFrame m ([Value.ref b] : List Value).toArray 4) := by
  obtain ⟨w', hF⟩ := hF
  obtain ⟨hx, hb, hr, hml, hown, hts, hX, hbl, hlocks, hgv⟩ := C0
  have hw : ∀ w ∈ qk_W, w.before #[Value.ref b] s = true := fun w h => hts w (List.mem_filter.mp h).1
  obtain ⟨D, ar, hKK⟩ := q_tables hts
  have hK := hKK (fun _ => 0)
  have hA : ∀ q : Nat, s.heap.size ≤ q → (fun q : Nat => s.heap.size ≤ q) q := fun q h => h
  generalize hAe : (fun q : Nat => s.heap.size ≤ q) = A at hA
  have hP : va_P D classes [] s.heap := q_nilP
  have hD : va_D A [] := q_nilD
  have hl := lv_entry ([.ref b]) (n := 4) (Nat.le_of_ble_eq_true rfl)
  rw [lg_entry_eq]
  generalize (lg_sl ([.ref b]) ++ List.replicate (4 - (lg_sl ([.ref b])).length) Slot.unset).toArray = ls at hl ⊢
  have hl : lv_has ls 4 [(0, .ref b)] := hl
  refine qk_gH (A := A) hP (fun H locs Q hQ hP hS => ?_)
  refine va_new (ci := 0) (fs := [.null, .null, .null, .null, .null]) (C := R_QP) (T := F_QP) (N := 5) hx hb hw in_QP t_QP t_QP_ok hown (hw _ cl_LA_7) (hw _ ia_QP) (hw _ in_c_QP) hK.1 hP hD hS hA rfl (by decide) (Nat.le_of_ble_eq_true rfl) (Nat.le_of_ble_eq_true rfl) d_LA_law_0 (fun q0 H hP hD hS => ?_)
  refine lv_dup hx hb d_LA_law_3 rfl ?_
  refine q_init (g := (D, ar, fun _ => 0)) (wr := []) (wo := wo_QP_init (D, ar, fun _ => 0)) hx hb hml hown hw hK ⟨Nat.le_of_ble_eq_true rfl, Nat.le_of_ble_eq_true rfl⟩ qn_LA_9 (fun sz => c_QP_init l (D, ar, fun _ => 0) sz q0) hP hD hS hA 0 [] rfl rfl (by decide) (by decide) ⟨Nat.le_of_ble_eq_true rfl, Nat.le_of_ble_eq_true rfl⟩ d_LA_law_4 hl.1 (Nat.le_of_ble_eq_true rfl) (fun u H locs hP hD hS => ?_)
  refine W.widen (k := 17) (n := 380) (by decide) (by decide) ?_
  refine W.eq (g2 := F0 m 7 ls [.ref q0]) rfl ?_
  refine lv_astore_n (lv' := [(1, .ref q0), (0, .ref b)]) hx hb d_LA_law_7 rfl hl (by decide) rfl (fun ls hl => ?_)
  refine va_new (ci := 1) (fs := [.null, .int 0, .int 0, .null, .null, .null, .int 0, .null, .int 0, .null, .null, .null, .int 0, .null, .int 0, .null, .null, .null, .null, .int 0, .int 0, .int 0, .int 0, .int 0, .int 0, .int 0, .int 0, .null]) (C := R_MO) (T := F_MO) (N := 28) hx hb hw in_MO t_MO t_MO_ok hown (hw _ cl_LA_10) (hw _ ia_MO) (hw _ in_c_MO) hK.1 hP hD hS hA rfl (by decide) (Nat.le_of_ble_eq_true rfl) (Nat.le_of_ble_eq_true rfl) d_LA_law_8 (fun q8 H hP hD hS => ?_)
  refine lv_dup hx hb d_LA_law_11 rfl ?_
  refine q_init (g := (D, ar, fun _ => 0)) (wr := wo_QP_init (D, ar, fun _ => 0) q0 u) (wo := wo_MO_init (D, ar, fun _ => 0)) hx hb hml hown hw hK ⟨Nat.le_of_ble_eq_true rfl, Nat.le_of_ble_eq_true rfl⟩ qn_LA_12 (fun sz => c_MO_init l (D, ar, fun _ => 0) sz q8) hP hD hS hA 17 [0, 1, 2, 3, 4, 5, 6, 7, 8, 9, 10, 11, 12, 13, 14, 15, 16] rfl rfl (by decide) (by decide) ⟨Nat.le_of_ble_eq_true rfl, Nat.le_of_ble_eq_true rfl⟩ d_LA_law_12 hl.1 (Nat.le_of_ble_eq_true rfl) (fun v H locs hP hD hS => ?_)
  refine W.widen (k := 32) (n := 1034) (by decide) (by decide) ?_
  refine W.eq (g2 := F0 m 15 ls [.ref q8]) rfl ?_
  refine lv_astore_n (lv' := [(2, .ref q8), (1, .ref q0), (0, .ref b)]) hx hb d_LA_law_15 rfl hl (by decide) rfl (fun ls hl => ?_)
  refine lv_iconst (v := 0) hx hb d_LA_law_16 (by decide) ?_
  refine lv_istore_n (lv' := [(3, .int 0), (2, .ref q8), (1, .ref q0), (0, .ref b)]) hx hb d_LA_law_17 rfl hl (by decide) rfl (fun ls hl => ?_)
  rw [q_world D ar b q0 u q8 v] at hP hD
  have hl : lv_has ls 4 (qk_lv (D, ar, q_adr b q0 u q8 v) [(0, .inr (some 1000)), (1, .inr (some 0)), (2, .inr (some 17)), (3, .inl 0)]) := lv_sub hl [3, 2, 1, 0] rfl
  refine k_LA_law L xs 1000 0 17 0 (X := (p, l, e, room_1, s, m, #[Value.ref b], below, meth, c, Q, (D, ar, q_adr b q0 u q8 v), A, 32, 1034)) 1 w' ⟨hx, hb, hml, hown, hw, hKK _, hA, ⟨by decide, by decide⟩, by decide, by decide⟩ ⟨hX, hbl, ?_⟩ ?_ w_start hF ls H locs hl hP hD hS
  · rw [← hAe]
    exact Nat.not_le.mpr hbl
  · intro hz pc ls H locs d hP hD hS
    subst hQ
    refine va_forget (fun q hq => ?_) (W.widen (by decide) (by decide) (lw_ret hx hb hr hlocks d))
    have h9 := hS.2.2 q hq
    rw [← hAe] at h9
    exact h9
