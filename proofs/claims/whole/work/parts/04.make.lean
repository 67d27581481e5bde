/-! constructors: cells are made, at addresses that are variables; a contract gives them back as a list of addresses -/
abbrev qk_rk (fr lo mc ms : Nat) : Room := { frames := fr, cells := mc, slots := ms, locals := lo }
def qMk (l : Launch) (g : qk_G) (sz : Nat) (y : MethodName) (b : ByteArray) (mL fr lo mc ms h0 : Nat) (e0 : va_E) (wo : List Nat → va_W) : Prop := Met l y (.code y b mL none :: qk_W) (qk_rk fr lo mc ms) (va_Pc [.ref h0] (fun U => U.heap.size = sz ∧ va_P g.1 classes [(h0, e0)] U.heap ∧ qk_K g U ∧ va_D (fun _ => True) [(h0, e0)])) (va_Qv (S := List Nat) (fun _ => True) (fun u t => va_P g.1 classes (wo u) t.heap ∧ va_D (va_A [(h0, e0)] sz) (wo u)) (va_A [(h0, e0)] sz)) mc ms (va_A [(h0, e0)] sz)
def qN (own : String) (idx : Nat) (y : MethodName) (b : ByteArray) (mL : Nat) : Prop :=
  (Cond.methodLink own idx y ∈ qk_W ∨ ∃ host, (own, idx, y, host) ∈ qk_nm) ∧ Cond.code y b mL none ∈ qk_W ∧ Cond.instanceMethod y ∈ qk_W ∧ Cond.initialized y.cls ∈ qk_W ∧ y.name = "<init>" ∧ (y.cls ≠ "java/lang/invoke/MethodHandle" ∧ y.cls ≠ "java/lang/invoke/VarHandle" ∧ (parseMethodDescriptor y.desc).map (fun d => d.parameters.length) = some 0)
theorem qk_pk {g : qk_G} {sz h0 : Nat} {e0 : va_E} : FrameBlind (va_Pc [.ref h0] (fun U => U.heap.size = sz ∧ va_P g.1 classes [(h0, e0)] U.heap ∧ qk_K g U ∧ va_D (fun _ => True) [(h0, e0)])) := fun a U f mk q => by
  obtain ⟨q0, q1, qP, qK, qD⟩ := q
  exact ⟨q0, q1, qP, qk_Ks (u := U) (U := U.calling f mk a) rfl qK, qD⟩
section
variable {p : Program} {l : Launch} {e : Env} {R : Room} {s : State} {m : MethodId} {args : Array Value} {below : List Frame} {meth : Method} {c : Code} {H : Heap} {locs : List Loc} {cells slots : Nat} {Q : State → Prop}
variable {cc bytes : ByteArray} {pc nL mL idx fr' lo' mc ms q : Nat} {ls : Array Slot} {rest : List Value} {g : qk_G} {A : Nat → Prop} {wl wr : va_W} {own : String} {y : MethodName} {e0 : va_E} {wo : Nat → List Nat → va_W}
theorem q_init (hx : p.tables.exec = Jvm.exec) (hb : c.code = cc) (hml : c.maxLocals = nL) (hown : s.vm.findClass own = some m.cls) (hw : ∀ w ∈ qk_W, w.before args s = true) (hK : qk_K g s) (hrm : fr' + 1 ≤ R.frames ∧ 8 + (mL + 11) + lo' ≤ R.locals) (hv : qN own idx y bytes mL) (hM : ∀ sz, qMk l g sz y bytes mL fr' lo' mc ms q e0 (wo q)) (hP : va_P g.1 classes wl H) (hD : va_D A wl) (hS : va_S A s.heap H locs) (hA : ∀ q, s.heap.size ≤ q → A q) (k : Nat) (isR : List Nat) (hC : [k].map (fun i => wl[i]?) = [(q, e0)].map some) (hRr : isR.map (fun i => wl[i]?) = wr.map some) (hn : va_nd isR = true) (hdis : ∀ i ∈ isR, i ∉ [k]) (hf : cells + mc ≤ R.cells ∧ slots + ms ≤ R.slots) (d : decode cc pc = .ok (.invokespecial idx, 3)) (hsz : ls.size = nL) (hrs : (rest.map fun v => v.category).sum ≤ 8)
    (kk : ∀ (u : List Nat) (H1 : Heap) (locs1 : List Loc), va_P g.1 classes (wr ++ wo q u) H1 → va_D A (wr ++ wo q u) → va_S A s.heap H1 locs1 → W p l e R s m args below meth c H1 locs1 (cells + mc) (slots + ms) Q (F0 m (pc + 3) ls rest)) : W p l e R s m args below meth c H locs cells slots Q (F0 m pc ls (.ref q :: rest)) := by
  obtain ⟨hlk, h1, h2, h4, h5, h6⟩ := hv
  have hF := va_free (wc := [(q, e0)]) hD hS hA [k] hC
  have hPc : va_P g.1 classes [(q, e0)] H := by
    refine hP.sub [k] ?_
    cases hz : wl[k]? with
    | none => rw [List.map_cons, hz] at hC; cases hC
    | some z =>
      rw [List.map_cons, hz] at hC
      have hz2 : z = (q, e0) := Option.some.inj (List.cons.inj hC).1
      rw [List.filterMap_cons, hz, hz2]
      rfl
  have hDc : va_D (fun _ => True) [(q, e0)] := ⟨fun i j x z hx hz _ => by
    have h1 := (List.getElem?_eq_some_iff.mp hx).1
    have h2 := (List.getElem?_eq_some_iff.mp hz).1
    simp only [List.length_cons, List.length_nil] at h1 h2
    omega, fun _ _ _ => trivial⟩
  have hp : PreS s H (va_Pc [.ref q] (fun U => U.heap.size = H.size ∧ va_P g.1 classes [(q, e0)] U.heap ∧ qk_K g U ∧ va_D (fun _ => True) [(q, e0)])) (.ref q :: []) := ⟨qk_pk, fun U hU hW => ⟨rfl, by rw [hU], by rw [hU]; exact hPc, qk_Kw hW hK, hDc⟩⟩
  have hgo : va_Run p l e R s m args below meth c H locs cells slots mc ms (F0 m pc ls (.ref q :: rest)) rest (va_Qv (S := List Nat) (fun _ => True) (fun u t => va_P g.1 classes (wo q u) t.heap ∧ va_D (va_A [(q, e0)] H.size) (wo q u)) (va_A [(q, e0)] H.size) (Value.ref q :: []).toArray) (va_A [(q, e0)] H.size) := by
    rcases hlk with hlk | ⟨host, hlk⟩
    · exact va_runI (As := []) ⟨hx, hb, hml, hown, hw⟩ (hM H.size) (cwI 0 hw (qk_gN h1) rfl rfl rfl (hw _ h4) (hw _ hlk) (hw _ h2) h5 h6 hrm) hp rfl rfl hsz rfl (lv_room hrs) d hf
    · exact va_runIN (As := []) ⟨hx, hb, hml, hown, hw⟩ (hM H.size) ⟨va_cnB 0 hw (qk_gN h1) rfl rfl rfl (hK.2.2.1 _ hlk) (hw _ h4) h6 hrm, h5, hw _ h2⟩ hp rfl rfl hsz rfl (lv_room hrs) d hf
  refine va_callv hgo hS (fun q _ h => hF q h) hF (fun u t H1 locs1 ht hvm hp2 hB hz hk hS1 => ?_)
  obtain ⟨hP1, hD1⟩ := hB
  rw [ht] at hP1
  obtain ⟨g1, g2⟩ := va_join hP hD [k] isR hC hRr hn hdis hk hF hP1 hD1
  exact kk u H1 locs1 g1 g2 hS1
theorem q_newa {atype : ArrayType} {ty : FieldType} (t : Nat) (ht : (qk_tys g)[t]? = some (g.2.1 t, ty)) (hra : ∀ cA, va_RA s cA ty = (s.vm.findClass ("[" ++ ty.toString) = some cA)) (hx : p.tables.exec = Jvm.exec) (hb : c.code = cc) (harr : (Cond.arrayClass (newarray.typeOf atype)).before args s = true) (hty : newarray.typeOf atype = ty) (hK : qk_K g s) (hP : va_P g.1 classes wl H) (hD : va_D A wl) (hS : va_S A s.heap H locs) (hA : ∀ q, s.heap.size ≤ q → A q)
    {n : Int32} {N' : Nat} (ha : ∀ cA : ClassId, vp_cell cA (N', .inl (fun _ => 0)) = arrV cA N' (fun _ => defaultValue ty)) (hn : ¬ n < 0) (hN : n.toNatClampNeg = N') (hbytes : N' * componentBytes ty ≤ 536870912) (hcells : cells + 1 ≤ R.cells) (hslots : slots + N' ≤ R.slots) (hdg : decode cc pc = .ok (.newarray atype, 2))
    (kk : ∀ (q : Nat) (H1 : Heap), va_P g.1 classes (wl ++ [(q, .inl (g.2.1 t, N', .inl (fun _ => 0)))]) H1 → va_D A (wl ++ [(q, .inl (g.2.1 t, N', .inl (fun _ => 0)))]) → va_S A s.heap H1 locs →
      W p l e R s m args below meth c H1 locs (cells + 1) (slots + N') Q (F0 m (pc + 2) ls (.ref q :: rest))) : W p l e R s m args below meth c H locs cells slots Q (F0 m pc ls (.int n :: rest)) := by
  refine va_newa hx hb harr hty hK.1 hP hD hS hA ha hn hN hbytes hcells hslots hdg (fun q cA H1 hK1 hP1 hD1 hS1 => ?_)
  have e1 := (hK1.2 3 _ rfl).2
  have e2 := (hK.1.2 t _ ht).2
  rw [hra] at e1 e2
  have e3 : cA = g.2.1 t := Option.some.inj (e1.symm.trans e2)
  subst e3
  exact kk q H1 hP1 hD1 hS1
end
theorem qk_gH {p : Program} {l : Launch} {e : Env} {R : Room} {s : State} {m : MethodId} {args : Array Value} {below : List Frame} {meth : Method} {c : Code} {cells slots : Nat} {Q : State → Prop} {f : JFrame} {A : Nat → Prop} {D : va_G} {cl : List vw_C} {ws : va_W} (hP : va_P D cl ws s.heap) (k : ∀ (H : Heap) (locs : List Loc) (Q' : State → Prop), Q' = Q → va_P D cl ws H → va_S A s.heap H locs → W p l e R s m args below meth c H locs cells slots Q' f) : W p l e R s m args below meth c s.heap [] cells slots Q f := k s.heap [] Q rfl hP va_S.rf
