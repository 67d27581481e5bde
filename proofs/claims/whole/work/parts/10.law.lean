/-! the law's own script: an array that no cell of the world is -/
def q_sx (L : Nat) (xs : Nat → Int32) (i : Int32) : Option Int32 := if ¬ (i < 0 ∨ L ≤ i.toNatClampNeg) then some (xs i.toNatClampNeg) else none
def qSc (X : qX) (sp L : Nat) (xs : Nat → Int32) : Prop := match X with
  | (_, _, _, _, s, _, _, _, _, _, _, g, A, _, _) => va_X (g.2.2 sp) L xs s s.heap ∧ g.2.2 sp < s.heap.size ∧ ¬ A (g.2.2 sp)
section
variable {X : qX} {cc : ByteArray} {own : String} {nL fr lo pc pc' sp L : Nat} {xs : Nat → Int32} {lv : List (Nat × qv)} {st : List qv} {w : qw} {α : Type} {res : α}
theorem s_slen (hC : qC X cc own nL fr lo) (hSc : qSc X sp L xs) (d : decode cc pc = .ok (.arraylength, 1)) (e : pc + 1 = pc') (k : qG X nL pc' lv (.inl (Int32.ofNat L) :: st) w) : qG X nL pc lv (.inr (some sp) :: st) w := by
  subst e
  obtain ⟨p, l, e, R, s, m, args, below, meth, c, Q, g, A, cells, slots⟩ := X
  obtain ⟨hx, hb, hml, hown, hw, hK, hA, hR, hZ⟩ := hC
  obtain ⟨h1, h2, h3⟩ := hSc
  intro ls H locs hl hP hD hS
  exact va_slen hx hb h1 h2 h3 hS d (k ls H locs hl hP hD hS)
theorem s_sld {i : Int32} {f : Int32 → Option α} (hC : qC X cc own nL fr lo) (hSc : qSc X sp L xs) (d : decode cc pc = .ok (.iaload, 1)) (e : pc + 1 = pc') (hF : q_b1 (q_sx L xs i) f = some res) (k : ∀ v, f v = some res → qG X nL pc' lv (.inl v :: st) w) : qG X nL pc lv (.inl i :: .inr (some sp) :: st) w := by
  subst e
  obtain ⟨v, h4, h5⟩ := q_b1_s hF
  unfold q_sx at h4
  split at h4
  · rename_i hin
    cases h4
    obtain ⟨p, l, e, R, s, m, args, below, meth, c, Q, g, A, cells, slots⟩ := X
    obtain ⟨hx, hb, hml, hown, hw, hK, hA, hR, hZ⟩ := hC
    obtain ⟨h1, h2, h3⟩ := hSc
    intro ls H locs hl hP hD hS
    exact va_sld hx hb h1 h2 h3 hS hin d (k _ h5 ls H locs hl hP hD hS)
  · cases h4
end
abbrev b_LA_law : ByteArray := code
theorem qs_LA_17 : qV R_LA 17 y_MO_type b_MO_type 2 (some .boolean) 1 1 := ⟨Or.inl ml_LA_17, ic_MO_type, ii_MO_type, is_MO_type, in_c_MO, ⟨_, _, rfl⟩, by decide +kernel⟩
theorem qs_LA_13 : qV R_LA 13 y_QP_type b_QP_type 2 (some .boolean) 1 0 := ⟨Or.inl ml_LA_13, ic_QP_type, ii_QP_type, is_QP_type, in_c_QP, ⟨_, _, rfl⟩, by decide +kernel⟩
theorem qs_LA_22 : qV R_LA 22 y_MO_formula b_MO_formula 5 (some .int) 0 1 := ⟨Or.inl ml_LA_22, ic_MO_formula, ii_MO_formula, is_MO_formula, in_c_MO, ⟨_, _, rfl⟩, by decide +kernel⟩
theorem qs_LA_18 : qV R_LA 18 y_QP_formula b_QP_formula 2 (some .int) 0 0 := ⟨Or.inl ml_LA_18, ic_QP_formula, ii_QP_formula, is_QP_formula, in_c_QP, ⟨_, _, rfl⟩, by decide +kernel⟩
theorem qs_LA_26 : qV R_LA 26 y_MO_trace b_MO_trace 5 (some .int) 0 1 := ⟨Or.inl ml_LA_26, ic_MO_trace, ii_MO_trace, is_MO_trace, in_c_MO, ⟨_, _, rfl⟩, by decide +kernel⟩
theorem qs_LA_23 : qV R_LA 23 y_QP_trace b_QP_trace 3 (some .int) 0 0 := ⟨Or.inl ml_LA_23, ic_QP_trace, ii_QP_trace, is_QP_trace, in_c_QP, ⟨_, _, rfl⟩, by decide +kernel⟩
theorem qs_LA_30 : qV R_LA 30 y_MO_variables b_MO_variables 1 (some .int) 0 1 := ⟨Or.inl ml_LA_30, ic_MO_variables, ii_MO_variables, is_MO_variables, in_c_MO, ⟨_, _, rfl⟩, by decide +kernel⟩
theorem qs_LA_27 : qV R_LA 27 y_QP_variables b_QP_variables 1 (some .int) 0 0 := ⟨Or.inl ml_LA_27, ic_QP_variables, ii_QP_variables, is_QP_variables, in_c_QP, ⟨_, _, rfl⟩, by decide +kernel⟩
theorem qs_LA_35 : qV R_LA 35 y_MO_variable b_MO_variable 2 (some .int) 1 1 := ⟨Or.inl ml_LA_35, ic_MO_variable, ii_MO_variable, is_MO_variable, in_c_MO, ⟨_, _, rfl⟩, by decide +kernel⟩
theorem qs_LA_31 : qV R_LA 31 y_QP_variable b_QP_variable 3 (some .int) 1 0 := ⟨Or.inl ml_LA_31, ic_QP_variable, ii_QP_variable, is_QP_variable, in_c_QP, ⟨_, _, rfl⟩, by decide +kernel⟩
theorem qs_LA_39 : qV R_LA 39 y_MO_clauses b_MO_clauses 1 (some .int) 0 1 := ⟨Or.inl ml_LA_39, ic_MO_clauses, ii_MO_clauses, is_MO_clauses, in_c_MO, ⟨_, _, rfl⟩, by decide +kernel⟩
theorem qs_LA_36 : qV R_LA 36 y_QP_clauses b_QP_clauses 1 (some .int) 0 0 := ⟨Or.inl ml_LA_36, ic_QP_clauses, ii_QP_clauses, is_QP_clauses, in_c_QP, ⟨_, _, rfl⟩, by decide +kernel⟩
theorem qs_LA_43 : qV R_LA 43 y_MO_clause b_MO_clause 2 (some .int) 1 1 := ⟨Or.inl ml_LA_43, ic_MO_clause, ii_MO_clause, is_MO_clause, in_c_MO, ⟨_, _, rfl⟩, by decide +kernel⟩
theorem qs_LA_40 : qV R_LA 40 y_QP_clause b_QP_clause 2 (some .int) 1 0 := ⟨Or.inl ml_LA_40, ic_QP_clause, ii_QP_clause, is_QP_clause, in_c_QP, ⟨_, _, rfl⟩, by decide +kernel⟩
theorem qs_LA_47 : qV R_LA 47 y_MO_steps b_MO_steps 1 (some .int) 0 1 := ⟨Or.inl ml_LA_47, ic_MO_steps, ii_MO_steps, is_MO_steps, in_c_MO, ⟨_, _, rfl⟩, by decide +kernel⟩
theorem qs_LA_44 : qV R_LA 44 y_QP_steps b_QP_steps 1 (some .int) 0 0 := ⟨Or.inl ml_LA_44, ic_QP_steps, ii_QP_steps, is_QP_steps, in_c_QP, ⟨_, _, rfl⟩, by decide +kernel⟩
theorem qs_LA_51 : qV R_LA 51 y_MO_step b_MO_step 2 (some .int) 1 1 := ⟨Or.inl ml_LA_51, ic_MO_step, ii_MO_step, is_MO_step, in_c_MO, ⟨_, _, rfl⟩, by decide +kernel⟩
theorem qs_LA_48 : qV R_LA 48 y_QP_step b_QP_step 2 (some .int) 1 0 := ⟨Or.inl ml_LA_48, ic_QP_step, ii_QP_step, is_QP_step, in_c_QP, ⟨_, _, rfl⟩, by decide +kernel⟩
theorem qs_LA_55 : qV R_LA 55 y_MO_rests b_MO_rests 2 (some .int) 1 1 := ⟨Or.inl ml_LA_55, ic_MO_rests, ii_MO_rests, is_MO_rests, in_c_MO, ⟨_, _, rfl⟩, by decide +kernel⟩
theorem qs_LA_52 : qV R_LA 52 y_QP_rests b_QP_rests 2 (some .int) 1 0 := ⟨Or.inl ml_LA_52, ic_QP_rests, ii_QP_rests, is_QP_rests, in_c_QP, ⟨_, _, rfl⟩, by decide +kernel⟩
theorem qs_LA_59 : qV R_LA 59 y_MO_empty b_MO_empty 2 (some .int) 0 1 := ⟨Or.inl ml_LA_59, ic_MO_empty, ii_MO_empty, is_MO_empty, in_c_MO, ⟨_, _, rfl⟩, by decide +kernel⟩
theorem qs_LA_56 : qV R_LA 56 y_QP_empty b_QP_empty 2 (some .int) 0 0 := ⟨Or.inl ml_LA_56, ic_QP_empty, ii_QP_empty, is_QP_empty, in_c_QP, ⟨_, _, rfl⟩, by decide +kernel⟩
theorem qs_LA_64 : qV R_LA 64 y_MO_won b_MO_won 3 (some .boolean) 2 1 := ⟨Or.inl ml_LA_64, ic_MO_won, ii_MO_won, is_MO_won, in_c_MO, ⟨_, _, rfl⟩, by decide +kernel⟩
theorem qs_LA_60 : qV R_LA 60 y_QP_won b_QP_won 3 (some .boolean) 2 0 := ⟨Or.inl ml_LA_60, ic_QP_won, ii_QP_won, is_QP_won, in_c_QP, ⟨_, _, rfl⟩, by decide +kernel⟩
theorem qs_LA_68 : qV R_LA 68 y_MO_play b_MO_play 5 (some .int) 1 1 := ⟨Or.inl ml_LA_68, ic_MO_play, ii_MO_play, is_MO_play, in_c_MO, ⟨_, _, rfl⟩, by decide +kernel⟩
theorem qs_LA_65 : qV R_LA 65 y_QP_play b_QP_play 6 (some .int) 1 0 := ⟨Or.inl ml_LA_65, ic_QP_play, ii_QP_play, is_QP_play, in_c_QP, ⟨_, _, rfl⟩, by decide +kernel⟩
def lb_LA_law_18 (L : Nat) (xs : Nat → Int32)  (c18 : Nat → Nat → Int32 → qw → Option (Int32 × qw)) (a1 : Nat) (a2 : Nat) (x3 : Int32) (w : qw) : Option (Int32 × qw) :=
  if ((Int32.ofNat L) - 3) < x3 then
    q_ob (q_z 1) (some (1, w))
  else
    q_b1 (q_sx L xs x3) fun v1 =>
    if (v1 &&& 15) = 0 then
      q_b1 (q_sx L xs (x3 + 1)) fun v2 =>
      q_ob (q_is w a1 0) <| q_b2 (f_QP_type w a1 ((v2.toUInt32 % 65536).toInt32)) fun v4 w3 =>
      q_b1 (q_sx L xs (x3 + 1)) fun v5 =>
      q_ob (q_is w3 a2 1) <| q_b2 (f_MO_type w3 a2 ((v5.toUInt32 % 65536).toInt32)) fun v7 w6 =>
      if v4 = v7 then
        c18 a1 a2 (x3 + 3) w6
      else
        q_ob (q_z 0) (some (0, w6))
    else if (v1 &&& 15) = 1 then
      q_ob (q_is w a1 0) <| q_b2 (f_QP_formula w a1) fun v10 w9 =>
      q_ob (q_is w9 a2 1) <| q_b2 (f_MO_formula w9 a2) fun v12 w11 =>
      if v10 = v12 then
        c18 a1 a2 (x3 + 3) w11
      else
        q_ob (q_z 0) (some (0, w11))
    else if (v1 &&& 15) = 2 then
      q_ob (q_is w a1 0) <| q_b2 (f_QP_trace w a1) fun v15 w14 =>
      q_ob (q_is w14 a2 1) <| q_b2 (f_MO_trace w14 a2) fun v17 w16 =>
      if v15 = v17 then
        c18 a1 a2 (x3 + 3) w16
      else
        q_ob (q_z 0) (some (0, w16))
    else if (v1 &&& 15) = 3 then
      q_ob (q_is w a1 0) <| q_b2 (f_QP_variables w a1) fun v20 w19 =>
      q_ob (q_is w19 a2 1) <| q_b2 (f_MO_variables w19 a2) fun v22 w21 =>
      if v20 = v22 then
        c18 a1 a2 (x3 + 3) w21
      else
        q_ob (q_z 0) (some (0, w21))
    else if (v1 &&& 15) = 4 then
      q_b1 (q_sx L xs (x3 + 1)) fun v24 =>
      q_ob (q_is w a1 0) <| q_b2 (f_QP_variable w a1 v24) fun v26 w25 =>
      q_b1 (q_sx L xs (x3 + 1)) fun v27 =>
      q_ob (q_is w25 a2 1) <| q_b2 (f_MO_variable w25 a2 v27) fun v29 w28 =>
      if v26 = v29 then
        c18 a1 a2 (x3 + 3) w28
      else
        q_ob (q_z 0) (some (0, w28))
    else if (v1 &&& 15) = 5 then
      q_ob (q_is w a1 0) <| q_b2 (f_QP_clauses w a1) fun v32 w31 =>
      q_ob (q_is w31 a2 1) <| q_b2 (f_MO_clauses w31 a2) fun v34 w33 =>
      if v32 = v34 then
        c18 a1 a2 (x3 + 3) w33
      else
        q_ob (q_z 0) (some (0, w33))
    else if (v1 &&& 15) = 6 then
      q_b1 (q_sx L xs (x3 + 1)) fun v36 =>
      q_ob (q_is w a1 0) <| q_b2 (f_QP_clause w a1 v36) fun v38 w37 =>
      q_b1 (q_sx L xs (x3 + 1)) fun v39 =>
      q_ob (q_is w37 a2 1) <| q_b2 (f_MO_clause w37 a2 v39) fun v41 w40 =>
      if v38 = v41 then
        c18 a1 a2 (x3 + 3) w40
      else
        q_ob (q_z 0) (some (0, w40))
    else if (v1 &&& 15) = 7 then
      q_ob (q_is w a1 0) <| q_b2 (f_QP_steps w a1) fun v44 w43 =>
      q_ob (q_is w43 a2 1) <| q_b2 (f_MO_steps w43 a2) fun v46 w45 =>
      if v44 = v46 then
        c18 a1 a2 (x3 + 3) w45
      else
        q_ob (q_z 0) (some (0, w45))
    else if (v1 &&& 15) = 8 then
      q_b1 (q_sx L xs (x3 + 1)) fun v48 =>
      q_ob (q_is w a1 0) <| q_b2 (f_QP_step w a1 v48) fun v50 w49 =>
      q_b1 (q_sx L xs (x3 + 1)) fun v51 =>
      q_ob (q_is w49 a2 1) <| q_b2 (f_MO_step w49 a2 v51) fun v53 w52 =>
      if v50 = v53 then
        c18 a1 a2 (x3 + 3) w52
      else
        q_ob (q_z 0) (some (0, w52))
    else if (v1 &&& 15) = 9 then
      q_b1 (q_sx L xs (x3 + 1)) fun v55 =>
      q_ob (q_is w a1 0) <| q_b2 (f_QP_rests w a1 v55) fun v57 w56 =>
      q_b1 (q_sx L xs (x3 + 1)) fun v58 =>
      q_ob (q_is w56 a2 1) <| q_b2 (f_MO_rests w56 a2 v58) fun v60 w59 =>
      if v57 = v60 then
        c18 a1 a2 (x3 + 3) w59
      else
        q_ob (q_z 0) (some (0, w59))
    else if (v1 &&& 15) = 10 then
      q_ob (q_is w a1 0) <| q_b2 (f_QP_empty w a1) fun v63 w62 =>
      q_ob (q_is w62 a2 1) <| q_b2 (f_MO_empty w62 a2) fun v65 w64 =>
      if v63 = v65 then
        c18 a1 a2 (x3 + 3) w64
      else
        q_ob (q_z 0) (some (0, w64))
    else if (v1 &&& 15) = 11 then
      q_b1 (q_sx L xs (x3 + 1)) fun v67 =>
      q_b1 (q_sx L xs (x3 + 2)) fun v68 =>
      q_ob (q_is w a1 0) <| q_b2 (f_QP_won w a1 v67 v68) fun v70 w69 =>
      q_b1 (q_sx L xs (x3 + 1)) fun v71 =>
      q_b1 (q_sx L xs (x3 + 2)) fun v72 =>
      q_ob (q_is w69 a2 1) <| q_b2 (f_MO_won w69 a2 v71 v72) fun v74 w73 =>
      if v70 = v74 then
        c18 a1 a2 (x3 + 3) w73
      else
        q_ob (q_z 0) (some (0, w73))
    else if (v1 &&& 15) = 12 then
      q_b1 (q_sx L xs (x3 + 1)) fun v76 =>
      q_ob (q_is w a1 0) <| q_b2 (f_QP_play w a1 v76) fun v78 w77 =>
      q_b1 (q_sx L xs (x3 + 1)) fun v79 =>
      q_ob (q_is w77 a2 1) <| q_b2 (f_MO_play w77 a2 v79) fun v81 w80 =>
      if v78 = v81 then
        c18 a1 a2 (x3 + 3) w80
      else
        q_ob (q_z 0) (some (0, w80))
    else 
      c18 a1 a2 (x3 + 3) w
def ll_LA_law_18 (L : Nat) (xs : Nat → Int32)  : Nat → Nat → Nat → Int32 → qw → Option (Int32 × qw)
  | 0 => fun _ _ _ _ => none
  | n + 1 => lb_LA_law_18 L xs  (ll_LA_law_18 L xs  n)
def f_LA_law (L : Nat) (xs : Nat → Int32) (w : qw) (a1 : Nat) (a2 : Nat) (x3 : Int32) : Option (Int32 × qw) :=
  ll_LA_law_18 L xs q_fu a1 a2 x3 w
set_option maxHeartbeats 4000000 in
set_option maxRecDepth 100000 in
theorem k_LA_law (L : Nat) (xs : Nat → Int32) (a0 : Nat) (a1 : Nat) (a2 : Nat) (x3 : Int32) {X : qX} (r : Int32) (w' : qw) (hC : qC X b_LA_law R_LA 4 16 396) (hSc : qSc X a0 L xs) (hR : qRz X b_LA_law r w') (w : qw)  (hF : f_LA_law L xs w a1 a2 x3 = some (r, w')) : qG X 4 18 [(0, .inr (some a0)), (1, .inr (some a1)), (2, .inr (some a2)), (3, .inl x3)] [] w := by
  have L_18 : ∀ (n : Nat) (a1 : Nat) (a2 : Nat) (x3 : Int32) (w : qw), ll_LA_law_18 L xs  n a1 a2 x3 w = some (r, w') → qG X 4 18 [(0, .inr (some a0)), (1, .inr (some a1)), (2, .inr (some a2)), (3, .inl x3)] [] w := by
    intro n_18
    induction n_18 with
    | zero => exact fun _ _ _ _ hF => q_nn (show (none : Option (Int32 × qw)) = some (r, w') from hF)
    | succ n_18 ih_18 =>
      intro a1 a2 x3 w hF
      have hF : lb_LA_law_18 L xs  (ll_LA_law_18 L xs  n_18) a1 a2 x3 w = some (r, w') := hF
      unfold lb_LA_law_18 at hF
      refine s_iload_n (pc' := 19) hC d_LA_law_18 rfl 3 rfl ?_
      refine s_aload_n (pc' := 20) hC d_LA_law_19 rfl 0 rfl ?_
      refine s_slen (pc' := 21) hC hSc d_LA_law_20 rfl ?_
      refine s_iconst (v := 3) (pc' := 22) hC d_LA_law_21 rfl (by decide) ?_
      refine s_isub (pc' := 23) hC d_LA_law_22 rfl ?_
      refine s_icmp_gt (tgt := 357) (pc' := 26) hC d_LA_law_23 rfl rfl hF (fun hF => ?_) (fun hF => ?_)
      · refine s_iconst (v := 1) (pc' := 358) hC d_LA_law_357 rfl (by decide) ?_
        exact s_zret hC hR d_LA_law_358 hF
      · refine s_aload_n (pc' := 27) hC d_LA_law_26 rfl 0 rfl ?_
        refine s_iload_n (pc' := 28) hC d_LA_law_27 rfl 3 rfl ?_
        refine s_sld (pc' := 29) hC hSc d_LA_law_28 rfl hF (fun v1 hF => ?_)
        refine s_bipush (v := 15) (pc' := 31) hC d_LA_law_29 rfl (by decide) ?_
        refine s_iand (pc' := 32) hC d_LA_law_31 rfl ?_
        refine q_sw hF (fun hx hF => ?_) (fun hx8 hF => ?_)
        · refine s_tab (tgt := 100) (off := 68) hC d_LA_law_32 hx (by decide) (by decide) rfl rfl ?_
          refine s_aload_n (pc' := 101) hC d_LA_law_100 rfl 1 rfl ?_
          refine s_aload_n (pc' := 102) hC d_LA_law_101 rfl 0 rfl ?_
          refine s_iload_n (pc' := 103) hC d_LA_law_102 rfl 3 rfl ?_
          refine s_iconst (v := 1) (pc' := 104) hC d_LA_law_103 rfl (by decide) ?_
          refine s_iadd (pc' := 105) hC d_LA_law_104 rfl ?_
          refine s_sld (pc' := 106) hC hSc d_LA_law_105 rfl hF (fun v2 hF => ?_)
          refine s_i2c (pc' := 107) hC d_LA_law_106 rfl ?_
          refine s_cVi (pc' := 110) (As := [.inl ((v2.toUInt32 % 65536).toInt32)]) (rs := []) (a := a1) (fr' := 1) (lo' := 21) hC qs_LA_13 rfl rfl (Nat.le_of_ble_eq_true rfl) ⟨by decide, by decide⟩ d_LA_law_107 rfl (fun l g sz r w' h => c_QP_type l g sz w a1 ((v2.toUInt32 % 65536).toInt32) r w' h) hF (fun v4 w3 hF => ?_)
          refine s_aload_n (pc' := 111) hC d_LA_law_110 rfl 2 rfl ?_
          refine s_aload_n (pc' := 112) hC d_LA_law_111 rfl 0 rfl ?_
          refine s_iload_n (pc' := 113) hC d_LA_law_112 rfl 3 rfl ?_
          refine s_iconst (v := 1) (pc' := 114) hC d_LA_law_113 rfl (by decide) ?_
          refine s_iadd (pc' := 115) hC d_LA_law_114 rfl ?_
          refine s_sld (pc' := 116) hC hSc d_LA_law_115 rfl hF (fun v5 hF => ?_)
          refine s_i2c (pc' := 117) hC d_LA_law_116 rfl ?_
          refine s_cVi (pc' := 120) (As := [.inl ((v5.toUInt32 % 65536).toInt32)]) (rs := [.inl v4]) (a := a2) (fr' := 0) (lo' := 0) hC qs_LA_17 rfl rfl (Nat.le_of_ble_eq_true rfl) ⟨by decide, by decide⟩ d_LA_law_117 rfl (fun l g sz r w' h => c_MO_type l g sz w3 a2 ((v5.toUInt32 % 65536).toInt32) r w' h) hF (fun v7 w6 hF => ?_)
          refine s_icmp_eq (tgt := 351) (pc' := 123) hC d_LA_law_120 rfl rfl hF (fun hF => ?_) (fun hF => ?_)
          · refine s_iinc (pc' := 354) (n' := 3) (lv' := [(3, .inl (x3 + 3)), (0, .inr (some a0)), (1, .inr (some a1)), (2, .inr (some a2))]) hC d_LA_law_351 rfl 3 rfl (by decide) (by decide) rfl ?_
            refine s_goto (tgt := 18) hC d_LA_law_354 rfl ?_
            exact qG_sub [1, 2, 3, 0] rfl (ih_18 a1 a2 (x3 + 3) w6 hF)
          · refine s_iconst (v := 0) (pc' := 124) hC d_LA_law_123 rfl (by decide) ?_
            exact s_zret hC hR d_LA_law_124 hF
        refine q_sw hF (fun hx hF => ?_) (fun hx13 hF => ?_)
        · refine s_tab (tgt := 125) (off := 93) hC d_LA_law_32 hx (by decide) (by decide) rfl rfl ?_
          refine s_aload_n (pc' := 126) hC d_LA_law_125 rfl 1 rfl ?_
          refine s_cVi (pc' := 129) (As := []) (rs := []) (a := a1) (fr' := 6) (lo' := 135) hC qs_LA_18 rfl rfl (Nat.le_of_ble_eq_true rfl) ⟨by decide, by decide⟩ d_LA_law_126 rfl (fun l g sz r w' h => c_QP_formula l g sz w a1 r w' h) hF (fun v10 w9 hF => ?_)
          refine s_aload_n (pc' := 130) hC d_LA_law_129 rfl 2 rfl ?_
          refine s_cVi (pc' := 133) (As := []) (rs := [.inl v10]) (a := a2) (fr' := 2) (lo' := 42) hC qs_LA_22 rfl rfl (Nat.le_of_ble_eq_true rfl) ⟨by decide, by decide⟩ d_LA_law_130 rfl (fun l g sz r w' h => c_MO_formula l g sz w9 a2 r w' h) hF (fun v12 w11 hF => ?_)
          refine s_icmp_eq (tgt := 351) (pc' := 136) hC d_LA_law_133 rfl rfl hF (fun hF => ?_) (fun hF => ?_)
          · refine s_iinc (pc' := 354) (n' := 3) (lv' := [(3, .inl (x3 + 3)), (0, .inr (some a0)), (1, .inr (some a1)), (2, .inr (some a2))]) hC d_LA_law_351 rfl 3 rfl (by decide) (by decide) rfl ?_
            refine s_goto (tgt := 18) hC d_LA_law_354 rfl ?_
            exact qG_sub [1, 2, 3, 0] rfl (ih_18 a1 a2 (x3 + 3) w11 hF)
          · refine s_iconst (v := 0) (pc' := 137) hC d_LA_law_136 rfl (by decide) ?_
            exact s_zret hC hR d_LA_law_137 hF
        refine q_sw hF (fun hx hF => ?_) (fun hx18 hF => ?_)
        · refine s_tab (tgt := 138) (off := 106) hC d_LA_law_32 hx (by decide) (by decide) rfl rfl ?_
          refine s_aload_n (pc' := 139) hC d_LA_law_138 rfl 1 rfl ?_
          refine s_cVi (pc' := 142) (As := []) (rs := []) (a := a1) (fr' := 6) (lo' := 135) hC qs_LA_23 rfl rfl (Nat.le_of_ble_eq_true rfl) ⟨by decide, by decide⟩ d_LA_law_139 rfl (fun l g sz r w' h => c_QP_trace l g sz w a1 r w' h) hF (fun v15 w14 hF => ?_)
          refine s_aload_n (pc' := 143) hC d_LA_law_142 rfl 2 rfl ?_
          refine s_cVi (pc' := 146) (As := []) (rs := [.inl v15]) (a := a2) (fr' := 5) (lo' := 111) hC qs_LA_26 rfl rfl (Nat.le_of_ble_eq_true rfl) ⟨by decide, by decide⟩ d_LA_law_143 rfl (fun l g sz r w' h => c_MO_trace l g sz w14 a2 r w' h) hF (fun v17 w16 hF => ?_)
          refine s_icmp_eq (tgt := 351) (pc' := 149) hC d_LA_law_146 rfl rfl hF (fun hF => ?_) (fun hF => ?_)
          · refine s_iinc (pc' := 354) (n' := 3) (lv' := [(3, .inl (x3 + 3)), (0, .inr (some a0)), (1, .inr (some a1)), (2, .inr (some a2))]) hC d_LA_law_351 rfl 3 rfl (by decide) (by decide) rfl ?_
            refine s_goto (tgt := 18) hC d_LA_law_354 rfl ?_
            exact qG_sub [1, 2, 3, 0] rfl (ih_18 a1 a2 (x3 + 3) w16 hF)
          · refine s_iconst (v := 0) (pc' := 150) hC d_LA_law_149 rfl (by decide) ?_
            exact s_zret hC hR d_LA_law_150 hF
        refine q_sw hF (fun hx hF => ?_) (fun hx23 hF => ?_)
        · refine s_tab (tgt := 151) (off := 119) hC d_LA_law_32 hx (by decide) (by decide) rfl rfl ?_
          refine s_aload_n (pc' := 152) hC d_LA_law_151 rfl 1 rfl ?_
          refine s_cVi (pc' := 155) (As := []) (rs := []) (a := a1) (fr' := 0) (lo' := 0) hC qs_LA_27 rfl rfl (Nat.le_of_ble_eq_true rfl) ⟨by decide, by decide⟩ d_LA_law_152 rfl (fun l g sz r w' h => c_QP_variables l g sz w a1 r w' h) hF (fun v20 w19 hF => ?_)
          refine s_aload_n (pc' := 156) hC d_LA_law_155 rfl 2 rfl ?_
          refine s_cVi (pc' := 159) (As := []) (rs := [.inl v20]) (a := a2) (fr' := 0) (lo' := 0) hC qs_LA_30 rfl rfl (Nat.le_of_ble_eq_true rfl) ⟨by decide, by decide⟩ d_LA_law_156 rfl (fun l g sz r w' h => c_MO_variables l g sz w19 a2 r w' h) hF (fun v22 w21 hF => ?_)
          refine s_icmp_eq (tgt := 351) (pc' := 162) hC d_LA_law_159 rfl rfl hF (fun hF => ?_) (fun hF => ?_)
          · refine s_iinc (pc' := 354) (n' := 3) (lv' := [(3, .inl (x3 + 3)), (0, .inr (some a0)), (1, .inr (some a1)), (2, .inr (some a2))]) hC d_LA_law_351 rfl 3 rfl (by decide) (by decide) rfl ?_
            refine s_goto (tgt := 18) hC d_LA_law_354 rfl ?_
            exact qG_sub [1, 2, 3, 0] rfl (ih_18 a1 a2 (x3 + 3) w21 hF)
          · refine s_iconst (v := 0) (pc' := 163) hC d_LA_law_162 rfl (by decide) ?_
            exact s_zret hC hR d_LA_law_163 hF
        refine q_sw hF (fun hx hF => ?_) (fun hx30 hF => ?_)
        · refine s_tab (tgt := 164) (off := 132) hC d_LA_law_32 hx (by decide) (by decide) rfl rfl ?_
          refine s_aload_n (pc' := 165) hC d_LA_law_164 rfl 1 rfl ?_
          refine s_aload_n (pc' := 166) hC d_LA_law_165 rfl 0 rfl ?_
          refine s_iload_n (pc' := 167) hC d_LA_law_166 rfl 3 rfl ?_
          refine s_iconst (v := 1) (pc' := 168) hC d_LA_law_167 rfl (by decide) ?_
          refine s_iadd (pc' := 169) hC d_LA_law_168 rfl ?_
          refine s_sld (pc' := 170) hC hSc d_LA_law_169 rfl hF (fun v24 hF => ?_)
          refine s_cVi (pc' := 173) (As := [.inl v24]) (rs := []) (a := a1) (fr' := 2) (lo' := 41) hC qs_LA_31 rfl rfl (Nat.le_of_ble_eq_true rfl) ⟨by decide, by decide⟩ d_LA_law_170 rfl (fun l g sz r w' h => c_QP_variable l g sz w a1 v24 r w' h) hF (fun v26 w25 hF => ?_)
          refine s_aload_n (pc' := 174) hC d_LA_law_173 rfl 2 rfl ?_
          refine s_aload_n (pc' := 175) hC d_LA_law_174 rfl 0 rfl ?_
          refine s_iload_n (pc' := 176) hC d_LA_law_175 rfl 3 rfl ?_
          refine s_iconst (v := 1) (pc' := 177) hC d_LA_law_176 rfl (by decide) ?_
          refine s_iadd (pc' := 178) hC d_LA_law_177 rfl ?_
          refine s_sld (pc' := 179) hC hSc d_LA_law_178 rfl hF (fun v27 hF => ?_)
          refine s_cVi (pc' := 182) (As := [.inl v27]) (rs := [.inl v26]) (a := a2) (fr' := 0) (lo' := 0) hC qs_LA_35 rfl rfl (Nat.le_of_ble_eq_true rfl) ⟨by decide, by decide⟩ d_LA_law_179 rfl (fun l g sz r w' h => c_MO_variable l g sz w25 a2 v27 r w' h) hF (fun v29 w28 hF => ?_)
          refine s_icmp_eq (tgt := 351) (pc' := 185) hC d_LA_law_182 rfl rfl hF (fun hF => ?_) (fun hF => ?_)
          · refine s_iinc (pc' := 354) (n' := 3) (lv' := [(3, .inl (x3 + 3)), (0, .inr (some a0)), (1, .inr (some a1)), (2, .inr (some a2))]) hC d_LA_law_351 rfl 3 rfl (by decide) (by decide) rfl ?_
            refine s_goto (tgt := 18) hC d_LA_law_354 rfl ?_
            exact qG_sub [1, 2, 3, 0] rfl (ih_18 a1 a2 (x3 + 3) w28 hF)
          · refine s_iconst (v := 0) (pc' := 186) hC d_LA_law_185 rfl (by decide) ?_
            exact s_zret hC hR d_LA_law_186 hF
        refine q_sw hF (fun hx hF => ?_) (fun hx35 hF => ?_)
        · refine s_tab (tgt := 187) (off := 155) hC d_LA_law_32 hx (by decide) (by decide) rfl rfl ?_
          refine s_aload_n (pc' := 188) hC d_LA_law_187 rfl 1 rfl ?_
          refine s_cVi (pc' := 191) (As := []) (rs := []) (a := a1) (fr' := 0) (lo' := 0) hC qs_LA_36 rfl rfl (Nat.le_of_ble_eq_true rfl) ⟨by decide, by decide⟩ d_LA_law_188 rfl (fun l g sz r w' h => c_QP_clauses l g sz w a1 r w' h) hF (fun v32 w31 hF => ?_)
          refine s_aload_n (pc' := 192) hC d_LA_law_191 rfl 2 rfl ?_
          refine s_cVi (pc' := 195) (As := []) (rs := [.inl v32]) (a := a2) (fr' := 0) (lo' := 0) hC qs_LA_39 rfl rfl (Nat.le_of_ble_eq_true rfl) ⟨by decide, by decide⟩ d_LA_law_192 rfl (fun l g sz r w' h => c_MO_clauses l g sz w31 a2 r w' h) hF (fun v34 w33 hF => ?_)
          refine s_icmp_eq (tgt := 351) (pc' := 198) hC d_LA_law_195 rfl rfl hF (fun hF => ?_) (fun hF => ?_)
          · refine s_iinc (pc' := 354) (n' := 3) (lv' := [(3, .inl (x3 + 3)), (0, .inr (some a0)), (1, .inr (some a1)), (2, .inr (some a2))]) hC d_LA_law_351 rfl 3 rfl (by decide) (by decide) rfl ?_
            refine s_goto (tgt := 18) hC d_LA_law_354 rfl ?_
            exact qG_sub [1, 2, 3, 0] rfl (ih_18 a1 a2 (x3 + 3) w33 hF)
          · refine s_iconst (v := 0) (pc' := 199) hC d_LA_law_198 rfl (by decide) ?_
            exact s_zret hC hR d_LA_law_199 hF
        refine q_sw hF (fun hx hF => ?_) (fun hx42 hF => ?_)
        · refine s_tab (tgt := 200) (off := 168) hC d_LA_law_32 hx (by decide) (by decide) rfl rfl ?_
          refine s_aload_n (pc' := 201) hC d_LA_law_200 rfl 1 rfl ?_
          refine s_aload_n (pc' := 202) hC d_LA_law_201 rfl 0 rfl ?_
          refine s_iload_n (pc' := 203) hC d_LA_law_202 rfl 3 rfl ?_
          refine s_iconst (v := 1) (pc' := 204) hC d_LA_law_203 rfl (by decide) ?_
          refine s_iadd (pc' := 205) hC d_LA_law_204 rfl ?_
          refine s_sld (pc' := 206) hC hSc d_LA_law_205 rfl hF (fun v36 hF => ?_)
          refine s_cVi (pc' := 209) (As := [.inl v36]) (rs := []) (a := a1) (fr' := 0) (lo' := 0) hC qs_LA_40 rfl rfl (Nat.le_of_ble_eq_true rfl) ⟨by decide, by decide⟩ d_LA_law_206 rfl (fun l g sz r w' h => c_QP_clause l g sz w a1 v36 r w' h) hF (fun v38 w37 hF => ?_)
          refine s_aload_n (pc' := 210) hC d_LA_law_209 rfl 2 rfl ?_
          refine s_aload_n (pc' := 211) hC d_LA_law_210 rfl 0 rfl ?_
          refine s_iload_n (pc' := 212) hC d_LA_law_211 rfl 3 rfl ?_
          refine s_iconst (v := 1) (pc' := 213) hC d_LA_law_212 rfl (by decide) ?_
          refine s_iadd (pc' := 214) hC d_LA_law_213 rfl ?_
          refine s_sld (pc' := 215) hC hSc d_LA_law_214 rfl hF (fun v39 hF => ?_)
          refine s_cVi (pc' := 218) (As := [.inl v39]) (rs := [.inl v38]) (a := a2) (fr' := 0) (lo' := 0) hC qs_LA_43 rfl rfl (Nat.le_of_ble_eq_true rfl) ⟨by decide, by decide⟩ d_LA_law_215 rfl (fun l g sz r w' h => c_MO_clause l g sz w37 a2 v39 r w' h) hF (fun v41 w40 hF => ?_)
          refine s_icmp_eq (tgt := 351) (pc' := 221) hC d_LA_law_218 rfl rfl hF (fun hF => ?_) (fun hF => ?_)
          · refine s_iinc (pc' := 354) (n' := 3) (lv' := [(3, .inl (x3 + 3)), (0, .inr (some a0)), (1, .inr (some a1)), (2, .inr (some a2))]) hC d_LA_law_351 rfl 3 rfl (by decide) (by decide) rfl ?_
            refine s_goto (tgt := 18) hC d_LA_law_354 rfl ?_
            exact qG_sub [1, 2, 3, 0] rfl (ih_18 a1 a2 (x3 + 3) w40 hF)
          · refine s_iconst (v := 0) (pc' := 222) hC d_LA_law_221 rfl (by decide) ?_
            exact s_zret hC hR d_LA_law_222 hF
        refine q_sw hF (fun hx hF => ?_) (fun hx47 hF => ?_)
        · refine s_tab (tgt := 223) (off := 191) hC d_LA_law_32 hx (by decide) (by decide) rfl rfl ?_
          refine s_aload_n (pc' := 224) hC d_LA_law_223 rfl 1 rfl ?_
          refine s_cVi (pc' := 227) (As := []) (rs := []) (a := a1) (fr' := 0) (lo' := 0) hC qs_LA_44 rfl rfl (Nat.le_of_ble_eq_true rfl) ⟨by decide, by decide⟩ d_LA_law_224 rfl (fun l g sz r w' h => c_QP_steps l g sz w a1 r w' h) hF (fun v44 w43 hF => ?_)
          refine s_aload_n (pc' := 228) hC d_LA_law_227 rfl 2 rfl ?_
          refine s_cVi (pc' := 231) (As := []) (rs := [.inl v44]) (a := a2) (fr' := 0) (lo' := 0) hC qs_LA_47 rfl rfl (Nat.le_of_ble_eq_true rfl) ⟨by decide, by decide⟩ d_LA_law_228 rfl (fun l g sz r w' h => c_MO_steps l g sz w43 a2 r w' h) hF (fun v46 w45 hF => ?_)
          refine s_icmp_eq (tgt := 351) (pc' := 234) hC d_LA_law_231 rfl rfl hF (fun hF => ?_) (fun hF => ?_)
          · refine s_iinc (pc' := 354) (n' := 3) (lv' := [(3, .inl (x3 + 3)), (0, .inr (some a0)), (1, .inr (some a1)), (2, .inr (some a2))]) hC d_LA_law_351 rfl 3 rfl (by decide) (by decide) rfl ?_
            refine s_goto (tgt := 18) hC d_LA_law_354 rfl ?_
            exact qG_sub [1, 2, 3, 0] rfl (ih_18 a1 a2 (x3 + 3) w45 hF)
          · refine s_iconst (v := 0) (pc' := 235) hC d_LA_law_234 rfl (by decide) ?_
            exact s_zret hC hR d_LA_law_235 hF
        refine q_sw hF (fun hx hF => ?_) (fun hx54 hF => ?_)
        · refine s_tab (tgt := 236) (off := 204) hC d_LA_law_32 hx (by decide) (by decide) rfl rfl ?_
          refine s_aload_n (pc' := 237) hC d_LA_law_236 rfl 1 rfl ?_
          refine s_aload_n (pc' := 238) hC d_LA_law_237 rfl 0 rfl ?_
          refine s_iload_n (pc' := 239) hC d_LA_law_238 rfl 3 rfl ?_
          refine s_iconst (v := 1) (pc' := 240) hC d_LA_law_239 rfl (by decide) ?_
          refine s_iadd (pc' := 241) hC d_LA_law_240 rfl ?_
          refine s_sld (pc' := 242) hC hSc d_LA_law_241 rfl hF (fun v48 hF => ?_)
          refine s_cVi (pc' := 245) (As := [.inl v48]) (rs := []) (a := a1) (fr' := 1) (lo' := 21) hC qs_LA_48 rfl rfl (Nat.le_of_ble_eq_true rfl) ⟨by decide, by decide⟩ d_LA_law_242 rfl (fun l g sz r w' h => c_QP_step l g sz w a1 v48 r w' h) hF (fun v50 w49 hF => ?_)
          refine s_aload_n (pc' := 246) hC d_LA_law_245 rfl 2 rfl ?_
          refine s_aload_n (pc' := 247) hC d_LA_law_246 rfl 0 rfl ?_
          refine s_iload_n (pc' := 248) hC d_LA_law_247 rfl 3 rfl ?_
          refine s_iconst (v := 1) (pc' := 249) hC d_LA_law_248 rfl (by decide) ?_
          refine s_iadd (pc' := 250) hC d_LA_law_249 rfl ?_
          refine s_sld (pc' := 251) hC hSc d_LA_law_250 rfl hF (fun v51 hF => ?_)
          refine s_cVi (pc' := 254) (As := [.inl v51]) (rs := [.inl v50]) (a := a2) (fr' := 0) (lo' := 0) hC qs_LA_51 rfl rfl (Nat.le_of_ble_eq_true rfl) ⟨by decide, by decide⟩ d_LA_law_251 rfl (fun l g sz r w' h => c_MO_step l g sz w49 a2 v51 r w' h) hF (fun v53 w52 hF => ?_)
          refine s_icmp_eq (tgt := 351) (pc' := 257) hC d_LA_law_254 rfl rfl hF (fun hF => ?_) (fun hF => ?_)
          · refine s_iinc (pc' := 354) (n' := 3) (lv' := [(3, .inl (x3 + 3)), (0, .inr (some a0)), (1, .inr (some a1)), (2, .inr (some a2))]) hC d_LA_law_351 rfl 3 rfl (by decide) (by decide) rfl ?_
            refine s_goto (tgt := 18) hC d_LA_law_354 rfl ?_
            exact qG_sub [1, 2, 3, 0] rfl (ih_18 a1 a2 (x3 + 3) w52 hF)
          · refine s_iconst (v := 0) (pc' := 258) hC d_LA_law_257 rfl (by decide) ?_
            exact s_zret hC hR d_LA_law_258 hF
        refine q_sw hF (fun hx hF => ?_) (fun hx61 hF => ?_)
        · refine s_tab (tgt := 259) (off := 227) hC d_LA_law_32 hx (by decide) (by decide) rfl rfl ?_
          refine s_aload_n (pc' := 260) hC d_LA_law_259 rfl 1 rfl ?_
          refine s_aload_n (pc' := 261) hC d_LA_law_260 rfl 0 rfl ?_
          refine s_iload_n (pc' := 262) hC d_LA_law_261 rfl 3 rfl ?_
          refine s_iconst (v := 1) (pc' := 263) hC d_LA_law_262 rfl (by decide) ?_
          refine s_iadd (pc' := 264) hC d_LA_law_263 rfl ?_
          refine s_sld (pc' := 265) hC hSc d_LA_law_264 rfl hF (fun v55 hF => ?_)
          refine s_cVi (pc' := 268) (As := [.inl v55]) (rs := []) (a := a1) (fr' := 1) (lo' := 21) hC qs_LA_52 rfl rfl (Nat.le_of_ble_eq_true rfl) ⟨by decide, by decide⟩ d_LA_law_265 rfl (fun l g sz r w' h => c_QP_rests l g sz w a1 v55 r w' h) hF (fun v57 w56 hF => ?_)
          refine s_aload_n (pc' := 269) hC d_LA_law_268 rfl 2 rfl ?_
          refine s_aload_n (pc' := 270) hC d_LA_law_269 rfl 0 rfl ?_
          refine s_iload_n (pc' := 271) hC d_LA_law_270 rfl 3 rfl ?_
          refine s_iconst (v := 1) (pc' := 272) hC d_LA_law_271 rfl (by decide) ?_
          refine s_iadd (pc' := 273) hC d_LA_law_272 rfl ?_
          refine s_sld (pc' := 274) hC hSc d_LA_law_273 rfl hF (fun v58 hF => ?_)
          refine s_cVi (pc' := 277) (As := [.inl v58]) (rs := [.inl v57]) (a := a2) (fr' := 0) (lo' := 0) hC qs_LA_55 rfl rfl (Nat.le_of_ble_eq_true rfl) ⟨by decide, by decide⟩ d_LA_law_274 rfl (fun l g sz r w' h => c_MO_rests l g sz w56 a2 v58 r w' h) hF (fun v60 w59 hF => ?_)
          refine s_icmp_eq (tgt := 351) (pc' := 280) hC d_LA_law_277 rfl rfl hF (fun hF => ?_) (fun hF => ?_)
          · refine s_iinc (pc' := 354) (n' := 3) (lv' := [(3, .inl (x3 + 3)), (0, .inr (some a0)), (1, .inr (some a1)), (2, .inr (some a2))]) hC d_LA_law_351 rfl 3 rfl (by decide) (by decide) rfl ?_
            refine s_goto (tgt := 18) hC d_LA_law_354 rfl ?_
            exact qG_sub [1, 2, 3, 0] rfl (ih_18 a1 a2 (x3 + 3) w59 hF)
          · refine s_iconst (v := 0) (pc' := 281) hC d_LA_law_280 rfl (by decide) ?_
            exact s_zret hC hR d_LA_law_281 hF
        refine q_sw hF (fun hx hF => ?_) (fun hx66 hF => ?_)
        · refine s_tab (tgt := 282) (off := 250) hC d_LA_law_32 hx (by decide) (by decide) rfl rfl ?_
          refine s_aload_n (pc' := 283) hC d_LA_law_282 rfl 1 rfl ?_
          refine s_cVi (pc' := 286) (As := []) (rs := []) (a := a1) (fr' := 0) (lo' := 0) hC qs_LA_56 rfl rfl (Nat.le_of_ble_eq_true rfl) ⟨by decide, by decide⟩ d_LA_law_283 rfl (fun l g sz r w' h => c_QP_empty l g sz w a1 r w' h) hF (fun v63 w62 hF => ?_)
          refine s_aload_n (pc' := 287) hC d_LA_law_286 rfl 2 rfl ?_
          refine s_cVi (pc' := 290) (As := []) (rs := [.inl v63]) (a := a2) (fr' := 0) (lo' := 0) hC qs_LA_59 rfl rfl (Nat.le_of_ble_eq_true rfl) ⟨by decide, by decide⟩ d_LA_law_287 rfl (fun l g sz r w' h => c_MO_empty l g sz w62 a2 r w' h) hF (fun v65 w64 hF => ?_)
          refine s_icmp_eq (tgt := 351) (pc' := 293) hC d_LA_law_290 rfl rfl hF (fun hF => ?_) (fun hF => ?_)
          · refine s_iinc (pc' := 354) (n' := 3) (lv' := [(3, .inl (x3 + 3)), (0, .inr (some a0)), (1, .inr (some a1)), (2, .inr (some a2))]) hC d_LA_law_351 rfl 3 rfl (by decide) (by decide) rfl ?_
            refine s_goto (tgt := 18) hC d_LA_law_354 rfl ?_
            exact qG_sub [1, 2, 3, 0] rfl (ih_18 a1 a2 (x3 + 3) w64 hF)
          · refine s_iconst (v := 0) (pc' := 294) hC d_LA_law_293 rfl (by decide) ?_
            exact s_zret hC hR d_LA_law_294 hF
        refine q_sw hF (fun hx hF => ?_) (fun hx75 hF => ?_)
        · refine s_tab (tgt := 295) (off := 263) hC d_LA_law_32 hx (by decide) (by decide) rfl rfl ?_
          refine s_aload_n (pc' := 296) hC d_LA_law_295 rfl 1 rfl ?_
          refine s_aload_n (pc' := 297) hC d_LA_law_296 rfl 0 rfl ?_
          refine s_iload_n (pc' := 298) hC d_LA_law_297 rfl 3 rfl ?_
          refine s_iconst (v := 1) (pc' := 299) hC d_LA_law_298 rfl (by decide) ?_
          refine s_iadd (pc' := 300) hC d_LA_law_299 rfl ?_
          refine s_sld (pc' := 301) hC hSc d_LA_law_300 rfl hF (fun v67 hF => ?_)
          refine s_aload_n (pc' := 302) hC d_LA_law_301 rfl 0 rfl ?_
          refine s_iload_n (pc' := 303) hC d_LA_law_302 rfl 3 rfl ?_
          refine s_iconst (v := 2) (pc' := 304) hC d_LA_law_303 rfl (by decide) ?_
          refine s_iadd (pc' := 305) hC d_LA_law_304 rfl ?_
          refine s_sld (pc' := 306) hC hSc d_LA_law_305 rfl hF (fun v68 hF => ?_)
          refine s_cVi (pc' := 309) (As := [.inl v67, .inl v68]) (rs := []) (a := a1) (fr' := 14) (lo' := 348) hC qs_LA_60 rfl rfl (Nat.le_of_ble_eq_true rfl) ⟨by decide, by decide⟩ d_LA_law_306 rfl (fun l g sz r w' h => c_QP_won l g sz w a1 v67 v68 r w' h) hF (fun v70 w69 hF => ?_)
          refine s_aload_n (pc' := 310) hC d_LA_law_309 rfl 2 rfl ?_
          refine s_aload_n (pc' := 311) hC d_LA_law_310 rfl 0 rfl ?_
          refine s_iload_n (pc' := 312) hC d_LA_law_311 rfl 3 rfl ?_
          refine s_iconst (v := 1) (pc' := 313) hC d_LA_law_312 rfl (by decide) ?_
          refine s_iadd (pc' := 314) hC d_LA_law_313 rfl ?_
          refine s_sld (pc' := 315) hC hSc d_LA_law_314 rfl hF (fun v71 hF => ?_)
          refine s_aload_n (pc' := 316) hC d_LA_law_315 rfl 0 rfl ?_
          refine s_iload_n (pc' := 317) hC d_LA_law_316 rfl 3 rfl ?_
          refine s_iconst (v := 2) (pc' := 318) hC d_LA_law_317 rfl (by decide) ?_
          refine s_iadd (pc' := 319) hC d_LA_law_318 rfl ?_
          refine s_sld (pc' := 320) hC hSc d_LA_law_319 rfl hF (fun v72 hF => ?_)
          refine s_cVi (pc' := 323) (As := [.inl v71, .inl v72]) (rs := [.inl v70]) (a := a2) (fr' := 2) (lo' := 44) hC qs_LA_64 rfl rfl (Nat.le_of_ble_eq_true rfl) ⟨by decide, by decide⟩ d_LA_law_320 rfl (fun l g sz r w' h => c_MO_won l g sz w69 a2 v71 v72 r w' h) hF (fun v74 w73 hF => ?_)
          refine s_icmp_eq (tgt := 351) (pc' := 326) hC d_LA_law_323 rfl rfl hF (fun hF => ?_) (fun hF => ?_)
          · refine s_iinc (pc' := 354) (n' := 3) (lv' := [(3, .inl (x3 + 3)), (0, .inr (some a0)), (1, .inr (some a1)), (2, .inr (some a2))]) hC d_LA_law_351 rfl 3 rfl (by decide) (by decide) rfl ?_
            refine s_goto (tgt := 18) hC d_LA_law_354 rfl ?_
            exact qG_sub [1, 2, 3, 0] rfl (ih_18 a1 a2 (x3 + 3) w73 hF)
          · refine s_iconst (v := 0) (pc' := 327) hC d_LA_law_326 rfl (by decide) ?_
            exact s_zret hC hR d_LA_law_327 hF
        refine q_sw hF (fun hx hF => ?_) (fun hx82 hF => ?_)
        · refine s_tab (tgt := 328) (off := 296) hC d_LA_law_32 hx (by decide) (by decide) rfl rfl ?_
          refine s_aload_n (pc' := 329) hC d_LA_law_328 rfl 1 rfl ?_
          refine s_aload_n (pc' := 330) hC d_LA_law_329 rfl 0 rfl ?_
          refine s_iload_n (pc' := 331) hC d_LA_law_330 rfl 3 rfl ?_
          refine s_iconst (v := 1) (pc' := 332) hC d_LA_law_331 rfl (by decide) ?_
          refine s_iadd (pc' := 333) hC d_LA_law_332 rfl ?_
          refine s_sld (pc' := 334) hC hSc d_LA_law_333 rfl hF (fun v76 hF => ?_)
          refine s_cVi (pc' := 337) (As := [.inl v76]) (rs := []) (a := a1) (fr' := 15) (lo' := 371) hC qs_LA_65 rfl rfl (Nat.le_of_ble_eq_true rfl) ⟨by decide, by decide⟩ d_LA_law_334 rfl (fun l g sz r w' h => c_QP_play l g sz w a1 v76 r w' h) hF (fun v78 w77 hF => ?_)
          refine s_aload_n (pc' := 338) hC d_LA_law_337 rfl 2 rfl ?_
          refine s_aload_n (pc' := 339) hC d_LA_law_338 rfl 0 rfl ?_
          refine s_iload_n (pc' := 340) hC d_LA_law_339 rfl 3 rfl ?_
          refine s_iconst (v := 1) (pc' := 341) hC d_LA_law_340 rfl (by decide) ?_
          refine s_iadd (pc' := 342) hC d_LA_law_341 rfl ?_
          refine s_sld (pc' := 343) hC hSc d_LA_law_342 rfl hF (fun v79 hF => ?_)
          refine s_cVi (pc' := 346) (As := [.inl v79]) (rs := [.inl v78]) (a := a2) (fr' := 2) (lo' := 44) hC qs_LA_68 rfl rfl (Nat.le_of_ble_eq_true rfl) ⟨by decide, by decide⟩ d_LA_law_343 rfl (fun l g sz r w' h => c_MO_play l g sz w77 a2 v79 r w' h) hF (fun v81 w80 hF => ?_)
          refine s_icmp_eq (tgt := 351) (pc' := 349) hC d_LA_law_346 rfl rfl hF (fun hF => ?_) (fun hF => ?_)
          · refine s_iinc (pc' := 354) (n' := 3) (lv' := [(3, .inl (x3 + 3)), (0, .inr (some a0)), (1, .inr (some a1)), (2, .inr (some a2))]) hC d_LA_law_351 rfl 3 rfl (by decide) (by decide) rfl ?_
            refine s_goto (tgt := 18) hC d_LA_law_354 rfl ?_
            exact qG_sub [1, 2, 3, 0] rfl (ih_18 a1 a2 (x3 + 3) w80 hF)
          · refine s_iconst (v := 0) (pc' := 350) hC d_LA_law_349 rfl (by decide) ?_
            exact s_zret hC hR d_LA_law_350 hF
        have ho := q_tabo (x := (v1 &&& 15)) 0 12 (by
          intro z h1 h2
          rcases (show z = 0 ∨ z = 1 ∨ z = 2 ∨ z = 3 ∨ z = 4 ∨ z = 5 ∨ z = 6 ∨ z = 7 ∨ z = 8 ∨ z = 9 ∨ z = 10 ∨ z = 11 ∨ z = 12 by omega) with rfl | rfl | rfl | rfl | rfl | rfl | rfl | rfl | rfl | rfl | rfl | rfl | rfl
          · exact hx8
          · exact hx13
          · exact hx18
          · exact hx23
          · exact hx30
          · exact hx35
          · exact hx42
          · exact hx47
          · exact hx54
          · exact hx61
          · exact hx66
          · exact hx75
          · exact hx82)
        refine s_tabd (tgt := 351) hC d_LA_law_32 ho rfl ?_
        refine s_iinc (pc' := 354) (n' := 3) (lv' := [(3, .inl (x3 + 3)), (0, .inr (some a0)), (1, .inr (some a1)), (2, .inr (some a2))]) hC d_LA_law_351 rfl 3 rfl (by decide) (by decide) rfl ?_
        refine s_goto (tgt := 18) hC d_LA_law_354 rfl ?_
        exact qG_sub [1, 2, 3, 0] rfl (ih_18 a1 a2 (x3 + 3) w hF)
  unfold f_LA_law at hF
  exact qG_sub [0, 1, 2, 3] rfl (L_18 q_fu a1 a2 x3 w hF)
