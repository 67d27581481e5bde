theorem qf_QP_82 : qF R_QP 82 2 3 := ⟨R_Formula, F_Formula, 6, rfl, by decide, in_Formula, Or.inr ⟨_, fn_QP_82⟩⟩
def f_QP_clauses (w : qw) (a0 : Nat) : Option (Int32 × qw) :=
  q_b1 (q_gr w a0 0 4) fun r1 =>
  q_b1 (q_gi w r1 2 3) fun v2 =>
  some (v2, w)
set_option maxHeartbeats 4000000 in
set_option maxRecDepth 100000 in
theorem k_QP_clauses {X : qX} (r : Int32) (w' : qw) (hC : qC X b_QP_clauses R_QP 1 0 0) (hR : qRi X b_QP_clauses r w') (w : qw) (a0 : Nat) (hF : f_QP_clauses w a0 = some (r, w')) : qG X 1 0 [(0, .inr (some a0))] [] w := by
  unfold f_QP_clauses at hF
  refine s_aload_n (pc' := 1) hC d_QP_clauses_0 rfl 0 rfl ?_
  refine s_getr (pc' := 4) hC qf_QP_39 d_QP_clauses_1 rfl hF (fun r1 hF => ?_)
  refine s_geti (pc' := 7) hC qf_QP_82 d_QP_clauses_4 rfl hF (fun v2 hF => ?_)
  exact s_iret hC hR d_QP_clauses_7 hF
theorem c_QP_clauses (l : Launch) (g : qk_G) (sz : Nat) (w : qw) (a0 : Nat) (r : Int32) (w' : qw) (hF : f_QP_clauses w a0 = some (r, w')) : qMi l g sz y_QP_clauses b_QP_clauses 1 (some .int) 0 0 [.inr (some a0)] w r w' := qk_met_i (by decide) (Nat.le_of_ble_eq_true rfl) (fun X hC hR => k_QP_clauses r w' hC hR w a0 hF)
theorem qf_QP_85 : qF R_QP 85 2 1 := ⟨R_Formula, F_Formula, 6, rfl, by decide, in_Formula, Or.inr ⟨_, fn_QP_85⟩⟩
def f_QP_clause (w : qw) (a0 : Nat) (x1 : Int32) : Option (Int32 × qw) :=
  if x1 < 0 then
    some ((-1), w)
  else
    q_b1 (q_gr w a0 0 4) fun r1 =>
    q_b1 (q_gi w r1 2 3) fun v2 =>
    if x1 < v2 then
      q_b1 (q_gr w a0 0 4) fun r3 =>
      q_b1 (q_gr w r3 2 1) fun r4 =>
      q_b1 (q_ld w r4 0 x1) fun v5 =>
      some (v5, w)
    else
      some ((-1), w)
set_option maxHeartbeats 4000000 in
set_option maxRecDepth 100000 in
theorem k_QP_clause {X : qX} (r : Int32) (w' : qw) (hC : qC X b_QP_clause R_QP 2 0 0) (hR : qRi X b_QP_clause r w') (w : qw) (a0 : Nat) (x1 : Int32) (hF : f_QP_clause w a0 x1 = some (r, w')) : qG X 2 0 [(0, .inr (some a0)), (1, .inl x1)] [] w := by
  unfold f_QP_clause at hF
  refine s_iload_n (pc' := 1) hC d_QP_clause_0 rfl 1 rfl ?_
  refine s_if_lt (tgt := 15) (pc' := 4) hC d_QP_clause_1 rfl rfl hF (fun hF => ?_) (fun hF => ?_)
  · refine s_iconst (v := (-1)) (pc' := 16) hC d_QP_clause_15 rfl (by decide) ?_
    refine s_goto (tgt := 28) hC d_QP_clause_16 rfl ?_
    exact s_iret hC hR d_QP_clause_28 hF
  · refine s_iload_n (pc' := 5) hC d_QP_clause_4 rfl 1 rfl ?_
    refine s_aload_n (pc' := 6) hC d_QP_clause_5 rfl 0 rfl ?_
    refine s_getr (pc' := 9) hC qf_QP_39 d_QP_clause_6 rfl hF (fun r1 hF => ?_)
    refine s_geti (pc' := 12) hC qf_QP_82 d_QP_clause_9 rfl hF (fun v2 hF => ?_)
    refine s_icmp_lt (tgt := 19) (pc' := 15) hC d_QP_clause_12 rfl rfl hF (fun hF => ?_) (fun hF => ?_)
    · refine s_aload_n (pc' := 20) hC d_QP_clause_19 rfl 0 rfl ?_
      refine s_getr (pc' := 23) hC qf_QP_39 d_QP_clause_20 rfl hF (fun r3 hF => ?_)
      refine s_getr (pc' := 26) hC qf_QP_85 d_QP_clause_23 rfl hF (fun r4 hF => ?_)
      refine s_iload_n (pc' := 27) hC d_QP_clause_26 rfl 1 rfl ?_
      refine s_iald (pc' := 28) hC d_QP_clause_27 rfl hF (fun v5 hF => ?_)
      exact s_iret hC hR d_QP_clause_28 hF
    · refine s_iconst (v := (-1)) (pc' := 16) hC d_QP_clause_15 rfl (by decide) ?_
      refine s_goto (tgt := 28) hC d_QP_clause_16 rfl ?_
      exact s_iret hC hR d_QP_clause_28 hF
theorem c_QP_clause (l : Launch) (g : qk_G) (sz : Nat) (w : qw) (a0 : Nat) (x1 : Int32) (r : Int32) (w' : qw) (hF : f_QP_clause w a0 x1 = some (r, w')) : qMi l g sz y_QP_clause b_QP_clause 2 (some .int) 0 0 [.inr (some a0), .inl x1] w r w' := qk_met_i (by decide) (Nat.le_of_ble_eq_true rfl) (fun X hC hR => k_QP_clause r w' hC hR w a0 x1 hF)
theorem qf_QP_34 : qF R_QP 34 0 3 := ⟨R_QP, F_QP, 5, rfl, by decide, in_QP, Or.inl fl_QP_34⟩
theorem qf_QP_62 : qF R_QP 62 4 4 := ⟨R_Proof, F_Proof, 5, rfl, by decide, in_Proof, Or.inr ⟨_, fn_QP_62⟩⟩
def f_QP_steps (w : qw) (a0 : Nat) : Option (Int32 × qw) :=
  q_b1 (q_gr w a0 0 3) fun r1 =>
  q_b1 (q_gi w r1 4 4) fun v2 =>
  some (v2, w)
set_option maxHeartbeats 4000000 in
set_option maxRecDepth 100000 in
theorem k_QP_steps {X : qX} (r : Int32) (w' : qw) (hC : qC X b_QP_steps R_QP 1 0 0) (hR : qRi X b_QP_steps r w') (w : qw) (a0 : Nat) (hF : f_QP_steps w a0 = some (r, w')) : qG X 1 0 [(0, .inr (some a0))] [] w := by
  unfold f_QP_steps at hF
  refine s_aload_n (pc' := 1) hC d_QP_steps_0 rfl 0 rfl ?_
  refine s_getr (pc' := 4) hC qf_QP_34 d_QP_steps_1 rfl hF (fun r1 hF => ?_)
  refine s_geti (pc' := 7) hC qf_QP_62 d_QP_steps_4 rfl hF (fun v2 hF => ?_)
  exact s_iret hC hR d_QP_steps_7 hF
theorem c_QP_steps (l : Launch) (g : qk_G) (sz : Nat) (w : qw) (a0 : Nat) (r : Int32) (w' : qw) (hF : f_QP_steps w a0 = some (r, w')) : qMi l g sz y_QP_steps b_QP_steps 1 (some .int) 0 0 [.inr (some a0)] w r w' := qk_met_i (by decide) (Nat.le_of_ble_eq_true rfl) (fun X hC hR => k_QP_steps r w' hC hR w a0 hF)
theorem qf_QP_91 : qF R_QP 91 4 3 := ⟨R_Proof, F_Proof, 5, rfl, by decide, in_Proof, Or.inr ⟨_, fn_QP_91⟩⟩
theorem qf_QP_95 : qF R_QP 95 4 1 := ⟨R_Proof, F_Proof, 5, rfl, by decide, in_Proof, Or.inr ⟨_, fn_QP_95⟩⟩
theorem qs_QP_88 : qV R_QP 88 y_Proof_has b_Proof_has 2 (some .boolean) 1 4 := ⟨Or.inl ml_QP_88, ic_Proof_has, ii_Proof_has, is_Proof_has, in_c_Proof, ⟨_, _, rfl⟩, by decide +kernel⟩
def f_QP_step (w : qw) (a0 : Nat) (x1 : Int32) : Option (Int32 × qw) :=
  q_b1 (q_gr w a0 0 3) fun r1 =>
  q_ob (q_is w r1 4) <| q_b2 (f_Proof_has w r1 x1) fun v3 w2 =>
  if v3 = 0 then
    some ((-1), w2)
  else
    q_b1 (q_gr w2 a0 0 3) fun r4 =>
    q_b1 (q_gr w2 r4 4 3) fun r5 =>
    q_b1 (q_ld w2 r5 2 x1) fun v6 =>
    if v6 = 0 then
      q_b1 (q_gr w2 a0 0 3) fun r7 =>
      q_b1 (q_gr w2 r7 4 1) fun r8 =>
      q_b1 (q_ld w2 r8 0 x1) fun v9 =>
      some (v9, w2)
    else
      q_b1 (q_gr w2 a0 0 3) fun r10 =>
      q_b1 (q_gr w2 r10 4 1) fun r11 =>
      q_b1 (q_ld w2 r11 0 x1) fun v12 =>
      some (v12 + 65536, w2)
set_option maxHeartbeats 4000000 in
set_option maxRecDepth 100000 in
theorem k_QP_step {X : qX} (r : Int32) (w' : qw) (hC : qC X b_QP_step R_QP 2 1 21) (hR : qRi X b_QP_step r w') (w : qw) (a0 : Nat) (x1 : Int32) (hF : f_QP_step w a0 x1 = some (r, w')) : qG X 2 0 [(0, .inr (some a0)), (1, .inl x1)] [] w := by
  unfold f_QP_step at hF
  refine s_aload_n (pc' := 1) hC d_QP_step_0 rfl 0 rfl ?_
  refine s_getr (pc' := 4) hC qf_QP_34 d_QP_step_1 rfl hF (fun r1 hF => ?_)
  refine s_iload_n (pc' := 5) hC d_QP_step_4 rfl 1 rfl ?_
  refine s_cVi (pc' := 8) (As := [.inl x1]) (rs := []) (a := r1) (fr' := 0) (lo' := 0) hC qs_QP_88 rfl rfl (Nat.le_of_ble_eq_true rfl) ⟨by decide, by decide⟩ d_QP_step_5 rfl (fun l g sz r w' h => c_Proof_has l g sz w r1 x1 r w' h) hF (fun v3 w2 hF => ?_)
  refine s_if_ne (tgt := 13) (pc' := 11) hC d_QP_step_8 rfl rfl hF (fun hF => ?_) (fun hF => ?_)
  · refine s_aload_n (pc' := 14) hC d_QP_step_13 rfl 0 rfl ?_
    refine s_getr (pc' := 17) hC qf_QP_34 d_QP_step_14 rfl hF (fun r4 hF => ?_)
    refine s_getr (pc' := 20) hC qf_QP_91 d_QP_step_17 rfl hF (fun r5 hF => ?_)
    refine s_iload_n (pc' := 21) hC d_QP_step_20 rfl 1 rfl ?_
    refine s_zald (pc' := 22) hC d_QP_step_21 rfl hF (fun v6 hF => ?_)
    refine s_if_eq (tgt := 40) (pc' := 25) hC d_QP_step_22 rfl rfl hF (fun hF => ?_) (fun hF => ?_)
    · refine s_aload_n (pc' := 41) hC d_QP_step_40 rfl 0 rfl ?_
      refine s_getr (pc' := 44) hC qf_QP_34 d_QP_step_41 rfl hF (fun r7 hF => ?_)
      refine s_getr (pc' := 47) hC qf_QP_95 d_QP_step_44 rfl hF (fun r8 hF => ?_)
      refine s_iload_n (pc' := 48) hC d_QP_step_47 rfl 1 rfl ?_
      refine s_iald (pc' := 49) hC d_QP_step_48 rfl hF (fun v9 hF => ?_)
      exact s_iret hC hR d_QP_step_49 hF
    · refine s_aload_n (pc' := 26) hC d_QP_step_25 rfl 0 rfl ?_
      refine s_getr (pc' := 29) hC qf_QP_34 d_QP_step_26 rfl hF (fun r10 hF => ?_)
      refine s_getr (pc' := 32) hC qf_QP_95 d_QP_step_29 rfl hF (fun r11 hF => ?_)
      refine s_iload_n (pc' := 33) hC d_QP_step_32 rfl 1 rfl ?_
      refine s_iald (pc' := 34) hC d_QP_step_33 rfl hF (fun v12 hF => ?_)
      refine s_ldc (v := 65536) (pc' := 36) hC d_QP_step_34 rfl co_QP_98 ?_
      refine s_iadd (pc' := 37) hC d_QP_step_36 rfl ?_
      refine s_goto (tgt := 49) hC d_QP_step_37 rfl ?_
      exact s_iret hC hR d_QP_step_49 hF
  · refine s_iconst (v := (-1)) (pc' := 12) hC d_QP_step_11 rfl (by decide) ?_
    exact s_iret hC hR d_QP_step_12 hF
theorem c_QP_step (l : Launch) (g : qk_G) (sz : Nat) (w : qw) (a0 : Nat) (x1 : Int32) (r : Int32) (w' : qw) (hF : f_QP_step w a0 x1 = some (r, w')) : qMi l g sz y_QP_step b_QP_step 2 (some .int) 1 21 [.inr (some a0), .inl x1] w r w' := qk_met_i (by decide) (Nat.le_of_ble_eq_true rfl) (fun X hC hR => k_QP_step r w' hC hR w a0 x1 hF)
theorem qf_QP_99 : qF R_QP 99 4 2 := ⟨R_Proof, F_Proof, 5, rfl, by decide, in_Proof, Or.inr ⟨_, fn_QP_99⟩⟩
def f_QP_rests (w : qw) (a0 : Nat) (x1 : Int32) : Option (Int32 × qw) :=
  q_b1 (q_gr w a0 0 3) fun r1 =>
  q_ob (q_is w r1 4) <| q_b2 (f_Proof_has w r1 x1) fun v3 w2 =>
  if v3 = 0 then
    some ((-1), w2)
  else
    q_b1 (q_gr w2 a0 0 3) fun r4 =>
    q_b1 (q_gr w2 r4 4 2) fun r5 =>
    q_b1 (q_ld w2 r5 0 x1) fun v6 =>
    some (v6, w2)
set_option maxHeartbeats 4000000 in
set_option maxRecDepth 100000 in
theorem k_QP_rests {X : qX} (r : Int32) (w' : qw) (hC : qC X b_QP_rests R_QP 2 1 21) (hR : qRi X b_QP_rests r w') (w : qw) (a0 : Nat) (x1 : Int32) (hF : f_QP_rests w a0 x1 = some (r, w')) : qG X 2 0 [(0, .inr (some a0)), (1, .inl x1)] [] w := by
  unfold f_QP_rests at hF
  refine s_aload_n (pc' := 1) hC d_QP_rests_0 rfl 0 rfl ?_
  refine s_getr (pc' := 4) hC qf_QP_34 d_QP_rests_1 rfl hF (fun r1 hF => ?_)
  refine s_iload_n (pc' := 5) hC d_QP_rests_4 rfl 1 rfl ?_
  refine s_cVi (pc' := 8) (As := [.inl x1]) (rs := []) (a := r1) (fr' := 0) (lo' := 0) hC qs_QP_88 rfl rfl (Nat.le_of_ble_eq_true rfl) ⟨by decide, by decide⟩ d_QP_rests_5 rfl (fun l g sz r w' h => c_Proof_has l g sz w r1 x1 r w' h) hF (fun v3 w2 hF => ?_)
  refine s_if_eq (tgt := 23) (pc' := 11) hC d_QP_rests_8 rfl rfl hF (fun hF => ?_) (fun hF => ?_)
  · refine s_iconst (v := (-1)) (pc' := 24) hC d_QP_rests_23 rfl (by decide) ?_
    exact s_iret hC hR d_QP_rests_24 hF
  · refine s_aload_n (pc' := 12) hC d_QP_rests_11 rfl 0 rfl ?_
    refine s_getr (pc' := 15) hC qf_QP_34 d_QP_rests_12 rfl hF (fun r4 hF => ?_)
    refine s_getr (pc' := 18) hC qf_QP_99 d_QP_rests_15 rfl hF (fun r5 hF => ?_)
    refine s_iload_n (pc' := 19) hC d_QP_rests_18 rfl 1 rfl ?_
    refine s_iald (pc' := 20) hC d_QP_rests_19 rfl hF (fun v6 hF => ?_)
    refine s_goto (tgt := 24) hC d_QP_rests_20 rfl ?_
    exact s_iret hC hR d_QP_rests_24 hF
theorem c_QP_rests (l : Launch) (g : qk_G) (sz : Nat) (w : qw) (a0 : Nat) (x1 : Int32) (r : Int32) (w' : qw) (hF : f_QP_rests w a0 x1 = some (r, w')) : qMi l g sz y_QP_rests b_QP_rests 2 (some .int) 1 21 [.inr (some a0), .inl x1] w r w' := qk_met_i (by decide) (Nat.le_of_ble_eq_true rfl) (fun X hC hR => k_QP_rests r w' hC hR w a0 x1 hF)
def lb_QP_empty_2  (c2 : Nat → Int32 → qw → Option (Int32 × qw)) (a0 : Nat) (x1 : Int32) (w : qw) : Option (Int32 × qw) :=
  q_b1 (q_gr w a0 0 3) fun r1 =>
  q_b1 (q_gi w r1 4 4) fun v2 =>
  if v2 ≤ x1 then
    some ((-1), w)
  else
    q_b1 (q_gr w a0 0 3) fun r3 =>
    q_b1 (q_gr w r3 4 1) fun r4 =>
    q_b1 (q_ld w r4 0 x1) fun v5 =>
    if v5 = 0 then
      some (x1, w)
    else
      c2 a0 (x1 + 1) w
def ll_QP_empty_2  : Nat → Nat → Int32 → qw → Option (Int32 × qw)
  | 0 => fun _ _ _ => none
  | n + 1 => lb_QP_empty_2  (ll_QP_empty_2  n)
def f_QP_empty (w : qw) (a0 : Nat) : Option (Int32 × qw) :=
  ll_QP_empty_2 q_fu a0 0 w
set_option maxHeartbeats 4000000 in
set_option maxRecDepth 100000 in
theorem k_QP_empty {X : qX} (r : Int32) (w' : qw) (hC : qC X b_QP_empty R_QP 2 0 0) (hR : qRi X b_QP_empty r w') (w : qw) (a0 : Nat) (hF : f_QP_empty w a0 = some (r, w')) : qG X 2 0 [(0, .inr (some a0))] [] w := by
  have L_2 : ∀ (n : Nat) (a0 : Nat) (x1 : Int32) (w : qw), ll_QP_empty_2  n a0 x1 w = some (r, w') → qG X 2 2 [(0, .inr (some a0)), (1, .inl x1)] [] w := by
    intro n_2
    induction n_2 with
    | zero => exact fun _ _ _ hF => q_nn (show (none : Option (Int32 × qw)) = some (r, w') from hF)
    | succ n_2 ih_2 =>
      intro a0 x1 w hF
      have hF : lb_QP_empty_2  (ll_QP_empty_2  n_2) a0 x1 w = some (r, w') := hF
      unfold lb_QP_empty_2 at hF
      refine s_iload_n (pc' := 3) hC d_QP_empty_2 rfl 1 rfl ?_
      refine s_aload_n (pc' := 4) hC d_QP_empty_3 rfl 0 rfl ?_
      refine s_getr (pc' := 7) hC qf_QP_34 d_QP_empty_4 rfl hF (fun r1 hF => ?_)
      refine s_geti (pc' := 10) hC qf_QP_62 d_QP_empty_7 rfl hF (fun v2 hF => ?_)
      refine s_icmp_ge (tgt := 33) (pc' := 13) hC d_QP_empty_10 rfl rfl hF (fun hF => ?_) (fun hF => ?_)
      · refine s_iconst (v := (-1)) (pc' := 34) hC d_QP_empty_33 rfl (by decide) ?_
        exact s_iret hC hR d_QP_empty_34 hF
      · refine s_aload_n (pc' := 14) hC d_QP_empty_13 rfl 0 rfl ?_
        refine s_getr (pc' := 17) hC qf_QP_34 d_QP_empty_14 rfl hF (fun r3 hF => ?_)
        refine s_getr (pc' := 20) hC qf_QP_95 d_QP_empty_17 rfl hF (fun r4 hF => ?_)
        refine s_iload_n (pc' := 21) hC d_QP_empty_20 rfl 1 rfl ?_
        refine s_iald (pc' := 22) hC d_QP_empty_21 rfl hF (fun v5 hF => ?_)
        refine s_if_ne (tgt := 27) (pc' := 25) hC d_QP_empty_22 rfl rfl hF (fun hF => ?_) (fun hF => ?_)
        · refine s_iinc (pc' := 30) (n' := 1) (lv' := [(1, .inl (x1 + 1)), (0, .inr (some a0))]) hC d_QP_empty_27 rfl 1 rfl (by decide) (by decide) rfl ?_
          refine s_goto (tgt := 2) hC d_QP_empty_30 rfl ?_
          exact qG_sub [1, 0] rfl (ih_2 a0 (x1 + 1) w hF)
        · refine s_iload_n (pc' := 26) hC d_QP_empty_25 rfl 1 rfl ?_
          exact s_iret hC hR d_QP_empty_26 hF
  unfold f_QP_empty at hF
  refine s_iconst (v := 0) (pc' := 1) hC d_QP_empty_0 rfl (by decide) ?_
  refine s_istore_n (pc' := 2) (lv' := [(1, .inl 0), (0, .inr (some a0))]) hC d_QP_empty_1 rfl (by decide) rfl ?_
  exact qG_sub [1, 0] rfl (L_2 q_fu a0 0 w hF)
theorem c_QP_empty (l : Launch) (g : qk_G) (sz : Nat) (w : qw) (a0 : Nat) (r : Int32) (w' : qw) (hF : f_QP_empty w a0 = some (r, w')) : qMi l g sz y_QP_empty b_QP_empty 2 (some .int) 0 0 [.inr (some a0)] w r w' := qk_met_i (by decide) (Nat.le_of_ble_eq_true rfl) (fun X hC hR => k_QP_empty r w' hC hR w a0 hF)
def f_Formula_truth (w : qw) (a0 : Nat) (x1 : Int32) (x2 : Int32) : Option (Int32 × qw) :=
  if x2 = 1 then
    q_b1 (q_gr w a0 2 0) fun r5 =>
    q_b1 (q_ld w r5 0 x1) fun v6 =>
    q_b2 (f_QP_setOf w v6) fun v8 w7 =>
    some (v8, w7)
  else
    q_b1 (q_gr w a0 2 0) fun r1 =>
    q_b1 (q_ld w r1 0 x1) fun v2 =>
    q_b2 (f_QP_setOf w (-v2)) fun v4 w3 =>
    some (v4, w3)
set_option maxHeartbeats 4000000 in
set_option maxRecDepth 100000 in
theorem k_Formula_truth {X : qX} (r : Int32) (w' : qw) (hC : qC X b_Formula_truth R_Formula 3 1 20) (hR : qRi X b_Formula_truth r w') (w : qw) (a0 : Nat) (x1 : Int32) (x2 : Int32) (hF : f_Formula_truth w a0 x1 x2 = some (r, w')) : qG X 3 0 [(0, .inr (some a0)), (1, .inl x1), (2, .inl x2)] [] w := by
  unfold f_Formula_truth at hF
  refine s_iload_n (pc' := 1) hC d_Formula_truth_0 rfl 2 rfl ?_
  refine s_iconst (v := 1) (pc' := 2) hC d_Formula_truth_1 rfl (by decide) ?_
  refine s_icmp_ne (tgt := 14) (pc' := 5) hC d_Formula_truth_2 rfl rfl hF (fun hF => ?_) (fun hF => ?_)
  · refine s_aload_n (pc' := 15) hC d_Formula_truth_14 rfl 0 rfl ?_
    refine s_getr (pc' := 18) hC qf_Formula_9 d_Formula_truth_15 rfl hF (fun r1 hF => ?_)
    refine s_iload_n (pc' := 19) hC d_Formula_truth_18 rfl 1 rfl ?_
    refine s_iald (pc' := 20) hC d_Formula_truth_19 rfl hF (fun v2 hF => ?_)
    refine s_ineg (pc' := 21) hC d_Formula_truth_20 rfl ?_
    refine s_cSi (pc' := 24) (As := [.inl (-v2)]) (rs := []) (fr' := 0) (lo' := 0) hC qs_Formula_35 rfl rfl (Nat.le_of_ble_eq_true rfl) ⟨by decide, by decide⟩ d_Formula_truth_21 rfl (fun l g sz r w' h => c_QP_setOf l g sz w (-v2) r w' h) hF (fun v4 w3 hF => ?_)
    exact s_iret hC hR d_Formula_truth_24 hF
  · refine s_aload_n (pc' := 6) hC d_Formula_truth_5 rfl 0 rfl ?_
    refine s_getr (pc' := 9) hC qf_Formula_9 d_Formula_truth_6 rfl hF (fun r5 hF => ?_)
    refine s_iload_n (pc' := 10) hC d_Formula_truth_9 rfl 1 rfl ?_
    refine s_iald (pc' := 11) hC d_Formula_truth_10 rfl hF (fun v6 hF => ?_)
    refine s_goto (tgt := 21) hC d_Formula_truth_11 rfl ?_
    refine s_cSi (pc' := 24) (As := [.inl v6]) (rs := []) (fr' := 0) (lo' := 0) hC qs_Formula_35 rfl rfl (Nat.le_of_ble_eq_true rfl) ⟨by decide, by decide⟩ d_Formula_truth_21 rfl (fun l g sz r w' h => c_QP_setOf l g sz w v6 r w' h) hF (fun v8 w7 hF => ?_)
    exact s_iret hC hR d_Formula_truth_24 hF
theorem c_Formula_truth (l : Launch) (g : qk_G) (sz : Nat) (w : qw) (a0 : Nat) (x1 : Int32) (x2 : Int32) (r : Int32) (w' : qw) (hF : f_Formula_truth w a0 x1 x2 = some (r, w')) : qMi l g sz y_Formula_truth b_Formula_truth 3 (some .int) 1 20 [.inr (some a0), .inl x1, .inl x2] w r w' := qk_met_i (by decide) (Nat.le_of_ble_eq_true rfl) (fun X hC hR => k_Formula_truth r w' hC hR w a0 x1 x2 hF)
theorem qs_Formula_42 : qS R_Formula 42 y_Formula_someCanWin b_Formula_someCanWin 5 (some .boolean) 3 := ⟨Or.inl ml_Formula_42, ic_Formula_someCanWin, is_Formula_someCanWin, in_c_Formula, by decide +kernel⟩
theorem qs_Formula_38 : qV R_Formula 38 y_Formula_truth b_Formula_truth 3 (some .int) 2 2 := ⟨Or.inl ml_Formula_38, ic_Formula_truth, ii_Formula_truth, is_Formula_truth, in_c_Formula, ⟨_, _, rfl⟩, by decide +kernel⟩
theorem qs_Formula_54 : qV R_Formula 54 y_Formula_isForAll b_Formula_isForAll 2 (some .boolean) 1 2 := ⟨Or.inl ml_Formula_54, ic_Formula_isForAll, ii_Formula_isForAll, is_Formula_isForAll, in_c_Formula, ⟨_, _, rfl⟩, by decide +kernel⟩
theorem qs_Formula_50 : qV R_Formula 50 y_Formula_isMetBy b_Formula_isMetBy 3 (some .boolean) 1 2 := ⟨Or.inl ml_Formula_50, ic_Formula_isMetBy, ii_Formula_isMetBy, is_Formula_isMetBy, in_c_Formula, ⟨_, _, rfl⟩, by decide +kernel⟩
def fb_Formula_someCanWin (F : qw → Nat → Int32 → Int32 → Option (Int32 × qw)) (w : qw) (a0 : Nat) (x1 : Int32) (x2 : Int32) : Option (Int32 × qw) :=
  q_ob (q_is w a0 2) <| q_b2 (f_Formula_isMetBy w a0 x2) fun v2 w1 =>
  if v2 = 0 then
    if x1 < 0 then
      q_ob (q_z 0) (some (0, w1))
    else
      q_b1 (q_gi w1 a0 2 2) fun v3 =>
      if x1 < v3 then
        q_b1 (q_gr w1 a0 2 0) fun r4 =>
        q_b1 (q_ld w1 r4 0 x1) fun v5 =>
        q_ob (q_is w1 a0 2) <| q_b2 (f_Formula_isForAll w1 a0 v5) fun v7 w6 =>
        q_ob (q_is w6 a0 2) <| q_b2 (f_Formula_truth w6 a0 x1 0) fun v9 w8 =>
        q_b2 (F w8 a0 (x1 + 1) (x2 ||| v9)) fun v11 w10 =>
        if v11 = v7 then
          q_ob (q_is w10 a0 2) <| q_b2 (f_Formula_truth w10 a0 x1 1) fun v13 w12 =>
          q_b2 (F w12 a0 (x1 + 1) (x2 ||| v13)) fun v15 w14 =>
          q_ob (q_z v15) (some (v15, w14))
        else
          q_ob (q_z v11) (some (v11, w10))
      else
        q_ob (q_z 0) (some (0, w1))
  else
    q_ob (q_z 1) (some (1, w1))
def f_Formula_someCanWin : Nat → qw → Nat → Int32 → Int32 → Option (Int32 × qw)
  | 0 => fun _ _ _ _ => none
  | n + 1 => fb_Formula_someCanWin (f_Formula_someCanWin n)
set_option maxHeartbeats 4000000 in
set_option maxRecDepth 100000 in
theorem k_Formula_someCanWin (F : qw → Nat → Int32 → Int32 → Option (Int32 × qw)) (n : Nat) (ih : ∀ (l : Launch) (g : qk_G) (sz : Nat) (w : qw) (a0 : Nat) (x1 : Int32) (x2 : Int32) (r : Int32) (w' : qw), F w a0 x1 x2 = some (r, w') → qMi l g sz y_Formula_someCanWin b_Formula_someCanWin 5 (some .boolean) (n + 2) (n * 24 + 60) [.inr (some a0), .inl x1, .inl x2] w r w') {X : qX} (r : Int32) (w' : qw) (hC : qC X b_Formula_someCanWin R_Formula 5 (n + 1 + 2) ((n + 1) * 24 + 60)) (hR : qRz X b_Formula_someCanWin r w') (w : qw) (a0 : Nat) (x1 : Int32) (x2 : Int32) (hF : fb_Formula_someCanWin F w a0 x1 x2 = some (r, w')) : qG X 5 0 [(0, .inr (some a0)), (1, .inl x1), (2, .inl x2)] [] w := by
  unfold fb_Formula_someCanWin at hF
  refine s_aload_n (pc' := 1) hC d_Formula_someCanWin_0 rfl 0 rfl ?_
  refine s_iload_n (pc' := 2) hC d_Formula_someCanWin_1 rfl 2 rfl ?_
  refine s_cVi (pc' := 5) (As := [.inl x2]) (rs := []) (a := a0) (fr' := 0) (lo' := 0) hC qs_Formula_50 rfl rfl (Nat.le_of_ble_eq_true rfl) ⟨by omega, by omega⟩ d_Formula_someCanWin_2 rfl (fun l g sz r w' h => c_Formula_isMetBy l g sz w a0 x2 r w' h) hF (fun v2 w1 hF => ?_)
  refine s_if_eq (tgt := 10) (pc' := 8) hC d_Formula_someCanWin_5 rfl rfl hF (fun hF => ?_) (fun hF => ?_)
  · refine s_iload_n (pc' := 11) hC d_Formula_someCanWin_10 rfl 1 rfl ?_
    refine s_if_lt (tgt := 22) (pc' := 14) hC d_Formula_someCanWin_11 rfl rfl hF (fun hF => ?_) (fun hF => ?_)
    · refine s_iconst (v := 0) (pc' := 23) hC d_Formula_someCanWin_22 rfl (by decide) ?_
      exact s_zret hC hR d_Formula_someCanWin_23 hF
    · refine s_iload_n (pc' := 15) hC d_Formula_someCanWin_14 rfl 1 rfl ?_
      refine s_aload_n (pc' := 16) hC d_Formula_someCanWin_15 rfl 0 rfl ?_
      refine s_geti (pc' := 19) hC qf_Formula_18 d_Formula_someCanWin_16 rfl hF (fun v3 hF => ?_)
      refine s_icmp_lt (tgt := 24) (pc' := 22) hC d_Formula_someCanWin_19 rfl rfl hF (fun hF => ?_) (fun hF => ?_)
      · refine s_aload_n (pc' := 25) hC d_Formula_someCanWin_24 rfl 0 rfl ?_
        refine s_aload_n (pc' := 26) hC d_Formula_someCanWin_25 rfl 0 rfl ?_
        refine s_getr (pc' := 29) hC qf_Formula_9 d_Formula_someCanWin_26 rfl hF (fun r4 hF => ?_)
        refine s_iload_n (pc' := 30) hC d_Formula_someCanWin_29 rfl 1 rfl ?_
        refine s_iald (pc' := 31) hC d_Formula_someCanWin_30 rfl hF (fun v5 hF => ?_)
        refine s_cVi (pc' := 34) (As := [.inl v5]) (rs := []) (a := a0) (fr' := 1) (lo' := 20) hC qs_Formula_54 rfl rfl (Nat.le_of_ble_eq_true rfl) ⟨by omega, by omega⟩ d_Formula_someCanWin_31 rfl (fun l g sz r w' h => c_Formula_isForAll l g sz w1 a0 v5 r w' h) hF (fun v7 w6 hF => ?_)
        refine s_istore_n (pc' := 35) (lv' := [(3, .inl v7), (0, .inr (some a0)), (1, .inl x1), (2, .inl x2)]) hC d_Formula_someCanWin_34 rfl (by decide) rfl ?_
        refine s_aload_n (pc' := 36) hC d_Formula_someCanWin_35 rfl 1 rfl ?_
        refine s_iload_n (pc' := 37) hC d_Formula_someCanWin_36 rfl 2 rfl ?_
        refine s_iconst (v := 1) (pc' := 38) hC d_Formula_someCanWin_37 rfl (by decide) ?_
        refine s_iadd (pc' := 39) hC d_Formula_someCanWin_38 rfl ?_
        refine s_iload_n (pc' := 40) hC d_Formula_someCanWin_39 rfl 3 rfl ?_
        refine s_aload_n (pc' := 41) hC d_Formula_someCanWin_40 rfl 1 rfl ?_
        refine s_iload_n (pc' := 42) hC d_Formula_someCanWin_41 rfl 2 rfl ?_
        refine s_iconst (v := 0) (pc' := 43) hC d_Formula_someCanWin_42 rfl (by decide) ?_
        refine s_cVi (pc' := 46) (As := [.inl x1, .inl 0]) (rs := [.inl x2, .inl (x1 + 1), .inr (some a0)]) (a := a0) (fr' := 1) (lo' := 20) hC qs_Formula_38 rfl rfl (Nat.le_of_ble_eq_true rfl) ⟨by omega, by omega⟩ d_Formula_someCanWin_43 rfl (fun l g sz r w' h => c_Formula_truth l g sz w6 a0 x1 0 r w' h) hF (fun v9 w8 hF => ?_)
        refine s_ior (pc' := 47) hC d_Formula_someCanWin_46 rfl ?_
        refine s_cSi (pc' := 50) (As := [.inr (some a0), .inl (x1 + 1), .inl (x2 ||| v9)]) (rs := []) (fr' := (n + 2)) (lo' := (n * 24 + 60)) hC qs_Formula_42 rfl rfl (Nat.le_of_ble_eq_true rfl) ⟨by omega, by omega⟩ d_Formula_someCanWin_47 rfl (fun l g sz r w' h => ih l g sz w8 a0 (x1 + 1) (x2 ||| v9) r w' h) hF (fun v11 w10 hF => ?_)
        refine s_istore (pc' := 52) (lv' := [(4, .inl v11), (3, .inl v7), (0, .inr (some a0)), (1, .inl x1), (2, .inl x2)]) hC d_Formula_someCanWin_50 rfl (by decide) rfl ?_
        refine s_iload (pc' := 54) hC d_Formula_someCanWin_52 rfl 0 rfl ?_
        refine s_iload_n (pc' := 55) hC d_Formula_someCanWin_54 rfl 1 rfl ?_
        refine s_icmp_eq (tgt := 61) (pc' := 58) hC d_Formula_someCanWin_55 rfl rfl hF (fun hF => ?_) (fun hF => ?_)
        · refine s_aload_n (pc' := 62) hC d_Formula_someCanWin_61 rfl 2 rfl ?_
          refine s_iload_n (pc' := 63) hC d_Formula_someCanWin_62 rfl 3 rfl ?_
          refine s_iconst (v := 1) (pc' := 64) hC d_Formula_someCanWin_63 rfl (by decide) ?_
          refine s_iadd (pc' := 65) hC d_Formula_someCanWin_64 rfl ?_
          refine s_iload_n (pc' := 66) hC d_Formula_someCanWin_65 rfl 4 rfl ?_
          refine s_aload_n (pc' := 67) hC d_Formula_someCanWin_66 rfl 2 rfl ?_
          refine s_iload_n (pc' := 68) hC d_Formula_someCanWin_67 rfl 3 rfl ?_
          refine s_iconst (v := 1) (pc' := 69) hC d_Formula_someCanWin_68 rfl (by decide) ?_
          refine s_cVi (pc' := 72) (As := [.inl x1, .inl 1]) (rs := [.inl x2, .inl (x1 + 1), .inr (some a0)]) (a := a0) (fr' := 1) (lo' := 20) hC qs_Formula_38 rfl rfl (Nat.le_of_ble_eq_true rfl) ⟨by omega, by omega⟩ d_Formula_someCanWin_69 rfl (fun l g sz r w' h => c_Formula_truth l g sz w10 a0 x1 1 r w' h) hF (fun v13 w12 hF => ?_)
          refine s_ior (pc' := 73) hC d_Formula_someCanWin_72 rfl ?_
          refine s_cSi (pc' := 76) (As := [.inr (some a0), .inl (x1 + 1), .inl (x2 ||| v13)]) (rs := []) (fr' := (n + 2)) (lo' := (n * 24 + 60)) hC qs_Formula_42 rfl rfl (Nat.le_of_ble_eq_true rfl) ⟨by omega, by omega⟩ d_Formula_someCanWin_73 rfl (fun l g sz r w' h => ih l g sz w12 a0 (x1 + 1) (x2 ||| v13) r w' h) hF (fun v15 w14 hF => ?_)
          exact s_zret hC hR d_Formula_someCanWin_76 hF
        · refine s_iload (pc' := 60) hC d_Formula_someCanWin_58 rfl 0 rfl ?_
          exact s_zret hC hR d_Formula_someCanWin_60 hF
      · refine s_iconst (v := 0) (pc' := 23) hC d_Formula_someCanWin_22 rfl (by decide) ?_
        exact s_zret hC hR d_Formula_someCanWin_23 hF
  · refine s_iconst (v := 1) (pc' := 9) hC d_Formula_someCanWin_8 rfl (by decide) ?_
    exact s_zret hC hR d_Formula_someCanWin_9 hF
theorem c_Formula_someCanWin (n : Nat) : ∀ (l : Launch) (g : qk_G) (sz : Nat) (w : qw) (a0 : Nat) (x1 : Int32) (x2 : Int32) (r : Int32) (w' : qw), f_Formula_someCanWin n w a0 x1 x2 = some (r, w') → qMi l g sz y_Formula_someCanWin b_Formula_someCanWin 5 (some .boolean) (n + 2) (n * 24 + 60) [.inr (some a0), .inl x1, .inl x2] w r w' := by
  induction n with
  | zero => exact fun _ _ _ _ _ _ _ _ _ hF => q_nn (show (none : Option (Int32 × qw)) = some _ from hF)
  | succ n ih => exact fun l g sz w a0 x1 x2 r w' hF => qk_met_z (by decide) (Nat.le_of_ble_eq_true rfl) (fun X hC hR => k_Formula_someCanWin (f_Formula_someCanWin n) n ih r w' hC hR w a0 x1 x2 hF)
theorem qf_QP_10 : qF R_QP 10 0 0 := ⟨R_QP, F_QP, 5, rfl, by decide, in_QP, Or.inl fl_QP_10⟩
theorem qs_QP_42 : qV R_QP 42 y_Words_append b_Words_append 2 (some .boolean) 1 6 := ⟨Or.inl ml_QP_42, ic_Words_append, ii_Words_append, is_Words_append, in_c_Words, ⟨_, _, rfl⟩, by decide +kernel⟩
def f_QP_type (w : qw) (a0 : Nat) (x1 : Int32) : Option (Int32 × qw) :=
  q_b1 (q_gr w a0 0 0) fun r1 =>
  q_ob (q_is w r1 6) <| q_b2 (f_Words_append w r1 x1) fun v3 w2 =>
  q_ob (q_z v3) (some (v3, w2))
set_option maxHeartbeats 4000000 in
set_option maxRecDepth 100000 in
theorem k_QP_type {X : qX} (r : Int32) (w' : qw) (hC : qC X b_QP_type R_QP 2 1 21) (hR : qRz X b_QP_type r w') (w : qw) (a0 : Nat) (x1 : Int32) (hF : f_QP_type w a0 x1 = some (r, w')) : qG X 2 0 [(0, .inr (some a0)), (1, .inl x1)] [] w := by
  unfold f_QP_type at hF
  refine s_aload_n (pc' := 1) hC d_QP_type_0 rfl 0 rfl ?_
  refine s_getr (pc' := 4) hC qf_QP_10 d_QP_type_1 rfl hF (fun r1 hF => ?_)
  refine s_iload_n (pc' := 5) hC d_QP_type_4 rfl 1 rfl ?_
  refine s_cVi (pc' := 8) (As := [.inl x1]) (rs := []) (a := r1) (fr' := 0) (lo' := 0) hC qs_QP_42 rfl rfl (Nat.le_of_ble_eq_true rfl) ⟨by decide, by decide⟩ d_QP_type_5 rfl (fun l g sz r w' h => c_Words_append l g sz w r1 x1 r w' h) hF (fun v3 w2 hF => ?_)
  exact s_zret hC hR d_QP_type_8 hF
theorem c_QP_type (l : Launch) (g : qk_G) (sz : Nat) (w : qw) (a0 : Nat) (x1 : Int32) (r : Int32) (w' : qw) (hF : f_QP_type w a0 x1 = some (r, w')) : qMi l g sz y_QP_type b_QP_type 2 (some .boolean) 1 21 [.inr (some a0), .inl x1] w r w' := qk_met_z (by decide) (Nat.le_of_ble_eq_true rfl) (fun X hC hR => k_QP_type r w' hC hR w a0 x1 hF)
theorem qp_FormulaReader_28 : qP R_FormulaReader 28 3 5 .int := ⟨R_FormulaReader, F_FormulaReader, 6, t_FormulaReader, rfl, by decide, in_FormulaReader, Or.inl fl_FormulaReader_28, t_FormulaReader_ok, n_FormulaReader, rfl, by decide +kernel⟩
theorem qs_FormulaReader_18 : qV R_FormulaReader 18 y_Formula_forget b_Formula_forget 1 none 0 2 := ⟨Or.inl ml_FormulaReader_18, ic_Formula_forget, ii_Formula_forget, is_Formula_forget, in_c_Formula, ⟨_, _, rfl⟩, by decide +kernel⟩
def f_FormulaReader_begin (w : qw) (a0 : Nat) : Option (qw) :=
  q_b1 (q_gr w a0 3 0) fun r1 =>
  q_ob (q_is w r1 2) <| q_b1 (f_Formula_forget w r1) fun w2 =>
  q_ob (q_z 1) <| q_b1 (q_pf w2 a0 3 1 (.inl 1)) fun w3 =>
  q_ob (q_z 0) <| q_b1 (q_pf w3 a0 3 2 (.inl 0)) fun w4 =>
  q_b1 (q_pf w4 a0 3 5 (.inl 0)) fun w5 =>
  some w5
set_option maxHeartbeats 4000000 in
set_option maxRecDepth 100000 in
theorem k_FormulaReader_begin {X : qX} (w' : qw) (hC : qC X b_FormulaReader_begin R_FormulaReader 1 1 20) (hR : qRv X b_FormulaReader_begin w') (w : qw) (a0 : Nat) (hF : f_FormulaReader_begin w a0 = some w') : qG X 1 0 [(0, .inr (some a0))] [] w := by
  unfold f_FormulaReader_begin at hF
  refine s_aload_n (pc' := 1) hC d_FormulaReader_begin_0 rfl 0 rfl ?_
  refine s_getr (pc' := 4) hC qf_FormulaReader_12 d_FormulaReader_begin_1 rfl hF (fun r1 hF => ?_)
  refine s_cVv (pc' := 7) (As := []) (rs := []) (a := r1) (fr' := 0) (lo' := 0) hC qs_FormulaReader_18 rfl rfl (Nat.le_of_ble_eq_true rfl) ⟨by decide, by decide⟩ d_FormulaReader_begin_4 rfl (fun l g sz w' h => c_Formula_forget l g sz w r1 w' h) hF (fun w2 hF => ?_)
  refine s_aload_n (pc' := 8) hC d_FormulaReader_begin_7 rfl 0 rfl ?_
  refine s_iconst (v := 1) (pc' := 9) hC d_FormulaReader_begin_8 rfl (by decide) ?_
  refine s_putz (pc' := 12) hC qp_FormulaReader_21 d_FormulaReader_begin_9 rfl hF (fun w3 hF => ?_)
  refine s_aload_n (pc' := 13) hC d_FormulaReader_begin_12 rfl 0 rfl ?_
  refine s_iconst (v := 0) (pc' := 14) hC d_FormulaReader_begin_13 rfl (by decide) ?_
  refine s_putz (pc' := 17) hC qp_FormulaReader_25 d_FormulaReader_begin_14 rfl hF (fun w4 hF => ?_)
  refine s_aload_n (pc' := 18) hC d_FormulaReader_begin_17 rfl 0 rfl ?_
  refine s_iconst (v := 0) (pc' := 19) hC d_FormulaReader_begin_18 rfl (by decide) ?_
  refine s_puti (pc' := 22) hC qp_FormulaReader_28 d_FormulaReader_begin_19 rfl hF (fun w5 hF => ?_)
  exact s_vret hC hR d_FormulaReader_begin_22 hF
theorem c_FormulaReader_begin (l : Launch) (g : qk_G) (sz : Nat) (w : qw) (a0 : Nat) (w' : qw) (hF : f_FormulaReader_begin w a0 = some w') : qMv l g sz y_FormulaReader_begin b_FormulaReader_begin 1 none 1 20 [.inr (some a0)] w w' := qk_met_v (by decide) (Nat.le_of_ble_eq_true rfl) (fun X hC hR => k_FormulaReader_begin w' hC hR w a0 hF)
theorem qp_Words_28 : qP R_Words 28 6 4 .boolean := ⟨R_Words, F_Words, 6, t_Words, rfl, by decide, in_Words, Or.inl fl_Words_28, t_Words_ok, n_Words, rfl, by decide +kernel⟩
theorem qp_Words_32 : qP R_Words 32 6 5 .int := ⟨R_Words, F_Words, 6, t_Words, rfl, by decide, in_Words, Or.inl fl_Words_32, t_Words_ok, n_Words, rfl, by decide +kernel⟩
theorem qs_Words_35 : qV R_Words 35 y_Words_hasIdleZero b_Words_hasIdleZero 4 (some .boolean) 3 6 := ⟨Or.inl ml_Words_35, ic_Words_hasIdleZero, ii_Words_hasIdleZero, is_Words_hasIdleZero, in_c_Words, ⟨_, _, rfl⟩, by decide +kernel⟩
def lj_Words_readNumber_136  (c91 : Nat → Int32 → Int32 → Int32 → qw → Option (qw)) (a0 : Nat) (x1 : Int32) (x4 : Int32) (x5 : Int32) (x6 : Int32) (s0 : Int32) (b1 : Nat) (w : qw) : Option (qw) :=
  q_ob (q_z s0) <| q_b1 (q_pf w b1 6 4 (.inl s0)) fun w1 =>
  c91 a0 x1 ((x4 * 10) + (x6 - 48)) (x5 + 1) w1
def lj_Words_readNumber_158  (a0 : Nat) (x1 : Int32) (x4 : Int32) (w : qw) : Option (qw) :=
  if x1 = 0 then
    q_b1 (q_pf w a0 6 5 (.inl x4)) fun w2 =>
    some w2
  else
    q_b1 (q_pf w a0 6 5 (.inl (-x4))) fun w3 =>
    some w3
def lb_Words_readNumber_91  (c91 : Nat → Int32 → Int32 → Int32 → qw → Option (qw)) (a0 : Nat) (x1 : Int32) (x4 : Int32) (x5 : Int32) (w : qw) : Option (qw) :=
  q_b1 (q_gi w a0 6 3) fun v4 =>
  if v4 ≤ x5 then
    lj_Words_readNumber_158 a0 x1 x4 w
  else
    q_b1 (q_gi w a0 6 4) fun v5 =>
    if v5 = 0 then
      lj_Words_readNumber_158 a0 x1 x4 w
    else
      q_b1 (q_gr w a0 6 0) fun r6 =>
      q_b1 (q_ld w r6 1 x5) fun v7 =>
      if v7 < 48 then
        lj_Words_readNumber_136 c91 a0 x1 x4 x5 v7 0 a0 w
      else
        if 57 < v7 then
          lj_Words_readNumber_136 c91 a0 x1 x4 x5 v7 0 a0 w
        else
          lj_Words_readNumber_136 c91 a0 x1 x4 x5 v7 1 a0 w
def ll_Words_readNumber_91  : Nat → Nat → Int32 → Int32 → Int32 → qw → Option (qw)
  | 0 => fun _ _ _ _ _ => none
  | n + 1 => lb_Words_readNumber_91  (ll_Words_readNumber_91  n)
def lj_Words_readNumber_48  (a0 : Nat) (x1 : Int32) (s0 : Int32) (w : qw) : Option (qw) :=
  q_b1 (q_gi w a0 6 3) fun v8 =>
  if (v8 - s0) < 1 then
    q_ob (q_z 0) <| q_b1 (q_pf w a0 6 4 (.inl 0)) fun w9 =>
    ll_Words_readNumber_91 q_fu a0 x1 0 s0 w9
  else
    if 3 < (v8 - s0) then
      q_ob (q_z 0) <| q_b1 (q_pf w a0 6 4 (.inl 0)) fun w10 =>
      ll_Words_readNumber_91 q_fu a0 x1 0 s0 w10
    else
      q_ob (q_is w a0 6) <| q_b2 (f_Words_hasIdleZero w a0 s0 (v8 - s0) x1) fun v12 w11 =>
      if v12 = 0 then
        q_ob (q_z 1) <| q_b1 (q_pf w11 a0 6 4 (.inl 1)) fun w14 =>
        ll_Words_readNumber_91 q_fu a0 x1 0 s0 w14
      else
        q_ob (q_z 0) <| q_b1 (q_pf w11 a0 6 4 (.inl 0)) fun w13 =>
        ll_Words_readNumber_91 q_fu a0 x1 0 s0 w13
def lj_Words_readNumber_30  (a0 : Nat) (s0 : Int32) (w : qw) : Option (qw) :=
  if s0 = 0 then
    q_b1 (q_gi w a0 6 2) fun v15 =>
    lj_Words_readNumber_48 a0 s0 v15 w
  else
    q_b1 (q_gi w a0 6 2) fun v16 =>
    lj_Words_readNumber_48 a0 s0 (v16 + 1) w
def f_Words_readNumber (w : qw) (a0 : Nat) : Option (qw) :=
  q_b1 (q_gi w a0 6 2) fun v17 =>
  q_b1 (q_gi w a0 6 3) fun v18 =>
  if v18 ≤ v17 then
    lj_Words_readNumber_30 a0 0 w
  else
    q_b1 (q_gr w a0 6 0) fun r19 =>
    q_b1 (q_gi w a0 6 2) fun v20 =>
    q_b1 (q_ld w r19 1 v20) fun v21 =>
    if v21 = 45 then
      lj_Words_readNumber_30 a0 1 w
    else
      lj_Words_readNumber_30 a0 0 w
set_option maxHeartbeats 4000000 in
set_option maxRecDepth 100000 in
theorem k_Words_readNumber {X : qX} (w' : qw) (hC : qC X b_Words_readNumber R_Words 7 1 23) (hR : qRv X b_Words_readNumber w') (w : qw) (a0 : Nat) (hF : f_Words_readNumber w a0 = some w') : qG X 7 0 [(0, .inr (some a0))] [] w := by
  have J_158 : ∀ (a0 : Nat) (x1 : Int32) (x4 : Int32) (w : qw), lj_Words_readNumber_158  a0 x1 x4 w = some w' → qG X 7 158 [(0, .inr (some a0)), (1, .inl x1), (4, .inl x4)] [] w := by
    intro a0 x1 x4 w hF
    unfold lj_Words_readNumber_158 at hF
    refine s_aload_n (pc' := 159) hC d_Words_readNumber_158 rfl 0 rfl ?_
    refine s_iload_n (pc' := 160) hC d_Words_readNumber_159 rfl 1 rfl ?_
    refine s_if_eq (tgt := 169) (pc' := 163) hC d_Words_readNumber_160 rfl rfl hF (fun hF => ?_) (fun hF => ?_)
    · refine s_iload (pc' := 171) hC d_Words_readNumber_169 rfl 2 rfl ?_
      refine s_puti (pc' := 174) hC qp_Words_32 d_Words_readNumber_171 rfl hF (fun w2 hF => ?_)
      exact s_vret hC hR d_Words_readNumber_174 hF
    · refine s_iload (pc' := 165) hC d_Words_readNumber_163 rfl 2 rfl ?_
      refine s_ineg (pc' := 166) hC d_Words_readNumber_165 rfl ?_
      refine s_goto (tgt := 171) hC d_Words_readNumber_166 rfl ?_
      refine s_puti (pc' := 174) hC qp_Words_32 d_Words_readNumber_171 rfl hF (fun w3 hF => ?_)
      exact s_vret hC hR d_Words_readNumber_174 hF
  have L_91 : ∀ (n : Nat) (a0 : Nat) (x1 : Int32) (x4 : Int32) (x5 : Int32) (w : qw), ll_Words_readNumber_91  n a0 x1 x4 x5 w = some w' → qG X 7 91 [(0, .inr (some a0)), (1, .inl x1), (4, .inl x4), (5, .inl x5)] [] w := by
    intro n_91
    induction n_91 with
    | zero => exact fun _ _ _ _ _ hF => q_nn (show (none : Option (qw)) = some w' from hF)
    | succ n_91 ih_91 =>
      intro a0 x1 x4 x5 w hF
      have hF : lb_Words_readNumber_91  (ll_Words_readNumber_91  n_91) a0 x1 x4 x5 w = some w' := hF
      unfold lb_Words_readNumber_91 at hF
      have J_136 : ∀ (a0 : Nat) (x1 : Int32) (x4 : Int32) (x5 : Int32) (x6 : Int32) (s0 : Int32) (b1 : Nat) (w : qw), lj_Words_readNumber_136  (ll_Words_readNumber_91  n_91) a0 x1 x4 x5 x6 s0 b1 w = some w' → qG X 7 136 [(0, .inr (some a0)), (1, .inl x1), (4, .inl x4), (5, .inl x5), (6, .inl x6)] [.inl s0, .inr (some b1)] w := by
        intro a0 x1 x4 x5 x6 s0 b1 w hF
        unfold lj_Words_readNumber_136 at hF
        refine s_putz (pc' := 139) hC qp_Words_28 d_Words_readNumber_136 rfl hF (fun w1 hF => ?_)
        refine s_iload (pc' := 141) hC d_Words_readNumber_139 rfl 2 rfl ?_
        refine s_bipush (v := 10) (pc' := 143) hC d_Words_readNumber_141 rfl (by decide) ?_
        refine s_imul (pc' := 144) hC d_Words_readNumber_143 rfl ?_
        refine s_iload (pc' := 146) hC d_Words_readNumber_144 rfl 4 rfl ?_
        refine s_bipush (v := 48) (pc' := 148) hC d_Words_readNumber_146 rfl (by decide) ?_
        refine s_isub (pc' := 149) hC d_Words_readNumber_148 rfl ?_
        refine s_iadd (pc' := 150) hC d_Words_readNumber_149 rfl ?_
        refine s_istore (pc' := 152) (lv' := [(4, .inl ((x4 * 10) + (x6 - 48))), (0, .inr (some a0)), (1, .inl x1), (5, .inl x5), (6, .inl x6)]) hC d_Words_readNumber_150 rfl (by decide) rfl ?_
        refine s_iinc (pc' := 155) (n' := 1) (lv' := [(5, .inl (x5 + 1)), (4, .inl ((x4 * 10) + (x6 - 48))), (0, .inr (some a0)), (1, .inl x1), (6, .inl x6)]) hC d_Words_readNumber_152 rfl 3 rfl (by decide) (by decide) rfl ?_
        refine s_goto (tgt := 91) hC d_Words_readNumber_155 rfl ?_
        exact qG_sub [2, 3, 1, 0] rfl (ih_91 a0 x1 ((x4 * 10) + (x6 - 48)) (x5 + 1) w1 hF)
      refine s_iload (pc' := 93) hC d_Words_readNumber_91 rfl 3 rfl ?_
      refine s_aload_n (pc' := 94) hC d_Words_readNumber_93 rfl 0 rfl ?_
      refine s_geti (pc' := 97) hC qf_Words_19 d_Words_readNumber_94 rfl hF (fun v4 hF => ?_)
      refine s_icmp_ge (tgt := 158) (pc' := 100) hC d_Words_readNumber_97 rfl rfl hF (fun hF => ?_) (fun hF => ?_)
      · exact qG_sub [0, 1, 2] rfl (J_158 a0 x1 x4 w hF)
      · refine s_aload_n (pc' := 101) hC d_Words_readNumber_100 rfl 0 rfl ?_
        refine s_geti (pc' := 104) hC qf_Words_28 d_Words_readNumber_101 rfl hF (fun v5 hF => ?_)
        refine s_if_eq (tgt := 158) (pc' := 107) hC d_Words_readNumber_104 rfl rfl hF (fun hF => ?_) (fun hF => ?_)
        · exact qG_sub [0, 1, 2] rfl (J_158 a0 x1 x4 w hF)
        · refine s_aload_n (pc' := 108) hC d_Words_readNumber_107 rfl 0 rfl ?_
          refine s_getr (pc' := 111) hC qf_Words_9 d_Words_readNumber_108 rfl hF (fun r6 hF => ?_)
          refine s_iload (pc' := 113) hC d_Words_readNumber_111 rfl 3 rfl ?_
          refine s_cald (pc' := 114) hC d_Words_readNumber_113 rfl hF (fun v7 hF => ?_)
          refine s_istore (pc' := 116) (lv' := [(6, .inl v7), (0, .inr (some a0)), (1, .inl x1), (4, .inl x4), (5, .inl x5)]) hC d_Words_readNumber_114 rfl (by decide) rfl ?_
          refine s_aload_n (pc' := 117) hC d_Words_readNumber_116 rfl 1 rfl ?_
          refine s_iload (pc' := 119) hC d_Words_readNumber_117 rfl 0 rfl ?_
          refine s_bipush (v := 48) (pc' := 121) hC d_Words_readNumber_119 rfl (by decide) ?_
          refine s_icmp_lt (tgt := 135) (pc' := 124) hC d_Words_readNumber_121 rfl rfl hF (fun hF => ?_) (fun hF => ?_)
          · refine s_iconst (v := 0) (pc' := 136) hC d_Words_readNumber_135 rfl (by decide) ?_
            exact qG_sub [1, 2, 3, 4, 0] rfl (J_136 a0 x1 x4 x5 v7 0 a0 w hF)
          · refine s_iload (pc' := 126) hC d_Words_readNumber_124 rfl 0 rfl ?_
            refine s_bipush (v := 57) (pc' := 128) hC d_Words_readNumber_126 rfl (by decide) ?_
            refine s_icmp_gt (tgt := 135) (pc' := 131) hC d_Words_readNumber_128 rfl rfl hF (fun hF => ?_) (fun hF => ?_)
            · refine s_iconst (v := 0) (pc' := 136) hC d_Words_readNumber_135 rfl (by decide) ?_
              exact qG_sub [1, 2, 3, 4, 0] rfl (J_136 a0 x1 x4 x5 v7 0 a0 w hF)
            · refine s_iconst (v := 1) (pc' := 132) hC d_Words_readNumber_131 rfl (by decide) ?_
              refine s_goto (tgt := 136) hC d_Words_readNumber_132 rfl ?_
              exact qG_sub [1, 2, 3, 4, 0] rfl (J_136 a0 x1 x4 x5 v7 1 a0 w hF)
  have J_48 : ∀ (a0 : Nat) (x1 : Int32) (s0 : Int32) (w : qw), lj_Words_readNumber_48  a0 x1 s0 w = some w' → qG X 7 48 [(0, .inr (some a0)), (1, .inl x1)] [.inl s0] w := by
    intro a0 x1 s0 w hF
    unfold lj_Words_readNumber_48 at hF
    refine s_istore_n (pc' := 49) (lv' := [(2, .inl s0), (0, .inr (some a0)), (1, .inl x1)]) hC d_Words_readNumber_48 rfl (by decide) rfl ?_
    refine s_aload_n (pc' := 50) hC d_Words_readNumber_49 rfl 1 rfl ?_
    refine s_geti (pc' := 53) hC qf_Words_19 d_Words_readNumber_50 rfl hF (fun v8 hF => ?_)
    refine s_iload_n (pc' := 54) hC d_Words_readNumber_53 rfl 0 rfl ?_
    refine s_isub (pc' := 55) hC d_Words_readNumber_54 rfl ?_
    refine s_istore_n (pc' := 56) (lv' := [(3, .inl (v8 - s0)), (2, .inl s0), (0, .inr (some a0)), (1, .inl x1)]) hC d_Words_readNumber_55 rfl (by decide) rfl ?_
    refine s_aload_n (pc' := 57) hC d_Words_readNumber_56 rfl 2 rfl ?_
    refine s_iload_n (pc' := 58) hC d_Words_readNumber_57 rfl 0 rfl ?_
    refine s_iconst (v := 1) (pc' := 59) hC d_Words_readNumber_58 rfl (by decide) ?_
    refine s_icmp_lt (tgt := 81) (pc' := 62) hC d_Words_readNumber_59 rfl rfl hF (fun hF => ?_) (fun hF => ?_)
    · refine s_iconst (v := 0) (pc' := 82) hC d_Words_readNumber_81 rfl (by decide) ?_
      refine s_putz (pc' := 85) hC qp_Words_28 d_Words_readNumber_82 rfl hF (fun w9 hF => ?_)
      refine s_iconst (v := 0) (pc' := 86) hC d_Words_readNumber_85 rfl (by decide) ?_
      refine s_istore (pc' := 88) (lv' := [(4, .inl 0), (3, .inl (v8 - s0)), (2, .inl s0), (0, .inr (some a0)), (1, .inl x1)]) hC d_Words_readNumber_86 rfl (by decide) rfl ?_
      refine s_iload_n (pc' := 89) hC d_Words_readNumber_88 rfl 2 rfl ?_
      refine s_istore (pc' := 91) (lv' := [(5, .inl s0), (4, .inl 0), (3, .inl (v8 - s0)), (2, .inl s0), (0, .inr (some a0)), (1, .inl x1)]) hC d_Words_readNumber_89 rfl (by decide) rfl ?_
      exact qG_sub [4, 5, 1, 0] rfl (L_91 q_fu a0 x1 0 s0 w9 hF)
    · refine s_iload_n (pc' := 63) hC d_Words_readNumber_62 rfl 0 rfl ?_
      refine s_iconst (v := 3) (pc' := 64) hC d_Words_readNumber_63 rfl (by decide) ?_
      refine s_icmp_gt (tgt := 81) (pc' := 67) hC d_Words_readNumber_64 rfl rfl hF (fun hF => ?_) (fun hF => ?_)
      · refine s_iconst (v := 0) (pc' := 82) hC d_Words_readNumber_81 rfl (by decide) ?_
        refine s_putz (pc' := 85) hC qp_Words_28 d_Words_readNumber_82 rfl hF (fun w10 hF => ?_)
        refine s_iconst (v := 0) (pc' := 86) hC d_Words_readNumber_85 rfl (by decide) ?_
        refine s_istore (pc' := 88) (lv' := [(4, .inl 0), (3, .inl (v8 - s0)), (2, .inl s0), (0, .inr (some a0)), (1, .inl x1)]) hC d_Words_readNumber_86 rfl (by decide) rfl ?_
        refine s_iload_n (pc' := 89) hC d_Words_readNumber_88 rfl 2 rfl ?_
        refine s_istore (pc' := 91) (lv' := [(5, .inl s0), (4, .inl 0), (3, .inl (v8 - s0)), (2, .inl s0), (0, .inr (some a0)), (1, .inl x1)]) hC d_Words_readNumber_89 rfl (by decide) rfl ?_
        exact qG_sub [4, 5, 1, 0] rfl (L_91 q_fu a0 x1 0 s0 w10 hF)
      · refine s_aload_n (pc' := 68) hC d_Words_readNumber_67 rfl 2 rfl ?_
        refine s_iload_n (pc' := 69) hC d_Words_readNumber_68 rfl 1 rfl ?_
        refine s_iload_n (pc' := 70) hC d_Words_readNumber_69 rfl 0 rfl ?_
        refine s_iload_n (pc' := 71) hC d_Words_readNumber_70 rfl 3 rfl ?_
        refine s_cVi (pc' := 74) (As := [.inl s0, .inl (v8 - s0), .inl x1]) (rs := [.inr (some a0)]) (a := a0) (fr' := 0) (lo' := 0) hC qs_Words_35 rfl rfl (Nat.le_of_ble_eq_true rfl) ⟨by decide, by decide⟩ d_Words_readNumber_71 rfl (fun l g sz r w' h => c_Words_hasIdleZero l g sz w a0 s0 (v8 - s0) x1 r w' h) hF (fun v12 w11 hF => ?_)
        refine s_if_ne (tgt := 81) (pc' := 77) hC d_Words_readNumber_74 rfl rfl hF (fun hF => ?_) (fun hF => ?_)
        · refine s_iconst (v := 0) (pc' := 82) hC d_Words_readNumber_81 rfl (by decide) ?_
          refine s_putz (pc' := 85) hC qp_Words_28 d_Words_readNumber_82 rfl hF (fun w13 hF => ?_)
          refine s_iconst (v := 0) (pc' := 86) hC d_Words_readNumber_85 rfl (by decide) ?_
          refine s_istore (pc' := 88) (lv' := [(4, .inl 0), (3, .inl (v8 - s0)), (2, .inl s0), (0, .inr (some a0)), (1, .inl x1)]) hC d_Words_readNumber_86 rfl (by decide) rfl ?_
          refine s_iload_n (pc' := 89) hC d_Words_readNumber_88 rfl 2 rfl ?_
          refine s_istore (pc' := 91) (lv' := [(5, .inl s0), (4, .inl 0), (3, .inl (v8 - s0)), (2, .inl s0), (0, .inr (some a0)), (1, .inl x1)]) hC d_Words_readNumber_89 rfl (by decide) rfl ?_
          exact qG_sub [4, 5, 1, 0] rfl (L_91 q_fu a0 x1 0 s0 w13 hF)
        · refine s_iconst (v := 1) (pc' := 78) hC d_Words_readNumber_77 rfl (by decide) ?_
          refine s_goto (tgt := 82) hC d_Words_readNumber_78 rfl ?_
          refine s_putz (pc' := 85) hC qp_Words_28 d_Words_readNumber_82 rfl hF (fun w14 hF => ?_)
          refine s_iconst (v := 0) (pc' := 86) hC d_Words_readNumber_85 rfl (by decide) ?_
          refine s_istore (pc' := 88) (lv' := [(4, .inl 0), (3, .inl (v8 - s0)), (2, .inl s0), (0, .inr (some a0)), (1, .inl x1)]) hC d_Words_readNumber_86 rfl (by decide) rfl ?_
          refine s_iload_n (pc' := 89) hC d_Words_readNumber_88 rfl 2 rfl ?_
          refine s_istore (pc' := 91) (lv' := [(5, .inl s0), (4, .inl 0), (3, .inl (v8 - s0)), (2, .inl s0), (0, .inr (some a0)), (1, .inl x1)]) hC d_Words_readNumber_89 rfl (by decide) rfl ?_
          exact qG_sub [4, 5, 1, 0] rfl (L_91 q_fu a0 x1 0 s0 w14 hF)
  have J_30 : ∀ (a0 : Nat) (s0 : Int32) (w : qw), lj_Words_readNumber_30  a0 s0 w = some w' → qG X 7 30 [(0, .inr (some a0))] [.inl s0] w := by
    intro a0 s0 w hF
    unfold lj_Words_readNumber_30 at hF
    refine s_istore_n (pc' := 31) (lv' := [(1, .inl s0), (0, .inr (some a0))]) hC d_Words_readNumber_30 rfl (by decide) rfl ?_
    refine s_iload_n (pc' := 32) hC d_Words_readNumber_31 rfl 0 rfl ?_
    refine s_if_eq (tgt := 44) (pc' := 35) hC d_Words_readNumber_32 rfl rfl hF (fun hF => ?_) (fun hF => ?_)
    · refine s_aload_n (pc' := 45) hC d_Words_readNumber_44 rfl 1 rfl ?_
      refine s_geti (pc' := 48) hC qf_Words_22 d_Words_readNumber_45 rfl hF (fun v15 hF => ?_)
      exact qG_sub [1, 0] rfl (J_48 a0 s0 v15 w hF)
    · refine s_aload_n (pc' := 36) hC d_Words_readNumber_35 rfl 1 rfl ?_
      refine s_geti (pc' := 39) hC qf_Words_22 d_Words_readNumber_36 rfl hF (fun v16 hF => ?_)
      refine s_iconst (v := 1) (pc' := 40) hC d_Words_readNumber_39 rfl (by decide) ?_
      refine s_iadd (pc' := 41) hC d_Words_readNumber_40 rfl ?_
      refine s_goto (tgt := 48) hC d_Words_readNumber_41 rfl ?_
      exact qG_sub [1, 0] rfl (J_48 a0 s0 (v16 + 1) w hF)
  unfold f_Words_readNumber at hF
  refine s_aload_n (pc' := 1) hC d_Words_readNumber_0 rfl 0 rfl ?_
  refine s_geti (pc' := 4) hC qf_Words_22 d_Words_readNumber_1 rfl hF (fun v17 hF => ?_)
  refine s_aload_n (pc' := 5) hC d_Words_readNumber_4 rfl 0 rfl ?_
  refine s_geti (pc' := 8) hC qf_Words_19 d_Words_readNumber_5 rfl hF (fun v18 hF => ?_)
  refine s_icmp_ge (tgt := 29) (pc' := 11) hC d_Words_readNumber_8 rfl rfl hF (fun hF => ?_) (fun hF => ?_)
  · refine s_iconst (v := 0) (pc' := 30) hC d_Words_readNumber_29 rfl (by decide) ?_
    exact qG_sub [0] rfl (J_30 a0 0 w hF)
  · refine s_aload_n (pc' := 12) hC d_Words_readNumber_11 rfl 0 rfl ?_
    refine s_getr (pc' := 15) hC qf_Words_9 d_Words_readNumber_12 rfl hF (fun r19 hF => ?_)
    refine s_aload_n (pc' := 16) hC d_Words_readNumber_15 rfl 0 rfl ?_
    refine s_geti (pc' := 19) hC qf_Words_22 d_Words_readNumber_16 rfl hF (fun v20 hF => ?_)
    refine s_cald (pc' := 20) hC d_Words_readNumber_19 rfl hF (fun v21 hF => ?_)
    refine s_bipush (v := 45) (pc' := 22) hC d_Words_readNumber_20 rfl (by decide) ?_
    refine s_icmp_ne (tgt := 29) (pc' := 25) hC d_Words_readNumber_22 rfl rfl hF (fun hF => ?_) (fun hF => ?_)
    · refine s_iconst (v := 0) (pc' := 30) hC d_Words_readNumber_29 rfl (by decide) ?_
      exact qG_sub [0] rfl (J_30 a0 0 w hF)
    · refine s_iconst (v := 1) (pc' := 26) hC d_Words_readNumber_25 rfl (by decide) ?_
      refine s_goto (tgt := 30) hC d_Words_readNumber_26 rfl ?_
      exact qG_sub [0] rfl (J_30 a0 1 w hF)
theorem c_Words_readNumber (l : Launch) (g : qk_G) (sz : Nat) (w : qw) (a0 : Nat) (w' : qw) (hF : f_Words_readNumber w a0 = some w') : qMv l g sz y_Words_readNumber b_Words_readNumber 7 none 1 23 [.inr (some a0)] w w' := qk_met_v (by decide) (Nat.le_of_ble_eq_true rfl) (fun X hC hR => k_Words_readNumber w' hC hR w a0 hF)
theorem qp_FormulaReader_57 : qP R_FormulaReader 57 3 3 .boolean := ⟨R_FormulaReader, F_FormulaReader, 6, t_FormulaReader, rfl, by decide, in_FormulaReader, Or.inl fl_FormulaReader_57, t_FormulaReader_ok, n_FormulaReader, rfl, by decide +kernel⟩
theorem qp_FormulaReader_60 : qP R_FormulaReader 60 3 4 .boolean := ⟨R_FormulaReader, F_FormulaReader, 6, t_FormulaReader, rfl, by decide, in_FormulaReader, Or.inl fl_FormulaReader_60, t_FormulaReader_ok, n_FormulaReader, rfl, by decide +kernel⟩
theorem qf_FormulaReader_21 : qF R_FormulaReader 21 3 1 := ⟨R_FormulaReader, F_FormulaReader, 6, rfl, by decide, in_FormulaReader, Or.inl fl_FormulaReader_21⟩
theorem qs_FormulaReader_53 : qV R_FormulaReader 53 y_Words_isLetter b_Words_isLetter 2 (some .boolean) 1 6 := ⟨Or.inl ml_FormulaReader_53, ic_Words_isLetter, ii_Words_isLetter, is_Words_isLetter, in_c_Words, ⟨_, _, rfl⟩, by decide +kernel⟩
def lj_FormulaReader_takeLetter_29  (a0 : Nat) (x2 : Int32) (w : qw) : Option (Int32 × qw) :=
  q_ob (q_z 0) <| q_b1 (q_pf w a0 3 1 (.inl 0)) fun w1 =>
  q_ob (q_z 1) <| q_b1 (q_pf w1 a0 3 2 (.inl 1)) fun w2 =>
  q_ob (q_z 0) <| q_b1 (q_pf w2 a0 3 3 (.inl 0)) fun w3 =>
  q_ob (q_z x2) <| q_b1 (q_pf w3 a0 3 4 (.inl x2)) fun w4 =>
  some (0, w4)
def f_FormulaReader_takeLetter (w : qw) (a0 : Nat) (a1 : Nat) : Option (Int32 × qw) :=
  q_ob (q_is w a1 6) <| q_b2 (f_Words_isLetter w a1 97) fun v6 w5 =>
  q_b1 (q_gi w5 a0 3 1) fun v7 =>
  if v7 = 0 then
    some (1, w5)
  else
    if v6 = 0 then
      q_ob (q_is w5 a1 6) <| q_b2 (f_Words_isLetter w5 a1 101) fun v9 w8 =>
      if v9 = 0 then
        some (1, w8)
      else
        lj_FormulaReader_takeLetter_29 a0 v6 w8
    else
      lj_FormulaReader_takeLetter_29 a0 v6 w5
set_option maxHeartbeats 4000000 in
set_option maxRecDepth 100000 in
theorem k_FormulaReader_takeLetter {X : qX} (r : Int32) (w' : qw) (hC : qC X b_FormulaReader_takeLetter R_FormulaReader 3 1 21) (hR : qRi X b_FormulaReader_takeLetter r w') (w : qw) (a0 : Nat) (a1 : Nat) (hF : f_FormulaReader_takeLetter w a0 a1 = some (r, w')) : qG X 3 0 [(0, .inr (some a0)), (1, .inr (some a1))] [] w := by
  have J_29 : ∀ (a0 : Nat) (x2 : Int32) (w : qw), lj_FormulaReader_takeLetter_29  a0 x2 w = some (r, w') → qG X 3 29 [(0, .inr (some a0)), (2, .inl x2)] [] w := by
    intro a0 x2 w hF
    unfold lj_FormulaReader_takeLetter_29 at hF
    refine s_aload_n (pc' := 30) hC d_FormulaReader_takeLetter_29 rfl 0 rfl ?_
    refine s_iconst (v := 0) (pc' := 31) hC d_FormulaReader_takeLetter_30 rfl (by decide) ?_
    refine s_putz (pc' := 34) hC qp_FormulaReader_21 d_FormulaReader_takeLetter_31 rfl hF (fun w1 hF => ?_)
    refine s_aload_n (pc' := 35) hC d_FormulaReader_takeLetter_34 rfl 0 rfl ?_
    refine s_iconst (v := 1) (pc' := 36) hC d_FormulaReader_takeLetter_35 rfl (by decide) ?_
    refine s_putz (pc' := 39) hC qp_FormulaReader_25 d_FormulaReader_takeLetter_36 rfl hF (fun w2 hF => ?_)
    refine s_aload_n (pc' := 40) hC d_FormulaReader_takeLetter_39 rfl 0 rfl ?_
    refine s_iconst (v := 0) (pc' := 41) hC d_FormulaReader_takeLetter_40 rfl (by decide) ?_
    refine s_putz (pc' := 44) hC qp_FormulaReader_57 d_FormulaReader_takeLetter_41 rfl hF (fun w3 hF => ?_)
    refine s_aload_n (pc' := 45) hC d_FormulaReader_takeLetter_44 rfl 0 rfl ?_
    refine s_iload_n (pc' := 46) hC d_FormulaReader_takeLetter_45 rfl 1 rfl ?_
    refine s_putz (pc' := 49) hC qp_FormulaReader_60 d_FormulaReader_takeLetter_46 rfl hF (fun w4 hF => ?_)
    refine s_iconst (v := 0) (pc' := 50) hC d_FormulaReader_takeLetter_49 rfl (by decide) ?_
    exact s_iret hC hR d_FormulaReader_takeLetter_50 hF
  unfold f_FormulaReader_takeLetter at hF
  refine s_aload_n (pc' := 1) hC d_FormulaReader_takeLetter_0 rfl 1 rfl ?_
  refine s_bipush (v := 97) (pc' := 3) hC d_FormulaReader_takeLetter_1 rfl (by decide) ?_
  refine s_cVi (pc' := 6) (As := [.inl 97]) (rs := []) (a := a1) (fr' := 0) (lo' := 0) hC qs_FormulaReader_53 rfl rfl (Nat.le_of_ble_eq_true rfl) ⟨by decide, by decide⟩ d_FormulaReader_takeLetter_3 rfl (fun l g sz r w' h => c_Words_isLetter l g sz w a1 97 r w' h) hF (fun v6 w5 hF => ?_)
  refine s_istore_n (pc' := 7) (lv' := [(2, .inl v6), (0, .inr (some a0)), (1, .inr (some a1))]) hC d_FormulaReader_takeLetter_6 rfl (by decide) rfl ?_
  refine s_aload_n (pc' := 8) hC d_FormulaReader_takeLetter_7 rfl 1 rfl ?_
  refine s_geti (pc' := 11) hC qf_FormulaReader_21 d_FormulaReader_takeLetter_8 rfl hF (fun v7 hF => ?_)
  refine s_if_eq (tgt := 27) (pc' := 14) hC d_FormulaReader_takeLetter_11 rfl rfl hF (fun hF => ?_) (fun hF => ?_)
  · refine s_iconst (v := 1) (pc' := 28) hC d_FormulaReader_takeLetter_27 rfl (by decide) ?_
    exact s_iret hC hR d_FormulaReader_takeLetter_28 hF
  · refine s_iload_n (pc' := 15) hC d_FormulaReader_takeLetter_14 rfl 0 rfl ?_
    refine s_if_ne (tgt := 29) (pc' := 18) hC d_FormulaReader_takeLetter_15 rfl rfl hF (fun hF => ?_) (fun hF => ?_)
    · exact qG_sub [1, 0] rfl (J_29 a0 v6 w5 hF)
    · refine s_aload_n (pc' := 19) hC d_FormulaReader_takeLetter_18 rfl 2 rfl ?_
      refine s_bipush (v := 101) (pc' := 21) hC d_FormulaReader_takeLetter_19 rfl (by decide) ?_
      refine s_cVi (pc' := 24) (As := [.inl 101]) (rs := []) (a := a1) (fr' := 0) (lo' := 0) hC qs_FormulaReader_53 rfl rfl (Nat.le_of_ble_eq_true rfl) ⟨by decide, by decide⟩ d_FormulaReader_takeLetter_21 rfl (fun l g sz r w' h => c_Words_isLetter l g sz w5 a1 101 r w' h) hF (fun v9 w8 hF => ?_)
      refine s_if_ne (tgt := 29) (pc' := 27) hC d_FormulaReader_takeLetter_24 rfl rfl hF (fun hF => ?_) (fun hF => ?_)
      · exact qG_sub [1, 0] rfl (J_29 a0 v6 w8 hF)
      · refine s_iconst (v := 1) (pc' := 28) hC d_FormulaReader_takeLetter_27 rfl (by decide) ?_
        exact s_iret hC hR d_FormulaReader_takeLetter_28 hF
theorem c_FormulaReader_takeLetter (l : Launch) (g : qk_G) (sz : Nat) (w : qw) (a0 : Nat) (a1 : Nat) (r : Int32) (w' : qw) (hF : f_FormulaReader_takeLetter w a0 a1 = some (r, w')) : qMi l g sz y_FormulaReader_takeLetter b_FormulaReader_takeLetter 3 (some .int) 1 21 [.inr (some a0), .inr (some a1)] w r w' := qk_met_i (by decide) (Nat.le_of_ble_eq_true rfl) (fun X hC hR => k_FormulaReader_takeLetter r w' hC hR w a0 a1 hF)
theorem qs_Formula_31 : qS R_Formula 31 y_QP_literalsOf b_QP_literalsOf 1 (some .int) 1 := ⟨Or.inr ⟨_, mn_Formula_31⟩, ic_QP_literalsOf, is_QP_literalsOf, in_c_QP, by decide +kernel⟩
def f_Formula_hasLiteral (w : qw) (a0 : Nat) (x1 : Int32) : Option (Int32 × qw) :=
  if x1 = 0 then
    q_ob (q_z 0) (some (0, w))
  else
    if x1 < (-8) then
      q_ob (q_z 0) (some (0, w))
    else
      if 8 < x1 then
        q_ob (q_z 0) (some (0, w))
      else
        q_b1 (q_gi w a0 2 4) fun v1 =>
        q_b1 (q_gi w a0 2 5) fun v2 =>
        q_b2 (f_QP_literalsOf w (v1 ||| v2)) fun v4 w3 =>
        q_b2 (f_QP_setOf w3 x1) fun v6 w5 =>
        if (v4 &&& v6) = 0 then
          q_ob (q_z 0) (some (0, w5))
        else
          q_ob (q_z 1) (some (1, w5))
set_option maxHeartbeats 4000000 in
set_option maxRecDepth 100000 in
theorem k_Formula_hasLiteral {X : qX} (r : Int32) (w' : qw) (hC : qC X b_Formula_hasLiteral R_Formula 2 1 20) (hR : qRz X b_Formula_hasLiteral r w') (w : qw) (a0 : Nat) (x1 : Int32) (hF : f_Formula_hasLiteral w a0 x1 = some (r, w')) : qG X 2 0 [(0, .inr (some a0)), (1, .inl x1)] [] w := by
  unfold f_Formula_hasLiteral at hF
  refine s_iload_n (pc' := 1) hC d_Formula_hasLiteral_0 rfl 1 rfl ?_
  refine s_if_eq (tgt := 40) (pc' := 4) hC d_Formula_hasLiteral_1 rfl rfl hF (fun hF => ?_) (fun hF => ?_)
  · refine s_iconst (v := 0) (pc' := 41) hC d_Formula_hasLiteral_40 rfl (by decide) ?_
    exact s_zret hC hR d_Formula_hasLiteral_41 hF
  · refine s_iload_n (pc' := 5) hC d_Formula_hasLiteral_4 rfl 1 rfl ?_
    refine s_bipush (v := (-8)) (pc' := 7) hC d_Formula_hasLiteral_5 rfl (by decide) ?_
    refine s_icmp_lt (tgt := 40) (pc' := 10) hC d_Formula_hasLiteral_7 rfl rfl hF (fun hF => ?_) (fun hF => ?_)
    · refine s_iconst (v := 0) (pc' := 41) hC d_Formula_hasLiteral_40 rfl (by decide) ?_
      exact s_zret hC hR d_Formula_hasLiteral_41 hF
    · refine s_iload_n (pc' := 11) hC d_Formula_hasLiteral_10 rfl 1 rfl ?_
      refine s_bipush (v := 8) (pc' := 13) hC d_Formula_hasLiteral_11 rfl (by decide) ?_
      refine s_icmp_gt (tgt := 40) (pc' := 16) hC d_Formula_hasLiteral_13 rfl rfl hF (fun hF => ?_) (fun hF => ?_)
      · refine s_iconst (v := 0) (pc' := 41) hC d_Formula_hasLiteral_40 rfl (by decide) ?_
        exact s_zret hC hR d_Formula_hasLiteral_41 hF
      · refine s_aload_n (pc' := 17) hC d_Formula_hasLiteral_16 rfl 0 rfl ?_
        refine s_geti (pc' := 20) hC qf_Formula_25 d_Formula_hasLiteral_17 rfl hF (fun v1 hF => ?_)
        refine s_aload_n (pc' := 21) hC d_Formula_hasLiteral_20 rfl 0 rfl ?_
        refine s_geti (pc' := 24) hC qf_Formula_28 d_Formula_hasLiteral_21 rfl hF (fun v2 hF => ?_)
        refine s_ior (pc' := 25) hC d_Formula_hasLiteral_24 rfl ?_
        refine s_cSi (pc' := 28) (As := [.inl (v1 ||| v2)]) (rs := []) (fr' := 0) (lo' := 0) hC qs_Formula_31 rfl rfl (Nat.le_of_ble_eq_true rfl) ⟨by decide, by decide⟩ d_Formula_hasLiteral_25 rfl (fun l g sz r w' h => c_QP_literalsOf l g sz w (v1 ||| v2) r w' h) hF (fun v4 w3 hF => ?_)
        refine s_iload_n (pc' := 29) hC d_Formula_hasLiteral_28 rfl 1 rfl ?_
        refine s_cSi (pc' := 32) (As := [.inl x1]) (rs := [.inl v4]) (fr' := 0) (lo' := 0) hC qs_Formula_35 rfl rfl (Nat.le_of_ble_eq_true rfl) ⟨by decide, by decide⟩ d_Formula_hasLiteral_29 rfl (fun l g sz r w' h => c_QP_setOf l g sz w3 x1 r w' h) hF (fun v6 w5 hF => ?_)
        refine s_iand (pc' := 33) hC d_Formula_hasLiteral_32 rfl ?_
        refine s_if_eq (tgt := 40) (pc' := 36) hC d_Formula_hasLiteral_33 rfl rfl hF (fun hF => ?_) (fun hF => ?_)
        · refine s_iconst (v := 0) (pc' := 41) hC d_Formula_hasLiteral_40 rfl (by decide) ?_
          exact s_zret hC hR d_Formula_hasLiteral_41 hF
        · refine s_iconst (v := 1) (pc' := 37) hC d_Formula_hasLiteral_36 rfl (by decide) ?_
          refine s_goto (tgt := 41) hC d_Formula_hasLiteral_37 rfl ?_
          exact s_zret hC hR d_Formula_hasLiteral_41 hF
theorem c_Formula_hasLiteral (l : Launch) (g : qk_G) (sz : Nat) (w : qw) (a0 : Nat) (x1 : Int32) (r : Int32) (w' : qw) (hF : f_Formula_hasLiteral w a0 x1 = some (r, w')) : qMi l g sz y_Formula_hasLiteral b_Formula_hasLiteral 2 (some .boolean) 1 20 [.inr (some a0), .inl x1] w r w' := qk_met_z (by decide) (Nat.le_of_ble_eq_true rfl) (fun X hC hR => k_Formula_hasLiteral r w' hC hR w a0 x1 hF)
theorem qs_FormulaReader_80 : qV R_FormulaReader 80 y_Formula_addClause b_Formula_addClause 2 (some .boolean) 1 2 := ⟨Or.inl ml_FormulaReader_80, ic_Formula_addClause, ii_Formula_addClause, is_Formula_addClause, in_c_Formula, ⟨_, _, rfl⟩, by decide +kernel⟩
def f_FormulaReader_endClause (w : qw) (a0 : Nat) : Option (Int32 × qw) :=
  q_b1 (q_gr w a0 3 0) fun r1 =>
  q_b1 (q_gi w a0 3 5) fun v2 =>
  q_ob (q_is w r1 2) <| q_b2 (f_Formula_addClause w r1 v2) fun v4 w3 =>
  q_b1 (q_pf w3 a0 3 5 (.inl 0)) fun w5 =>
  if v4 = 0 then
    some (4, w5)
  else
    some (0, w5)
set_option maxHeartbeats 4000000 in
set_option maxRecDepth 100000 in
theorem k_FormulaReader_endClause {X : qX} (r : Int32) (w' : qw) (hC : qC X b_FormulaReader_endClause R_FormulaReader 2 1 21) (hR : qRi X b_FormulaReader_endClause r w') (w : qw) (a0 : Nat) (hF : f_FormulaReader_endClause w a0 = some (r, w')) : qG X 2 0 [(0, .inr (some a0))] [] w := by
  unfold f_FormulaReader_endClause at hF
  refine s_aload_n (pc' := 1) hC d_FormulaReader_endClause_0 rfl 0 rfl ?_
  refine s_getr (pc' := 4) hC qf_FormulaReader_12 d_FormulaReader_endClause_1 rfl hF (fun r1 hF => ?_)
  refine s_aload_n (pc' := 5) hC d_FormulaReader_endClause_4 rfl 0 rfl ?_
  refine s_geti (pc' := 8) hC qf_FormulaReader_28 d_FormulaReader_endClause_5 rfl hF (fun v2 hF => ?_)
  refine s_cVi (pc' := 11) (As := [.inl v2]) (rs := []) (a := r1) (fr' := 0) (lo' := 0) hC qs_FormulaReader_80 rfl rfl (Nat.le_of_ble_eq_true rfl) ⟨by decide, by decide⟩ d_FormulaReader_endClause_8 rfl (fun l g sz r w' h => c_Formula_addClause l g sz w r1 v2 r w' h) hF (fun v4 w3 hF => ?_)
  refine s_istore_n (pc' := 12) (lv' := [(1, .inl v4), (0, .inr (some a0))]) hC d_FormulaReader_endClause_11 rfl (by decide) rfl ?_
  refine s_aload_n (pc' := 13) hC d_FormulaReader_endClause_12 rfl 1 rfl ?_
  refine s_iconst (v := 0) (pc' := 14) hC d_FormulaReader_endClause_13 rfl (by decide) ?_
  refine s_puti (pc' := 17) hC qp_FormulaReader_28 d_FormulaReader_endClause_14 rfl hF (fun w5 hF => ?_)
  refine s_iload_n (pc' := 18) hC d_FormulaReader_endClause_17 rfl 0 rfl ?_
  refine s_if_eq (tgt := 25) (pc' := 21) hC d_FormulaReader_endClause_18 rfl rfl hF (fun hF => ?_) (fun hF => ?_)
  · refine s_iconst (v := 4) (pc' := 26) hC d_FormulaReader_endClause_25 rfl (by decide) ?_
    exact s_iret hC hR d_FormulaReader_endClause_26 hF
  · refine s_iconst (v := 0) (pc' := 22) hC d_FormulaReader_endClause_21 rfl (by decide) ?_
    refine s_goto (tgt := 26) hC d_FormulaReader_endClause_22 rfl ?_
    exact s_iret hC hR d_FormulaReader_endClause_26 hF
theorem c_FormulaReader_endClause (l : Launch) (g : qk_G) (sz : Nat) (w : qw) (a0 : Nat) (r : Int32) (w' : qw) (hF : f_FormulaReader_endClause w a0 = some (r, w')) : qMi l g sz y_FormulaReader_endClause b_FormulaReader_endClause 2 (some .int) 1 21 [.inr (some a0)] w r w' := qk_met_i (by decide) (Nat.le_of_ble_eq_true rfl) (fun X hC hR => k_FormulaReader_endClause r w' hC hR w a0 hF)
theorem qf_TraceReader_12 : qF R_TraceReader 12 5 0 := ⟨R_TraceReader, F_TraceReader, 8, rfl, by decide, in_TraceReader, Or.inl fl_TraceReader_12⟩
theorem qp_TraceReader_77 : qP R_TraceReader 77 5 5 .int := ⟨R_TraceReader, F_TraceReader, 8, t_TraceReader, rfl, by decide, in_TraceReader, Or.inl fl_TraceReader_77, t_TraceReader_ok, n_TraceReader, rfl, by decide +kernel⟩
theorem qp_TraceReader_80 : qP R_TraceReader 80 5 6 .int := ⟨R_TraceReader, F_TraceReader, 8, t_TraceReader, rfl, by decide, in_TraceReader, Or.inl fl_TraceReader_80, t_TraceReader_ok, n_TraceReader, rfl, by decide +kernel⟩
theorem qp_TraceReader_83 : qP R_TraceReader 83 5 7 .int := ⟨R_TraceReader, F_TraceReader, 8, t_TraceReader, rfl, by decide, in_TraceReader, Or.inl fl_TraceReader_83, t_TraceReader_ok, n_TraceReader, rfl, by decide +kernel⟩
theorem qs_TraceReader_74 : qV R_TraceReader 74 y_Proof_isFull b_Proof_isFull 1 (some .boolean) 0 4 := ⟨Or.inl ml_TraceReader_74, ic_Proof_isFull, ii_Proof_isFull, is_Proof_isFull, in_c_Proof, ⟨_, _, rfl⟩, by decide +kernel⟩
theorem qs_TraceReader_71 : qV R_TraceReader 71 y_Proof_find b_Proof_find 3 (some .int) 1 4 := ⟨Or.inl ml_TraceReader_71, ic_Proof_find, ii_Proof_find, is_Proof_find, in_c_Proof, ⟨_, _, rfl⟩, by decide +kernel⟩
def f_TraceReader_beginStep (w : qw) (a0 : Nat) (x1 : Int32) : Option (Int32 × qw) :=
  if 1 ≤ x1 then
    if 99 < x1 then
      some (2, w)
    else
      q_b1 (q_gr w a0 5 0) fun r1 =>
      q_ob (q_is w r1 4) <| q_b2 (f_Proof_find w r1 x1) fun v3 w2 =>
      if v3 = (-1) then
        q_b1 (q_gr w2 a0 5 0) fun r4 =>
        q_ob (q_is w2 r4 4) <| q_b2 (f_Proof_isFull w2 r4) fun v6 w5 =>
        if v6 = 0 then
          q_b1 (q_pf w5 a0 5 5 (.inl x1)) fun w7 =>
          q_b1 (q_pf w7 a0 5 6 (.inl 0)) fun w8 =>
          q_b1 (q_pf w8 a0 5 7 (.inl 0)) fun w9 =>
          q_b1 (q_pf w9 a0 5 3 (.inl 2)) fun w10 =>
          some (0, w10)
        else
          some (4, w5)
      else
        some (2, w2)
  else
    some (1, w)
set_option maxHeartbeats 4000000 in
set_option maxRecDepth 100000 in
theorem k_TraceReader_beginStep {X : qX} (r : Int32) (w' : qw) (hC : qC X b_TraceReader_beginStep R_TraceReader 2 1 22) (hR : qRi X b_TraceReader_beginStep r w') (w : qw) (a0 : Nat) (x1 : Int32) (hF : f_TraceReader_beginStep w a0 x1 = some (r, w')) : qG X 2 0 [(0, .inr (some a0)), (1, .inl x1)] [] w := by
  unfold f_TraceReader_beginStep at hF
  refine s_iload_n (pc' := 1) hC d_TraceReader_beginStep_0 rfl 1 rfl ?_
  refine s_iconst (v := 1) (pc' := 2) hC d_TraceReader_beginStep_1 rfl (by decide) ?_
  refine s_icmp_ge (tgt := 7) (pc' := 5) hC d_TraceReader_beginStep_2 rfl rfl hF (fun hF => ?_) (fun hF => ?_)
  · refine s_iload_n (pc' := 8) hC d_TraceReader_beginStep_7 rfl 1 rfl ?_
    refine s_bipush (v := 99) (pc' := 10) hC d_TraceReader_beginStep_8 rfl (by decide) ?_
    refine s_icmp_gt (tgt := 25) (pc' := 13) hC d_TraceReader_beginStep_10 rfl rfl hF (fun hF => ?_) (fun hF => ?_)
    · refine s_iconst (v := 2) (pc' := 26) hC d_TraceReader_beginStep_25 rfl (by decide) ?_
      exact s_iret hC hR d_TraceReader_beginStep_26 hF
    · refine s_aload_n (pc' := 14) hC d_TraceReader_beginStep_13 rfl 0 rfl ?_
      refine s_getr (pc' := 17) hC qf_TraceReader_12 d_TraceReader_beginStep_14 rfl hF (fun r1 hF => ?_)
      refine s_iload_n (pc' := 18) hC d_TraceReader_beginStep_17 rfl 1 rfl ?_
      refine s_cVi (pc' := 21) (As := [.inl x1]) (rs := []) (a := r1) (fr' := 0) (lo' := 0) hC qs_TraceReader_71 rfl rfl (Nat.le_of_ble_eq_true rfl) ⟨by decide, by decide⟩ d_TraceReader_beginStep_18 rfl (fun l g sz r w' h => c_Proof_find l g sz w r1 x1 r w' h) hF (fun v3 w2 hF => ?_)
      refine s_iconst (v := (-1)) (pc' := 22) hC d_TraceReader_beginStep_21 rfl (by decide) ?_
      refine s_icmp_eq (tgt := 27) (pc' := 25) hC d_TraceReader_beginStep_22 rfl rfl hF (fun hF => ?_) (fun hF => ?_)
      · refine s_aload_n (pc' := 28) hC d_TraceReader_beginStep_27 rfl 0 rfl ?_
        refine s_getr (pc' := 31) hC qf_TraceReader_12 d_TraceReader_beginStep_28 rfl hF (fun r4 hF => ?_)
        refine s_cVi (pc' := 34) (As := []) (rs := []) (a := r4) (fr' := 0) (lo' := 0) hC qs_TraceReader_74 rfl rfl (Nat.le_of_ble_eq_true rfl) ⟨by decide, by decide⟩ d_TraceReader_beginStep_31 rfl (fun l g sz r w' h => c_Proof_isFull l g sz w2 r4 r w' h) hF (fun v6 w5 hF => ?_)
        refine s_if_eq (tgt := 39) (pc' := 37) hC d_TraceReader_beginStep_34 rfl rfl hF (fun hF => ?_) (fun hF => ?_)
        · refine s_aload_n (pc' := 40) hC d_TraceReader_beginStep_39 rfl 0 rfl ?_
          refine s_iload_n (pc' := 41) hC d_TraceReader_beginStep_40 rfl 1 rfl ?_
          refine s_puti (pc' := 44) hC qp_TraceReader_77 d_TraceReader_beginStep_41 rfl hF (fun w7 hF => ?_)
          refine s_aload_n (pc' := 45) hC d_TraceReader_beginStep_44 rfl 0 rfl ?_
          refine s_iconst (v := 0) (pc' := 46) hC d_TraceReader_beginStep_45 rfl (by decide) ?_
          refine s_puti (pc' := 49) hC qp_TraceReader_80 d_TraceReader_beginStep_46 rfl hF (fun w8 hF => ?_)
          refine s_aload_n (pc' := 50) hC d_TraceReader_beginStep_49 rfl 0 rfl ?_
          refine s_iconst (v := 0) (pc' := 51) hC d_TraceReader_beginStep_50 rfl (by decide) ?_
          refine s_puti (pc' := 54) hC qp_TraceReader_83 d_TraceReader_beginStep_51 rfl hF (fun w9 hF => ?_)
          refine s_aload_n (pc' := 55) hC d_TraceReader_beginStep_54 rfl 0 rfl ?_
          refine s_iconst (v := 2) (pc' := 56) hC d_TraceReader_beginStep_55 rfl (by decide) ?_
          refine s_puti (pc' := 59) hC qp_TraceReader_29 d_TraceReader_beginStep_56 rfl hF (fun w10 hF => ?_)
          refine s_iconst (v := 0) (pc' := 60) hC d_TraceReader_beginStep_59 rfl (by decide) ?_
          exact s_iret hC hR d_TraceReader_beginStep_60 hF
        · refine s_iconst (v := 4) (pc' := 38) hC d_TraceReader_beginStep_37 rfl (by decide) ?_
          exact s_iret hC hR d_TraceReader_beginStep_38 hF
      · refine s_iconst (v := 2) (pc' := 26) hC d_TraceReader_beginStep_25 rfl (by decide) ?_
        exact s_iret hC hR d_TraceReader_beginStep_26 hF
  · refine s_iconst (v := 1) (pc' := 6) hC d_TraceReader_beginStep_5 rfl (by decide) ?_
    exact s_iret hC hR d_TraceReader_beginStep_6 hF
theorem c_TraceReader_beginStep (l : Launch) (g : qk_G) (sz : Nat) (w : qw) (a0 : Nat) (x1 : Int32) (r : Int32) (w' : qw) (hF : f_TraceReader_beginStep w a0 x1 = some (r, w')) : qMi l g sz y_TraceReader_beginStep b_TraceReader_beginStep 2 (some .int) 1 22 [.inr (some a0), .inl x1] w r w' := qk_met_i (by decide) (Nat.le_of_ble_eq_true rfl) (fun X hC hR => k_TraceReader_beginStep r w' hC hR w a0 x1 hF)
theorem qf_TraceReader_80 : qF R_TraceReader 80 5 6 := ⟨R_TraceReader, F_TraceReader, 8, rfl, by decide, in_TraceReader, Or.inl fl_TraceReader_80⟩
theorem qs_TraceReader_90 : qS R_TraceReader 90 y_QP_setOf b_QP_setOf 1 (some .int) 1 := ⟨Or.inr ⟨_, mn_TraceReader_90⟩, ic_QP_setOf, is_QP_setOf, in_c_QP, by decide +kernel⟩
theorem qs_TraceReader_86 : qV R_TraceReader 86 y_Formula_hasLiteral b_Formula_hasLiteral 2 (some .boolean) 1 2 := ⟨Or.inl ml_TraceReader_86, ic_Formula_hasLiteral, ii_Formula_hasLiteral, is_Formula_hasLiteral, in_c_Formula, ⟨_, _, rfl⟩, by decide +kernel⟩
def f_TraceReader_takeLiteral (w : qw) (a0 : Nat) (x1 : Int32) : Option (Int32 × qw) :=
  if x1 = 0 then
    q_b1 (q_pf w a0 5 3 (.inl 3)) fun w11 =>
    some (0, w11)
  else
    q_b1 (q_gr w a0 5 2) fun r1 =>
    q_ob (q_is w r1 2) <| q_b2 (f_Formula_hasLiteral w r1 x1) fun v3 w2 =>
    if v3 = 0 then
      some (2, w2)
    else
      q_b1 (q_gi w2 a0 5 6) fun v4 =>
      q_b2 (f_QP_setOf w2 x1) fun v6 w5 =>
      if (v4 &&& v6) = 0 then
        q_b1 (q_gi w5 a0 5 6) fun v7 =>
        q_b2 (f_QP_setOf w5 x1) fun v9 w8 =>
        q_b1 (q_pf w8 a0 5 6 (.inl (v7 ||| v9))) fun w10 =>
        some (0, w10)
      else
        some (3, w5)
set_option maxHeartbeats 4000000 in
set_option maxRecDepth 100000 in
theorem k_TraceReader_takeLiteral {X : qX} (r : Int32) (w' : qw) (hC : qC X b_TraceReader_takeLiteral R_TraceReader 2 2 41) (hR : qRi X b_TraceReader_takeLiteral r w') (w : qw) (a0 : Nat) (x1 : Int32) (hF : f_TraceReader_takeLiteral w a0 x1 = some (r, w')) : qG X 2 0 [(0, .inr (some a0)), (1, .inl x1)] [] w := by
  unfold f_TraceReader_takeLiteral at hF
  refine s_iload_n (pc' := 1) hC d_TraceReader_takeLiteral_0 rfl 1 rfl ?_
  refine s_if_ne (tgt := 11) (pc' := 4) hC d_TraceReader_takeLiteral_1 rfl rfl hF (fun hF => ?_) (fun hF => ?_)
  · refine s_aload_n (pc' := 12) hC d_TraceReader_takeLiteral_11 rfl 0 rfl ?_
    refine s_getr (pc' := 15) hC qf_TraceReader_25 d_TraceReader_takeLiteral_12 rfl hF (fun r1 hF => ?_)
    refine s_iload_n (pc' := 16) hC d_TraceReader_takeLiteral_15 rfl 1 rfl ?_
    refine s_cVi (pc' := 19) (As := [.inl x1]) (rs := []) (a := r1) (fr' := 1) (lo' := 20) hC qs_TraceReader_86 rfl rfl (Nat.le_of_ble_eq_true rfl) ⟨by decide, by decide⟩ d_TraceReader_takeLiteral_16 rfl (fun l g sz r w' h => c_Formula_hasLiteral l g sz w r1 x1 r w' h) hF (fun v3 w2 hF => ?_)
    refine s_if_ne (tgt := 24) (pc' := 22) hC d_TraceReader_takeLiteral_19 rfl rfl hF (fun hF => ?_) (fun hF => ?_)
    · refine s_aload_n (pc' := 25) hC d_TraceReader_takeLiteral_24 rfl 0 rfl ?_
      refine s_geti (pc' := 28) hC qf_TraceReader_80 d_TraceReader_takeLiteral_25 rfl hF (fun v4 hF => ?_)
      refine s_iload_n (pc' := 29) hC d_TraceReader_takeLiteral_28 rfl 1 rfl ?_
      refine s_cSi (pc' := 32) (As := [.inl x1]) (rs := [.inl v4]) (fr' := 0) (lo' := 0) hC qs_TraceReader_90 rfl rfl (Nat.le_of_ble_eq_true rfl) ⟨by decide, by decide⟩ d_TraceReader_takeLiteral_29 rfl (fun l g sz r w' h => c_QP_setOf l g sz w2 x1 r w' h) hF (fun v6 w5 hF => ?_)
      refine s_iand (pc' := 33) hC d_TraceReader_takeLiteral_32 rfl ?_
      refine s_if_eq (tgt := 38) (pc' := 36) hC d_TraceReader_takeLiteral_33 rfl rfl hF (fun hF => ?_) (fun hF => ?_)
      · refine s_aload_n (pc' := 39) hC d_TraceReader_takeLiteral_38 rfl 0 rfl ?_
        refine s_dup (pc' := 40) hC d_TraceReader_takeLiteral_39 rfl ?_
        refine s_geti (pc' := 43) hC qf_TraceReader_80 d_TraceReader_takeLiteral_40 rfl hF (fun v7 hF => ?_)
        refine s_iload_n (pc' := 44) hC d_TraceReader_takeLiteral_43 rfl 1 rfl ?_
        refine s_cSi (pc' := 47) (As := [.inl x1]) (rs := [.inl v7, .inr (some a0)]) (fr' := 0) (lo' := 0) hC qs_TraceReader_90 rfl rfl (Nat.le_of_ble_eq_true rfl) ⟨by decide, by decide⟩ d_TraceReader_takeLiteral_44 rfl (fun l g sz r w' h => c_QP_setOf l g sz w5 x1 r w' h) hF (fun v9 w8 hF => ?_)
        refine s_ior (pc' := 48) hC d_TraceReader_takeLiteral_47 rfl ?_
        refine s_puti (pc' := 51) hC qp_TraceReader_80 d_TraceReader_takeLiteral_48 rfl hF (fun w10 hF => ?_)
        refine s_iconst (v := 0) (pc' := 52) hC d_TraceReader_takeLiteral_51 rfl (by decide) ?_
        exact s_iret hC hR d_TraceReader_takeLiteral_52 hF
      · refine s_iconst (v := 3) (pc' := 37) hC d_TraceReader_takeLiteral_36 rfl (by decide) ?_
        exact s_iret hC hR d_TraceReader_takeLiteral_37 hF
    · refine s_iconst (v := 2) (pc' := 23) hC d_TraceReader_takeLiteral_22 rfl (by decide) ?_
      exact s_iret hC hR d_TraceReader_takeLiteral_23 hF
  · refine s_aload_n (pc' := 5) hC d_TraceReader_takeLiteral_4 rfl 0 rfl ?_
    refine s_iconst (v := 3) (pc' := 6) hC d_TraceReader_takeLiteral_5 rfl (by decide) ?_
    refine s_puti (pc' := 9) hC qp_TraceReader_29 d_TraceReader_takeLiteral_6 rfl hF (fun w11 hF => ?_)
    refine s_iconst (v := 0) (pc' := 10) hC d_TraceReader_takeLiteral_9 rfl (by decide) ?_
    exact s_iret hC hR d_TraceReader_takeLiteral_10 hF
theorem c_TraceReader_takeLiteral (l : Launch) (g : qk_G) (sz : Nat) (w : qw) (a0 : Nat) (x1 : Int32) (r : Int32) (w' : qw) (hF : f_TraceReader_takeLiteral w a0 x1 = some (r, w')) : qMi l g sz y_TraceReader_takeLiteral b_TraceReader_takeLiteral 2 (some .int) 2 41 [.inr (some a0), .inl x1] w r w' := qk_met_i (by decide) (Nat.le_of_ble_eq_true rfl) (fun X hC hR => k_TraceReader_takeLiteral r w' hC hR w a0 x1 hF)
theorem qf_TraceReader_96 : qF R_TraceReader 96 4 3 := ⟨R_Proof, F_Proof, 5, rfl, by decide, in_Proof, Or.inr ⟨_, fn_TraceReader_96⟩⟩
theorem qf_TraceReader_83 : qF R_TraceReader 83 5 7 := ⟨R_TraceReader, F_TraceReader, 8, rfl, by decide, in_TraceReader, Or.inl fl_TraceReader_83⟩
theorem qf_TraceReader_18 : qF R_TraceReader 18 5 1 := ⟨R_TraceReader, F_TraceReader, 8, rfl, by decide, in_TraceReader, Or.inl fl_TraceReader_18⟩
theorem qs_TraceReader_93 : qV R_TraceReader 93 y_Proof_has b_Proof_has 2 (some .boolean) 1 4 := ⟨Or.inl ml_TraceReader_93, ic_Proof_has, ii_Proof_has, is_Proof_has, in_c_Proof, ⟨_, _, rfl⟩, by decide +kernel⟩
def f_TraceReader_takePremise (w : qw) (a0 : Nat) (x1 : Int32) : Option (Int32 × qw) :=
  q_b1 (q_gr w a0 5 0) fun r1 =>
  q_ob (q_is w r1 4) <| q_b2 (f_Proof_find w r1 x1) fun v3 w2 =>
  q_b1 (q_gr w2 a0 5 0) fun r4 =>
  q_ob (q_is w2 r4 4) <| q_b2 (f_Proof_has w2 r4 v3) fun v6 w5 =>
  if v6 = 0 then
    some (2, w5)
  else
    q_b1 (q_gr w5 a0 5 0) fun r7 =>
    q_b1 (q_gr w5 r7 4 3) fun r8 =>
    q_b1 (q_ld w5 r8 2 v3) fun v9 =>
    q_b1 (q_gi w5 a0 5 4) fun v10 =>
    if v9 = v10 then
      q_b1 (q_gi w5 a0 5 7) fun v11 =>
      if v11 < 2 then
        q_b1 (q_gr w5 a0 5 1) fun r12 =>
        q_b1 (q_gi w5 a0 5 7) fun v13 =>
        q_b1 (q_st w5 r12 0 v13 v3) fun w14 =>
        q_b1 (q_gi w14 a0 5 7) fun v15 =>
        q_b1 (q_pf w14 a0 5 7 (.inl (v15 + 1))) fun w16 =>
        some (0, w16)
      else
        some (4, w5)
    else
      some (2, w5)
set_option maxHeartbeats 4000000 in
set_option maxRecDepth 100000 in
theorem k_TraceReader_takePremise {X : qX} (r : Int32) (w' : qw) (hC : qC X b_TraceReader_takePremise R_TraceReader 3 1 22) (hR : qRi X b_TraceReader_takePremise r w') (w : qw) (a0 : Nat) (x1 : Int32) (hF : f_TraceReader_takePremise w a0 x1 = some (r, w')) : qG X 3 0 [(0, .inr (some a0)), (1, .inl x1)] [] w := by
  unfold f_TraceReader_takePremise at hF
  refine s_aload_n (pc' := 1) hC d_TraceReader_takePremise_0 rfl 0 rfl ?_
  refine s_getr (pc' := 4) hC qf_TraceReader_12 d_TraceReader_takePremise_1 rfl hF (fun r1 hF => ?_)
  refine s_iload_n (pc' := 5) hC d_TraceReader_takePremise_4 rfl 1 rfl ?_
  refine s_cVi (pc' := 8) (As := [.inl x1]) (rs := []) (a := r1) (fr' := 0) (lo' := 0) hC qs_TraceReader_71 rfl rfl (Nat.le_of_ble_eq_true rfl) ⟨by decide, by decide⟩ d_TraceReader_takePremise_5 rfl (fun l g sz r w' h => c_Proof_find l g sz w r1 x1 r w' h) hF (fun v3 w2 hF => ?_)
  refine s_istore_n (pc' := 9) (lv' := [(2, .inl v3), (0, .inr (some a0)), (1, .inl x1)]) hC d_TraceReader_takePremise_8 rfl (by decide) rfl ?_
  refine s_aload_n (pc' := 10) hC d_TraceReader_takePremise_9 rfl 1 rfl ?_
  refine s_getr (pc' := 13) hC qf_TraceReader_12 d_TraceReader_takePremise_10 rfl hF (fun r4 hF => ?_)
  refine s_iload_n (pc' := 14) hC d_TraceReader_takePremise_13 rfl 0 rfl ?_
  refine s_cVi (pc' := 17) (As := [.inl v3]) (rs := []) (a := r4) (fr' := 0) (lo' := 0) hC qs_TraceReader_93 rfl rfl (Nat.le_of_ble_eq_true rfl) ⟨by decide, by decide⟩ d_TraceReader_takePremise_14 rfl (fun l g sz r w' h => c_Proof_has l g sz w2 r4 v3 r w' h) hF (fun v6 w5 hF => ?_)
  refine s_if_eq (tgt := 36) (pc' := 20) hC d_TraceReader_takePremise_17 rfl rfl hF (fun hF => ?_) (fun hF => ?_)
  · refine s_iconst (v := 2) (pc' := 37) hC d_TraceReader_takePremise_36 rfl (by decide) ?_
    exact s_iret hC hR d_TraceReader_takePremise_37 hF
  · refine s_aload_n (pc' := 21) hC d_TraceReader_takePremise_20 rfl 1 rfl ?_
    refine s_getr (pc' := 24) hC qf_TraceReader_12 d_TraceReader_takePremise_21 rfl hF (fun r7 hF => ?_)
    refine s_getr (pc' := 27) hC qf_TraceReader_96 d_TraceReader_takePremise_24 rfl hF (fun r8 hF => ?_)
    refine s_iload_n (pc' := 28) hC d_TraceReader_takePremise_27 rfl 0 rfl ?_
    refine s_zald (pc' := 29) hC d_TraceReader_takePremise_28 rfl hF (fun v9 hF => ?_)
    refine s_aload_n (pc' := 30) hC d_TraceReader_takePremise_29 rfl 1 rfl ?_
    refine s_geti (pc' := 33) hC qf_TraceReader_67 d_TraceReader_takePremise_30 rfl hF (fun v10 hF => ?_)
    refine s_icmp_eq (tgt := 38) (pc' := 36) hC d_TraceReader_takePremise_33 rfl rfl hF (fun hF => ?_) (fun hF => ?_)
    · refine s_aload_n (pc' := 39) hC d_TraceReader_takePremise_38 rfl 1 rfl ?_
      refine s_geti (pc' := 42) hC qf_TraceReader_83 d_TraceReader_takePremise_39 rfl hF (fun v11 hF => ?_)
      refine s_iconst (v := 2) (pc' := 43) hC d_TraceReader_takePremise_42 rfl (by decide) ?_
      refine s_icmp_lt (tgt := 48) (pc' := 46) hC d_TraceReader_takePremise_43 rfl rfl hF (fun hF => ?_) (fun hF => ?_)
      · refine s_aload_n (pc' := 49) hC d_TraceReader_takePremise_48 rfl 1 rfl ?_
        refine s_getr (pc' := 52) hC qf_TraceReader_18 d_TraceReader_takePremise_49 rfl hF (fun r12 hF => ?_)
        refine s_aload_n (pc' := 53) hC d_TraceReader_takePremise_52 rfl 1 rfl ?_
        refine s_geti (pc' := 56) hC qf_TraceReader_83 d_TraceReader_takePremise_53 rfl hF (fun v13 hF => ?_)
        refine s_iload_n (pc' := 57) hC d_TraceReader_takePremise_56 rfl 0 rfl ?_
        refine s_iast (pc' := 58) hC d_TraceReader_takePremise_57 rfl hF (fun w14 hF => ?_)
        refine s_aload_n (pc' := 59) hC d_TraceReader_takePremise_58 rfl 1 rfl ?_
        refine s_dup (pc' := 60) hC d_TraceReader_takePremise_59 rfl ?_
        refine s_geti (pc' := 63) hC qf_TraceReader_83 d_TraceReader_takePremise_60 rfl hF (fun v15 hF => ?_)
        refine s_iconst (v := 1) (pc' := 64) hC d_TraceReader_takePremise_63 rfl (by decide) ?_
        refine s_iadd (pc' := 65) hC d_TraceReader_takePremise_64 rfl ?_
        refine s_puti (pc' := 68) hC qp_TraceReader_83 d_TraceReader_takePremise_65 rfl hF (fun w16 hF => ?_)
        refine s_iconst (v := 0) (pc' := 69) hC d_TraceReader_takePremise_68 rfl (by decide) ?_
        exact s_iret hC hR d_TraceReader_takePremise_69 hF
      · refine s_iconst (v := 4) (pc' := 47) hC d_TraceReader_takePremise_46 rfl (by decide) ?_
        exact s_iret hC hR d_TraceReader_takePremise_47 hF
    · refine s_iconst (v := 2) (pc' := 37) hC d_TraceReader_takePremise_36 rfl (by decide) ?_
      exact s_iret hC hR d_TraceReader_takePremise_37 hF
theorem c_TraceReader_takePremise (l : Launch) (g : qk_G) (sz : Nat) (w : qw) (a0 : Nat) (x1 : Int32) (r : Int32) (w' : qw) (hF : f_TraceReader_takePremise w a0 x1 = some (r, w')) : qMi l g sz y_TraceReader_takePremise b_TraceReader_takePremise 3 (some .int) 1 22 [.inr (some a0), .inl x1] w r w' := qk_met_i (by decide) (Nat.le_of_ble_eq_true rfl) (fun X hC hR => k_TraceReader_takePremise r w' hC hR w a0 x1 hF)
theorem qs_TraceReader_131 : qV R_TraceReader 131 y_Formula_isMetBy b_Formula_isMetBy 3 (some .boolean) 1 2 := ⟨Or.inl ml_TraceReader_131, ic_Formula_isMetBy, ii_Formula_isMetBy, is_Formula_isMetBy, in_c_Formula, ⟨_, _, rfl⟩, by decide +kernel⟩
theorem qs_TraceReader_128 : qS R_TraceReader 128 y_QP_bothWaysIn b_QP_bothWaysIn 1 (some .int) 1 := ⟨Or.inr ⟨_, mn_TraceReader_128⟩, ic_QP_bothWaysIn, is_QP_bothWaysIn, in_c_QP, by decide +kernel⟩
def f_TraceReader_isStartCube (w : qw) (a0 : Nat) : Option (Int32 × qw) :=
  q_b1 (q_gi w a0 5 6) fun v1 =>
  q_b2 (f_QP_bothWaysIn w v1) fun v3 w2 =>
  if v3 = 0 then
    q_b1 (q_gr w2 a0 5 2) fun r4 =>
    q_b1 (q_gi w2 a0 5 6) fun v5 =>
    q_ob (q_is w2 r4 2) <| q_b2 (f_Formula_isMetBy w2 r4 v5) fun v7 w6 =>
    if v7 = 0 then
      q_ob (q_z 0) (some (0, w6))
    else
      q_ob (q_z 1) (some (1, w6))
  else
    q_ob (q_z 0) (some (0, w2))
set_option maxHeartbeats 4000000 in
set_option maxRecDepth 100000 in
theorem k_TraceReader_isStartCube {X : qX} (r : Int32) (w' : qw) (hC : qC X b_TraceReader_isStartCube R_TraceReader 1 1 22) (hR : qRz X b_TraceReader_isStartCube r w') (w : qw) (a0 : Nat) (hF : f_TraceReader_isStartCube w a0 = some (r, w')) : qG X 1 0 [(0, .inr (some a0))] [] w := by
  unfold f_TraceReader_isStartCube at hF
  refine s_aload_n (pc' := 1) hC d_TraceReader_isStartCube_0 rfl 0 rfl ?_
  refine s_geti (pc' := 4) hC qf_TraceReader_80 d_TraceReader_isStartCube_1 rfl hF (fun v1 hF => ?_)
  refine s_cSi (pc' := 7) (As := [.inl v1]) (rs := []) (fr' := 0) (lo' := 0) hC qs_TraceReader_128 rfl rfl (Nat.le_of_ble_eq_true rfl) ⟨by decide, by decide⟩ d_TraceReader_isStartCube_4 rfl (fun l g sz r w' h => c_QP_bothWaysIn l g sz w v1 r w' h) hF (fun v3 w2 hF => ?_)
  refine s_if_ne (tgt := 28) (pc' := 10) hC d_TraceReader_isStartCube_7 rfl rfl hF (fun hF => ?_) (fun hF => ?_)
  · refine s_iconst (v := 0) (pc' := 29) hC d_TraceReader_isStartCube_28 rfl (by decide) ?_
    exact s_zret hC hR d_TraceReader_isStartCube_29 hF
  · refine s_aload_n (pc' := 11) hC d_TraceReader_isStartCube_10 rfl 0 rfl ?_
    refine s_getr (pc' := 14) hC qf_TraceReader_25 d_TraceReader_isStartCube_11 rfl hF (fun r4 hF => ?_)
    refine s_aload_n (pc' := 15) hC d_TraceReader_isStartCube_14 rfl 0 rfl ?_
    refine s_geti (pc' := 18) hC qf_TraceReader_80 d_TraceReader_isStartCube_15 rfl hF (fun v5 hF => ?_)
    refine s_cVi (pc' := 21) (As := [.inl v5]) (rs := []) (a := r4) (fr' := 0) (lo' := 0) hC qs_TraceReader_131 rfl rfl (Nat.le_of_ble_eq_true rfl) ⟨by decide, by decide⟩ d_TraceReader_isStartCube_18 rfl (fun l g sz r w' h => c_Formula_isMetBy l g sz w2 r4 v5 r w' h) hF (fun v7 w6 hF => ?_)
    refine s_if_eq (tgt := 28) (pc' := 24) hC d_TraceReader_isStartCube_21 rfl rfl hF (fun hF => ?_) (fun hF => ?_)
    · refine s_iconst (v := 0) (pc' := 29) hC d_TraceReader_isStartCube_28 rfl (by decide) ?_
      exact s_zret hC hR d_TraceReader_isStartCube_29 hF
    · refine s_iconst (v := 1) (pc' := 25) hC d_TraceReader_isStartCube_24 rfl (by decide) ?_
      refine s_goto (tgt := 29) hC d_TraceReader_isStartCube_25 rfl ?_
      exact s_zret hC hR d_TraceReader_isStartCube_29 hF
theorem c_TraceReader_isStartCube (l : Launch) (g : qk_G) (sz : Nat) (w : qw) (a0 : Nat) (r : Int32) (w' : qw) (hF : f_TraceReader_isStartCube w a0 = some (r, w')) : qMi l g sz y_TraceReader_isStartCube b_TraceReader_isStartCube 1 (some .boolean) 1 22 [.inr (some a0)] w r w' := qk_met_z (by decide) (Nat.le_of_ble_eq_true rfl) (fun X hC hR => k_TraceReader_isStartCube r w' hC hR w a0 hF)
theorem qs_TraceReader_146 : qS R_TraceReader 146 y_QP_literalsOf b_QP_literalsOf 1 (some .int) 1 := ⟨Or.inr ⟨_, mn_TraceReader_146⟩, ic_QP_literalsOf, is_QP_literalsOf, in_c_QP, by decide +kernel⟩
theorem qs_TraceReader_143 : qV R_TraceReader 143 y_TraceReader_sideVariables b_TraceReader_sideVariables 1 (some .int) 0 5 := ⟨Or.inl ml_TraceReader_143, ic_TraceReader_sideVariables, ii_TraceReader_sideVariables, is_TraceReader_sideVariables, in_c_TraceReader, ⟨_, _, rfl⟩, by decide +kernel⟩
theorem qs_TraceReader_140 : qV R_TraceReader 140 y_Formula_innerToAll b_Formula_innerToAll 5 (some .int) 1 2 := ⟨Or.inl ml_TraceReader_140, ic_Formula_innerToAll, ii_Formula_innerToAll, is_Formula_innerToAll, in_c_Formula, ⟨_, _, rfl⟩, by decide +kernel⟩
theorem qs_TraceReader_137 : qV R_TraceReader 137 y_TraceReader_mainVariables b_TraceReader_mainVariables 1 (some .int) 0 5 := ⟨Or.inl ml_TraceReader_137, ic_TraceReader_mainVariables, ii_TraceReader_mainVariables, is_TraceReader_mainVariables, in_c_TraceReader, ⟨_, _, rfl⟩, by decide +kernel⟩
theorem qs_TraceReader_134 : qS R_TraceReader 134 y_QP_variablesIn b_QP_variablesIn 1 (some .int) 1 := ⟨Or.inr ⟨_, mn_TraceReader_134⟩, ic_QP_variablesIn, is_QP_variablesIn, in_c_QP, by decide +kernel⟩
def f_TraceReader_isReductionOf (w : qw) (a0 : Nat) (x1 : Int32) : Option (Int32 × qw) :=
  q_b1 (q_gr w a0 5 2) fun r1 =>
  q_b2 (f_QP_variablesIn w x1) fun v3 w2 =>
  q_ob (q_is w2 a0 5) <| q_b2 (f_TraceReader_mainVariables w2 a0) fun v5 w4 =>
  q_ob (q_is w4 r1 2) <| q_b2 (f_Formula_innerToAll w4 r1 (v3 &&& v5)) fun v7 w6 =>
  q_b1 (q_gi w6 a0 5 6) fun v8 =>
  q_ob (q_is w6 a0 5) <| q_b2 (f_TraceReader_sideVariables w6 a0) fun v10 w9 =>
  q_b2 (f_QP_literalsOf w9 (v7 &&& v10)) fun v12 w11 =>
  if v8 = (x1 &&& (v12 ^^^ (-1))) then
    q_ob (q_z 1) (some (1, w11))
  else
    q_ob (q_z 0) (some (0, w11))
set_option maxHeartbeats 4000000 in
set_option maxRecDepth 100000 in
theorem k_TraceReader_isReductionOf {X : qX} (r : Int32) (w' : qw) (hC : qC X b_TraceReader_isReductionOf R_TraceReader 3 2 44) (hR : qRz X b_TraceReader_isReductionOf r w') (w : qw) (a0 : Nat) (x1 : Int32) (hF : f_TraceReader_isReductionOf w a0 x1 = some (r, w')) : qG X 3 0 [(0, .inr (some a0)), (1, .inl x1)] [] w := by
  unfold f_TraceReader_isReductionOf at hF
  refine s_aload_n (pc' := 1) hC d_TraceReader_isReductionOf_0 rfl 0 rfl ?_
  refine s_getr (pc' := 4) hC qf_TraceReader_25 d_TraceReader_isReductionOf_1 rfl hF (fun r1 hF => ?_)
  refine s_iload_n (pc' := 5) hC d_TraceReader_isReductionOf_4 rfl 1 rfl ?_
  refine s_cSi (pc' := 8) (As := [.inl x1]) (rs := [.inr (some r1)]) (fr' := 0) (lo' := 0) hC qs_TraceReader_134 rfl rfl (Nat.le_of_ble_eq_true rfl) ⟨by decide, by decide⟩ d_TraceReader_isReductionOf_5 rfl (fun l g sz r w' h => c_QP_variablesIn l g sz w x1 r w' h) hF (fun v3 w2 hF => ?_)
  refine s_aload_n (pc' := 9) hC d_TraceReader_isReductionOf_8 rfl 0 rfl ?_
  refine s_cVi (pc' := 12) (As := []) (rs := [.inl v3, .inr (some r1)]) (a := a0) (fr' := 0) (lo' := 0) hC qs_TraceReader_137 rfl rfl (Nat.le_of_ble_eq_true rfl) ⟨by decide, by decide⟩ d_TraceReader_isReductionOf_9 rfl (fun l g sz r w' h => c_TraceReader_mainVariables l g sz w2 a0 r w' h) hF (fun v5 w4 hF => ?_)
  refine s_iand (pc' := 13) hC d_TraceReader_isReductionOf_12 rfl ?_
  refine s_cVi (pc' := 16) (As := [.inl (v3 &&& v5)]) (rs := []) (a := r1) (fr' := 1) (lo' := 20) hC qs_TraceReader_140 rfl rfl (Nat.le_of_ble_eq_true rfl) ⟨by decide, by decide⟩ d_TraceReader_isReductionOf_13 rfl (fun l g sz r w' h => c_Formula_innerToAll l g sz w4 r1 (v3 &&& v5) r w' h) hF (fun v7 w6 hF => ?_)
  refine s_istore_n (pc' := 17) (lv' := [(2, .inl v7), (0, .inr (some a0)), (1, .inl x1)]) hC d_TraceReader_isReductionOf_16 rfl (by decide) rfl ?_
  refine s_aload_n (pc' := 18) hC d_TraceReader_isReductionOf_17 rfl 1 rfl ?_
  refine s_geti (pc' := 21) hC qf_TraceReader_80 d_TraceReader_isReductionOf_18 rfl hF (fun v8 hF => ?_)
  refine s_iload_n (pc' := 22) hC d_TraceReader_isReductionOf_21 rfl 2 rfl ?_
  refine s_iload_n (pc' := 23) hC d_TraceReader_isReductionOf_22 rfl 0 rfl ?_
  refine s_aload_n (pc' := 24) hC d_TraceReader_isReductionOf_23 rfl 1 rfl ?_
  refine s_cVi (pc' := 27) (As := []) (rs := [.inl v7, .inl x1, .inl v8]) (a := a0) (fr' := 0) (lo' := 0) hC qs_TraceReader_143 rfl rfl (Nat.le_of_ble_eq_true rfl) ⟨by decide, by decide⟩ d_TraceReader_isReductionOf_24 rfl (fun l g sz r w' h => c_TraceReader_sideVariables l g sz w6 a0 r w' h) hF (fun v10 w9 hF => ?_)
  refine s_iand (pc' := 28) hC d_TraceReader_isReductionOf_27 rfl ?_
  refine s_cSi (pc' := 31) (As := [.inl (v7 &&& v10)]) (rs := [.inl x1, .inl v8]) (fr' := 0) (lo' := 0) hC qs_TraceReader_146 rfl rfl (Nat.le_of_ble_eq_true rfl) ⟨by decide, by decide⟩ d_TraceReader_isReductionOf_28 rfl (fun l g sz r w' h => c_QP_literalsOf l g sz w9 (v7 &&& v10) r w' h) hF (fun v12 w11 hF => ?_)
  refine s_iconst (v := (-1)) (pc' := 32) hC d_TraceReader_isReductionOf_31 rfl (by decide) ?_
  refine s_ixor (pc' := 33) hC d_TraceReader_isReductionOf_32 rfl ?_
  refine s_iand (pc' := 34) hC d_TraceReader_isReductionOf_33 rfl ?_
  refine s_icmp_ne (tgt := 41) (pc' := 37) hC d_TraceReader_isReductionOf_34 rfl rfl hF (fun hF => ?_) (fun hF => ?_)
  · refine s_iconst (v := 0) (pc' := 42) hC d_TraceReader_isReductionOf_41 rfl (by decide) ?_
    exact s_zret hC hR d_TraceReader_isReductionOf_42 hF
  · refine s_iconst (v := 1) (pc' := 38) hC d_TraceReader_isReductionOf_37 rfl (by decide) ?_
    refine s_goto (tgt := 42) hC d_TraceReader_isReductionOf_38 rfl ?_
    exact s_zret hC hR d_TraceReader_isReductionOf_42 hF
theorem c_TraceReader_isReductionOf (l : Launch) (g : qk_G) (sz : Nat) (w : qw) (a0 : Nat) (x1 : Int32) (r : Int32) (w' : qw) (hF : f_TraceReader_isReductionOf w a0 x1 = some (r, w')) : qMi l g sz y_TraceReader_isReductionOf b_TraceReader_isReductionOf 3 (some .boolean) 2 44 [.inr (some a0), .inl x1] w r w' := qk_met_z (by decide) (Nat.le_of_ble_eq_true rfl) (fun X hC hR => k_TraceReader_isReductionOf r w' hC hR w a0 x1 hF)
theorem qs_TraceReader_149 : qS R_TraceReader 149 y_JI_bitCount b_JI_bitCount 1 (some .int) 1 := ⟨Or.inl ml_TraceReader_149, ic_JI_bitCount, is_JI_bitCount, in_c_JI, by decide +kernel⟩
def f_TraceReader_isResolventOf (w : qw) (a0 : Nat) (x1 : Int32) (x2 : Int32) : Option (Int32 × qw) :=
  q_ob (q_is w a0 5) <| q_b2 (f_TraceReader_mainVariables w a0) fun v2 w1 =>
  q_b2 (f_JI_bitCount w1 (((x1 &&& (x2 >>> ((8 : Int32) &&& 31))) ||| ((x1 >>> ((8 : Int32) &&& 31)) &&& x2)) &&& v2)) fun v4 w3 =>
  if v4 = 1 then
    q_b2 (f_QP_literalsOf w3 (((x1 &&& (x2 >>> ((8 : Int32) &&& 31))) ||| ((x1 >>> ((8 : Int32) &&& 31)) &&& x2)) &&& v2)) fun v6 w5 =>
    q_b2 (f_QP_bothWaysIn w5 ((x1 ||| x2) &&& (v6 ^^^ (-1)))) fun v8 w7 =>
    q_b2 (f_QP_variablesIn w7 x1) fun v10 w9 =>
    q_b2 (f_QP_variablesIn w9 x2) fun v12 w11 =>
    q_ob (q_is w11 a0 5) <| q_b2 (f_TraceReader_sideVariables w11 a0) fun v14 w13 =>
    q_b1 (q_gi w13 a0 5 6) fun v15 =>
    if v15 = ((x1 ||| x2) &&& (v6 ^^^ (-1))) then
      q_ob (q_is w13 a0 5) <| q_b2 (f_TraceReader_mainVariables w13 a0) fun v17 w16 =>
      if (v8 &&& v17) = 0 then
        q_b1 (q_gr w16 a0 5 2) fun r18 =>
        q_ob (q_is w16 r18 2) <| q_b2 (f_Formula_innerToAll w16 r18 (((x1 &&& (x2 >>> ((8 : Int32) &&& 31))) ||| ((x1 >>> ((8 : Int32) &&& 31)) &&& x2)) &&& v2)) fun v20 w19 =>
        if ((((v10 &&& v12) &&& v8) &&& v14) &&& (v20 ^^^ (-1))) = 0 then
          q_ob (q_z 1) (some (1, w19))
        else
          q_ob (q_z 0) (some (0, w19))
      else
        q_ob (q_z 0) (some (0, w16))
    else
      q_ob (q_z 0) (some (0, w13))
  else
    q_ob (q_z 0) (some (0, w3))
set_option maxHeartbeats 4000000 in
set_option maxRecDepth 100000 in
theorem k_TraceReader_isResolventOf {X : qX} (r : Int32) (w' : qw) (hC : qC X b_TraceReader_isResolventOf R_TraceReader 7 2 44) (hR : qRz X b_TraceReader_isResolventOf r w') (w : qw) (a0 : Nat) (x1 : Int32) (x2 : Int32) (hF : f_TraceReader_isResolventOf w a0 x1 x2 = some (r, w')) : qG X 7 0 [(0, .inr (some a0)), (1, .inl x1), (2, .inl x2)] [] w := by
  unfold f_TraceReader_isResolventOf at hF
  refine s_iload_n (pc' := 1) hC d_TraceReader_isResolventOf_0 rfl 1 rfl ?_
  refine s_iload_n (pc' := 2) hC d_TraceReader_isResolventOf_1 rfl 2 rfl ?_
  refine s_bipush (v := 8) (pc' := 4) hC d_TraceReader_isResolventOf_2 rfl (by decide) ?_
  refine s_ishr (pc' := 5) hC d_TraceReader_isResolventOf_4 rfl ?_
  refine s_iand (pc' := 6) hC d_TraceReader_isResolventOf_5 rfl ?_
  refine s_iload_n (pc' := 7) hC d_TraceReader_isResolventOf_6 rfl 1 rfl ?_
  refine s_bipush (v := 8) (pc' := 9) hC d_TraceReader_isResolventOf_7 rfl (by decide) ?_
  refine s_ishr (pc' := 10) hC d_TraceReader_isResolventOf_9 rfl ?_
  refine s_iload_n (pc' := 11) hC d_TraceReader_isResolventOf_10 rfl 2 rfl ?_
  refine s_iand (pc' := 12) hC d_TraceReader_isResolventOf_11 rfl ?_
  refine s_ior (pc' := 13) hC d_TraceReader_isResolventOf_12 rfl ?_
  refine s_aload_n (pc' := 14) hC d_TraceReader_isResolventOf_13 rfl 0 rfl ?_
  refine s_cVi (pc' := 17) (As := []) (rs := [.inl ((x1 &&& (x2 >>> ((8 : Int32) &&& 31))) ||| ((x1 >>> ((8 : Int32) &&& 31)) &&& x2))]) (a := a0) (fr' := 0) (lo' := 0) hC qs_TraceReader_137 rfl rfl (Nat.le_of_ble_eq_true rfl) ⟨by decide, by decide⟩ d_TraceReader_isResolventOf_14 rfl (fun l g sz r w' h => c_TraceReader_mainVariables l g sz w a0 r w' h) hF (fun v2 w1 hF => ?_)
  refine s_iand (pc' := 18) hC d_TraceReader_isResolventOf_17 rfl ?_
  refine s_istore_n (pc' := 19) (lv' := [(3, .inl (((x1 &&& (x2 >>> ((8 : Int32) &&& 31))) ||| ((x1 >>> ((8 : Int32) &&& 31)) &&& x2)) &&& v2)), (0, .inr (some a0)), (1, .inl x1), (2, .inl x2)]) hC d_TraceReader_isResolventOf_18 rfl (by decide) rfl ?_
  refine s_iload_n (pc' := 20) hC d_TraceReader_isResolventOf_19 rfl 0 rfl ?_
  refine s_cSi (pc' := 23) (As := [.inl (((x1 &&& (x2 >>> ((8 : Int32) &&& 31))) ||| ((x1 >>> ((8 : Int32) &&& 31)) &&& x2)) &&& v2)]) (rs := []) (fr' := 0) (lo' := 0) hC qs_TraceReader_149 rfl rfl (Nat.le_of_ble_eq_true rfl) ⟨by decide, by decide⟩ d_TraceReader_isResolventOf_20 rfl (fun l g sz r w' h => c_JI_bitCount l g sz w1 (((x1 &&& (x2 >>> ((8 : Int32) &&& 31))) ||| ((x1 >>> ((8 : Int32) &&& 31)) &&& x2)) &&& v2) r w' h) hF (fun v4 w3 hF => ?_)
  refine s_iconst (v := 1) (pc' := 24) hC d_TraceReader_isResolventOf_23 rfl (by decide) ?_
  refine s_icmp_eq (tgt := 29) (pc' := 27) hC d_TraceReader_isResolventOf_24 rfl rfl hF (fun hF => ?_) (fun hF => ?_)
  · refine s_iload_n (pc' := 30) hC d_TraceReader_isResolventOf_29 rfl 2 rfl ?_
    refine s_iload_n (pc' := 31) hC d_TraceReader_isResolventOf_30 rfl 3 rfl ?_
    refine s_ior (pc' := 32) hC d_TraceReader_isResolventOf_31 rfl ?_
    refine s_iload_n (pc' := 33) hC d_TraceReader_isResolventOf_32 rfl 0 rfl ?_
    refine s_cSi (pc' := 36) (As := [.inl (((x1 &&& (x2 >>> ((8 : Int32) &&& 31))) ||| ((x1 >>> ((8 : Int32) &&& 31)) &&& x2)) &&& v2)]) (rs := [.inl (x1 ||| x2)]) (fr' := 0) (lo' := 0) hC qs_TraceReader_146 rfl rfl (Nat.le_of_ble_eq_true rfl) ⟨by decide, by decide⟩ d_TraceReader_isResolventOf_33 rfl (fun l g sz r w' h => c_QP_literalsOf l g sz w3 (((x1 &&& (x2 >>> ((8 : Int32) &&& 31))) ||| ((x1 >>> ((8 : Int32) &&& 31)) &&& x2)) &&& v2) r w' h) hF (fun v6 w5 hF => ?_)
    refine s_iconst (v := (-1)) (pc' := 37) hC d_TraceReader_isResolventOf_36 rfl (by decide) ?_
    refine s_ixor (pc' := 38) hC d_TraceReader_isResolventOf_37 rfl ?_
    refine s_iand (pc' := 39) hC d_TraceReader_isResolventOf_38 rfl ?_
    refine s_istore (pc' := 41) (lv' := [(4, .inl ((x1 ||| x2) &&& (v6 ^^^ (-1)))), (3, .inl (((x1 &&& (x2 >>> ((8 : Int32) &&& 31))) ||| ((x1 >>> ((8 : Int32) &&& 31)) &&& x2)) &&& v2)), (0, .inr (some a0)), (1, .inl x1), (2, .inl x2)]) hC d_TraceReader_isResolventOf_39 rfl (by decide) rfl ?_
    refine s_iload (pc' := 43) hC d_TraceReader_isResolventOf_41 rfl 0 rfl ?_
    refine s_cSi (pc' := 46) (As := [.inl ((x1 ||| x2) &&& (v6 ^^^ (-1)))]) (rs := []) (fr' := 0) (lo' := 0) hC qs_TraceReader_128 rfl rfl (Nat.le_of_ble_eq_true rfl) ⟨by decide, by decide⟩ d_TraceReader_isResolventOf_43 rfl (fun l g sz r w' h => c_QP_bothWaysIn l g sz w5 ((x1 ||| x2) &&& (v6 ^^^ (-1))) r w' h) hF (fun v8 w7 hF => ?_)
    refine s_istore (pc' := 48) (lv' := [(5, .inl v8), (4, .inl ((x1 ||| x2) &&& (v6 ^^^ (-1)))), (3, .inl (((x1 &&& (x2 >>> ((8 : Int32) &&& 31))) ||| ((x1 >>> ((8 : Int32) &&& 31)) &&& x2)) &&& v2)), (0, .inr (some a0)), (1, .inl x1), (2, .inl x2)]) hC d_TraceReader_isResolventOf_46 rfl (by decide) rfl ?_
    refine s_iload_n (pc' := 49) hC d_TraceReader_isResolventOf_48 rfl 4 rfl ?_
    refine s_cSi (pc' := 52) (As := [.inl x1]) (rs := []) (fr' := 0) (lo' := 0) hC qs_TraceReader_134 rfl rfl (Nat.le_of_ble_eq_true rfl) ⟨by decide, by decide⟩ d_TraceReader_isResolventOf_49 rfl (fun l g sz r w' h => c_QP_variablesIn l g sz w7 x1 r w' h) hF (fun v10 w9 hF => ?_)
    refine s_iload_n (pc' := 53) hC d_TraceReader_isResolventOf_52 rfl 5 rfl ?_
    refine s_cSi (pc' := 56) (As := [.inl x2]) (rs := [.inl v10]) (fr' := 0) (lo' := 0) hC qs_TraceReader_134 rfl rfl (Nat.le_of_ble_eq_true rfl) ⟨by decide, by decide⟩ d_TraceReader_isResolventOf_53 rfl (fun l g sz r w' h => c_QP_variablesIn l g sz w9 x2 r w' h) hF (fun v12 w11 hF => ?_)
    refine s_iand (pc' := 57) hC d_TraceReader_isResolventOf_56 rfl ?_
    refine s_iload (pc' := 59) hC d_TraceReader_isResolventOf_57 rfl 0 rfl ?_
    refine s_iand (pc' := 60) hC d_TraceReader_isResolventOf_59 rfl ?_
    refine s_aload_n (pc' := 61) hC d_TraceReader_isResolventOf_60 rfl 3 rfl ?_
    refine s_cVi (pc' := 64) (As := []) (rs := [.inl ((v10 &&& v12) &&& v8)]) (a := a0) (fr' := 0) (lo' := 0) hC qs_TraceReader_143 rfl rfl (Nat.le_of_ble_eq_true rfl) ⟨by decide, by decide⟩ d_TraceReader_isResolventOf_61 rfl (fun l g sz r w' h => c_TraceReader_sideVariables l g sz w11 a0 r w' h) hF (fun v14 w13 hF => ?_)
    refine s_iand (pc' := 65) hC d_TraceReader_isResolventOf_64 rfl ?_
    refine s_istore (pc' := 67) (lv' := [(6, .inl (((v10 &&& v12) &&& v8) &&& v14)), (5, .inl v8), (4, .inl ((x1 ||| x2) &&& (v6 ^^^ (-1)))), (3, .inl (((x1 &&& (x2 >>> ((8 : Int32) &&& 31))) ||| ((x1 >>> ((8 : Int32) &&& 31)) &&& x2)) &&& v2)), (0, .inr (some a0)), (1, .inl x1), (2, .inl x2)]) hC d_TraceReader_isResolventOf_65 rfl (by decide) rfl ?_
    refine s_aload_n (pc' := 68) hC d_TraceReader_isResolventOf_67 rfl 4 rfl ?_
    refine s_geti (pc' := 71) hC qf_TraceReader_80 d_TraceReader_isResolventOf_68 rfl hF (fun v15 hF => ?_)
    refine s_iload (pc' := 73) hC d_TraceReader_isResolventOf_71 rfl 2 rfl ?_
    refine s_icmp_ne (tgt := 106) (pc' := 76) hC d_TraceReader_isResolventOf_73 rfl rfl hF (fun hF => ?_) (fun hF => ?_)
    · refine s_iconst (v := 0) (pc' := 107) hC d_TraceReader_isResolventOf_106 rfl (by decide) ?_
      exact s_zret hC hR d_TraceReader_isResolventOf_107 hF
    · refine s_iload (pc' := 78) hC d_TraceReader_isResolventOf_76 rfl 1 rfl ?_
      refine s_aload_n (pc' := 79) hC d_TraceReader_isResolventOf_78 rfl 4 rfl ?_
      refine s_cVi (pc' := 82) (As := []) (rs := [.inl v8]) (a := a0) (fr' := 0) (lo' := 0) hC qs_TraceReader_137 rfl rfl (Nat.le_of_ble_eq_true rfl) ⟨by decide, by decide⟩ d_TraceReader_isResolventOf_79 rfl (fun l g sz r w' h => c_TraceReader_mainVariables l g sz w13 a0 r w' h) hF (fun v17 w16 hF => ?_)
      refine s_iand (pc' := 83) hC d_TraceReader_isResolventOf_82 rfl ?_
      refine s_if_ne (tgt := 106) (pc' := 86) hC d_TraceReader_isResolventOf_83 rfl rfl hF (fun hF => ?_) (fun hF => ?_)
      · refine s_iconst (v := 0) (pc' := 107) hC d_TraceReader_isResolventOf_106 rfl (by decide) ?_
        exact s_zret hC hR d_TraceReader_isResolventOf_107 hF
      · refine s_iload (pc' := 88) hC d_TraceReader_isResolventOf_86 rfl 0 rfl ?_
        refine s_aload_n (pc' := 89) hC d_TraceReader_isResolventOf_88 rfl 4 rfl ?_
        refine s_getr (pc' := 92) hC qf_TraceReader_25 d_TraceReader_isResolventOf_89 rfl hF (fun r18 hF => ?_)
        refine s_iload_n (pc' := 93) hC d_TraceReader_isResolventOf_92 rfl 3 rfl ?_
        refine s_cVi (pc' := 96) (As := [.inl (((x1 &&& (x2 >>> ((8 : Int32) &&& 31))) ||| ((x1 >>> ((8 : Int32) &&& 31)) &&& x2)) &&& v2)]) (rs := [.inl (((v10 &&& v12) &&& v8) &&& v14)]) (a := r18) (fr' := 1) (lo' := 20) hC qs_TraceReader_140 rfl rfl (Nat.le_of_ble_eq_true rfl) ⟨by decide, by decide⟩ d_TraceReader_isResolventOf_93 rfl (fun l g sz r w' h => c_Formula_innerToAll l g sz w16 r18 (((x1 &&& (x2 >>> ((8 : Int32) &&& 31))) ||| ((x1 >>> ((8 : Int32) &&& 31)) &&& x2)) &&& v2) r w' h) hF (fun v20 w19 hF => ?_)
        refine s_iconst (v := (-1)) (pc' := 97) hC d_TraceReader_isResolventOf_96 rfl (by decide) ?_
        refine s_ixor (pc' := 98) hC d_TraceReader_isResolventOf_97 rfl ?_
        refine s_iand (pc' := 99) hC d_TraceReader_isResolventOf_98 rfl ?_
        refine s_if_ne (tgt := 106) (pc' := 102) hC d_TraceReader_isResolventOf_99 rfl rfl hF (fun hF => ?_) (fun hF => ?_)
        · refine s_iconst (v := 0) (pc' := 107) hC d_TraceReader_isResolventOf_106 rfl (by decide) ?_
          exact s_zret hC hR d_TraceReader_isResolventOf_107 hF
        · refine s_iconst (v := 1) (pc' := 103) hC d_TraceReader_isResolventOf_102 rfl (by decide) ?_
          refine s_goto (tgt := 107) hC d_TraceReader_isResolventOf_103 rfl ?_
          exact s_zret hC hR d_TraceReader_isResolventOf_107 hF
  · refine s_iconst (v := 0) (pc' := 28) hC d_TraceReader_isResolventOf_27 rfl (by decide) ?_
    exact s_zret hC hR d_TraceReader_isResolventOf_28 hF
theorem c_TraceReader_isResolventOf (l : Launch) (g : qk_G) (sz : Nat) (w : qw) (a0 : Nat) (x1 : Int32) (x2 : Int32) (r : Int32) (w' : qw) (hF : f_TraceReader_isResolventOf w a0 x1 x2 = some (r, w')) : qMi l g sz y_TraceReader_isResolventOf b_TraceReader_isResolventOf 7 (some .boolean) 2 44 [.inr (some a0), .inl x1, .inl x2] w r w' := qk_met_z (by decide) (Nat.le_of_ble_eq_true rfl) (fun X hC hR => k_TraceReader_isResolventOf r w' hC hR w a0 x1 x2 hF)
theorem qf_TraceReader_77 : qF R_TraceReader 77 5 5 := ⟨R_TraceReader, F_TraceReader, 8, rfl, by decide, in_TraceReader, Or.inl fl_TraceReader_77⟩
theorem qs_TraceReader_103 : qV R_TraceReader 103 y_Proof_add b_Proof_add 5 none 4 4 := ⟨Or.inl ml_TraceReader_103, ic_Proof_add, ii_Proof_add, is_Proof_add, in_c_Proof, ⟨_, _, rfl⟩, by decide +kernel⟩
theorem qf_TraceReader_100 : qF R_TraceReader 100 4 2 := ⟨R_Proof, F_Proof, 5, rfl, by decide, in_Proof, Or.inr ⟨_, fn_TraceReader_100⟩⟩
def lb_TraceReader_endStep_4  (c4 : Nat → Int32 → Int32 → qw → Option (qw)) (a0 : Nat) (x1 : Int32) (x2 : Int32) (w : qw) : Option (qw) :=
  q_b1 (q_gi w a0 5 7) fun v1 =>
  if v1 ≤ x2 then
    q_b1 (q_gr w a0 5 0) fun r2 =>
    q_b1 (q_gi w a0 5 5) fun v3 =>
    q_b1 (q_gi w a0 5 6) fun v4 =>
    q_b1 (q_gi w a0 5 4) fun v5 =>
    q_ob (q_is w r2 4) <| q_b1 (f_Proof_add w r2 v3 v4 v5 x1) fun w6 =>
    q_b1 (q_pf w6 a0 5 3 (.inl 1)) fun w7 =>
    some w7
  else
    q_b1 (q_gr w a0 5 0) fun r8 =>
    q_b1 (q_gr w r8 4 2) fun r9 =>
    q_b1 (q_gr w a0 5 1) fun r10 =>
    q_b1 (q_ld w r10 0 x2) fun v11 =>
    q_b1 (q_ld w r9 0 v11) fun v12 =>
    c4 a0 (x1 ||| v12) (x2 + 1) w
def ll_TraceReader_endStep_4  : Nat → Nat → Int32 → Int32 → qw → Option (qw)
  | 0 => fun _ _ _ _ => none
  | n + 1 => lb_TraceReader_endStep_4  (ll_TraceReader_endStep_4  n)
def f_TraceReader_endStep (w : qw) (a0 : Nat) : Option (qw) :=
  ll_TraceReader_endStep_4 q_fu a0 0 0 w
set_option maxHeartbeats 4000000 in
set_option maxRecDepth 100000 in
theorem k_TraceReader_endStep {X : qX} (w' : qw) (hC : qC X b_TraceReader_endStep R_TraceReader 3 2 44) (hR : qRv X b_TraceReader_endStep w') (w : qw) (a0 : Nat) (hF : f_TraceReader_endStep w a0 = some w') : qG X 3 0 [(0, .inr (some a0))] [] w := by
  have L_4 : ∀ (n : Nat) (a0 : Nat) (x1 : Int32) (x2 : Int32) (w : qw), ll_TraceReader_endStep_4  n a0 x1 x2 w = some w' → qG X 3 4 [(0, .inr (some a0)), (1, .inl x1), (2, .inl x2)] [] w := by
    intro n_4
    induction n_4 with
    | zero => exact fun _ _ _ _ hF => q_nn (show (none : Option (qw)) = some w' from hF)
    | succ n_4 ih_4 =>
      intro a0 x1 x2 w hF
      have hF : lb_TraceReader_endStep_4  (ll_TraceReader_endStep_4  n_4) a0 x1 x2 w = some w' := hF
      unfold lb_TraceReader_endStep_4 at hF
      refine s_iload_n (pc' := 5) hC d_TraceReader_endStep_4 rfl 2 rfl ?_
      refine s_aload_n (pc' := 6) hC d_TraceReader_endStep_5 rfl 0 rfl ?_
      refine s_geti (pc' := 9) hC qf_TraceReader_83 d_TraceReader_endStep_6 rfl hF (fun v1 hF => ?_)
      refine s_icmp_ge (tgt := 35) (pc' := 12) hC d_TraceReader_endStep_9 rfl rfl hF (fun hF => ?_) (fun hF => ?_)
      · refine s_aload_n (pc' := 36) hC d_TraceReader_endStep_35 rfl 0 rfl ?_
        refine s_getr (pc' := 39) hC qf_TraceReader_12 d_TraceReader_endStep_36 rfl hF (fun r2 hF => ?_)
        refine s_aload_n (pc' := 40) hC d_TraceReader_endStep_39 rfl 0 rfl ?_
        refine s_geti (pc' := 43) hC qf_TraceReader_77 d_TraceReader_endStep_40 rfl hF (fun v3 hF => ?_)
        refine s_aload_n (pc' := 44) hC d_TraceReader_endStep_43 rfl 0 rfl ?_
        refine s_geti (pc' := 47) hC qf_TraceReader_80 d_TraceReader_endStep_44 rfl hF (fun v4 hF => ?_)
        refine s_aload_n (pc' := 48) hC d_TraceReader_endStep_47 rfl 0 rfl ?_
        refine s_geti (pc' := 51) hC qf_TraceReader_67 d_TraceReader_endStep_48 rfl hF (fun v5 hF => ?_)
        refine s_iload_n (pc' := 52) hC d_TraceReader_endStep_51 rfl 1 rfl ?_
        refine s_cVv (pc' := 55) (As := [.inl v3, .inl v4, .inl v5, .inl x1]) (rs := []) (a := r2) (fr' := 1) (lo' := 20) hC qs_TraceReader_103 rfl rfl (Nat.le_of_ble_eq_true rfl) ⟨by decide, by decide⟩ d_TraceReader_endStep_52 rfl (fun l g sz w' h => c_Proof_add l g sz w r2 v3 v4 v5 x1 w' h) hF (fun w6 hF => ?_)
        refine s_aload_n (pc' := 56) hC d_TraceReader_endStep_55 rfl 0 rfl ?_
        refine s_iconst (v := 1) (pc' := 57) hC d_TraceReader_endStep_56 rfl (by decide) ?_
        refine s_puti (pc' := 60) hC qp_TraceReader_29 d_TraceReader_endStep_57 rfl hF (fun w7 hF => ?_)
        exact s_vret hC hR d_TraceReader_endStep_60 hF
      · refine s_iload_n (pc' := 13) hC d_TraceReader_endStep_12 rfl 1 rfl ?_
        refine s_aload_n (pc' := 14) hC d_TraceReader_endStep_13 rfl 0 rfl ?_
        refine s_getr (pc' := 17) hC qf_TraceReader_12 d_TraceReader_endStep_14 rfl hF (fun r8 hF => ?_)
        refine s_getr (pc' := 20) hC qf_TraceReader_100 d_TraceReader_endStep_17 rfl hF (fun r9 hF => ?_)
        refine s_aload_n (pc' := 21) hC d_TraceReader_endStep_20 rfl 0 rfl ?_
        refine s_getr (pc' := 24) hC qf_TraceReader_18 d_TraceReader_endStep_21 rfl hF (fun r10 hF => ?_)
        refine s_iload_n (pc' := 25) hC d_TraceReader_endStep_24 rfl 2 rfl ?_
        refine s_iald (pc' := 26) hC d_TraceReader_endStep_25 rfl hF (fun v11 hF => ?_)
        refine s_iald (pc' := 27) hC d_TraceReader_endStep_26 rfl hF (fun v12 hF => ?_)
        refine s_ior (pc' := 28) hC d_TraceReader_endStep_27 rfl ?_
        refine s_istore_n (pc' := 29) (lv' := [(1, .inl (x1 ||| v12)), (0, .inr (some a0)), (2, .inl x2)]) hC d_TraceReader_endStep_28 rfl (by decide) rfl ?_
        refine s_iinc (pc' := 32) (n' := 1) (lv' := [(2, .inl (x2 + 1)), (1, .inl (x1 ||| v12)), (0, .inr (some a0))]) hC d_TraceReader_endStep_29 rfl 2 rfl (by decide) (by decide) rfl ?_
        refine s_goto (tgt := 4) hC d_TraceReader_endStep_32 rfl ?_
        exact qG_sub [2, 1, 0] rfl (ih_4 a0 (x1 ||| v12) (x2 + 1) w hF)
  unfold f_TraceReader_endStep at hF
  refine s_iconst (v := 0) (pc' := 1) hC d_TraceReader_endStep_0 rfl (by decide) ?_
  refine s_istore_n (pc' := 2) (lv' := [(1, .inl 0), (0, .inr (some a0))]) hC d_TraceReader_endStep_1 rfl (by decide) rfl ?_
  refine s_iconst (v := 0) (pc' := 3) hC d_TraceReader_endStep_2 rfl (by decide) ?_
  refine s_istore_n (pc' := 4) (lv' := [(2, .inl 0), (1, .inl 0), (0, .inr (some a0))]) hC d_TraceReader_endStep_3 rfl (by decide) rfl ?_
  exact qG_sub [2, 1, 0] rfl (L_4 q_fu a0 0 0 w hF)
theorem c_TraceReader_endStep (l : Launch) (g : qk_G) (sz : Nat) (w : qw) (a0 : Nat) (w' : qw) (hF : f_TraceReader_endStep w a0 = some w') : qMv l g sz y_TraceReader_endStep b_TraceReader_endStep 3 none 2 44 [.inr (some a0)] w w' := qk_met_v (by decide) (Nat.le_of_ble_eq_true rfl) (fun X hC hR => k_TraceReader_endStep w' hC hR w a0 hF)
theorem qf_QP_74 : qF R_QP 74 2 0 := ⟨R_Formula, F_Formula, 6, rfl, by decide, in_Formula, Or.inr ⟨_, fn_QP_74⟩⟩
theorem qs_QP_78 : qV R_QP 78 y_Formula_isForAll b_Formula_isForAll 2 (some .boolean) 1 2 := ⟨Or.inl ml_QP_78, ic_Formula_isForAll, ii_Formula_isForAll, is_Formula_isForAll, in_c_Formula, ⟨_, _, rfl⟩, by decide +kernel⟩
def f_QP_variable (w : qw) (a0 : Nat) (x1 : Int32) : Option (Int32 × qw) :=
  if x1 < 0 then
    some ((-1), w)
  else
    q_b1 (q_gr w a0 0 4) fun r1 =>
    q_b1 (q_gi w r1 2 2) fun v2 =>
    if x1 < v2 then
      q_b1 (q_gr w a0 0 4) fun r3 =>
      q_b1 (q_gr w r3 2 0) fun r4 =>
      q_b1 (q_ld w r4 0 x1) fun v5 =>
      q_b1 (q_gr w a0 0 4) fun r6 =>
      q_ob (q_is w r6 2) <| q_b2 (f_Formula_isForAll w r6 v5) fun v8 w7 =>
      if v8 = 0 then
        some (v5, w7)
      else
        some (v5 + 10, w7)
    else
      some ((-1), w)
set_option maxHeartbeats 4000000 in
set_option maxRecDepth 100000 in
theorem k_QP_variable {X : qX} (r : Int32) (w' : qw) (hC : qC X b_QP_variable R_QP 3 2 41) (hR : qRi X b_QP_variable r w') (w : qw) (a0 : Nat) (x1 : Int32) (hF : f_QP_variable w a0 x1 = some (r, w')) : qG X 3 0 [(0, .inr (some a0)), (1, .inl x1)] [] w := by
  unfold f_QP_variable at hF
  refine s_iload_n (pc' := 1) hC d_QP_variable_0 rfl 1 rfl ?_
  refine s_if_lt (tgt := 15) (pc' := 4) hC d_QP_variable_1 rfl rfl hF (fun hF => ?_) (fun hF => ?_)
  · refine s_iconst (v := (-1)) (pc' := 16) hC d_QP_variable_15 rfl (by decide) ?_
    exact s_iret hC hR d_QP_variable_16 hF
  · refine s_iload_n (pc' := 5) hC d_QP_variable_4 rfl 1 rfl ?_
    refine s_aload_n (pc' := 6) hC d_QP_variable_5 rfl 0 rfl ?_
    refine s_getr (pc' := 9) hC qf_QP_39 d_QP_variable_6 rfl hF (fun r1 hF => ?_)
    refine s_geti (pc' := 12) hC qf_QP_69 d_QP_variable_9 rfl hF (fun v2 hF => ?_)
    refine s_icmp_lt (tgt := 17) (pc' := 15) hC d_QP_variable_12 rfl rfl hF (fun hF => ?_) (fun hF => ?_)
    · refine s_aload_n (pc' := 18) hC d_QP_variable_17 rfl 0 rfl ?_
      refine s_getr (pc' := 21) hC qf_QP_39 d_QP_variable_18 rfl hF (fun r3 hF => ?_)
      refine s_getr (pc' := 24) hC qf_QP_74 d_QP_variable_21 rfl hF (fun r4 hF => ?_)
      refine s_iload_n (pc' := 25) hC d_QP_variable_24 rfl 1 rfl ?_
      refine s_iald (pc' := 26) hC d_QP_variable_25 rfl hF (fun v5 hF => ?_)
      refine s_istore_n (pc' := 27) (lv' := [(2, .inl v5), (0, .inr (some a0)), (1, .inl x1)]) hC d_QP_variable_26 rfl (by decide) rfl ?_
      refine s_aload_n (pc' := 28) hC d_QP_variable_27 rfl 1 rfl ?_
      refine s_getr (pc' := 31) hC qf_QP_39 d_QP_variable_28 rfl hF (fun r6 hF => ?_)
      refine s_iload_n (pc' := 32) hC d_QP_variable_31 rfl 0 rfl ?_
      refine s_cVi (pc' := 35) (As := [.inl v5]) (rs := []) (a := r6) (fr' := 1) (lo' := 20) hC qs_QP_78 rfl rfl (Nat.le_of_ble_eq_true rfl) ⟨by decide, by decide⟩ d_QP_variable_32 rfl (fun l g sz r w' h => c_Formula_isForAll l g sz w r6 v5 r w' h) hF (fun v8 w7 hF => ?_)
      refine s_if_eq (tgt := 45) (pc' := 38) hC d_QP_variable_35 rfl rfl hF (fun hF => ?_) (fun hF => ?_)
      · refine s_iload_n (pc' := 46) hC d_QP_variable_45 rfl 0 rfl ?_
        exact s_iret hC hR d_QP_variable_46 hF
      · refine s_iload_n (pc' := 39) hC d_QP_variable_38 rfl 0 rfl ?_
        refine s_bipush (v := 10) (pc' := 41) hC d_QP_variable_39 rfl (by decide) ?_
        refine s_iadd (pc' := 42) hC d_QP_variable_41 rfl ?_
        refine s_goto (tgt := 46) hC d_QP_variable_42 rfl ?_
        exact s_iret hC hR d_QP_variable_46 hF
    · refine s_iconst (v := (-1)) (pc' := 16) hC d_QP_variable_15 rfl (by decide) ?_
      exact s_iret hC hR d_QP_variable_16 hF
theorem c_QP_variable (l : Launch) (g : qk_G) (sz : Nat) (w : qw) (a0 : Nat) (x1 : Int32) (r : Int32) (w' : qw) (hF : f_QP_variable w a0 x1 = some (r, w')) : qMi l g sz y_QP_variable b_QP_variable 3 (some .int) 2 41 [.inr (some a0), .inl x1] w r w' := qk_met_i (by decide) (Nat.le_of_ble_eq_true rfl) (fun X hC hR => k_QP_variable r w' hC hR w a0 x1 hF)
def lb_Formula_isWon_5  (c5 : Nat → Int32 → Int32 → Int32 → Int32 → qw → Option (Int32 × qw)) (a0 : Nat) (x1 : Int32) (x2 : Int32) (x3 : Int32) (x4 : Int32) (w : qw) : Option (Int32 × qw) :=
  if x1 ≤ x4 then
    q_b2 (f_Formula_someCanWin 10 w a0 x1 x3) fun v2 w1 =>
    q_ob (q_z v2) (some (v2, w1))
  else
    q_b1 (q_gi w a0 2 2) fun v3 =>
    if v3 ≤ x4 then
      q_b2 (f_Formula_someCanWin 10 w a0 x1 x3) fun v5 w4 =>
      q_ob (q_z v5) (some (v5, w4))
    else
      q_ob (q_is w a0 2) <| q_b2 (f_Formula_truth w a0 x4 ((x2 >>> (x4 &&& 31)) &&& 1)) fun v7 w6 =>
      c5 a0 x1 x2 (x3 ||| v7) (x4 + 1) w6
def ll_Formula_isWon_5  : Nat → Nat → Int32 → Int32 → Int32 → Int32 → qw → Option (Int32 × qw)
  | 0 => fun _ _ _ _ _ _ => none
  | n + 1 => lb_Formula_isWon_5  (ll_Formula_isWon_5  n)
def f_Formula_isWon (w : qw) (a0 : Nat) (x1 : Int32) (x2 : Int32) : Option (Int32 × qw) :=
  ll_Formula_isWon_5 q_fu a0 x1 x2 0 0 w
set_option maxHeartbeats 4000000 in
set_option maxRecDepth 100000 in
theorem k_Formula_isWon {X : qX} (r : Int32) (w' : qw) (hC : qC X b_Formula_isWon R_Formula 5 13 324) (hR : qRz X b_Formula_isWon r w') (w : qw) (a0 : Nat) (x1 : Int32) (x2 : Int32) (hF : f_Formula_isWon w a0 x1 x2 = some (r, w')) : qG X 5 0 [(0, .inr (some a0)), (1, .inl x1), (2, .inl x2)] [] w := by
  have L_5 : ∀ (n : Nat) (a0 : Nat) (x1 : Int32) (x2 : Int32) (x3 : Int32) (x4 : Int32) (w : qw), ll_Formula_isWon_5  n a0 x1 x2 x3 x4 w = some (r, w') → qG X 5 5 [(0, .inr (some a0)), (1, .inl x1), (2, .inl x2), (3, .inl x3), (4, .inl x4)] [] w := by
    intro n_5
    induction n_5 with
    | zero => exact fun _ _ _ _ _ _ hF => q_nn (show (none : Option (Int32 × qw)) = some (r, w') from hF)
    | succ n_5 ih_5 =>
      intro a0 x1 x2 x3 x4 w hF
      have hF : lb_Formula_isWon_5  (ll_Formula_isWon_5  n_5) a0 x1 x2 x3 x4 w = some (r, w') := hF
      unfold lb_Formula_isWon_5 at hF
      refine s_iload (pc' := 7) hC d_Formula_isWon_5 rfl 4 rfl ?_
      refine s_iload_n (pc' := 8) hC d_Formula_isWon_7 rfl 1 rfl ?_
      refine s_icmp_ge (tgt := 41) (pc' := 11) hC d_Formula_isWon_8 rfl rfl hF (fun hF => ?_) (fun hF => ?_)
      · refine s_aload_n (pc' := 42) hC d_Formula_isWon_41 rfl 0 rfl ?_
        refine s_iload_n (pc' := 43) hC d_Formula_isWon_42 rfl 1 rfl ?_
        refine s_iload_n (pc' := 44) hC d_Formula_isWon_43 rfl 3 rfl ?_
        refine s_cSi (pc' := 47) (As := [.inr (some a0), .inl x1, .inl x3]) (rs := []) (fr' := 12) (lo' := 300) hC qs_Formula_42 rfl rfl (Nat.le_of_ble_eq_true rfl) ⟨by decide, by decide⟩ d_Formula_isWon_44 rfl (fun l g sz r w' h => c_Formula_someCanWin 10 l g sz w a0 x1 x3 r w' h) hF (fun v2 w1 hF => ?_)
        exact s_zret hC hR d_Formula_isWon_47 hF
      · refine s_iload (pc' := 13) hC d_Formula_isWon_11 rfl 4 rfl ?_
        refine s_aload_n (pc' := 14) hC d_Formula_isWon_13 rfl 0 rfl ?_
        refine s_geti (pc' := 17) hC qf_Formula_18 d_Formula_isWon_14 rfl hF (fun v3 hF => ?_)
        refine s_icmp_ge (tgt := 41) (pc' := 20) hC d_Formula_isWon_17 rfl rfl hF (fun hF => ?_) (fun hF => ?_)
        · refine s_aload_n (pc' := 42) hC d_Formula_isWon_41 rfl 0 rfl ?_
          refine s_iload_n (pc' := 43) hC d_Formula_isWon_42 rfl 1 rfl ?_
          refine s_iload_n (pc' := 44) hC d_Formula_isWon_43 rfl 3 rfl ?_
          refine s_cSi (pc' := 47) (As := [.inr (some a0), .inl x1, .inl x3]) (rs := []) (fr' := 12) (lo' := 300) hC qs_Formula_42 rfl rfl (Nat.le_of_ble_eq_true rfl) ⟨by decide, by decide⟩ d_Formula_isWon_44 rfl (fun l g sz r w' h => c_Formula_someCanWin 10 l g sz w a0 x1 x3 r w' h) hF (fun v5 w4 hF => ?_)
          exact s_zret hC hR d_Formula_isWon_47 hF
        · refine s_iload_n (pc' := 21) hC d_Formula_isWon_20 rfl 3 rfl ?_
          refine s_aload_n (pc' := 22) hC d_Formula_isWon_21 rfl 0 rfl ?_
          refine s_iload (pc' := 24) hC d_Formula_isWon_22 rfl 4 rfl ?_
          refine s_iload_n (pc' := 25) hC d_Formula_isWon_24 rfl 2 rfl ?_
          refine s_iload (pc' := 27) hC d_Formula_isWon_25 rfl 4 rfl ?_
          refine s_ishr (pc' := 28) hC d_Formula_isWon_27 rfl ?_
          refine s_iconst (v := 1) (pc' := 29) hC d_Formula_isWon_28 rfl (by decide) ?_
          refine s_iand (pc' := 30) hC d_Formula_isWon_29 rfl ?_
          refine s_cVi (pc' := 33) (As := [.inl x4, .inl ((x2 >>> (x4 &&& 31)) &&& 1)]) (rs := [.inl x3]) (a := a0) (fr' := 1) (lo' := 20) hC qs_Formula_38 rfl rfl (Nat.le_of_ble_eq_true rfl) ⟨by decide, by decide⟩ d_Formula_isWon_30 rfl (fun l g sz r w' h => c_Formula_truth l g sz w a0 x4 ((x2 >>> (x4 &&& 31)) &&& 1) r w' h) hF (fun v7 w6 hF => ?_)
          refine s_ior (pc' := 34) hC d_Formula_isWon_33 rfl ?_
          refine s_istore_n (pc' := 35) (lv' := [(3, .inl (x3 ||| v7)), (0, .inr (some a0)), (1, .inl x1), (2, .inl x2), (4, .inl x4)]) hC d_Formula_isWon_34 rfl (by decide) rfl ?_
          refine s_iinc (pc' := 38) (n' := 1) (lv' := [(4, .inl (x4 + 1)), (3, .inl (x3 ||| v7)), (0, .inr (some a0)), (1, .inl x1), (2, .inl x2)]) hC d_Formula_isWon_35 rfl 4 rfl (by decide) (by decide) rfl ?_
          refine s_goto (tgt := 5) hC d_Formula_isWon_38 rfl ?_
          exact qG_sub [2, 3, 4, 1, 0] rfl (ih_5 a0 x1 x2 (x3 ||| v7) (x4 + 1) w6 hF)
  unfold f_Formula_isWon at hF
  refine s_iconst (v := 0) (pc' := 1) hC d_Formula_isWon_0 rfl (by decide) ?_
  refine s_istore_n (pc' := 2) (lv' := [(3, .inl 0), (0, .inr (some a0)), (1, .inl x1), (2, .inl x2)]) hC d_Formula_isWon_1 rfl (by decide) rfl ?_
  refine s_iconst (v := 0) (pc' := 3) hC d_Formula_isWon_2 rfl (by decide) ?_
  refine s_istore (pc' := 5) (lv' := [(4, .inl 0), (3, .inl 0), (0, .inr (some a0)), (1, .inl x1), (2, .inl x2)]) hC d_Formula_isWon_3 rfl (by decide) rfl ?_
  exact qG_sub [2, 3, 4, 1, 0] rfl (L_5 q_fu a0 x1 x2 0 0 w hF)
theorem c_Formula_isWon (l : Launch) (g : qk_G) (sz : Nat) (w : qw) (a0 : Nat) (x1 : Int32) (x2 : Int32) (r : Int32) (w' : qw) (hF : f_Formula_isWon w a0 x1 x2 = some (r, w')) : qMi l g sz y_Formula_isWon b_Formula_isWon 5 (some .boolean) 13 324 [.inr (some a0), .inl x1, .inl x2] w r w' := qk_met_z (by decide) (Nat.le_of_ble_eq_true rfl) (fun X hC hR => k_Formula_isWon r w' hC hR w a0 x1 x2 hF)
theorem qs_Formula_46 : qV R_Formula 46 y_Formula_isWon b_Formula_isWon 5 (some .boolean) 2 2 := ⟨Or.inl ml_Formula_46, ic_Formula_isWon, ii_Formula_isWon, is_Formula_isWon, in_c_Formula, ⟨_, _, rfl⟩, by decide +kernel⟩
def lj_Formula_choiceOfAll_30  (w : qw) : Option (Int32 × qw) :=
  if (0 : Int32) = 0 then
    some (0, w)
  else
    some (1, w)
def f_Formula_choiceOfAll (w : qw) (a0 : Nat) (x1 : Int32) (x2 : Int32) : Option (Int32 × qw) :=
  q_ob (q_is w a0 2) <| q_b2 (f_Formula_isWon w a0 (x1 + 1) x2) fun v2 w1 =>
  if v2 = 0 then
    lj_Formula_choiceOfAll_30 w1
  else
    q_ob (q_is w1 a0 2) <| q_b2 (f_Formula_isWon w1 a0 (x1 + 1) (x2 ||| ((1 : Int32) <<< (x1 &&& 31)))) fun v4 w3 =>
    if v4 = 0 then
      if (1 : Int32) = 0 then
        some (0, w3)
      else
        some (1, w3)
    else
      lj_Formula_choiceOfAll_30 w3
set_option maxHeartbeats 4000000 in
set_option maxRecDepth 100000 in
theorem k_Formula_choiceOfAll {X : qX} (r : Int32) (w' : qw) (hC : qC X b_Formula_choiceOfAll R_Formula 4 14 348) (hR : qRi X b_Formula_choiceOfAll r w') (w : qw) (a0 : Nat) (x1 : Int32) (x2 : Int32) (hF : f_Formula_choiceOfAll w a0 x1 x2 = some (r, w')) : qG X 4 0 [(0, .inr (some a0)), (1, .inl x1), (2, .inl x2)] [] w := by
  have J_30 : ∀ (w : qw), lj_Formula_choiceOfAll_30  w = some (r, w') → qG X 4 30 [] [] w := by
    intro w hF
    unfold lj_Formula_choiceOfAll_30 at hF
    refine s_iconst (v := 0) (pc' := 31) hC d_Formula_choiceOfAll_30 rfl (by decide) ?_
    refine s_istore_n (pc' := 32) (lv' := [(3, .inl 0)]) hC d_Formula_choiceOfAll_31 rfl (by decide) rfl ?_
    refine s_iload_n (pc' := 33) hC d_Formula_choiceOfAll_32 rfl 0 rfl ?_
    refine s_if_eq (tgt := 40) (pc' := 36) hC d_Formula_choiceOfAll_33 rfl rfl hF (fun hF => ?_) (fun hF => ?_)
    · refine s_iconst (v := 0) (pc' := 41) hC d_Formula_choiceOfAll_40 rfl (by decide) ?_
      exact s_iret hC hR d_Formula_choiceOfAll_41 hF
    · refine s_iconst (v := 1) (pc' := 37) hC d_Formula_choiceOfAll_36 rfl (by decide) ?_
      refine s_goto (tgt := 41) hC d_Formula_choiceOfAll_37 rfl ?_
      exact s_iret hC hR d_Formula_choiceOfAll_41 hF
  unfold f_Formula_choiceOfAll at hF
  refine s_aload_n (pc' := 1) hC d_Formula_choiceOfAll_0 rfl 0 rfl ?_
  refine s_iload_n (pc' := 2) hC d_Formula_choiceOfAll_1 rfl 1 rfl ?_
  refine s_iconst (v := 1) (pc' := 3) hC d_Formula_choiceOfAll_2 rfl (by decide) ?_
  refine s_iadd (pc' := 4) hC d_Formula_choiceOfAll_3 rfl ?_
  refine s_iload_n (pc' := 5) hC d_Formula_choiceOfAll_4 rfl 2 rfl ?_
  refine s_cVi (pc' := 8) (As := [.inl (x1 + 1), .inl x2]) (rs := []) (a := a0) (fr' := 13) (lo' := 324) hC qs_Formula_46 rfl rfl (Nat.le_of_ble_eq_true rfl) ⟨by decide, by decide⟩ d_Formula_choiceOfAll_5 rfl (fun l g sz r w' h => c_Formula_isWon l g sz w a0 (x1 + 1) x2 r w' h) hF (fun v2 w1 hF => ?_)
  refine s_if_eq (tgt := 30) (pc' := 11) hC d_Formula_choiceOfAll_8 rfl rfl hF (fun hF => ?_) (fun hF => ?_)
  · exact qG_sub [] rfl (J_30 w1 hF)
  · refine s_aload_n (pc' := 12) hC d_Formula_choiceOfAll_11 rfl 0 rfl ?_
    refine s_iload_n (pc' := 13) hC d_Formula_choiceOfAll_12 rfl 1 rfl ?_
    refine s_iconst (v := 1) (pc' := 14) hC d_Formula_choiceOfAll_13 rfl (by decide) ?_
    refine s_iadd (pc' := 15) hC d_Formula_choiceOfAll_14 rfl ?_
    refine s_iload_n (pc' := 16) hC d_Formula_choiceOfAll_15 rfl 2 rfl ?_
    refine s_iconst (v := 1) (pc' := 17) hC d_Formula_choiceOfAll_16 rfl (by decide) ?_
    refine s_iload_n (pc' := 18) hC d_Formula_choiceOfAll_17 rfl 1 rfl ?_
    refine s_ishl (pc' := 19) hC d_Formula_choiceOfAll_18 rfl ?_
    refine s_ior (pc' := 20) hC d_Formula_choiceOfAll_19 rfl ?_
    refine s_cVi (pc' := 23) (As := [.inl (x1 + 1), .inl (x2 ||| ((1 : Int32) <<< (x1 &&& 31)))]) (rs := []) (a := a0) (fr' := 13) (lo' := 324) hC qs_Formula_46 rfl rfl (Nat.le_of_ble_eq_true rfl) ⟨by decide, by decide⟩ d_Formula_choiceOfAll_20 rfl (fun l g sz r w' h => c_Formula_isWon l g sz w1 a0 (x1 + 1) (x2 ||| ((1 : Int32) <<< (x1 &&& 31))) r w' h) hF (fun v4 w3 hF => ?_)
    refine s_if_ne (tgt := 30) (pc' := 26) hC d_Formula_choiceOfAll_23 rfl rfl hF (fun hF => ?_) (fun hF => ?_)
    · exact qG_sub [] rfl (J_30 w3 hF)
    · refine s_iconst (v := 1) (pc' := 27) hC d_Formula_choiceOfAll_26 rfl (by decide) ?_
      refine s_goto (tgt := 31) hC d_Formula_choiceOfAll_27 rfl ?_
      refine s_istore_n (pc' := 32) (lv' := [(3, .inl 1), (0, .inr (some a0)), (1, .inl x1), (2, .inl x2)]) hC d_Formula_choiceOfAll_31 rfl (by decide) rfl ?_
      refine s_iload_n (pc' := 33) hC d_Formula_choiceOfAll_32 rfl 0 rfl ?_
      refine s_if_eq (tgt := 40) (pc' := 36) hC d_Formula_choiceOfAll_33 rfl rfl hF (fun hF => ?_) (fun hF => ?_)
      · refine s_iconst (v := 0) (pc' := 41) hC d_Formula_choiceOfAll_40 rfl (by decide) ?_
        exact s_iret hC hR d_Formula_choiceOfAll_41 hF
      · refine s_iconst (v := 1) (pc' := 37) hC d_Formula_choiceOfAll_36 rfl (by decide) ?_
        refine s_goto (tgt := 41) hC d_Formula_choiceOfAll_37 rfl ?_
        exact s_iret hC hR d_Formula_choiceOfAll_41 hF
theorem c_Formula_choiceOfAll (l : Launch) (g : qk_G) (sz : Nat) (w : qw) (a0 : Nat) (x1 : Int32) (x2 : Int32) (r : Int32) (w' : qw) (hF : f_Formula_choiceOfAll w a0 x1 x2 = some (r, w')) : qMi l g sz y_Formula_choiceOfAll b_Formula_choiceOfAll 4 (some .int) 14 348 [.inr (some a0), .inl x1, .inl x2] w r w' := qk_met_i (by decide) (Nat.le_of_ble_eq_true rfl) (fun X hC hR => k_Formula_choiceOfAll r w' hC hR w a0 x1 x2 hF)
theorem qs_Words_25 : qV R_Words 25 y_Words_readNumber b_Words_readNumber 7 none 0 6 := ⟨Or.inl ml_Words_25, ic_Words_readNumber, ii_Words_readNumber, is_Words_readNumber, in_c_Words, ⟨_, _, rfl⟩, by decide +kernel⟩
theorem qp_Words_22 : qP R_Words 22 6 2 .int := ⟨R_Words, F_Words, 6, t_Words, rfl, by decide, in_Words, Or.inl fl_Words_22, t_Words_ok, n_Words, rfl, by decide +kernel⟩
def lj_Words_advance_92  (a0 : Nat) (w : qw) : Option (Int32 × qw) :=
  q_ob (q_is w a0 6) <| q_b1 (f_Words_readNumber w a0) fun w1 =>
  q_b1 (q_gi w1 a0 6 2) fun v2 =>
  q_b1 (q_gi w1 a0 6 3) fun v3 =>
  if v3 ≤ v2 then
    q_ob (q_z 0) (some (0, w1))
  else
    q_ob (q_z 1) (some (1, w1))
def lb_Words_advance_54  (c54 : Nat → qw → Option (Int32 × qw)) (a0 : Nat) (w : qw) : Option (Int32 × qw) :=
  q_b1 (q_gi w a0 6 3) fun v4 =>
  q_b1 (q_gi w a0 6 1) fun v5 =>
  if v5 ≤ v4 then
    lj_Words_advance_92 a0 w
  else
    q_b1 (q_gr w a0 6 0) fun r6 =>
    q_b1 (q_gi w a0 6 3) fun v7 =>
    q_b1 (q_ld w r6 1 v7) fun v8 =>
    if v8 = 32 then
      lj_Words_advance_92 a0 w
    else
      q_b1 (q_gi w a0 6 3) fun v9 =>
      q_b1 (q_pf w a0 6 3 (.inl (v9 + 1))) fun w10 =>
      c54 a0 w10
def ll_Words_advance_54  : Nat → Nat → qw → Option (Int32 × qw)
  | 0 => fun _ _ => none
  | n + 1 => lb_Words_advance_54  (ll_Words_advance_54  n)
def lb_Words_advance_8  (c8 : Nat → qw → Option (Int32 × qw)) (a0 : Nat) (w : qw) : Option (Int32 × qw) :=
  q_b1 (q_gi w a0 6 2) fun v11 =>
  q_b1 (q_gi w a0 6 1) fun v12 =>
  if v12 ≤ v11 then
    q_b1 (q_gi w a0 6 2) fun v13 =>
    q_b1 (q_pf w a0 6 3 (.inl v13)) fun w14 =>
    ll_Words_advance_54 q_fu a0 w14
  else
    q_b1 (q_gr w a0 6 0) fun r15 =>
    q_b1 (q_gi w a0 6 2) fun v16 =>
    q_b1 (q_ld w r15 1 v16) fun v17 =>
    if v17 = 32 then
      q_b1 (q_gi w a0 6 2) fun v20 =>
      q_b1 (q_pf w a0 6 2 (.inl (v20 + 1))) fun w21 =>
      c8 a0 w21
    else
      q_b1 (q_gi w a0 6 2) fun v18 =>
      q_b1 (q_pf w a0 6 3 (.inl v18)) fun w19 =>
      ll_Words_advance_54 q_fu a0 w19
def ll_Words_advance_8  : Nat → Nat → qw → Option (Int32 × qw)
  | 0 => fun _ _ => none
  | n + 1 => lb_Words_advance_8  (ll_Words_advance_8  n)
def f_Words_advance (w : qw) (a0 : Nat) : Option (Int32 × qw) :=
  q_b1 (q_gi w a0 6 3) fun v22 =>
  q_b1 (q_pf w a0 6 2 (.inl v22)) fun w23 =>
  ll_Words_advance_8 q_fu a0 w23
set_option maxHeartbeats 4000000 in
set_option maxRecDepth 100000 in
theorem k_Words_advance {X : qX} (r : Int32) (w' : qw) (hC : qC X b_Words_advance R_Words 1 2 49) (hR : qRz X b_Words_advance r w') (w : qw) (a0 : Nat) (hF : f_Words_advance w a0 = some (r, w')) : qG X 1 0 [(0, .inr (some a0))] [] w := by
  have J_92 : ∀ (a0 : Nat) (w : qw), lj_Words_advance_92  a0 w = some (r, w') → qG X 1 92 [(0, .inr (some a0))] [] w := by
    intro a0 w hF
    unfold lj_Words_advance_92 at hF
    refine s_aload_n (pc' := 93) hC d_Words_advance_92 rfl 0 rfl ?_
    refine s_cVv (pc' := 96) (As := []) (rs := []) (a := a0) (fr' := 1) (lo' := 23) hC qs_Words_25 rfl rfl (Nat.le_of_ble_eq_true rfl) ⟨by decide, by decide⟩ d_Words_advance_93 rfl (fun l g sz w' h => c_Words_readNumber l g sz w a0 w' h) hF (fun w1 hF => ?_)
    refine s_aload_n (pc' := 97) hC d_Words_advance_96 rfl 0 rfl ?_
    refine s_geti (pc' := 100) hC qf_Words_22 d_Words_advance_97 rfl hF (fun v2 hF => ?_)
    refine s_aload_n (pc' := 101) hC d_Words_advance_100 rfl 0 rfl ?_
    refine s_geti (pc' := 104) hC qf_Words_19 d_Words_advance_101 rfl hF (fun v3 hF => ?_)
    refine s_icmp_ge (tgt := 111) (pc' := 107) hC d_Words_advance_104 rfl rfl hF (fun hF => ?_) (fun hF => ?_)
    · refine s_iconst (v := 0) (pc' := 112) hC d_Words_advance_111 rfl (by decide) ?_
      exact s_zret hC hR d_Words_advance_112 hF
    · refine s_iconst (v := 1) (pc' := 108) hC d_Words_advance_107 rfl (by decide) ?_
      refine s_goto (tgt := 112) hC d_Words_advance_108 rfl ?_
      exact s_zret hC hR d_Words_advance_112 hF
  have L_54 : ∀ (n : Nat) (a0 : Nat) (w : qw), ll_Words_advance_54  n a0 w = some (r, w') → qG X 1 54 [(0, .inr (some a0))] [] w := by
    intro n_54
    induction n_54 with
    | zero => exact fun _ _ hF => q_nn (show (none : Option (Int32 × qw)) = some (r, w') from hF)
    | succ n_54 ih_54 =>
      intro a0 w hF
      have hF : lb_Words_advance_54  (ll_Words_advance_54  n_54) a0 w = some (r, w') := hF
      unfold lb_Words_advance_54 at hF
      refine s_aload_n (pc' := 55) hC d_Words_advance_54 rfl 0 rfl ?_
      refine s_geti (pc' := 58) hC qf_Words_19 d_Words_advance_55 rfl hF (fun v4 hF => ?_)
      refine s_aload_n (pc' := 59) hC d_Words_advance_58 rfl 0 rfl ?_
      refine s_geti (pc' := 62) hC qf_Words_15 d_Words_advance_59 rfl hF (fun v5 hF => ?_)
      refine s_icmp_ge (tgt := 92) (pc' := 65) hC d_Words_advance_62 rfl rfl hF (fun hF => ?_) (fun hF => ?_)
      · exact qG_sub [0] rfl (J_92 a0 w hF)
      · refine s_aload_n (pc' := 66) hC d_Words_advance_65 rfl 0 rfl ?_
        refine s_getr (pc' := 69) hC qf_Words_9 d_Words_advance_66 rfl hF (fun r6 hF => ?_)
        refine s_aload_n (pc' := 70) hC d_Words_advance_69 rfl 0 rfl ?_
        refine s_geti (pc' := 73) hC qf_Words_19 d_Words_advance_70 rfl hF (fun v7 hF => ?_)
        refine s_cald (pc' := 74) hC d_Words_advance_73 rfl hF (fun v8 hF => ?_)
        refine s_bipush (v := 32) (pc' := 76) hC d_Words_advance_74 rfl (by decide) ?_
        refine s_icmp_eq (tgt := 92) (pc' := 79) hC d_Words_advance_76 rfl rfl hF (fun hF => ?_) (fun hF => ?_)
        · exact qG_sub [0] rfl (J_92 a0 w hF)
        · refine s_aload_n (pc' := 80) hC d_Words_advance_79 rfl 0 rfl ?_
          refine s_dup (pc' := 81) hC d_Words_advance_80 rfl ?_
          refine s_geti (pc' := 84) hC qf_Words_19 d_Words_advance_81 rfl hF (fun v9 hF => ?_)
          refine s_iconst (v := 1) (pc' := 85) hC d_Words_advance_84 rfl (by decide) ?_
          refine s_iadd (pc' := 86) hC d_Words_advance_85 rfl ?_
          refine s_puti (pc' := 89) hC qp_Words_19 d_Words_advance_86 rfl hF (fun w10 hF => ?_)
          refine s_goto (tgt := 54) hC d_Words_advance_89 rfl ?_
          exact qG_sub [0] rfl (ih_54 a0 w10 hF)
  have L_8 : ∀ (n : Nat) (a0 : Nat) (w : qw), ll_Words_advance_8  n a0 w = some (r, w') → qG X 1 8 [(0, .inr (some a0))] [] w := by
    intro n_8
    induction n_8 with
    | zero => exact fun _ _ hF => q_nn (show (none : Option (Int32 × qw)) = some (r, w') from hF)
    | succ n_8 ih_8 =>
      intro a0 w hF
      have hF : lb_Words_advance_8  (ll_Words_advance_8  n_8) a0 w = some (r, w') := hF
      unfold lb_Words_advance_8 at hF
      refine s_aload_n (pc' := 9) hC d_Words_advance_8 rfl 0 rfl ?_
      refine s_geti (pc' := 12) hC qf_Words_22 d_Words_advance_9 rfl hF (fun v11 hF => ?_)
      refine s_aload_n (pc' := 13) hC d_Words_advance_12 rfl 0 rfl ?_
      refine s_geti (pc' := 16) hC qf_Words_15 d_Words_advance_13 rfl hF (fun v12 hF => ?_)
      refine s_icmp_ge (tgt := 46) (pc' := 19) hC d_Words_advance_16 rfl rfl hF (fun hF => ?_) (fun hF => ?_)
      · refine s_aload_n (pc' := 47) hC d_Words_advance_46 rfl 0 rfl ?_
        refine s_aload_n (pc' := 48) hC d_Words_advance_47 rfl 0 rfl ?_
        refine s_geti (pc' := 51) hC qf_Words_22 d_Words_advance_48 rfl hF (fun v13 hF => ?_)
        refine s_puti (pc' := 54) hC qp_Words_19 d_Words_advance_51 rfl hF (fun w14 hF => ?_)
        exact qG_sub [0] rfl (L_54 q_fu a0 w14 hF)
      · refine s_aload_n (pc' := 20) hC d_Words_advance_19 rfl 0 rfl ?_
        refine s_getr (pc' := 23) hC qf_Words_9 d_Words_advance_20 rfl hF (fun r15 hF => ?_)
        refine s_aload_n (pc' := 24) hC d_Words_advance_23 rfl 0 rfl ?_
        refine s_geti (pc' := 27) hC qf_Words_22 d_Words_advance_24 rfl hF (fun v16 hF => ?_)
        refine s_cald (pc' := 28) hC d_Words_advance_27 rfl hF (fun v17 hF => ?_)
        refine s_bipush (v := 32) (pc' := 30) hC d_Words_advance_28 rfl (by decide) ?_
        refine s_icmp_ne (tgt := 46) (pc' := 33) hC d_Words_advance_30 rfl rfl hF (fun hF => ?_) (fun hF => ?_)
        · refine s_aload_n (pc' := 47) hC d_Words_advance_46 rfl 0 rfl ?_
          refine s_aload_n (pc' := 48) hC d_Words_advance_47 rfl 0 rfl ?_
          refine s_geti (pc' := 51) hC qf_Words_22 d_Words_advance_48 rfl hF (fun v18 hF => ?_)
          refine s_puti (pc' := 54) hC qp_Words_19 d_Words_advance_51 rfl hF (fun w19 hF => ?_)
          exact qG_sub [0] rfl (L_54 q_fu a0 w19 hF)
        · refine s_aload_n (pc' := 34) hC d_Words_advance_33 rfl 0 rfl ?_
          refine s_dup (pc' := 35) hC d_Words_advance_34 rfl ?_
          refine s_geti (pc' := 38) hC qf_Words_22 d_Words_advance_35 rfl hF (fun v20 hF => ?_)
          refine s_iconst (v := 1) (pc' := 39) hC d_Words_advance_38 rfl (by decide) ?_
          refine s_iadd (pc' := 40) hC d_Words_advance_39 rfl ?_
          refine s_puti (pc' := 43) hC qp_Words_22 d_Words_advance_40 rfl hF (fun w21 hF => ?_)
          refine s_goto (tgt := 8) hC d_Words_advance_43 rfl ?_
          exact qG_sub [0] rfl (ih_8 a0 w21 hF)
  unfold f_Words_advance at hF
  refine s_aload_n (pc' := 1) hC d_Words_advance_0 rfl 0 rfl ?_
  refine s_aload_n (pc' := 2) hC d_Words_advance_1 rfl 0 rfl ?_
  refine s_geti (pc' := 5) hC qf_Words_19 d_Words_advance_2 rfl hF (fun v22 hF => ?_)
  refine s_puti (pc' := 8) hC qp_Words_22 d_Words_advance_5 rfl hF (fun w23 hF => ?_)
  exact qG_sub [0] rfl (L_8 q_fu a0 w23 hF)
theorem c_Words_advance (l : Launch) (g : qk_G) (sz : Nat) (w : qw) (a0 : Nat) (r : Int32) (w' : qw) (hF : f_Words_advance w a0 = some (r, w')) : qMi l g sz y_Words_advance b_Words_advance 1 (some .boolean) 2 49 [.inr (some a0)] w r w' := qk_met_z (by decide) (Nat.le_of_ble_eq_true rfl) (fun X hC hR => k_Words_advance r w' hC hR w a0 hF)
theorem qf_FormulaReader_60 : qF R_FormulaReader 60 3 4 := ⟨R_FormulaReader, F_FormulaReader, 6, rfl, by decide, in_FormulaReader, Or.inl fl_FormulaReader_60⟩
theorem qs_FormulaReader_70 : qV R_FormulaReader 70 y_Formula_addVariable b_Formula_addVariable 3 none 2 2 := ⟨Or.inl ml_FormulaReader_70, ic_Formula_addVariable, ii_Formula_addVariable, is_Formula_addVariable, in_c_Formula, ⟨_, _, rfl⟩, by decide +kernel⟩
theorem qs_FormulaReader_66 : qV R_FormulaReader 66 y_Formula_hasLiteral b_Formula_hasLiteral 2 (some .boolean) 1 2 := ⟨Or.inl ml_FormulaReader_66, ic_Formula_hasLiteral, ii_Formula_hasLiteral, is_Formula_hasLiteral, in_c_Formula, ⟨_, _, rfl⟩, by decide +kernel⟩
theorem qs_FormulaReader_63 : qV R_FormulaReader 63 y_FormulaReader_endBlock b_FormulaReader_endBlock 1 (some .int) 0 3 := ⟨Or.inl ml_FormulaReader_63, ic_FormulaReader_endBlock, ii_FormulaReader_endBlock, is_FormulaReader_endBlock, in_c_FormulaReader, ⟨_, _, rfl⟩, by decide +kernel⟩
def f_FormulaReader_takeInBlock (w : qw) (a0 : Nat) (x1 : Int32) : Option (Int32 × qw) :=
  if 0 ≤ x1 then
    if x1 = 0 then
      q_ob (q_is w a0 3) <| q_b2 (f_FormulaReader_endBlock w a0) fun v9 w8 =>
      some (v9, w8)
    else
      if 8 < x1 then
        some (2, w)
      else
        q_b1 (q_gr w a0 3 0) fun r1 =>
        q_ob (q_is w r1 2) <| q_b2 (f_Formula_hasLiteral w r1 x1) fun v3 w2 =>
        if v3 = 0 then
          q_b1 (q_gr w2 a0 3 0) fun r4 =>
          q_b1 (q_gi w2 a0 3 4) fun v5 =>
          q_ob (q_is w2 r4 2) <| q_b1 (f_Formula_addVariable w2 r4 x1 v5) fun w6 =>
          q_ob (q_z 1) <| q_b1 (q_pf w6 a0 3 3 (.inl 1)) fun w7 =>
          some (0, w7)
        else
          some (2, w2)
  else
    some (1, w)
set_option maxHeartbeats 4000000 in
set_option maxRecDepth 100000 in
theorem k_FormulaReader_takeInBlock {X : qX} (r : Int32) (w' : qw) (hC : qC X b_FormulaReader_takeInBlock R_FormulaReader 2 2 42) (hR : qRi X b_FormulaReader_takeInBlock r w') (w : qw) (a0 : Nat) (x1 : Int32) (hF : f_FormulaReader_takeInBlock w a0 x1 = some (r, w')) : qG X 2 0 [(0, .inr (some a0)), (1, .inl x1)] [] w := by
  unfold f_FormulaReader_takeInBlock at hF
  refine s_iload_n (pc' := 1) hC d_FormulaReader_takeInBlock_0 rfl 1 rfl ?_
  refine s_if_ge (tgt := 6) (pc' := 4) hC d_FormulaReader_takeInBlock_1 rfl rfl hF (fun hF => ?_) (fun hF => ?_)
  · refine s_iload_n (pc' := 7) hC d_FormulaReader_takeInBlock_6 rfl 1 rfl ?_
    refine s_if_ne (tgt := 15) (pc' := 10) hC d_FormulaReader_takeInBlock_7 rfl rfl hF (fun hF => ?_) (fun hF => ?_)
    · refine s_iload_n (pc' := 16) hC d_FormulaReader_takeInBlock_15 rfl 1 rfl ?_
      refine s_bipush (v := 8) (pc' := 18) hC d_FormulaReader_takeInBlock_16 rfl (by decide) ?_
      refine s_icmp_gt (tgt := 32) (pc' := 21) hC d_FormulaReader_takeInBlock_18 rfl rfl hF (fun hF => ?_) (fun hF => ?_)
      · refine s_iconst (v := 2) (pc' := 33) hC d_FormulaReader_takeInBlock_32 rfl (by decide) ?_
        exact s_iret hC hR d_FormulaReader_takeInBlock_33 hF
      · refine s_aload_n (pc' := 22) hC d_FormulaReader_takeInBlock_21 rfl 0 rfl ?_
        refine s_getr (pc' := 25) hC qf_FormulaReader_12 d_FormulaReader_takeInBlock_22 rfl hF (fun r1 hF => ?_)
        refine s_iload_n (pc' := 26) hC d_FormulaReader_takeInBlock_25 rfl 1 rfl ?_
        refine s_cVi (pc' := 29) (As := [.inl x1]) (rs := []) (a := r1) (fr' := 1) (lo' := 20) hC qs_FormulaReader_66 rfl rfl (Nat.le_of_ble_eq_true rfl) ⟨by decide, by decide⟩ d_FormulaReader_takeInBlock_26 rfl (fun l g sz r w' h => c_Formula_hasLiteral l g sz w r1 x1 r w' h) hF (fun v3 w2 hF => ?_)
        refine s_if_eq (tgt := 34) (pc' := 32) hC d_FormulaReader_takeInBlock_29 rfl rfl hF (fun hF => ?_) (fun hF => ?_)
        · refine s_aload_n (pc' := 35) hC d_FormulaReader_takeInBlock_34 rfl 0 rfl ?_
          refine s_getr (pc' := 38) hC qf_FormulaReader_12 d_FormulaReader_takeInBlock_35 rfl hF (fun r4 hF => ?_)
          refine s_iload_n (pc' := 39) hC d_FormulaReader_takeInBlock_38 rfl 1 rfl ?_
          refine s_aload_n (pc' := 40) hC d_FormulaReader_takeInBlock_39 rfl 0 rfl ?_
          refine s_geti (pc' := 43) hC qf_FormulaReader_60 d_FormulaReader_takeInBlock_40 rfl hF (fun v5 hF => ?_)
          refine s_cVv (pc' := 46) (As := [.inl x1, .inl v5]) (rs := []) (a := r4) (fr' := 1) (lo' := 20) hC qs_FormulaReader_70 rfl rfl (Nat.le_of_ble_eq_true rfl) ⟨by decide, by decide⟩ d_FormulaReader_takeInBlock_43 rfl (fun l g sz w' h => c_Formula_addVariable l g sz w2 r4 x1 v5 w' h) hF (fun w6 hF => ?_)
          refine s_aload_n (pc' := 47) hC d_FormulaReader_takeInBlock_46 rfl 0 rfl ?_
          refine s_iconst (v := 1) (pc' := 48) hC d_FormulaReader_takeInBlock_47 rfl (by decide) ?_
          refine s_putz (pc' := 51) hC qp_FormulaReader_57 d_FormulaReader_takeInBlock_48 rfl hF (fun w7 hF => ?_)
          refine s_iconst (v := 0) (pc' := 52) hC d_FormulaReader_takeInBlock_51 rfl (by decide) ?_
          exact s_iret hC hR d_FormulaReader_takeInBlock_52 hF
        · refine s_iconst (v := 2) (pc' := 33) hC d_FormulaReader_takeInBlock_32 rfl (by decide) ?_
          exact s_iret hC hR d_FormulaReader_takeInBlock_33 hF
    · refine s_aload_n (pc' := 11) hC d_FormulaReader_takeInBlock_10 rfl 0 rfl ?_
      refine s_cVi (pc' := 14) (As := []) (rs := []) (a := a0) (fr' := 0) (lo' := 0) hC qs_FormulaReader_63 rfl rfl (Nat.le_of_ble_eq_true rfl) ⟨by decide, by decide⟩ d_FormulaReader_takeInBlock_11 rfl (fun l g sz r w' h => c_FormulaReader_endBlock l g sz w a0 r w' h) hF (fun v9 w8 hF => ?_)
      exact s_iret hC hR d_FormulaReader_takeInBlock_14 hF
  · refine s_iconst (v := 1) (pc' := 5) hC d_FormulaReader_takeInBlock_4 rfl (by decide) ?_
    exact s_iret hC hR d_FormulaReader_takeInBlock_5 hF
theorem c_FormulaReader_takeInBlock (l : Launch) (g : qk_G) (sz : Nat) (w : qw) (a0 : Nat) (x1 : Int32) (r : Int32) (w' : qw) (hF : f_FormulaReader_takeInBlock w a0 x1 = some (r, w')) : qMi l g sz y_FormulaReader_takeInBlock b_FormulaReader_takeInBlock 2 (some .int) 2 42 [.inr (some a0), .inl x1] w r w' := qk_met_i (by decide) (Nat.le_of_ble_eq_true rfl) (fun X hC hR => k_FormulaReader_takeInBlock r w' hC hR w a0 x1 hF)
theorem qs_FormulaReader_77 : qS R_FormulaReader 77 y_QP_setOf b_QP_setOf 1 (some .int) 1 := ⟨Or.inr ⟨_, mn_FormulaReader_77⟩, ic_QP_setOf, is_QP_setOf, in_c_QP, by decide +kernel⟩
theorem qs_FormulaReader_74 : qV R_FormulaReader 74 y_FormulaReader_endClause b_FormulaReader_endClause 2 (some .int) 0 3 := ⟨Or.inl ml_FormulaReader_74, ic_FormulaReader_endClause, ii_FormulaReader_endClause, is_FormulaReader_endClause, in_c_FormulaReader, ⟨_, _, rfl⟩, by decide +kernel⟩
def f_FormulaReader_takeInClause (w : qw) (a0 : Nat) (x1 : Int32) : Option (Int32 × qw) :=
  if x1 = 0 then
    q_ob (q_is w a0 3) <| q_b2 (f_FormulaReader_endClause w a0) fun v14 w13 =>
    some (v14, w13)
  else
    q_b1 (q_gr w a0 3 0) fun r1 =>
    q_ob (q_is w r1 2) <| q_b2 (f_Formula_hasLiteral w r1 x1) fun v3 w2 =>
    if v3 = 0 then
      some (2, w2)
    else
      q_b1 (q_gi w2 a0 3 5) fun v4 =>
      q_b2 (f_QP_setOf w2 x1) fun v6 w5 =>
      q_b2 (f_QP_setOf w5 (-x1)) fun v8 w7 =>
      if (v4 &&& (v6 ||| v8)) = 0 then
        q_b1 (q_gi w7 a0 3 5) fun v9 =>
        q_b2 (f_QP_setOf w7 x1) fun v11 w10 =>
        q_b1 (q_pf w10 a0 3 5 (.inl (v9 ||| v11))) fun w12 =>
        some (0, w12)
      else
        some (3, w7)
set_option maxHeartbeats 4000000 in
set_option maxRecDepth 100000 in
theorem k_FormulaReader_takeInClause {X : qX} (r : Int32) (w' : qw) (hC : qC X b_FormulaReader_takeInClause R_FormulaReader 2 2 42) (hR : qRi X b_FormulaReader_takeInClause r w') (w : qw) (a0 : Nat) (x1 : Int32) (hF : f_FormulaReader_takeInClause w a0 x1 = some (r, w')) : qG X 2 0 [(0, .inr (some a0)), (1, .inl x1)] [] w := by
  unfold f_FormulaReader_takeInClause at hF
  refine s_iload_n (pc' := 1) hC d_FormulaReader_takeInClause_0 rfl 1 rfl ?_
  refine s_if_ne (tgt := 9) (pc' := 4) hC d_FormulaReader_takeInClause_1 rfl rfl hF (fun hF => ?_) (fun hF => ?_)
  · refine s_aload_n (pc' := 10) hC d_FormulaReader_takeInClause_9 rfl 0 rfl ?_
    refine s_getr (pc' := 13) hC qf_FormulaReader_12 d_FormulaReader_takeInClause_10 rfl hF (fun r1 hF => ?_)
    refine s_iload_n (pc' := 14) hC d_FormulaReader_takeInClause_13 rfl 1 rfl ?_
    refine s_cVi (pc' := 17) (As := [.inl x1]) (rs := []) (a := r1) (fr' := 1) (lo' := 20) hC qs_FormulaReader_66 rfl rfl (Nat.le_of_ble_eq_true rfl) ⟨by decide, by decide⟩ d_FormulaReader_takeInClause_14 rfl (fun l g sz r w' h => c_Formula_hasLiteral l g sz w r1 x1 r w' h) hF (fun v3 w2 hF => ?_)
    refine s_if_ne (tgt := 22) (pc' := 20) hC d_FormulaReader_takeInClause_17 rfl rfl hF (fun hF => ?_) (fun hF => ?_)
    · refine s_aload_n (pc' := 23) hC d_FormulaReader_takeInClause_22 rfl 0 rfl ?_
      refine s_geti (pc' := 26) hC qf_FormulaReader_28 d_FormulaReader_takeInClause_23 rfl hF (fun v4 hF => ?_)
      refine s_iload_n (pc' := 27) hC d_FormulaReader_takeInClause_26 rfl 1 rfl ?_
      refine s_cSi (pc' := 30) (As := [.inl x1]) (rs := [.inl v4]) (fr' := 0) (lo' := 0) hC qs_FormulaReader_77 rfl rfl (Nat.le_of_ble_eq_true rfl) ⟨by decide, by decide⟩ d_FormulaReader_takeInClause_27 rfl (fun l g sz r w' h => c_QP_setOf l g sz w2 x1 r w' h) hF (fun v6 w5 hF => ?_)
      refine s_iload_n (pc' := 31) hC d_FormulaReader_takeInClause_30 rfl 1 rfl ?_
      refine s_ineg (pc' := 32) hC d_FormulaReader_takeInClause_31 rfl ?_
      refine s_cSi (pc' := 35) (As := [.inl (-x1)]) (rs := [.inl v6, .inl v4]) (fr' := 0) (lo' := 0) hC qs_FormulaReader_77 rfl rfl (Nat.le_of_ble_eq_true rfl) ⟨by decide, by decide⟩ d_FormulaReader_takeInClause_32 rfl (fun l g sz r w' h => c_QP_setOf l g sz w5 (-x1) r w' h) hF (fun v8 w7 hF => ?_)
      refine s_ior (pc' := 36) hC d_FormulaReader_takeInClause_35 rfl ?_
      refine s_iand (pc' := 37) hC d_FormulaReader_takeInClause_36 rfl ?_
      refine s_if_eq (tgt := 42) (pc' := 40) hC d_FormulaReader_takeInClause_37 rfl rfl hF (fun hF => ?_) (fun hF => ?_)
      · refine s_aload_n (pc' := 43) hC d_FormulaReader_takeInClause_42 rfl 0 rfl ?_
        refine s_dup (pc' := 44) hC d_FormulaReader_takeInClause_43 rfl ?_
        refine s_geti (pc' := 47) hC qf_FormulaReader_28 d_FormulaReader_takeInClause_44 rfl hF (fun v9 hF => ?_)
        refine s_iload_n (pc' := 48) hC d_FormulaReader_takeInClause_47 rfl 1 rfl ?_
        refine s_cSi (pc' := 51) (As := [.inl x1]) (rs := [.inl v9, .inr (some a0)]) (fr' := 0) (lo' := 0) hC qs_FormulaReader_77 rfl rfl (Nat.le_of_ble_eq_true rfl) ⟨by decide, by decide⟩ d_FormulaReader_takeInClause_48 rfl (fun l g sz r w' h => c_QP_setOf l g sz w7 x1 r w' h) hF (fun v11 w10 hF => ?_)
        refine s_ior (pc' := 52) hC d_FormulaReader_takeInClause_51 rfl ?_
        refine s_puti (pc' := 55) hC qp_FormulaReader_28 d_FormulaReader_takeInClause_52 rfl hF (fun w12 hF => ?_)
        refine s_iconst (v := 0) (pc' := 56) hC d_FormulaReader_takeInClause_55 rfl (by decide) ?_
        exact s_iret hC hR d_FormulaReader_takeInClause_56 hF
      · refine s_iconst (v := 3) (pc' := 41) hC d_FormulaReader_takeInClause_40 rfl (by decide) ?_
        exact s_iret hC hR d_FormulaReader_takeInClause_41 hF
    · refine s_iconst (v := 2) (pc' := 21) hC d_FormulaReader_takeInClause_20 rfl (by decide) ?_
      exact s_iret hC hR d_FormulaReader_takeInClause_21 hF
  · refine s_aload_n (pc' := 5) hC d_FormulaReader_takeInClause_4 rfl 0 rfl ?_
    refine s_cVi (pc' := 8) (As := []) (rs := []) (a := a0) (fr' := 1) (lo' := 21) hC qs_FormulaReader_74 rfl rfl (Nat.le_of_ble_eq_true rfl) ⟨by decide, by decide⟩ d_FormulaReader_takeInClause_5 rfl (fun l g sz r w' h => c_FormulaReader_endClause l g sz w a0 r w' h) hF (fun v14 w13 hF => ?_)
    exact s_iret hC hR d_FormulaReader_takeInClause_8 hF
theorem c_FormulaReader_takeInClause (l : Launch) (g : qk_G) (sz : Nat) (w : qw) (a0 : Nat) (x1 : Int32) (r : Int32) (w' : qw) (hF : f_FormulaReader_takeInClause w a0 x1 = some (r, w')) : qMi l g sz y_FormulaReader_takeInClause b_FormulaReader_takeInClause 2 (some .int) 2 42 [.inr (some a0), .inl x1] w r w' := qk_met_i (by decide) (Nat.le_of_ble_eq_true rfl) (fun X hC hR => k_FormulaReader_takeInClause r w' hC hR w a0 x1 hF)
theorem qs_TraceReader_110 : qV R_TraceReader 110 y_Formula_hasClause b_Formula_hasClause 3 (some .boolean) 1 2 := ⟨Or.inl ml_TraceReader_110, ic_Formula_hasClause, ii_Formula_hasClause, is_Formula_hasClause, in_c_Formula, ⟨_, _, rfl⟩, by decide +kernel⟩
theorem qs_TraceReader_107 : qV R_TraceReader 107 y_TraceReader_isStartCube b_TraceReader_isStartCube 1 (some .boolean) 0 5 := ⟨Or.inl ml_TraceReader_107, ic_TraceReader_isStartCube, ii_TraceReader_isStartCube, is_TraceReader_isStartCube, in_c_TraceReader, ⟨_, _, rfl⟩, by decide +kernel⟩
theorem qf_TraceReader_113 : qF R_TraceReader 113 4 1 := ⟨R_Proof, F_Proof, 5, rfl, by decide, in_Proof, Or.inr ⟨_, fn_TraceReader_113⟩⟩
theorem qs_TraceReader_115 : qV R_TraceReader 115 y_TraceReader_isReductionOf b_TraceReader_isReductionOf 3 (some .boolean) 1 5 := ⟨Or.inl ml_TraceReader_115, ic_TraceReader_isReductionOf, ii_TraceReader_isReductionOf, is_TraceReader_isReductionOf, in_c_TraceReader, ⟨_, _, rfl⟩, by decide +kernel⟩
theorem qs_TraceReader_118 : qV R_TraceReader 118 y_TraceReader_isResolventOf b_TraceReader_isResolventOf 7 (some .boolean) 2 5 := ⟨Or.inl ml_TraceReader_118, ic_TraceReader_isResolventOf, ii_TraceReader_isResolventOf, is_TraceReader_isResolventOf, in_c_TraceReader, ⟨_, _, rfl⟩, by decide +kernel⟩
def f_TraceReader_follows (w : qw) (a0 : Nat) : Option (Int32 × qw) :=
  q_b1 (q_gi w a0 5 7) fun v1 =>
  if v1 = 0 then
    q_b1 (q_gi w a0 5 4) fun v2 =>
    if v2 = 0 then
      q_b1 (q_gr w a0 5 2) fun r3 =>
      q_b1 (q_gi w a0 5 6) fun v4 =>
      q_ob (q_is w r3 2) <| q_b2 (f_Formula_hasClause w r3 v4) fun v6 w5 =>
      q_ob (q_z v6) (some (v6, w5))
    else
      q_ob (q_is w a0 5) <| q_b2 (f_TraceReader_isStartCube w a0) fun v8 w7 =>
      q_ob (q_z v8) (some (v8, w7))
  else if v1 = 1 then
    q_b1 (q_gr w a0 5 0) fun r10 =>
    q_b1 (q_gr w r10 4 1) fun r11 =>
    q_b1 (q_gr w a0 5 1) fun r12 =>
    q_b1 (q_ld w r12 0 0) fun v13 =>
    q_b1 (q_ld w r11 0 v13) fun v14 =>
    q_ob (q_is w a0 5) <| q_b2 (f_TraceReader_isReductionOf w a0 v14) fun v16 w15 =>
    q_ob (q_z v16) (some (v16, w15))
  else 
    q_b1 (q_gr w a0 5 0) fun r18 =>
    q_b1 (q_gr w r18 4 1) fun r19 =>
    q_b1 (q_gr w a0 5 1) fun r20 =>
    q_b1 (q_ld w r20 0 0) fun v21 =>
    q_b1 (q_ld w r19 0 v21) fun v22 =>
    q_b1 (q_gr w a0 5 0) fun r23 =>
    q_b1 (q_gr w r23 4 1) fun r24 =>
    q_b1 (q_gr w a0 5 1) fun r25 =>
    q_b1 (q_ld w r25 0 1) fun v26 =>
    q_b1 (q_ld w r24 0 v26) fun v27 =>
    q_ob (q_is w a0 5) <| q_b2 (f_TraceReader_isResolventOf w a0 v22 v27) fun v29 w28 =>
    q_ob (q_z v29) (some (v29, w28))
set_option maxHeartbeats 4000000 in
set_option maxRecDepth 100000 in
theorem k_TraceReader_follows {X : qX} (r : Int32) (w' : qw) (hC : qC X b_TraceReader_follows R_TraceReader 1 3 70) (hR : qRz X b_TraceReader_follows r w') (w : qw) (a0 : Nat) (hF : f_TraceReader_follows w a0 = some (r, w')) : qG X 1 0 [(0, .inr (some a0))] [] w := by
  unfold f_TraceReader_follows at hF
  refine s_aload_n (pc' := 1) hC d_TraceReader_follows_0 rfl 0 rfl ?_
  refine s_geti (pc' := 4) hC qf_TraceReader_83 d_TraceReader_follows_1 rfl hF (fun v1 hF => ?_)
  refine q_sw hF (fun hx hF => ?_) (fun hx9 hF => ?_)
  · refine s_look (tgt := 32) (off := 28) hC d_TraceReader_follows_4 hx (by decide) (by decide) rfl ?_
    refine s_aload_n (pc' := 33) hC d_TraceReader_follows_32 rfl 0 rfl ?_
    refine s_geti (pc' := 36) hC qf_TraceReader_67 d_TraceReader_follows_33 rfl hF (fun v2 hF => ?_)
    refine s_if_eq (tgt := 46) (pc' := 39) hC d_TraceReader_follows_36 rfl rfl hF (fun hF => ?_) (fun hF => ?_)
    · refine s_aload_n (pc' := 47) hC d_TraceReader_follows_46 rfl 0 rfl ?_
      refine s_getr (pc' := 50) hC qf_TraceReader_25 d_TraceReader_follows_47 rfl hF (fun r3 hF => ?_)
      refine s_aload_n (pc' := 51) hC d_TraceReader_follows_50 rfl 0 rfl ?_
      refine s_geti (pc' := 54) hC qf_TraceReader_80 d_TraceReader_follows_51 rfl hF (fun v4 hF => ?_)
      refine s_cVi (pc' := 57) (As := [.inl v4]) (rs := []) (a := r3) (fr' := 0) (lo' := 0) hC qs_TraceReader_110 rfl rfl (Nat.le_of_ble_eq_true rfl) ⟨by decide, by decide⟩ d_TraceReader_follows_54 rfl (fun l g sz r w' h => c_Formula_hasClause l g sz w r3 v4 r w' h) hF (fun v6 w5 hF => ?_)
      exact s_zret hC hR d_TraceReader_follows_57 hF
    · refine s_aload_n (pc' := 40) hC d_TraceReader_follows_39 rfl 0 rfl ?_
      refine s_cVi (pc' := 43) (As := []) (rs := []) (a := a0) (fr' := 1) (lo' := 22) hC qs_TraceReader_107 rfl rfl (Nat.le_of_ble_eq_true rfl) ⟨by decide, by decide⟩ d_TraceReader_follows_40 rfl (fun l g sz r w' h => c_TraceReader_isStartCube l g sz w a0 r w' h) hF (fun v8 w7 hF => ?_)
      refine s_goto (tgt := 57) hC d_TraceReader_follows_43 rfl ?_
      exact s_zret hC hR d_TraceReader_follows_57 hF
  refine q_sw hF (fun hx hF => ?_) (fun hx17 hF => ?_)
  · refine s_look (tgt := 58) (off := 54) hC d_TraceReader_follows_4 hx (by decide) (by decide) rfl ?_
    refine s_aload_n (pc' := 59) hC d_TraceReader_follows_58 rfl 0 rfl ?_
    refine s_aload_n (pc' := 60) hC d_TraceReader_follows_59 rfl 0 rfl ?_
    refine s_getr (pc' := 63) hC qf_TraceReader_12 d_TraceReader_follows_60 rfl hF (fun r10 hF => ?_)
    refine s_getr (pc' := 66) hC qf_TraceReader_113 d_TraceReader_follows_63 rfl hF (fun r11 hF => ?_)
    refine s_aload_n (pc' := 67) hC d_TraceReader_follows_66 rfl 0 rfl ?_
    refine s_getr (pc' := 70) hC qf_TraceReader_18 d_TraceReader_follows_67 rfl hF (fun r12 hF => ?_)
    refine s_iconst (v := 0) (pc' := 71) hC d_TraceReader_follows_70 rfl (by decide) ?_
    refine s_iald (pc' := 72) hC d_TraceReader_follows_71 rfl hF (fun v13 hF => ?_)
    refine s_iald (pc' := 73) hC d_TraceReader_follows_72 rfl hF (fun v14 hF => ?_)
    refine s_cVi (pc' := 76) (As := [.inl v14]) (rs := []) (a := a0) (fr' := 2) (lo' := 44) hC qs_TraceReader_115 rfl rfl (Nat.le_of_ble_eq_true rfl) ⟨by decide, by decide⟩ d_TraceReader_follows_73 rfl (fun l g sz r w' h => c_TraceReader_isReductionOf l g sz w a0 v14 r w' h) hF (fun v16 w15 hF => ?_)
    exact s_zret hC hR d_TraceReader_follows_76 hF
  refine s_lookd (tgt := 77) hC d_TraceReader_follows_4 (by decide) ((lv_osw hx9 (by decide)).trans ((lv_osw hx17 (by decide)).trans rfl)) rfl ?_
  refine s_aload_n (pc' := 78) hC d_TraceReader_follows_77 rfl 0 rfl ?_
  refine s_aload_n (pc' := 79) hC d_TraceReader_follows_78 rfl 0 rfl ?_
  refine s_getr (pc' := 82) hC qf_TraceReader_12 d_TraceReader_follows_79 rfl hF (fun r18 hF => ?_)
  refine s_getr (pc' := 85) hC qf_TraceReader_113 d_TraceReader_follows_82 rfl hF (fun r19 hF => ?_)
  refine s_aload_n (pc' := 86) hC d_TraceReader_follows_85 rfl 0 rfl ?_
  refine s_getr (pc' := 89) hC qf_TraceReader_18 d_TraceReader_follows_86 rfl hF (fun r20 hF => ?_)
  refine s_iconst (v := 0) (pc' := 90) hC d_TraceReader_follows_89 rfl (by decide) ?_
  refine s_iald (pc' := 91) hC d_TraceReader_follows_90 rfl hF (fun v21 hF => ?_)
  refine s_iald (pc' := 92) hC d_TraceReader_follows_91 rfl hF (fun v22 hF => ?_)
  refine s_aload_n (pc' := 93) hC d_TraceReader_follows_92 rfl 0 rfl ?_
  refine s_getr (pc' := 96) hC qf_TraceReader_12 d_TraceReader_follows_93 rfl hF (fun r23 hF => ?_)
  refine s_getr (pc' := 99) hC qf_TraceReader_113 d_TraceReader_follows_96 rfl hF (fun r24 hF => ?_)
  refine s_aload_n (pc' := 100) hC d_TraceReader_follows_99 rfl 0 rfl ?_
  refine s_getr (pc' := 103) hC qf_TraceReader_18 d_TraceReader_follows_100 rfl hF (fun r25 hF => ?_)
  refine s_iconst (v := 1) (pc' := 104) hC d_TraceReader_follows_103 rfl (by decide) ?_
  refine s_iald (pc' := 105) hC d_TraceReader_follows_104 rfl hF (fun v26 hF => ?_)
  refine s_iald (pc' := 106) hC d_TraceReader_follows_105 rfl hF (fun v27 hF => ?_)
  refine s_cVi (pc' := 109) (As := [.inl v22, .inl v27]) (rs := []) (a := a0) (fr' := 2) (lo' := 44) hC qs_TraceReader_118 rfl rfl (Nat.le_of_ble_eq_true rfl) ⟨by decide, by decide⟩ d_TraceReader_follows_106 rfl (fun l g sz r w' h => c_TraceReader_isResolventOf l g sz w a0 v22 v27 r w' h) hF (fun v29 w28 hF => ?_)
  exact s_zret hC hR d_TraceReader_follows_109 hF
theorem c_TraceReader_follows (l : Launch) (g : qk_G) (sz : Nat) (w : qw) (a0 : Nat) (r : Int32) (w' : qw) (hF : f_TraceReader_follows w a0 = some (r, w')) : qMi l g sz y_TraceReader_follows b_TraceReader_follows 1 (some .boolean) 3 70 [.inr (some a0)] w r w' := qk_met_z (by decide) (Nat.le_of_ble_eq_true rfl) (fun X hC hR => k_TraceReader_follows r w' hC hR w a0 hF)
theorem qs_QP_102 : qV R_QP 102 y_Formula_isWon b_Formula_isWon 5 (some .boolean) 2 2 := ⟨Or.inl ml_QP_102, ic_Formula_isWon, ii_Formula_isWon, is_Formula_isWon, in_c_Formula, ⟨_, _, rfl⟩, by decide +kernel⟩
def f_QP_won (w : qw) (a0 : Nat) (x1 : Int32) (x2 : Int32) : Option (Int32 × qw) :=
  if x1 < 0 then
    q_ob (q_z 0) (some (0, w))
  else
    q_b1 (q_gr w a0 0 4) fun r1 =>
    q_b1 (q_gi w r1 2 2) fun v2 =>
    if v2 < x1 then
      q_ob (q_z 0) (some (0, w))
    else
      q_b1 (q_gr w a0 0 4) fun r3 =>
      q_ob (q_is w r3 2) <| q_b2 (f_Formula_isWon w r3 x1 x2) fun v5 w4 =>
      if v5 = 0 then
        q_ob (q_z 0) (some (0, w4))
      else
        q_ob (q_z 1) (some (1, w4))
set_option maxHeartbeats 4000000 in
set_option maxRecDepth 100000 in
theorem k_QP_won {X : qX} (r : Int32) (w' : qw) (hC : qC X b_QP_won R_QP 3 14 348) (hR : qRz X b_QP_won r w') (w : qw) (a0 : Nat) (x1 : Int32) (x2 : Int32) (hF : f_QP_won w a0 x1 x2 = some (r, w')) : qG X 3 0 [(0, .inr (some a0)), (1, .inl x1), (2, .inl x2)] [] w := by
  unfold f_QP_won at hF
  refine s_iload_n (pc' := 1) hC d_QP_won_0 rfl 1 rfl ?_
  refine s_if_lt (tgt := 31) (pc' := 4) hC d_QP_won_1 rfl rfl hF (fun hF => ?_) (fun hF => ?_)
  · refine s_iconst (v := 0) (pc' := 32) hC d_QP_won_31 rfl (by decide) ?_
    exact s_zret hC hR d_QP_won_32 hF
  · refine s_iload_n (pc' := 5) hC d_QP_won_4 rfl 1 rfl ?_
    refine s_aload_n (pc' := 6) hC d_QP_won_5 rfl 0 rfl ?_
    refine s_getr (pc' := 9) hC qf_QP_39 d_QP_won_6 rfl hF (fun r1 hF => ?_)
    refine s_geti (pc' := 12) hC qf_QP_69 d_QP_won_9 rfl hF (fun v2 hF => ?_)
    refine s_icmp_gt (tgt := 31) (pc' := 15) hC d_QP_won_12 rfl rfl hF (fun hF => ?_) (fun hF => ?_)
    · refine s_iconst (v := 0) (pc' := 32) hC d_QP_won_31 rfl (by decide) ?_
      exact s_zret hC hR d_QP_won_32 hF
    · refine s_aload_n (pc' := 16) hC d_QP_won_15 rfl 0 rfl ?_
      refine s_getr (pc' := 19) hC qf_QP_39 d_QP_won_16 rfl hF (fun r3 hF => ?_)
      refine s_iload_n (pc' := 20) hC d_QP_won_19 rfl 1 rfl ?_
      refine s_iload_n (pc' := 21) hC d_QP_won_20 rfl 2 rfl ?_
      refine s_cVi (pc' := 24) (As := [.inl x1, .inl x2]) (rs := []) (a := r3) (fr' := 13) (lo' := 324) hC qs_QP_102 rfl rfl (Nat.le_of_ble_eq_true rfl) ⟨by decide, by decide⟩ d_QP_won_21 rfl (fun l g sz r w' h => c_Formula_isWon l g sz w r3 x1 x2 r w' h) hF (fun v5 w4 hF => ?_)
      refine s_if_eq (tgt := 31) (pc' := 27) hC d_QP_won_24 rfl rfl hF (fun hF => ?_) (fun hF => ?_)
      · refine s_iconst (v := 0) (pc' := 32) hC d_QP_won_31 rfl (by decide) ?_
        exact s_zret hC hR d_QP_won_32 hF
      · refine s_iconst (v := 1) (pc' := 28) hC d_QP_won_27 rfl (by decide) ?_
        refine s_goto (tgt := 32) hC d_QP_won_28 rfl ?_
        exact s_zret hC hR d_QP_won_32 hF
theorem c_QP_won (l : Launch) (g : qk_G) (sz : Nat) (w : qw) (a0 : Nat) (x1 : Int32) (x2 : Int32) (r : Int32) (w' : qw) (hF : f_QP_won w a0 x1 x2 = some (r, w')) : qMi l g sz y_QP_won b_QP_won 3 (some .boolean) 14 348 [.inr (some a0), .inl x1, .inl x2] w r w' := qk_met_z (by decide) (Nat.le_of_ble_eq_true rfl) (fun X hC hR => k_QP_won r w' hC hR w a0 x1 x2 hF)
theorem qs_QP_106 : qV R_QP 106 y_Formula_choiceOfAll b_Formula_choiceOfAll 4 (some .int) 2 2 := ⟨Or.inl ml_QP_106, ic_Formula_choiceOfAll, ii_Formula_choiceOfAll, is_Formula_choiceOfAll, in_c_Formula, ⟨_, _, rfl⟩, by decide +kernel⟩
def lj_QP_play_55  (c4 : Nat → Int32 → Int32 → Int32 → qw → Option (Int32 × qw)) (a0 : Nat) (x1 : Int32) (x2 : Int32) (x3 : Int32) (s0 : Int32) (w : qw) : Option (Int32 × qw) :=
  c4 a0 x1 (x2 ||| (s0 <<< (x3 &&& 31))) (x3 + 1) w
def lb_QP_play_4  (c4 : Nat → Int32 → Int32 → Int32 → qw → Option (Int32 × qw)) (a0 : Nat) (x1 : Int32) (x2 : Int32) (x3 : Int32) (w : qw) : Option (Int32 × qw) :=
  q_b1 (q_gr w a0 0 4) fun r1 =>
  q_b1 (q_gi w r1 2 2) fun v2 =>
  if v2 ≤ x3 then
    q_b1 (q_gr w a0 0 4) fun r3 =>
    q_b1 (q_gr w a0 0 4) fun r4 =>
    q_b1 (q_gi w r4 2 2) fun v5 =>
    q_ob (q_is w r3 2) <| q_b2 (f_Formula_isWon w r3 v5 x2) fun v7 w6 =>
    if v7 = 0 then
      some (x2, w6)
    else
      some (x2 + 256, w6)
  else
    q_b1 (q_gr w a0 0 4) fun r8 =>
    q_b1 (q_gr w a0 0 4) fun r9 =>
    q_b1 (q_gr w r9 2 0) fun r10 =>
    q_b1 (q_ld w r10 0 x3) fun v11 =>
    q_ob (q_is w r8 2) <| q_b2 (f_Formula_isForAll w r8 v11) fun v13 w12 =>
    if v13 = 0 then
      lj_QP_play_55 c4 a0 x1 x2 x3 ((x1 >>> (x3 &&& 31)) &&& 1) w12
    else
      q_b1 (q_gr w12 a0 0 4) fun r14 =>
      q_ob (q_is w12 r14 2) <| q_b2 (f_Formula_choiceOfAll w12 r14 x3 x2) fun v16 w15 =>
      lj_QP_play_55 c4 a0 x1 x2 x3 v16 w15
def ll_QP_play_4  : Nat → Nat → Int32 → Int32 → Int32 → qw → Option (Int32 × qw)
  | 0 => fun _ _ _ _ _ => none
  | n + 1 => lb_QP_play_4  (ll_QP_play_4  n)
def f_QP_play (w : qw) (a0 : Nat) (x1 : Int32) : Option (Int32 × qw) :=
  ll_QP_play_4 q_fu a0 x1 0 0 w
set_option maxHeartbeats 4000000 in
set_option maxRecDepth 100000 in
theorem k_QP_play {X : qX} (r : Int32) (w' : qw) (hC : qC X b_QP_play R_QP 6 15 371) (hR : qRi X b_QP_play r w') (w : qw) (a0 : Nat) (x1 : Int32) (hF : f_QP_play w a0 x1 = some (r, w')) : qG X 6 0 [(0, .inr (some a0)), (1, .inl x1)] [] w := by
  have L_4 : ∀ (n : Nat) (a0 : Nat) (x1 : Int32) (x2 : Int32) (x3 : Int32) (w : qw), ll_QP_play_4  n a0 x1 x2 x3 w = some (r, w') → qG X 6 4 [(0, .inr (some a0)), (1, .inl x1), (2, .inl x2), (3, .inl x3)] [] w := by
    intro n_4
    induction n_4 with
    | zero => exact fun _ _ _ _ _ hF => q_nn (show (none : Option (Int32 × qw)) = some (r, w') from hF)
    | succ n_4 ih_4 =>
      intro a0 x1 x2 x3 w hF
      have hF : lb_QP_play_4  (ll_QP_play_4  n_4) a0 x1 x2 x3 w = some (r, w') := hF
      unfold lb_QP_play_4 at hF
      have J_55 : ∀ (a0 : Nat) (x1 : Int32) (x2 : Int32) (x3 : Int32) (s0 : Int32) (w : qw), lj_QP_play_55  (ll_QP_play_4  n_4) a0 x1 x2 x3 s0 w = some (r, w') → qG X 6 55 [(0, .inr (some a0)), (1, .inl x1), (2, .inl x2), (3, .inl x3)] [.inl s0] w := by
        intro a0 x1 x2 x3 s0 w hF
        unfold lj_QP_play_55 at hF
        refine s_istore (pc' := 57) (lv' := [(5, .inl s0), (0, .inr (some a0)), (1, .inl x1), (2, .inl x2), (3, .inl x3)]) hC d_QP_play_55 rfl (by decide) rfl ?_
        refine s_iload_n (pc' := 58) hC d_QP_play_57 rfl 3 rfl ?_
        refine s_iload (pc' := 60) hC d_QP_play_58 rfl 0 rfl ?_
        refine s_iload_n (pc' := 61) hC d_QP_play_60 rfl 4 rfl ?_
        refine s_ishl (pc' := 62) hC d_QP_play_61 rfl ?_
        refine s_ior (pc' := 63) hC d_QP_play_62 rfl ?_
        refine s_istore_n (pc' := 64) (lv' := [(2, .inl (x2 ||| (s0 <<< (x3 &&& 31)))), (5, .inl s0), (0, .inr (some a0)), (1, .inl x1), (3, .inl x3)]) hC d_QP_play_63 rfl (by decide) rfl ?_
        refine s_iinc (pc' := 67) (n' := 1) (lv' := [(3, .inl (x3 + 1)), (2, .inl (x2 ||| (s0 <<< (x3 &&& 31)))), (5, .inl s0), (0, .inr (some a0)), (1, .inl x1)]) hC d_QP_play_64 rfl 4 rfl (by decide) (by decide) rfl ?_
        refine s_goto (tgt := 4) hC d_QP_play_67 rfl ?_
        exact qG_sub [3, 4, 1, 0] rfl (ih_4 a0 x1 (x2 ||| (s0 <<< (x3 &&& 31))) (x3 + 1) w hF)
      refine s_iload_n (pc' := 5) hC d_QP_play_4 rfl 3 rfl ?_
      refine s_aload_n (pc' := 6) hC d_QP_play_5 rfl 0 rfl ?_
      refine s_getr (pc' := 9) hC qf_QP_39 d_QP_play_6 rfl hF (fun r1 hF => ?_)
      refine s_geti (pc' := 12) hC qf_QP_69 d_QP_play_9 rfl hF (fun v2 hF => ?_)
      refine s_icmp_ge (tgt := 70) (pc' := 15) hC d_QP_play_12 rfl rfl hF (fun hF => ?_) (fun hF => ?_)
      · refine s_aload_n (pc' := 71) hC d_QP_play_70 rfl 0 rfl ?_
        refine s_getr (pc' := 74) hC qf_QP_39 d_QP_play_71 rfl hF (fun r3 hF => ?_)
        refine s_aload_n (pc' := 75) hC d_QP_play_74 rfl 0 rfl ?_
        refine s_getr (pc' := 78) hC qf_QP_39 d_QP_play_75 rfl hF (fun r4 hF => ?_)
        refine s_geti (pc' := 81) hC qf_QP_69 d_QP_play_78 rfl hF (fun v5 hF => ?_)
        refine s_iload_n (pc' := 82) hC d_QP_play_81 rfl 2 rfl ?_
        refine s_cVi (pc' := 85) (As := [.inl v5, .inl x2]) (rs := []) (a := r3) (fr' := 13) (lo' := 324) hC qs_QP_102 rfl rfl (Nat.le_of_ble_eq_true rfl) ⟨by decide, by decide⟩ d_QP_play_82 rfl (fun l g sz r w' h => c_Formula_isWon l g sz w r3 v5 x2 r w' h) hF (fun v7 w6 hF => ?_)
        refine s_istore_n (pc' := 86) (lv' := [(3, .inl v7), (0, .inr (some a0)), (1, .inl x1), (2, .inl x2)]) hC d_QP_play_85 rfl (by decide) rfl ?_
        refine s_iload_n (pc' := 87) hC d_QP_play_86 rfl 0 rfl ?_
        refine s_if_eq (tgt := 98) (pc' := 90) hC d_QP_play_87 rfl rfl hF (fun hF => ?_) (fun hF => ?_)
        · refine s_iload_n (pc' := 99) hC d_QP_play_98 rfl 3 rfl ?_
          exact s_iret hC hR d_QP_play_99 hF
        · refine s_iload_n (pc' := 91) hC d_QP_play_90 rfl 3 rfl ?_
          refine s_sipush (v := 256) (pc' := 94) hC d_QP_play_91 rfl (by decide) ?_
          refine s_iadd (pc' := 95) hC d_QP_play_94 rfl ?_
          refine s_goto (tgt := 99) hC d_QP_play_95 rfl ?_
          exact s_iret hC hR d_QP_play_99 hF
      · refine s_aload_n (pc' := 16) hC d_QP_play_15 rfl 0 rfl ?_
        refine s_getr (pc' := 19) hC qf_QP_39 d_QP_play_16 rfl hF (fun r8 hF => ?_)
        refine s_aload_n (pc' := 20) hC d_QP_play_19 rfl 0 rfl ?_
        refine s_getr (pc' := 23) hC qf_QP_39 d_QP_play_20 rfl hF (fun r9 hF => ?_)
        refine s_getr (pc' := 26) hC qf_QP_74 d_QP_play_23 rfl hF (fun r10 hF => ?_)
        refine s_iload_n (pc' := 27) hC d_QP_play_26 rfl 3 rfl ?_
        refine s_iald (pc' := 28) hC d_QP_play_27 rfl hF (fun v11 hF => ?_)
        refine s_cVi (pc' := 31) (As := [.inl v11]) (rs := []) (a := r8) (fr' := 1) (lo' := 20) hC qs_QP_78 rfl rfl (Nat.le_of_ble_eq_true rfl) ⟨by decide, by decide⟩ d_QP_play_28 rfl (fun l g sz r w' h => c_Formula_isForAll l g sz w r8 v11 r w' h) hF (fun v13 w12 hF => ?_)
        refine s_istore (pc' := 33) (lv' := [(4, .inl v13), (0, .inr (some a0)), (1, .inl x1), (2, .inl x2), (3, .inl x3)]) hC d_QP_play_31 rfl (by decide) rfl ?_
        refine s_iload (pc' := 35) hC d_QP_play_33 rfl 0 rfl ?_
        refine s_if_eq (tgt := 50) (pc' := 38) hC d_QP_play_35 rfl rfl hF (fun hF => ?_) (fun hF => ?_)
        · refine s_iload_n (pc' := 51) hC d_QP_play_50 rfl 2 rfl ?_
          refine s_iload_n (pc' := 52) hC d_QP_play_51 rfl 4 rfl ?_
          refine s_ishr (pc' := 53) hC d_QP_play_52 rfl ?_
          refine s_iconst (v := 1) (pc' := 54) hC d_QP_play_53 rfl (by decide) ?_
          refine s_iand (pc' := 55) hC d_QP_play_54 rfl ?_
          exact qG_sub [1, 2, 3, 4] rfl (J_55 a0 x1 x2 x3 ((x1 >>> (x3 &&& 31)) &&& 1) w12 hF)
        · refine s_aload_n (pc' := 39) hC d_QP_play_38 rfl 1 rfl ?_
          refine s_getr (pc' := 42) hC qf_QP_39 d_QP_play_39 rfl hF (fun r14 hF => ?_)
          refine s_iload_n (pc' := 43) hC d_QP_play_42 rfl 4 rfl ?_
          refine s_iload_n (pc' := 44) hC d_QP_play_43 rfl 3 rfl ?_
          refine s_cVi (pc' := 47) (As := [.inl x3, .inl x2]) (rs := []) (a := r14) (fr' := 14) (lo' := 348) hC qs_QP_106 rfl rfl (Nat.le_of_ble_eq_true rfl) ⟨by decide, by decide⟩ d_QP_play_44 rfl (fun l g sz r w' h => c_Formula_choiceOfAll l g sz w12 r14 x3 x2 r w' h) hF (fun v16 w15 hF => ?_)
          refine s_goto (tgt := 55) hC d_QP_play_47 rfl ?_
          exact qG_sub [1, 2, 3, 4] rfl (J_55 a0 x1 x2 x3 v16 w15 hF)
  unfold f_QP_play at hF
  refine s_iconst (v := 0) (pc' := 1) hC d_QP_play_0 rfl (by decide) ?_
  refine s_istore_n (pc' := 2) (lv' := [(2, .inl 0), (0, .inr (some a0)), (1, .inl x1)]) hC d_QP_play_1 rfl (by decide) rfl ?_
  refine s_iconst (v := 0) (pc' := 3) hC d_QP_play_2 rfl (by decide) ?_
  refine s_istore_n (pc' := 4) (lv' := [(3, .inl 0), (2, .inl 0), (0, .inr (some a0)), (1, .inl x1)]) hC d_QP_play_3 rfl (by decide) rfl ?_
  exact qG_sub [2, 3, 1, 0] rfl (L_4 q_fu a0 x1 0 0 w hF)
theorem c_QP_play (l : Launch) (g : qk_G) (sz : Nat) (w : qw) (a0 : Nat) (x1 : Int32) (r : Int32) (w' : qw) (hF : f_QP_play w a0 x1 = some (r, w')) : qMi l g sz y_QP_play b_QP_play 6 (some .int) 15 371 [.inr (some a0), .inl x1] w r w' := qk_met_i (by decide) (Nat.le_of_ble_eq_true rfl) (fun X hC hR => k_QP_play r w' hC hR w a0 x1 hF)
theorem qs_FormulaReader_50 : qV R_FormulaReader 50 y_FormulaReader_takeInClause b_FormulaReader_takeInClause 2 (some .int) 1 3 := ⟨Or.inl ml_FormulaReader_50, ic_FormulaReader_takeInClause, ii_FormulaReader_takeInClause, is_FormulaReader_takeInClause, in_c_FormulaReader, ⟨_, _, rfl⟩, by decide +kernel⟩
theorem qs_FormulaReader_42 : qV R_FormulaReader 42 y_Words_value b_Words_value 1 (some .int) 0 6 := ⟨Or.inl ml_FormulaReader_42, ic_Words_value, ii_Words_value, is_Words_value, in_c_Words, ⟨_, _, rfl⟩, by decide +kernel⟩
theorem qs_FormulaReader_46 : qV R_FormulaReader 46 y_FormulaReader_takeInBlock b_FormulaReader_takeInBlock 2 (some .int) 1 3 := ⟨Or.inl ml_FormulaReader_46, ic_FormulaReader_takeInBlock, ii_FormulaReader_takeInBlock, is_FormulaReader_takeInBlock, in_c_FormulaReader, ⟨_, _, rfl⟩, by decide +kernel⟩
theorem qs_FormulaReader_38 : qV R_FormulaReader 38 y_FormulaReader_takeLetter b_FormulaReader_takeLetter 3 (some .int) 1 3 := ⟨Or.inl ml_FormulaReader_38, ic_FormulaReader_takeLetter, ii_FormulaReader_takeLetter, is_FormulaReader_takeLetter, in_c_FormulaReader, ⟨_, _, rfl⟩, by decide +kernel⟩
theorem qs_FormulaReader_32 : qV R_FormulaReader 32 y_Words_isNumber b_Words_isNumber 1 (some .boolean) 0 6 := ⟨Or.inl ml_FormulaReader_32, ic_Words_isNumber, ii_Words_isNumber, is_Words_isNumber, in_c_Words, ⟨_, _, rfl⟩, by decide +kernel⟩
def f_FormulaReader_take (w : qw) (a0 : Nat) (a1 : Nat) : Option (Int32 × qw) :=
  q_ob (q_is w a1 6) <| q_b2 (f_Words_isNumber w a1) fun v2 w1 =>
  if v2 = 0 then
    q_ob (q_is w1 a0 3) <| q_b2 (f_FormulaReader_takeLetter w1 a0 a1) fun v14 w13 =>
    some (v14, w13)
  else
    q_b1 (q_gi w1 a0 3 2) fun v3 =>
    if v3 = 0 then
      q_ob (q_z 0) <| q_b1 (q_pf w1 a0 3 1 (.inl 0)) fun w4 =>
      q_ob (q_is w4 a1 6) <| q_b2 (f_Words_value w4 a1) fun v6 w5 =>
      q_ob (q_is w5 a0 3) <| q_b2 (f_FormulaReader_takeInClause w5 a0 v6) fun v8 w7 =>
      some (v8, w7)
    else
      q_ob (q_is w1 a1 6) <| q_b2 (f_Words_value w1 a1) fun v10 w9 =>
      q_ob (q_is w9 a0 3) <| q_b2 (f_FormulaReader_takeInBlock w9 a0 v10) fun v12 w11 =>
      some (v12, w11)
set_option maxHeartbeats 4000000 in
set_option maxRecDepth 100000 in
theorem k_FormulaReader_take {X : qX} (r : Int32) (w' : qw) (hC : qC X b_FormulaReader_take R_FormulaReader 2 3 63) (hR : qRi X b_FormulaReader_take r w') (w : qw) (a0 : Nat) (a1 : Nat) (hF : f_FormulaReader_take w a0 a1 = some (r, w')) : qG X 2 0 [(0, .inr (some a0)), (1, .inr (some a1))] [] w := by
  unfold f_FormulaReader_take at hF
  refine s_aload_n (pc' := 1) hC d_FormulaReader_take_0 rfl 1 rfl ?_
  refine s_cVi (pc' := 4) (As := []) (rs := []) (a := a1) (fr' := 0) (lo' := 0) hC qs_FormulaReader_32 rfl rfl (Nat.le_of_ble_eq_true rfl) ⟨by decide, by decide⟩ d_FormulaReader_take_1 rfl (fun l g sz r w' h => c_Words_isNumber l g sz w a1 r w' h) hF (fun v2 w1 hF => ?_)
  refine s_if_ne (tgt := 13) (pc' := 7) hC d_FormulaReader_take_4 rfl rfl hF (fun hF => ?_) (fun hF => ?_)
  · refine s_aload_n (pc' := 14) hC d_FormulaReader_take_13 rfl 0 rfl ?_
    refine s_geti (pc' := 17) hC qf_FormulaReader_25 d_FormulaReader_take_14 rfl hF (fun v3 hF => ?_)
    refine s_if_eq (tgt := 29) (pc' := 20) hC d_FormulaReader_take_17 rfl rfl hF (fun hF => ?_) (fun hF => ?_)
    · refine s_aload_n (pc' := 30) hC d_FormulaReader_take_29 rfl 0 rfl ?_
      refine s_iconst (v := 0) (pc' := 31) hC d_FormulaReader_take_30 rfl (by decide) ?_
      refine s_putz (pc' := 34) hC qp_FormulaReader_21 d_FormulaReader_take_31 rfl hF (fun w4 hF => ?_)
      refine s_aload_n (pc' := 35) hC d_FormulaReader_take_34 rfl 0 rfl ?_
      refine s_aload_n (pc' := 36) hC d_FormulaReader_take_35 rfl 1 rfl ?_
      refine s_cVi (pc' := 39) (As := []) (rs := [.inr (some a0)]) (a := a1) (fr' := 0) (lo' := 0) hC qs_FormulaReader_42 rfl rfl (Nat.le_of_ble_eq_true rfl) ⟨by decide, by decide⟩ d_FormulaReader_take_36 rfl (fun l g sz r w' h => c_Words_value l g sz w4 a1 r w' h) hF (fun v6 w5 hF => ?_)
      refine s_cVi (pc' := 42) (As := [.inl v6]) (rs := []) (a := a0) (fr' := 2) (lo' := 42) hC qs_FormulaReader_50 rfl rfl (Nat.le_of_ble_eq_true rfl) ⟨by decide, by decide⟩ d_FormulaReader_take_39 rfl (fun l g sz r w' h => c_FormulaReader_takeInClause l g sz w5 a0 v6 r w' h) hF (fun v8 w7 hF => ?_)
      exact s_iret hC hR d_FormulaReader_take_42 hF
    · refine s_aload_n (pc' := 21) hC d_FormulaReader_take_20 rfl 0 rfl ?_
      refine s_aload_n (pc' := 22) hC d_FormulaReader_take_21 rfl 1 rfl ?_
      refine s_cVi (pc' := 25) (As := []) (rs := [.inr (some a0)]) (a := a1) (fr' := 0) (lo' := 0) hC qs_FormulaReader_42 rfl rfl (Nat.le_of_ble_eq_true rfl) ⟨by decide, by decide⟩ d_FormulaReader_take_22 rfl (fun l g sz r w' h => c_Words_value l g sz w1 a1 r w' h) hF (fun v10 w9 hF => ?_)
      refine s_cVi (pc' := 28) (As := [.inl v10]) (rs := []) (a := a0) (fr' := 2) (lo' := 42) hC qs_FormulaReader_46 rfl rfl (Nat.le_of_ble_eq_true rfl) ⟨by decide, by decide⟩ d_FormulaReader_take_25 rfl (fun l g sz r w' h => c_FormulaReader_takeInBlock l g sz w9 a0 v10 r w' h) hF (fun v12 w11 hF => ?_)
      exact s_iret hC hR d_FormulaReader_take_28 hF
  · refine s_aload_n (pc' := 8) hC d_FormulaReader_take_7 rfl 0 rfl ?_
    refine s_aload_n (pc' := 9) hC d_FormulaReader_take_8 rfl 1 rfl ?_
    refine s_cVi (pc' := 12) (As := [.inr (some a1)]) (rs := []) (a := a0) (fr' := 1) (lo' := 21) hC qs_FormulaReader_38 rfl rfl (Nat.le_of_ble_eq_true rfl) ⟨by decide, by decide⟩ d_FormulaReader_take_9 rfl (fun l g sz r w' h => c_FormulaReader_takeLetter l g sz w1 a0 a1 r w' h) hF (fun v14 w13 hF => ?_)
    exact s_iret hC hR d_FormulaReader_take_12 hF
theorem c_FormulaReader_take (l : Launch) (g : qk_G) (sz : Nat) (w : qw) (a0 : Nat) (a1 : Nat) (r : Int32) (w' : qw) (hF : f_FormulaReader_take w a0 a1 = some (r, w')) : qMi l g sz y_FormulaReader_take b_FormulaReader_take 2 (some .int) 3 63 [.inr (some a0), .inr (some a1)] w r w' := qk_met_i (by decide) (Nat.le_of_ble_eq_true rfl) (fun X hC hR => k_FormulaReader_take r w' hC hR w a0 a1 hF)
theorem qs_TraceReader_60 : qV R_TraceReader 60 y_TraceReader_endStep b_TraceReader_endStep 3 none 0 5 := ⟨Or.inl ml_TraceReader_60, ic_TraceReader_endStep, ii_TraceReader_endStep, is_TraceReader_endStep, in_c_TraceReader, ⟨_, _, rfl⟩, by decide +kernel⟩
theorem qs_TraceReader_57 : qV R_TraceReader 57 y_TraceReader_follows b_TraceReader_follows 1 (some .boolean) 0 5 := ⟨Or.inl ml_TraceReader_57, ic_TraceReader_follows, ii_TraceReader_follows, is_TraceReader_follows, in_c_TraceReader, ⟨_, _, rfl⟩, by decide +kernel⟩
theorem qs_TraceReader_54 : qV R_TraceReader 54 y_TraceReader_takePremise b_TraceReader_takePremise 3 (some .int) 1 5 := ⟨Or.inl ml_TraceReader_54, ic_TraceReader_takePremise, ii_TraceReader_takePremise, is_TraceReader_takePremise, in_c_TraceReader, ⟨_, _, rfl⟩, by decide +kernel⟩
theorem qs_TraceReader_51 : qV R_TraceReader 51 y_TraceReader_takeLiteral b_TraceReader_takeLiteral 2 (some .int) 1 5 := ⟨Or.inl ml_TraceReader_51, ic_TraceReader_takeLiteral, ii_TraceReader_takeLiteral, is_TraceReader_takeLiteral, in_c_TraceReader, ⟨_, _, rfl⟩, by decide +kernel⟩
theorem qs_TraceReader_47 : qV R_TraceReader 47 y_TraceReader_beginStep b_TraceReader_beginStep 2 (some .int) 1 5 := ⟨Or.inl ml_TraceReader_47, ic_TraceReader_beginStep, ii_TraceReader_beginStep, is_TraceReader_beginStep, in_c_TraceReader, ⟨_, _, rfl⟩, by decide +kernel⟩
theorem qs_TraceReader_43 : qV R_TraceReader 43 y_Words_value b_Words_value 1 (some .int) 0 6 := ⟨Or.inl ml_TraceReader_43, ic_Words_value, ii_Words_value, is_Words_value, in_c_Words, ⟨_, _, rfl⟩, by decide +kernel⟩
theorem qs_TraceReader_37 : qV R_TraceReader 37 y_Words_isNumber b_Words_isNumber 1 (some .boolean) 0 6 := ⟨Or.inl ml_TraceReader_37, ic_Words_isNumber, ii_Words_isNumber, is_Words_isNumber, in_c_Words, ⟨_, _, rfl⟩, by decide +kernel⟩
theorem qs_TraceReader_33 : qV R_TraceReader 33 y_TraceReader_takeLetter b_TraceReader_takeLetter 2 (some .int) 1 5 := ⟨Or.inl ml_TraceReader_33, ic_TraceReader_takeLetter, ii_TraceReader_takeLetter, is_TraceReader_takeLetter, in_c_TraceReader, ⟨_, _, rfl⟩, by decide +kernel⟩
def f_TraceReader_take (w : qw) (a0 : Nat) (a1 : Nat) : Option (Int32 × qw) :=
  q_b1 (q_gi w a0 5 3) fun v1 =>
  if v1 = 0 then
    q_ob (q_is w a0 5) <| q_b2 (f_TraceReader_takeLetter w a0 a1) fun v18 w17 =>
    some (v18, w17)
  else
    q_ob (q_is w a1 6) <| q_b2 (f_Words_isNumber w a1) fun v3 w2 =>
    if v3 = 0 then
      some (1, w2)
    else
      q_ob (q_is w2 a1 6) <| q_b2 (f_Words_value w2 a1) fun v5 w4 =>
      q_b1 (q_gi w4 a0 5 3) fun v6 =>
      if v6 = 1 then
        q_ob (q_is w4 a0 5) <| q_b2 (f_TraceReader_beginStep w4 a0 v5) fun v16 w15 =>
        some (v16, w15)
      else
        q_b1 (q_gi w4 a0 5 3) fun v7 =>
        if v7 = 2 then
          q_ob (q_is w4 a0 5) <| q_b2 (f_TraceReader_takeLiteral w4 a0 v5) fun v14 w13 =>
          some (v14, w13)
        else
          if v5 = 0 then
            q_ob (q_is w4 a0 5) <| q_b2 (f_TraceReader_follows w4 a0) fun v9 w8 =>
            if v9 = 0 then
              some (5, w8)
            else
              q_ob (q_is w8 a0 5) <| q_b1 (f_TraceReader_endStep w8 a0) fun w10 =>
              some (0, w10)
          else
            q_ob (q_is w4 a0 5) <| q_b2 (f_TraceReader_takePremise w4 a0 v5) fun v12 w11 =>
            some (v12, w11)
set_option maxHeartbeats 4000000 in
set_option maxRecDepth 100000 in
theorem k_TraceReader_take {X : qX} (r : Int32) (w' : qw) (hC : qC X b_TraceReader_take R_TraceReader 3 4 90) (hR : qRi X b_TraceReader_take r w') (w : qw) (a0 : Nat) (a1 : Nat) (hF : f_TraceReader_take w a0 a1 = some (r, w')) : qG X 3 0 [(0, .inr (some a0)), (1, .inr (some a1))] [] w := by
  unfold f_TraceReader_take at hF
  refine s_aload_n (pc' := 1) hC d_TraceReader_take_0 rfl 0 rfl ?_
  refine s_geti (pc' := 4) hC qf_TraceReader_29 d_TraceReader_take_1 rfl hF (fun v1 hF => ?_)
  refine s_if_ne (tgt := 13) (pc' := 7) hC d_TraceReader_take_4 rfl rfl hF (fun hF => ?_) (fun hF => ?_)
  · refine s_aload_n (pc' := 14) hC d_TraceReader_take_13 rfl 1 rfl ?_
    refine s_cVi (pc' := 17) (As := []) (rs := []) (a := a1) (fr' := 0) (lo' := 0) hC qs_TraceReader_37 rfl rfl (Nat.le_of_ble_eq_true rfl) ⟨by decide, by decide⟩ d_TraceReader_take_14 rfl (fun l g sz r w' h => c_Words_isNumber l g sz w a1 r w' h) hF (fun v3 w2 hF => ?_)
    refine s_if_ne (tgt := 22) (pc' := 20) hC d_TraceReader_take_17 rfl rfl hF (fun hF => ?_) (fun hF => ?_)
    · refine s_aload_n (pc' := 23) hC d_TraceReader_take_22 rfl 1 rfl ?_
      refine s_cVi (pc' := 26) (As := []) (rs := []) (a := a1) (fr' := 0) (lo' := 0) hC qs_TraceReader_43 rfl rfl (Nat.le_of_ble_eq_true rfl) ⟨by decide, by decide⟩ d_TraceReader_take_23 rfl (fun l g sz r w' h => c_Words_value l g sz w2 a1 r w' h) hF (fun v5 w4 hF => ?_)
      refine s_istore_n (pc' := 27) (lv' := [(2, .inl v5), (0, .inr (some a0)), (1, .inr (some a1))]) hC d_TraceReader_take_26 rfl (by decide) rfl ?_
      refine s_aload_n (pc' := 28) hC d_TraceReader_take_27 rfl 1 rfl ?_
      refine s_geti (pc' := 31) hC qf_TraceReader_29 d_TraceReader_take_28 rfl hF (fun v6 hF => ?_)
      refine s_iconst (v := 1) (pc' := 32) hC d_TraceReader_take_31 rfl (by decide) ?_
      refine s_icmp_ne (tgt := 41) (pc' := 35) hC d_TraceReader_take_32 rfl rfl hF (fun hF => ?_) (fun hF => ?_)
      · refine s_aload_n (pc' := 42) hC d_TraceReader_take_41 rfl 1 rfl ?_
        refine s_geti (pc' := 45) hC qf_TraceReader_29 d_TraceReader_take_42 rfl hF (fun v7 hF => ?_)
        refine s_iconst (v := 2) (pc' := 46) hC d_TraceReader_take_45 rfl (by decide) ?_
        refine s_icmp_ne (tgt := 55) (pc' := 49) hC d_TraceReader_take_46 rfl rfl hF (fun hF => ?_) (fun hF => ?_)
        · refine s_iload_n (pc' := 56) hC d_TraceReader_take_55 rfl 0 rfl ?_
          refine s_if_eq (tgt := 65) (pc' := 59) hC d_TraceReader_take_56 rfl rfl hF (fun hF => ?_) (fun hF => ?_)
          · refine s_aload_n (pc' := 66) hC d_TraceReader_take_65 rfl 1 rfl ?_
            refine s_cVi (pc' := 69) (As := []) (rs := []) (a := a0) (fr' := 3) (lo' := 70) hC qs_TraceReader_57 rfl rfl (Nat.le_of_ble_eq_true rfl) ⟨by decide, by decide⟩ d_TraceReader_take_66 rfl (fun l g sz r w' h => c_TraceReader_follows l g sz w4 a0 r w' h) hF (fun v9 w8 hF => ?_)
            refine s_if_ne (tgt := 74) (pc' := 72) hC d_TraceReader_take_69 rfl rfl hF (fun hF => ?_) (fun hF => ?_)
            · refine s_aload_n (pc' := 75) hC d_TraceReader_take_74 rfl 1 rfl ?_
              refine s_cVv (pc' := 78) (As := []) (rs := []) (a := a0) (fr' := 2) (lo' := 44) hC qs_TraceReader_60 rfl rfl (Nat.le_of_ble_eq_true rfl) ⟨by decide, by decide⟩ d_TraceReader_take_75 rfl (fun l g sz w' h => c_TraceReader_endStep l g sz w8 a0 w' h) hF (fun w10 hF => ?_)
              refine s_iconst (v := 0) (pc' := 79) hC d_TraceReader_take_78 rfl (by decide) ?_
              exact s_iret hC hR d_TraceReader_take_79 hF
            · refine s_iconst (v := 5) (pc' := 73) hC d_TraceReader_take_72 rfl (by decide) ?_
              exact s_iret hC hR d_TraceReader_take_73 hF
          · refine s_aload_n (pc' := 60) hC d_TraceReader_take_59 rfl 1 rfl ?_
            refine s_iload_n (pc' := 61) hC d_TraceReader_take_60 rfl 0 rfl ?_
            refine s_cVi (pc' := 64) (As := [.inl v5]) (rs := []) (a := a0) (fr' := 1) (lo' := 22) hC qs_TraceReader_54 rfl rfl (Nat.le_of_ble_eq_true rfl) ⟨by decide, by decide⟩ d_TraceReader_take_61 rfl (fun l g sz r w' h => c_TraceReader_takePremise l g sz w4 a0 v5 r w' h) hF (fun v12 w11 hF => ?_)
            exact s_iret hC hR d_TraceReader_take_64 hF
        · refine s_aload_n (pc' := 50) hC d_TraceReader_take_49 rfl 1 rfl ?_
          refine s_iload_n (pc' := 51) hC d_TraceReader_take_50 rfl 0 rfl ?_
          refine s_cVi (pc' := 54) (As := [.inl v5]) (rs := []) (a := a0) (fr' := 2) (lo' := 41) hC qs_TraceReader_51 rfl rfl (Nat.le_of_ble_eq_true rfl) ⟨by decide, by decide⟩ d_TraceReader_take_51 rfl (fun l g sz r w' h => c_TraceReader_takeLiteral l g sz w4 a0 v5 r w' h) hF (fun v14 w13 hF => ?_)
          exact s_iret hC hR d_TraceReader_take_54 hF
      · refine s_aload_n (pc' := 36) hC d_TraceReader_take_35 rfl 1 rfl ?_
        refine s_iload_n (pc' := 37) hC d_TraceReader_take_36 rfl 0 rfl ?_
        refine s_cVi (pc' := 40) (As := [.inl v5]) (rs := []) (a := a0) (fr' := 1) (lo' := 22) hC qs_TraceReader_47 rfl rfl (Nat.le_of_ble_eq_true rfl) ⟨by decide, by decide⟩ d_TraceReader_take_37 rfl (fun l g sz r w' h => c_TraceReader_beginStep l g sz w4 a0 v5 r w' h) hF (fun v16 w15 hF => ?_)
        exact s_iret hC hR d_TraceReader_take_40 hF
    · refine s_iconst (v := 1) (pc' := 21) hC d_TraceReader_take_20 rfl (by decide) ?_
      exact s_iret hC hR d_TraceReader_take_21 hF
  · refine s_aload_n (pc' := 8) hC d_TraceReader_take_7 rfl 0 rfl ?_
    refine s_aload_n (pc' := 9) hC d_TraceReader_take_8 rfl 1 rfl ?_
    refine s_cVi (pc' := 12) (As := [.inr (some a1)]) (rs := []) (a := a0) (fr' := 1) (lo' := 21) hC qs_TraceReader_33 rfl rfl (Nat.le_of_ble_eq_true rfl) ⟨by decide, by decide⟩ d_TraceReader_take_9 rfl (fun l g sz r w' h => c_TraceReader_takeLetter l g sz w a0 a1 r w' h) hF (fun v18 w17 hF => ?_)
    exact s_iret hC hR d_TraceReader_take_12 hF
theorem c_TraceReader_take (l : Launch) (g : qk_G) (sz : Nat) (w : qw) (a0 : Nat) (a1 : Nat) (r : Int32) (w' : qw) (hF : f_TraceReader_take w a0 a1 = some (r, w')) : qMi l g sz y_TraceReader_take b_TraceReader_take 3 (some .int) 4 90 [.inr (some a0), .inr (some a1)] w r w' := qk_met_i (by decide) (Nat.le_of_ble_eq_true rfl) (fun X hC hR => k_TraceReader_take r w' hC hR w a0 a1 hF)
theorem qs_QP_130 : qV R_QP 130 y_Words_forget b_Words_forget 1 none 0 6 := ⟨Or.inl ml_QP_130, ic_Words_forget, ii_Words_forget, is_Words_forget, in_c_Words, ⟨_, _, rfl⟩, by decide +kernel⟩
theorem qs_QP_126 : qV R_QP 126 y_Words_place b_Words_place 1 (some .int) 0 6 := ⟨Or.inl ml_QP_126, ic_Words_place, ii_Words_place, is_Words_place, in_c_Words, ⟨_, _, rfl⟩, by decide +kernel⟩
theorem qi_QP_123_FormulaReader_mayEnd : qI R_QP 123 ⟨R_Reader, "mayEnd", "()Z"⟩ y_FormulaReader_mayEnd b_FormulaReader_mayEnd 1 (some .boolean) 0 3 := ⟨ml_QP_123, ic_FormulaReader_mayEnd, ii_FormulaReader_mayEnd, isf_FormulaReader_mayEnd, in_c_FormulaReader, ⟨_, _, rfl⟩, fw_FormulaReader_mayEnd, by decide +kernel⟩
theorem qi_QP_123_TraceReader_mayEnd : qI R_QP 123 ⟨R_Reader, "mayEnd", "()Z"⟩ y_TraceReader_mayEnd b_TraceReader_mayEnd 1 (some .boolean) 0 5 := ⟨ml_QP_123, ic_TraceReader_mayEnd, ii_TraceReader_mayEnd, isf_TraceReader_mayEnd, in_c_TraceReader, ⟨_, _, rfl⟩, fw_TraceReader_mayEnd, by decide +kernel⟩
theorem qi_QP_117_FormulaReader_take : qI R_QP 117 ⟨R_Reader, "take", "(LQuantifierProofs$Words;)I"⟩ y_FormulaReader_take b_FormulaReader_take 2 (some .int) 1 3 := ⟨ml_QP_117, ic_FormulaReader_take, ii_FormulaReader_take, isf_FormulaReader_take, in_c_FormulaReader, ⟨_, _, rfl⟩, fw_FormulaReader_take, by decide +kernel⟩
theorem qi_QP_117_TraceReader_take : qI R_QP 117 ⟨R_Reader, "take", "(LQuantifierProofs$Words;)I"⟩ y_TraceReader_take b_TraceReader_take 3 (some .int) 1 5 := ⟨ml_QP_117, ic_TraceReader_take, ii_TraceReader_take, isf_TraceReader_take, in_c_TraceReader, ⟨_, _, rfl⟩, fw_TraceReader_take, by decide +kernel⟩
theorem qs_QP_113 : qV R_QP 113 y_Words_advance b_Words_advance 1 (some .boolean) 0 6 := ⟨Or.inl ml_QP_113, ic_Words_advance, ii_Words_advance, is_Words_advance, in_c_Words, ⟨_, _, rfl⟩, by decide +kernel⟩
theorem qs_QP_110 : qV R_QP 110 y_Words_rewind b_Words_rewind 1 none 0 6 := ⟨Or.inl ml_QP_110, ic_Words_rewind, ii_Words_rewind, is_Words_rewind, in_c_Words, ⟨_, _, rfl⟩, by decide +kernel⟩
def lj_QP_readBuffer_64  (a0 : Nat) (x2 : Int32) (w : qw) : Option (Int32 × qw) :=
  if x2 = 0 then
    q_b1 (q_gr w a0 0 0) fun r6 =>
    q_ob (q_is w r6 6) <| q_b1 (f_Words_forget w r6) fun w7 =>
    some (0, w7)
  else
    q_b1 (q_gr w a0 0 0) fun r1 =>
    q_ob (q_is w r1 6) <| q_b2 (f_Words_place w r1) fun v3 w2 =>
    q_b1 (q_gr w2 a0 0 0) fun r4 =>
    q_ob (q_is w2 r4 6) <| q_b1 (f_Words_forget w2 r4) fun w5 =>
    some (((-1000 : Int32) * x2) - v3, w5)
def lj_QP_readBuffer_49  (a0 : Nat) (a1 : Nat) (x2 : Int32) (w : qw) : Option (Int32 × qw) :=
  if x2 = 0 then
    q_b2 (q_d2 (q_is w a1 3) (q_is w a1 5) (f_FormulaReader_mayEnd w a1) (f_TraceReader_mayEnd w a1)) fun v9 w8 =>
    if v9 = 0 then
      lj_QP_readBuffer_64 a0 1 w8
    else
      lj_QP_readBuffer_64 a0 x2 w8
  else
    lj_QP_readBuffer_64 a0 x2 w
def lb_QP_readBuffer_11  (c11 : Nat → Nat → Int32 → Int32 → qw → Option (Int32 × qw)) (a0 : Nat) (a1 : Nat) (x2 : Int32) (x3 : Int32) (w : qw) : Option (Int32 × qw) :=
  if 200 ≤ x3 then
    lj_QP_readBuffer_49 a0 a1 x2 w
  else
    if x2 = 0 then
      q_b1 (q_gr w a0 0 0) fun r10 =>
      q_ob (q_is w r10 6) <| q_b2 (f_Words_advance w r10) fun v12 w11 =>
      if v12 = 0 then
        lj_QP_readBuffer_49 a0 a1 x2 w11
      else
        q_b1 (q_gr w11 a0 0 0) fun r13 =>
        q_b2 (q_d2 (q_is w11 a1 3) (q_is w11 a1 5) (f_FormulaReader_take w11 a1 r13) (f_TraceReader_take w11 a1 r13)) fun v15 w14 =>
        c11 a0 a1 v15 (x3 + 1) w14
    else
      lj_QP_readBuffer_49 a0 a1 x2 w
def ll_QP_readBuffer_11  : Nat → Nat → Nat → Int32 → Int32 → qw → Option (Int32 × qw)
  | 0 => fun _ _ _ _ _ => none
  | n + 1 => lb_QP_readBuffer_11  (ll_QP_readBuffer_11  n)
def f_QP_readBuffer (w : qw) (a0 : Nat) (a1 : Nat) : Option (Int32 × qw) :=
  q_b1 (q_gr w a0 0 0) fun r16 =>
  q_ob (q_is w r16 6) <| q_b1 (f_Words_rewind w r16) fun w17 =>
  ll_QP_readBuffer_11 q_fu a0 a1 0 0 w17
set_option maxHeartbeats 4000000 in
set_option maxRecDepth 100000 in
theorem k_QP_readBuffer {X : qX} (r : Int32) (w' : qw) (hC : qC X b_QP_readBuffer R_QP 4 5 112) (hR : qRi X b_QP_readBuffer r w') (w : qw) (a0 : Nat) (a1 : Nat) (hF : f_QP_readBuffer w a0 a1 = some (r, w')) : qG X 4 0 [(0, .inr (some a0)), (1, .inr (some a1))] [] w := by
  have J_64 : ∀ (a0 : Nat) (x2 : Int32) (w : qw), lj_QP_readBuffer_64  a0 x2 w = some (r, w') → qG X 4 64 [(0, .inr (some a0)), (2, .inl x2)] [] w := by
    intro a0 x2 w hF
    unfold lj_QP_readBuffer_64 at hF
    refine s_iload_n (pc' := 65) hC d_QP_readBuffer_64 rfl 1 rfl ?_
    refine s_if_ne (tgt := 72) (pc' := 68) hC d_QP_readBuffer_65 rfl rfl hF (fun hF => ?_) (fun hF => ?_)
    · refine s_sipush (v := (-1000)) (pc' := 75) hC d_QP_readBuffer_72 rfl (by decide) ?_
      refine s_iload_n (pc' := 76) hC d_QP_readBuffer_75 rfl 1 rfl ?_
      refine s_imul (pc' := 77) hC d_QP_readBuffer_76 rfl ?_
      refine s_aload_n (pc' := 78) hC d_QP_readBuffer_77 rfl 0 rfl ?_
      refine s_getr (pc' := 81) hC qf_QP_10 d_QP_readBuffer_78 rfl hF (fun r1 hF => ?_)
      refine s_cVi (pc' := 84) (As := []) (rs := [.inl ((-1000 : Int32) * x2)]) (a := r1) (fr' := 0) (lo' := 0) hC qs_QP_126 rfl rfl (Nat.le_of_ble_eq_true rfl) ⟨by decide, by decide⟩ d_QP_readBuffer_81 rfl (fun l g sz r w' h => c_Words_place l g sz w r1 r w' h) hF (fun v3 w2 hF => ?_)
      refine s_isub (pc' := 85) hC d_QP_readBuffer_84 rfl ?_
      refine s_istore_n (pc' := 86) (lv' := [(3, .inl (((-1000 : Int32) * x2) - v3)), (0, .inr (some a0)), (2, .inl x2)]) hC d_QP_readBuffer_85 rfl (by decide) rfl ?_
      refine s_aload_n (pc' := 87) hC d_QP_readBuffer_86 rfl 1 rfl ?_
      refine s_getr (pc' := 90) hC qf_QP_10 d_QP_readBuffer_87 rfl hF (fun r4 hF => ?_)
      refine s_cVv (pc' := 93) (As := []) (rs := []) (a := r4) (fr' := 0) (lo' := 0) hC qs_QP_130 rfl rfl (Nat.le_of_ble_eq_true rfl) ⟨by decide, by decide⟩ d_QP_readBuffer_90 rfl (fun l g sz w' h => c_Words_forget l g sz w2 r4 w' h) hF (fun w5 hF => ?_)
      refine s_iload_n (pc' := 94) hC d_QP_readBuffer_93 rfl 0 rfl ?_
      exact s_iret hC hR d_QP_readBuffer_94 hF
    · refine s_iconst (v := 0) (pc' := 69) hC d_QP_readBuffer_68 rfl (by decide) ?_
      refine s_goto (tgt := 85) hC d_QP_readBuffer_69 rfl ?_
      refine s_istore_n (pc' := 86) (lv' := [(3, .inl 0), (0, .inr (some a0)), (2, .inl x2)]) hC d_QP_readBuffer_85 rfl (by decide) rfl ?_
      refine s_aload_n (pc' := 87) hC d_QP_readBuffer_86 rfl 1 rfl ?_
      refine s_getr (pc' := 90) hC qf_QP_10 d_QP_readBuffer_87 rfl hF (fun r6 hF => ?_)
      refine s_cVv (pc' := 93) (As := []) (rs := []) (a := r6) (fr' := 0) (lo' := 0) hC qs_QP_130 rfl rfl (Nat.le_of_ble_eq_true rfl) ⟨by decide, by decide⟩ d_QP_readBuffer_90 rfl (fun l g sz w' h => c_Words_forget l g sz w r6 w' h) hF (fun w7 hF => ?_)
      refine s_iload_n (pc' := 94) hC d_QP_readBuffer_93 rfl 0 rfl ?_
      exact s_iret hC hR d_QP_readBuffer_94 hF
  have J_49 : ∀ (a0 : Nat) (a1 : Nat) (x2 : Int32) (w : qw), lj_QP_readBuffer_49  a0 a1 x2 w = some (r, w') → qG X 4 49 [(0, .inr (some a0)), (1, .inr (some a1)), (2, .inl x2)] [] w := by
    intro a0 a1 x2 w hF
    unfold lj_QP_readBuffer_49 at hF
    refine s_iload_n (pc' := 50) hC d_QP_readBuffer_49 rfl 2 rfl ?_
    refine s_if_ne (tgt := 64) (pc' := 53) hC d_QP_readBuffer_50 rfl rfl hF (fun hF => ?_) (fun hF => ?_)
    · exact qG_sub [0, 2] rfl (J_64 a0 x2 w hF)
    · refine s_aload_n (pc' := 54) hC d_QP_readBuffer_53 rfl 1 rfl ?_
      rcases q_d2_s hF with ⟨hi, hF⟩ | ⟨hi, hF⟩
      · refine s_cIi (pc' := 59) (As := []) (rs := []) (a := a1) (fr' := 0) (lo' := 0) hC qi_QP_123_FormulaReader_mayEnd rfl rfl (Nat.le_of_ble_eq_true rfl) ⟨by decide, by decide⟩ d_QP_readBuffer_54 rfl (fun l g sz r w' h => c_FormulaReader_mayEnd l g sz w a1 r w' h) hi hF (fun v9 w8 hF => ?_)
        refine s_if_ne (tgt := 64) (pc' := 62) hC d_QP_readBuffer_59 rfl rfl hF (fun hF => ?_) (fun hF => ?_)
        · exact qG_sub [0, 2] rfl (J_64 a0 x2 w8 hF)
        · refine s_iconst (v := 1) (pc' := 63) hC d_QP_readBuffer_62 rfl (by decide) ?_
          refine s_istore_n (pc' := 64) (lv' := [(2, .inl 1), (0, .inr (some a0)), (1, .inr (some a1))]) hC d_QP_readBuffer_63 rfl (by decide) rfl ?_
          exact qG_sub [1, 0] rfl (J_64 a0 1 w8 hF)
      · refine s_cIi (pc' := 59) (As := []) (rs := []) (a := a1) (fr' := 0) (lo' := 0) hC qi_QP_123_TraceReader_mayEnd rfl rfl (Nat.le_of_ble_eq_true rfl) ⟨by decide, by decide⟩ d_QP_readBuffer_54 rfl (fun l g sz r w' h => c_TraceReader_mayEnd l g sz w a1 r w' h) hi hF (fun v9 w8 hF => ?_)
        refine s_if_ne (tgt := 64) (pc' := 62) hC d_QP_readBuffer_59 rfl rfl hF (fun hF => ?_) (fun hF => ?_)
        · exact qG_sub [0, 2] rfl (J_64 a0 x2 w8 hF)
        · refine s_iconst (v := 1) (pc' := 63) hC d_QP_readBuffer_62 rfl (by decide) ?_
          refine s_istore_n (pc' := 64) (lv' := [(2, .inl 1), (0, .inr (some a0)), (1, .inr (some a1))]) hC d_QP_readBuffer_63 rfl (by decide) rfl ?_
          exact qG_sub [1, 0] rfl (J_64 a0 1 w8 hF)
  have L_11 : ∀ (n : Nat) (a0 : Nat) (a1 : Nat) (x2 : Int32) (x3 : Int32) (w : qw), ll_QP_readBuffer_11  n a0 a1 x2 x3 w = some (r, w') → qG X 4 11 [(0, .inr (some a0)), (1, .inr (some a1)), (2, .inl x2), (3, .inl x3)] [] w := by
    intro n_11
    induction n_11 with
    | zero => exact fun _ _ _ _ _ hF => q_nn (show (none : Option (Int32 × qw)) = some (r, w') from hF)
    | succ n_11 ih_11 =>
      intro a0 a1 x2 x3 w hF
      have hF : lb_QP_readBuffer_11  (ll_QP_readBuffer_11  n_11) a0 a1 x2 x3 w = some (r, w') := hF
      unfold lb_QP_readBuffer_11 at hF
      refine s_iload_n (pc' := 12) hC d_QP_readBuffer_11 rfl 3 rfl ?_
      refine s_sipush (v := 200) (pc' := 15) hC d_QP_readBuffer_12 rfl (by decide) ?_
      refine s_icmp_ge (tgt := 49) (pc' := 18) hC d_QP_readBuffer_15 rfl rfl hF (fun hF => ?_) (fun hF => ?_)
      · exact qG_sub [0, 1, 2] rfl (J_49 a0 a1 x2 w hF)
      · refine s_iload_n (pc' := 19) hC d_QP_readBuffer_18 rfl 2 rfl ?_
        refine s_if_ne (tgt := 49) (pc' := 22) hC d_QP_readBuffer_19 rfl rfl hF (fun hF => ?_) (fun hF => ?_)
        · exact qG_sub [0, 1, 2] rfl (J_49 a0 a1 x2 w hF)
        · refine s_aload_n (pc' := 23) hC d_QP_readBuffer_22 rfl 0 rfl ?_
          refine s_getr (pc' := 26) hC qf_QP_10 d_QP_readBuffer_23 rfl hF (fun r10 hF => ?_)
          refine s_cVi (pc' := 29) (As := []) (rs := []) (a := r10) (fr' := 2) (lo' := 49) hC qs_QP_113 rfl rfl (Nat.le_of_ble_eq_true rfl) ⟨by decide, by decide⟩ d_QP_readBuffer_26 rfl (fun l g sz r w' h => c_Words_advance l g sz w r10 r w' h) hF (fun v12 w11 hF => ?_)
          refine s_if_eq (tgt := 49) (pc' := 32) hC d_QP_readBuffer_29 rfl rfl hF (fun hF => ?_) (fun hF => ?_)
          · exact qG_sub [0, 1, 2] rfl (J_49 a0 a1 x2 w11 hF)
          · refine s_aload_n (pc' := 33) hC d_QP_readBuffer_32 rfl 1 rfl ?_
            refine s_aload_n (pc' := 34) hC d_QP_readBuffer_33 rfl 0 rfl ?_
            refine s_getr (pc' := 37) hC qf_QP_10 d_QP_readBuffer_34 rfl hF (fun r13 hF => ?_)
            rcases q_d2_s hF with ⟨hi, hF⟩ | ⟨hi, hF⟩
            · refine s_cIi (pc' := 42) (As := [.inr (some r13)]) (rs := []) (a := a1) (fr' := 3) (lo' := 63) hC qi_QP_117_FormulaReader_take rfl rfl (Nat.le_of_ble_eq_true rfl) ⟨by decide, by decide⟩ d_QP_readBuffer_37 rfl (fun l g sz r w' h => c_FormulaReader_take l g sz w11 a1 r13 r w' h) hi hF (fun v15 w14 hF => ?_)
              refine s_istore_n (pc' := 43) (lv' := [(2, .inl v15), (0, .inr (some a0)), (1, .inr (some a1)), (3, .inl x3)]) hC d_QP_readBuffer_42 rfl (by decide) rfl ?_
              refine s_iinc (pc' := 46) (n' := 1) (lv' := [(3, .inl (x3 + 1)), (2, .inl v15), (0, .inr (some a0)), (1, .inr (some a1))]) hC d_QP_readBuffer_43 rfl 3 rfl (by decide) (by decide) rfl ?_
              refine s_goto (tgt := 11) hC d_QP_readBuffer_46 rfl ?_
              exact qG_sub [2, 3, 1, 0] rfl (ih_11 a0 a1 v15 (x3 + 1) w14 hF)
            · refine s_cIi (pc' := 42) (As := [.inr (some r13)]) (rs := []) (a := a1) (fr' := 4) (lo' := 90) hC qi_QP_117_TraceReader_take rfl rfl (Nat.le_of_ble_eq_true rfl) ⟨by decide, by decide⟩ d_QP_readBuffer_37 rfl (fun l g sz r w' h => c_TraceReader_take l g sz w11 a1 r13 r w' h) hi hF (fun v15 w14 hF => ?_)
              refine s_istore_n (pc' := 43) (lv' := [(2, .inl v15), (0, .inr (some a0)), (1, .inr (some a1)), (3, .inl x3)]) hC d_QP_readBuffer_42 rfl (by decide) rfl ?_
              refine s_iinc (pc' := 46) (n' := 1) (lv' := [(3, .inl (x3 + 1)), (2, .inl v15), (0, .inr (some a0)), (1, .inr (some a1))]) hC d_QP_readBuffer_43 rfl 3 rfl (by decide) (by decide) rfl ?_
              refine s_goto (tgt := 11) hC d_QP_readBuffer_46 rfl ?_
              exact qG_sub [2, 3, 1, 0] rfl (ih_11 a0 a1 v15 (x3 + 1) w14 hF)
  unfold f_QP_readBuffer at hF
  refine s_iconst (v := 0) (pc' := 1) hC d_QP_readBuffer_0 rfl (by decide) ?_
  refine s_istore_n (pc' := 2) (lv' := [(2, .inl 0), (0, .inr (some a0)), (1, .inr (some a1))]) hC d_QP_readBuffer_1 rfl (by decide) rfl ?_
  refine s_aload_n (pc' := 3) hC d_QP_readBuffer_2 rfl 1 rfl ?_
  refine s_getr (pc' := 6) hC qf_QP_10 d_QP_readBuffer_3 rfl hF (fun r16 hF => ?_)
  refine s_cVv (pc' := 9) (As := []) (rs := []) (a := r16) (fr' := 0) (lo' := 0) hC qs_QP_110 rfl rfl (Nat.le_of_ble_eq_true rfl) ⟨by decide, by decide⟩ d_QP_readBuffer_6 rfl (fun l g sz w' h => c_Words_rewind l g sz w r16 w' h) hF (fun w17 hF => ?_)
  refine s_iconst (v := 0) (pc' := 10) hC d_QP_readBuffer_9 rfl (by decide) ?_
  refine s_istore_n (pc' := 11) (lv' := [(3, .inl 0), (2, .inl 0), (0, .inr (some a0)), (1, .inr (some a1))]) hC d_QP_readBuffer_10 rfl (by decide) rfl ?_
  exact qG_sub [2, 3, 1, 0] rfl (L_11 q_fu a0 a1 0 0 w17 hF)
theorem c_QP_readBuffer (l : Launch) (g : qk_G) (sz : Nat) (w : qw) (a0 : Nat) (a1 : Nat) (r : Int32) (w' : qw) (hF : f_QP_readBuffer w a0 a1 = some (r, w')) : qMi l g sz y_QP_readBuffer b_QP_readBuffer 4 (some .int) 5 112 [.inr (some a0), .inr (some a1)] w r w' := qk_met_i (by decide) (Nat.le_of_ble_eq_true rfl) (fun X hC hR => k_QP_readBuffer r w' hC hR w a0 a1 hF)
theorem qf_QP_26 : qF R_QP 26 0 2 := ⟨R_QP, F_QP, 5, rfl, by decide, in_QP, Or.inl fl_QP_26⟩
theorem qs_QP_49 : qV R_QP 49 y_QP_readBuffer b_QP_readBuffer 4 (some .int) 1 0 := ⟨Or.inl ml_QP_49, ic_QP_readBuffer, ii_QP_readBuffer, is_QP_readBuffer, in_c_QP, ⟨_, _, rfl⟩, by decide +kernel⟩
theorem qs_QP_66 : qV R_QP 66 y_TraceReader_begin b_TraceReader_begin 2 none 1 5 := ⟨Or.inl ml_QP_66, ic_TraceReader_begin, ii_TraceReader_begin, is_TraceReader_begin, in_c_TraceReader, ⟨_, _, rfl⟩, by decide +kernel⟩
def f_QP_trace (w : qw) (a0 : Nat) : Option (Int32 × qw) :=
  q_b1 (q_gr w a0 0 3) fun r1 =>
  q_b1 (q_gi w r1 4 4) fun v2 =>
  q_b1 (q_gr w a0 0 2) fun r3 =>
  q_b1 (q_gr w a0 0 4) fun r4 =>
  q_ob (q_is w r3 5) <| q_b1 (f_TraceReader_begin w r3 r4) fun w5 =>
  q_b1 (q_gr w5 a0 0 2) fun r6 =>
  q_ob (q_is w5 a0 0) <| q_b2 (f_QP_readBuffer w5 a0 r6) fun v8 w7 =>
  if v8 = 0 then
    q_b1 (q_gr w7 a0 0 3) fun r9 =>
    q_b1 (q_gi w7 r9 4 4) fun v10 =>
    some (v10 - v2, w7)
  else
    some (v8, w7)
set_option maxHeartbeats 4000000 in
set_option maxRecDepth 100000 in
theorem k_QP_trace {X : qX} (r : Int32) (w' : qw) (hC : qC X b_QP_trace R_QP 3 6 135) (hR : qRi X b_QP_trace r w') (w : qw) (a0 : Nat) (hF : f_QP_trace w a0 = some (r, w')) : qG X 3 0 [(0, .inr (some a0))] [] w := by
  unfold f_QP_trace at hF
  refine s_aload_n (pc' := 1) hC d_QP_trace_0 rfl 0 rfl ?_
  refine s_getr (pc' := 4) hC qf_QP_34 d_QP_trace_1 rfl hF (fun r1 hF => ?_)
  refine s_geti (pc' := 7) hC qf_QP_62 d_QP_trace_4 rfl hF (fun v2 hF => ?_)
  refine s_istore_n (pc' := 8) (lv' := [(1, .inl v2), (0, .inr (some a0))]) hC d_QP_trace_7 rfl (by decide) rfl ?_
  refine s_aload_n (pc' := 9) hC d_QP_trace_8 rfl 1 rfl ?_
  refine s_getr (pc' := 12) hC qf_QP_26 d_QP_trace_9 rfl hF (fun r3 hF => ?_)
  refine s_aload_n (pc' := 13) hC d_QP_trace_12 rfl 1 rfl ?_
  refine s_getr (pc' := 16) hC qf_QP_39 d_QP_trace_13 rfl hF (fun r4 hF => ?_)
  refine s_cVv (pc' := 19) (As := [.inr (some r4)]) (rs := []) (a := r3) (fr' := 0) (lo' := 0) hC qs_QP_66 rfl rfl (Nat.le_of_ble_eq_true rfl) ⟨by decide, by decide⟩ d_QP_trace_16 rfl (fun l g sz w' h => c_TraceReader_begin l g sz w r3 r4 w' h) hF (fun w5 hF => ?_)
  refine s_aload_n (pc' := 20) hC d_QP_trace_19 rfl 1 rfl ?_
  refine s_aload_n (pc' := 21) hC d_QP_trace_20 rfl 1 rfl ?_
  refine s_getr (pc' := 24) hC qf_QP_26 d_QP_trace_21 rfl hF (fun r6 hF => ?_)
  refine s_cVi (pc' := 27) (As := [.inr (some r6)]) (rs := []) (a := a0) (fr' := 5) (lo' := 112) hC qs_QP_49 rfl rfl (Nat.le_of_ble_eq_true rfl) ⟨by decide, by decide⟩ d_QP_trace_24 rfl (fun l g sz r w' h => c_QP_readBuffer l g sz w5 a0 r6 r w' h) hF (fun v8 w7 hF => ?_)
  refine s_istore_n (pc' := 28) (lv' := [(2, .inl v8), (1, .inl v2), (0, .inr (some a0))]) hC d_QP_trace_27 rfl (by decide) rfl ?_
  refine s_iload_n (pc' := 29) hC d_QP_trace_28 rfl 0 rfl ?_
  refine s_if_ne (tgt := 44) (pc' := 32) hC d_QP_trace_29 rfl rfl hF (fun hF => ?_) (fun hF => ?_)
  · refine s_iload_n (pc' := 45) hC d_QP_trace_44 rfl 0 rfl ?_
    exact s_iret hC hR d_QP_trace_45 hF
  · refine s_aload_n (pc' := 33) hC d_QP_trace_32 rfl 2 rfl ?_
    refine s_getr (pc' := 36) hC qf_QP_34 d_QP_trace_33 rfl hF (fun r9 hF => ?_)
    refine s_geti (pc' := 39) hC qf_QP_62 d_QP_trace_36 rfl hF (fun v10 hF => ?_)
    refine s_iload_n (pc' := 40) hC d_QP_trace_39 rfl 1 rfl ?_
    refine s_isub (pc' := 41) hC d_QP_trace_40 rfl ?_
    refine s_goto (tgt := 45) hC d_QP_trace_41 rfl ?_
    exact s_iret hC hR d_QP_trace_45 hF
theorem c_QP_trace (l : Launch) (g : qk_G) (sz : Nat) (w : qw) (a0 : Nat) (r : Int32) (w' : qw) (hF : f_QP_trace w a0 = some (r, w')) : qMi l g sz y_QP_trace b_QP_trace 3 (some .int) 6 135 [.inr (some a0)] w r w' := qk_met_i (by decide) (Nat.le_of_ble_eq_true rfl) (fun X hC hR => k_QP_trace r w' hC hR w a0 hF)
theorem qf_QP_19 : qF R_QP 19 0 1 := ⟨R_QP, F_QP, 5, rfl, by decide, in_QP, Or.inl fl_QP_19⟩
theorem qp_QP_39 : qP R_QP 39 0 4 (.object "QuantifierProofs$Formula") := ⟨R_QP, F_QP, 5, t_QP, rfl, by decide, in_QP, Or.inl fl_QP_39, t_QP_ok, n_QP, rfl, by decide +kernel⟩
theorem qs_QP_57 : qV R_QP 57 y_Proof_forget b_Proof_forget 1 none 0 4 := ⟨Or.inl ml_QP_57, ic_Proof_forget, ii_Proof_forget, is_Proof_forget, in_c_Proof, ⟨_, _, rfl⟩, by decide +kernel⟩
theorem qs_QP_53 : qV R_QP 53 y_FormulaReader_exchange b_FormulaReader_exchange 3 (some (.object "QuantifierProofs$Formula")) 1 3 := ⟨Or.inl ml_QP_53, ic_FormulaReader_exchange, ii_FormulaReader_exchange, is_FormulaReader_exchange, in_c_FormulaReader, ⟨_, _, rfl⟩, by decide +kernel⟩
theorem qs_QP_46 : qV R_QP 46 y_FormulaReader_begin b_FormulaReader_begin 1 none 0 3 := ⟨Or.inl ml_QP_46, ic_FormulaReader_begin, ii_FormulaReader_begin, is_FormulaReader_begin, in_c_FormulaReader, ⟨_, _, rfl⟩, by decide +kernel⟩
def f_QP_formula (w : qw) (a0 : Nat) : Option (Int32 × qw) :=
  q_b1 (q_gr w a0 0 1) fun r1 =>
  q_ob (q_is w r1 3) <| q_b1 (f_FormulaReader_begin w r1) fun w2 =>
  q_b1 (q_gr w2 a0 0 1) fun r3 =>
  q_ob (q_is w2 a0 0) <| q_b2 (f_QP_readBuffer w2 a0 r3) fun v5 w4 =>
  if v5 = 0 then
    q_b1 (q_gr w4 a0 0 1) fun r6 =>
    q_b1 (q_gr w4 a0 0 4) fun r7 =>
    q_ob (q_is w4 r6 3) <| q_b2 (f_FormulaReader_exchange w4 r6 r7) fun r9 w8 =>
    q_b1 (q_pf w8 a0 0 4 (.inr (some r9))) fun w10 =>
    q_b1 (q_gr w10 a0 0 3) fun r11 =>
    q_ob (q_is w10 r11 4) <| q_b1 (f_Proof_forget w10 r11) fun w12 =>
    some (v5, w12)
  else
    some (v5, w4)
set_option maxHeartbeats 4000000 in
set_option maxRecDepth 100000 in
theorem k_QP_formula {X : qX} (r : Int32) (w' : qw) (hC : qC X b_QP_formula R_QP 2 6 135) (hR : qRi X b_QP_formula r w') (w : qw) (a0 : Nat) (hF : f_QP_formula w a0 = some (r, w')) : qG X 2 0 [(0, .inr (some a0))] [] w := by
  unfold f_QP_formula at hF
  refine s_aload_n (pc' := 1) hC d_QP_formula_0 rfl 0 rfl ?_
  refine s_getr (pc' := 4) hC qf_QP_19 d_QP_formula_1 rfl hF (fun r1 hF => ?_)
  refine s_cVv (pc' := 7) (As := []) (rs := []) (a := r1) (fr' := 1) (lo' := 20) hC qs_QP_46 rfl rfl (Nat.le_of_ble_eq_true rfl) ⟨by decide, by decide⟩ d_QP_formula_4 rfl (fun l g sz w' h => c_FormulaReader_begin l g sz w r1 w' h) hF (fun w2 hF => ?_)
  refine s_aload_n (pc' := 8) hC d_QP_formula_7 rfl 0 rfl ?_
  refine s_aload_n (pc' := 9) hC d_QP_formula_8 rfl 0 rfl ?_
  refine s_getr (pc' := 12) hC qf_QP_19 d_QP_formula_9 rfl hF (fun r3 hF => ?_)
  refine s_cVi (pc' := 15) (As := [.inr (some r3)]) (rs := []) (a := a0) (fr' := 5) (lo' := 112) hC qs_QP_49 rfl rfl (Nat.le_of_ble_eq_true rfl) ⟨by decide, by decide⟩ d_QP_formula_12 rfl (fun l g sz r w' h => c_QP_readBuffer l g sz w2 a0 r3 r w' h) hF (fun v5 w4 hF => ?_)
  refine s_istore_n (pc' := 16) (lv' := [(1, .inl v5), (0, .inr (some a0))]) hC d_QP_formula_15 rfl (by decide) rfl ?_
  refine s_iload_n (pc' := 17) hC d_QP_formula_16 rfl 0 rfl ?_
  refine s_if_ne (tgt := 42) (pc' := 20) hC d_QP_formula_17 rfl rfl hF (fun hF => ?_) (fun hF => ?_)
  · refine s_iload_n (pc' := 43) hC d_QP_formula_42 rfl 0 rfl ?_
    exact s_iret hC hR d_QP_formula_43 hF
  · refine s_aload_n (pc' := 21) hC d_QP_formula_20 rfl 1 rfl ?_
    refine s_aload_n (pc' := 22) hC d_QP_formula_21 rfl 1 rfl ?_
    refine s_getr (pc' := 25) hC qf_QP_19 d_QP_formula_22 rfl hF (fun r6 hF => ?_)
    refine s_aload_n (pc' := 26) hC d_QP_formula_25 rfl 1 rfl ?_
    refine s_getr (pc' := 29) hC qf_QP_39 d_QP_formula_26 rfl hF (fun r7 hF => ?_)
    refine s_cVr (pc' := 32) (As := [.inr (some r7)]) (rs := [.inr (some a0)]) (a := r6) (fr' := 0) (lo' := 0) hC qs_QP_53 rfl rfl (Nat.le_of_ble_eq_true rfl) ⟨by decide, by decide⟩ d_QP_formula_29 rfl (fun l g sz r w' h => c_FormulaReader_exchange l g sz w4 r6 r7 r w' h) hF (fun r9 w8 hF => ?_)
    refine s_putr (pc' := 35) hC qp_QP_39 (fun _ => ⟨rfl, rfl⟩) d_QP_formula_32 rfl hF (fun w10 hF => ?_)
    refine s_aload_n (pc' := 36) hC d_QP_formula_35 rfl 1 rfl ?_
    refine s_getr (pc' := 39) hC qf_QP_34 d_QP_formula_36 rfl hF (fun r11 hF => ?_)
    refine s_cVv (pc' := 42) (As := []) (rs := []) (a := r11) (fr' := 0) (lo' := 0) hC qs_QP_57 rfl rfl (Nat.le_of_ble_eq_true rfl) ⟨by decide, by decide⟩ d_QP_formula_39 rfl (fun l g sz w' h => c_Proof_forget l g sz w10 r11 w' h) hF (fun w12 hF => ?_)
    refine s_iload_n (pc' := 43) hC d_QP_formula_42 rfl 0 rfl ?_
    exact s_iret hC hR d_QP_formula_43 hF
theorem c_QP_formula (l : Launch) (g : qk_G) (sz : Nat) (w : qw) (a0 : Nat) (r : Int32) (w' : qw) (hF : f_QP_formula w a0 = some (r, w')) : qMi l g sz y_QP_formula b_QP_formula 2 (some .int) 6 135 [.inr (some a0)] w r w' := qk_met_i (by decide) (Nat.le_of_ble_eq_true rfl) (fun X hC hR => k_QP_formula r w' hC hR w a0 hF)
