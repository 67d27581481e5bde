def f_MO_clauses (w : qw) (a0 : Nat) : Option (Int32 × qw) :=
  q_b1 (q_gi w a0 1 6) fun v1 =>
  some (v1, w)
set_option maxHeartbeats 4000000 in
set_option maxRecDepth 100000 in
theorem k_MO_clauses {X : qX} (r : Int32) (w' : qw) (hC : qC X b_MO_clauses R_MO 1 0 0) (hR : qRi X b_MO_clauses r w') (w : qw) (a0 : Nat) (hF : f_MO_clauses w a0 = some (r, w')) : qG X 1 0 [(0, .inr (some a0))] [] w := by
  unfold f_MO_clauses at hF
  refine s_aload_n (pc' := 1) hC d_MO_clauses_0 rfl 0 rfl ?_
  refine s_geti (pc' := 4) hC qf_MO_102 d_MO_clauses_1 rfl hF (fun v1 hF => ?_)
  exact s_iret hC hR d_MO_clauses_4 hF
theorem c_MO_clauses (l : Launch) (g : qk_G) (sz : Nat) (w : qw) (a0 : Nat) (r : Int32) (w' : qw) (hF : f_MO_clauses w a0 = some (r, w')) : qMi l g sz y_MO_clauses b_MO_clauses 1 (some .int) 0 0 [.inr (some a0)] w r w' := qk_met_i (by decide) (Nat.le_of_ble_eq_true rfl) (fun X hC hR => k_MO_clauses r w' hC hR w a0 hF)
def f_MO_clause (w : qw) (a0 : Nat) (x1 : Int32) : Option (Int32 × qw) :=
  if x1 < 0 then
    some ((-1), w)
  else
    q_b1 (q_gi w a0 1 6) fun v1 =>
    if v1 ≤ x1 then
      some ((-1), w)
    else
      q_b1 (q_gr w a0 1 7) fun r2 =>
      q_b1 (q_ld w r2 0 x1) fun v3 =>
      some (v3, w)
set_option maxHeartbeats 4000000 in
set_option maxRecDepth 100000 in
theorem k_MO_clause {X : qX} (r : Int32) (w' : qw) (hC : qC X b_MO_clause R_MO 2 0 0) (hR : qRi X b_MO_clause r w') (w : qw) (a0 : Nat) (x1 : Int32) (hF : f_MO_clause w a0 x1 = some (r, w')) : qG X 2 0 [(0, .inr (some a0)), (1, .inl x1)] [] w := by
  unfold f_MO_clause at hF
  refine s_iload_n (pc' := 1) hC d_MO_clause_0 rfl 1 rfl ?_
  refine s_if_lt (tgt := 21) (pc' := 4) hC d_MO_clause_1 rfl rfl hF (fun hF => ?_) (fun hF => ?_)
  · refine s_iconst (v := (-1)) (pc' := 22) hC d_MO_clause_21 rfl (by decide) ?_
    exact s_iret hC hR d_MO_clause_22 hF
  · refine s_iload_n (pc' := 5) hC d_MO_clause_4 rfl 1 rfl ?_
    refine s_aload_n (pc' := 6) hC d_MO_clause_5 rfl 0 rfl ?_
    refine s_geti (pc' := 9) hC qf_MO_102 d_MO_clause_6 rfl hF (fun v1 hF => ?_)
    refine s_icmp_ge (tgt := 21) (pc' := 12) hC d_MO_clause_9 rfl rfl hF (fun hF => ?_) (fun hF => ?_)
    · refine s_iconst (v := (-1)) (pc' := 22) hC d_MO_clause_21 rfl (by decide) ?_
      exact s_iret hC hR d_MO_clause_22 hF
    · refine s_aload_n (pc' := 13) hC d_MO_clause_12 rfl 0 rfl ?_
      refine s_getr (pc' := 16) hC qf_MO_23 d_MO_clause_13 rfl hF (fun r2 hF => ?_)
      refine s_iload_n (pc' := 17) hC d_MO_clause_16 rfl 1 rfl ?_
      refine s_iald (pc' := 18) hC d_MO_clause_17 rfl hF (fun v3 hF => ?_)
      refine s_goto (tgt := 22) hC d_MO_clause_18 rfl ?_
      exact s_iret hC hR d_MO_clause_22 hF
theorem c_MO_clause (l : Launch) (g : qk_G) (sz : Nat) (w : qw) (a0 : Nat) (x1 : Int32) (r : Int32) (w' : qw) (hF : f_MO_clause w a0 x1 = some (r, w')) : qMi l g sz y_MO_clause b_MO_clause 2 (some .int) 0 0 [.inr (some a0), .inl x1] w r w' := qk_met_i (by decide) (Nat.le_of_ble_eq_true rfl) (fun X hC hR => k_MO_clause r w' hC hR w a0 x1 hF)
def f_MO_steps (w : qw) (a0 : Nat) : Option (Int32 × qw) :=
  q_b1 (q_gi w a0 1 14) fun v1 =>
  some (v1, w)
set_option maxHeartbeats 4000000 in
set_option maxRecDepth 100000 in
theorem k_MO_steps {X : qX} (r : Int32) (w' : qw) (hC : qC X b_MO_steps R_MO 1 0 0) (hR : qRi X b_MO_steps r w') (w : qw) (a0 : Nat) (hF : f_MO_steps w a0 = some (r, w')) : qG X 1 0 [(0, .inr (some a0))] [] w := by
  unfold f_MO_steps at hF
  refine s_aload_n (pc' := 1) hC d_MO_steps_0 rfl 0 rfl ?_
  refine s_geti (pc' := 4) hC qf_MO_105 d_MO_steps_1 rfl hF (fun v1 hF => ?_)
  exact s_iret hC hR d_MO_steps_4 hF
theorem c_MO_steps (l : Launch) (g : qk_G) (sz : Nat) (w : qw) (a0 : Nat) (r : Int32) (w' : qw) (hF : f_MO_steps w a0 = some (r, w')) : qMi l g sz y_MO_steps b_MO_steps 1 (some .int) 0 0 [.inr (some a0)] w r w' := qk_met_i (by decide) (Nat.le_of_ble_eq_true rfl) (fun X hC hR => k_MO_steps r w' hC hR w a0 hF)
theorem qf_MO_41 : qF R_MO 41 1 16 := ⟨R_MO, F_MO, 28, rfl, by decide, in_MO, Or.inl fl_MO_41⟩
def f_MO_step (w : qw) (a0 : Nat) (x1 : Int32) : Option (Int32 × qw) :=
  if x1 < 0 then
    some ((-1), w)
  else
    q_b1 (q_gi w a0 1 14) fun v1 =>
    if v1 ≤ x1 then
      some ((-1), w)
    else
      q_b1 (q_gr w a0 1 16) fun r2 =>
      q_b1 (q_ld w r2 0 x1) fun v3 =>
      q_b1 (q_gr w a0 1 17) fun r4 =>
      q_b1 (q_ld w r4 2 x1) fun v5 =>
      if v5 = 0 then
        some (v3 + 0, w)
      else
        some (v3 + 65536, w)
set_option maxHeartbeats 4000000 in
set_option maxRecDepth 100000 in
theorem k_MO_step {X : qX} (r : Int32) (w' : qw) (hC : qC X b_MO_step R_MO 2 0 0) (hR : qRi X b_MO_step r w') (w : qw) (a0 : Nat) (x1 : Int32) (hF : f_MO_step w a0 x1 = some (r, w')) : qG X 2 0 [(0, .inr (some a0)), (1, .inl x1)] [] w := by
  unfold f_MO_step at hF
  refine s_iload_n (pc' := 1) hC d_MO_step_0 rfl 1 rfl ?_
  refine s_if_lt (tgt := 37) (pc' := 4) hC d_MO_step_1 rfl rfl hF (fun hF => ?_) (fun hF => ?_)
  · refine s_iconst (v := (-1)) (pc' := 38) hC d_MO_step_37 rfl (by decide) ?_
    exact s_iret hC hR d_MO_step_38 hF
  · refine s_iload_n (pc' := 5) hC d_MO_step_4 rfl 1 rfl ?_
    refine s_aload_n (pc' := 6) hC d_MO_step_5 rfl 0 rfl ?_
    refine s_geti (pc' := 9) hC qf_MO_105 d_MO_step_6 rfl hF (fun v1 hF => ?_)
    refine s_icmp_ge (tgt := 37) (pc' := 12) hC d_MO_step_9 rfl rfl hF (fun hF => ?_) (fun hF => ?_)
    · refine s_iconst (v := (-1)) (pc' := 38) hC d_MO_step_37 rfl (by decide) ?_
      exact s_iret hC hR d_MO_step_38 hF
    · refine s_aload_n (pc' := 13) hC d_MO_step_12 rfl 0 rfl ?_
      refine s_getr (pc' := 16) hC qf_MO_41 d_MO_step_13 rfl hF (fun r2 hF => ?_)
      refine s_iload_n (pc' := 17) hC d_MO_step_16 rfl 1 rfl ?_
      refine s_iald (pc' := 18) hC d_MO_step_17 rfl hF (fun v3 hF => ?_)
      refine s_aload_n (pc' := 19) hC d_MO_step_18 rfl 0 rfl ?_
      refine s_getr (pc' := 22) hC qf_MO_44 d_MO_step_19 rfl hF (fun r4 hF => ?_)
      refine s_iload_n (pc' := 23) hC d_MO_step_22 rfl 1 rfl ?_
      refine s_zald (pc' := 24) hC d_MO_step_23 rfl hF (fun v5 hF => ?_)
      refine s_if_eq (tgt := 32) (pc' := 27) hC d_MO_step_24 rfl rfl hF (fun hF => ?_) (fun hF => ?_)
      · refine s_iconst (v := 0) (pc' := 33) hC d_MO_step_32 rfl (by decide) ?_
        refine s_iadd (pc' := 34) hC d_MO_step_33 rfl ?_
        refine s_goto (tgt := 38) hC d_MO_step_34 rfl ?_
        exact s_iret hC hR d_MO_step_38 hF
      · refine s_ldc (v := 65536) (pc' := 29) hC d_MO_step_27 rfl co_MO_160 ?_
        refine s_goto (tgt := 33) hC d_MO_step_29 rfl ?_
        refine s_iadd (pc' := 34) hC d_MO_step_33 rfl ?_
        refine s_goto (tgt := 38) hC d_MO_step_34 rfl ?_
        exact s_iret hC hR d_MO_step_38 hF
theorem c_MO_step (l : Launch) (g : qk_G) (sz : Nat) (w : qw) (a0 : Nat) (x1 : Int32) (r : Int32) (w' : qw) (hF : f_MO_step w a0 x1 = some (r, w')) : qMi l g sz y_MO_step b_MO_step 2 (some .int) 0 0 [.inr (some a0), .inl x1] w r w' := qk_met_i (by decide) (Nat.le_of_ble_eq_true rfl) (fun X hC hR => k_MO_step r w' hC hR w a0 x1 hF)
theorem qf_MO_47 : qF R_MO 47 1 18 := ⟨R_MO, F_MO, 28, rfl, by decide, in_MO, Or.inl fl_MO_47⟩
def f_MO_rests (w : qw) (a0 : Nat) (x1 : Int32) : Option (Int32 × qw) :=
  if x1 < 0 then
    some ((-1), w)
  else
    q_b1 (q_gi w a0 1 14) fun v1 =>
    if v1 ≤ x1 then
      some ((-1), w)
    else
      q_b1 (q_gr w a0 1 18) fun r2 =>
      q_b1 (q_ld w r2 0 x1) fun v3 =>
      some (v3, w)
set_option maxHeartbeats 4000000 in
set_option maxRecDepth 100000 in
theorem k_MO_rests {X : qX} (r : Int32) (w' : qw) (hC : qC X b_MO_rests R_MO 2 0 0) (hR : qRi X b_MO_rests r w') (w : qw) (a0 : Nat) (x1 : Int32) (hF : f_MO_rests w a0 x1 = some (r, w')) : qG X 2 0 [(0, .inr (some a0)), (1, .inl x1)] [] w := by
  unfold f_MO_rests at hF
  refine s_iload_n (pc' := 1) hC d_MO_rests_0 rfl 1 rfl ?_
  refine s_if_lt (tgt := 21) (pc' := 4) hC d_MO_rests_1 rfl rfl hF (fun hF => ?_) (fun hF => ?_)
  · refine s_iconst (v := (-1)) (pc' := 22) hC d_MO_rests_21 rfl (by decide) ?_
    exact s_iret hC hR d_MO_rests_22 hF
  · refine s_iload_n (pc' := 5) hC d_MO_rests_4 rfl 1 rfl ?_
    refine s_aload_n (pc' := 6) hC d_MO_rests_5 rfl 0 rfl ?_
    refine s_geti (pc' := 9) hC qf_MO_105 d_MO_rests_6 rfl hF (fun v1 hF => ?_)
    refine s_icmp_ge (tgt := 21) (pc' := 12) hC d_MO_rests_9 rfl rfl hF (fun hF => ?_) (fun hF => ?_)
    · refine s_iconst (v := (-1)) (pc' := 22) hC d_MO_rests_21 rfl (by decide) ?_
      exact s_iret hC hR d_MO_rests_22 hF
    · refine s_aload_n (pc' := 13) hC d_MO_rests_12 rfl 0 rfl ?_
      refine s_getr (pc' := 16) hC qf_MO_47 d_MO_rests_13 rfl hF (fun r2 hF => ?_)
      refine s_iload_n (pc' := 17) hC d_MO_rests_16 rfl 1 rfl ?_
      refine s_iald (pc' := 18) hC d_MO_rests_17 rfl hF (fun v3 hF => ?_)
      refine s_goto (tgt := 22) hC d_MO_rests_18 rfl ?_
      exact s_iret hC hR d_MO_rests_22 hF
theorem c_MO_rests (l : Launch) (g : qk_G) (sz : Nat) (w : qw) (a0 : Nat) (x1 : Int32) (r : Int32) (w' : qw) (hF : f_MO_rests w a0 x1 = some (r, w')) : qMi l g sz y_MO_rests b_MO_rests 2 (some .int) 0 0 [.inr (some a0), .inl x1] w r w' := qk_met_i (by decide) (Nat.le_of_ble_eq_true rfl) (fun X hC hR => k_MO_rests r w' hC hR w a0 x1 hF)
def lb_MO_empty_2  (c2 : Nat → Int32 → qw → Option (Int32 × qw)) (a0 : Nat) (x1 : Int32) (w : qw) : Option (Int32 × qw) :=
  q_b1 (q_gi w a0 1 14) fun v1 =>
  if v1 ≤ x1 then
    some ((-1), w)
  else
    q_b1 (q_gr w a0 1 16) fun r2 =>
    q_b1 (q_ld w r2 0 x1) fun v3 =>
    if v3 = 0 then
      some (x1, w)
    else
      c2 a0 (x1 + 1) w
def ll_MO_empty_2  : Nat → Nat → Int32 → qw → Option (Int32 × qw)
  | 0 => fun _ _ _ => none
  | n + 1 => lb_MO_empty_2  (ll_MO_empty_2  n)
def f_MO_empty (w : qw) (a0 : Nat) : Option (Int32 × qw) :=
  ll_MO_empty_2 q_fu a0 0 w
set_option maxHeartbeats 4000000 in
set_option maxRecDepth 100000 in
theorem k_MO_empty {X : qX} (r : Int32) (w' : qw) (hC : qC X b_MO_empty R_MO 2 0 0) (hR : qRi X b_MO_empty r w') (w : qw) (a0 : Nat) (hF : f_MO_empty w a0 = some (r, w')) : qG X 2 0 [(0, .inr (some a0))] [] w := by
  have L_2 : ∀ (n : Nat) (a0 : Nat) (x1 : Int32) (w : qw), ll_MO_empty_2  n a0 x1 w = some (r, w') → qG X 2 2 [(0, .inr (some a0)), (1, .inl x1)] [] w := by
    intro n_2
    induction n_2 with
    | zero => exact fun _ _ _ hF => q_nn (show (none : Option (Int32 × qw)) = some (r, w') from hF)
    | succ n_2 ih_2 =>
      intro a0 x1 w hF
      have hF : lb_MO_empty_2  (ll_MO_empty_2  n_2) a0 x1 w = some (r, w') := hF
      unfold lb_MO_empty_2 at hF
      refine s_iload_n (pc' := 3) hC d_MO_empty_2 rfl 1 rfl ?_
      refine s_aload_n (pc' := 4) hC d_MO_empty_3 rfl 0 rfl ?_
      refine s_geti (pc' := 7) hC qf_MO_105 d_MO_empty_4 rfl hF (fun v1 hF => ?_)
      refine s_icmp_ge (tgt := 27) (pc' := 10) hC d_MO_empty_7 rfl rfl hF (fun hF => ?_) (fun hF => ?_)
      · refine s_iconst (v := (-1)) (pc' := 28) hC d_MO_empty_27 rfl (by decide) ?_
        exact s_iret hC hR d_MO_empty_28 hF
      · refine s_aload_n (pc' := 11) hC d_MO_empty_10 rfl 0 rfl ?_
        refine s_getr (pc' := 14) hC qf_MO_41 d_MO_empty_11 rfl hF (fun r2 hF => ?_)
        refine s_iload_n (pc' := 15) hC d_MO_empty_14 rfl 1 rfl ?_
        refine s_iald (pc' := 16) hC d_MO_empty_15 rfl hF (fun v3 hF => ?_)
        refine s_if_ne (tgt := 21) (pc' := 19) hC d_MO_empty_16 rfl rfl hF (fun hF => ?_) (fun hF => ?_)
        · refine s_iinc (pc' := 24) (n' := 1) (lv' := [(1, .inl (x1 + 1)), (0, .inr (some a0))]) hC d_MO_empty_21 rfl 1 rfl (by decide) (by decide) rfl ?_
          refine s_goto (tgt := 2) hC d_MO_empty_24 rfl ?_
          exact qG_sub [1, 0] rfl (ih_2 a0 (x1 + 1) w hF)
        · refine s_iload_n (pc' := 20) hC d_MO_empty_19 rfl 1 rfl ?_
          exact s_iret hC hR d_MO_empty_20 hF
  unfold f_MO_empty at hF
  refine s_iconst (v := 0) (pc' := 1) hC d_MO_empty_0 rfl (by decide) ?_
  refine s_istore_n (pc' := 2) (lv' := [(1, .inl 0), (0, .inr (some a0))]) hC d_MO_empty_1 rfl (by decide) rfl ?_
  exact qG_sub [1, 0] rfl (L_2 q_fu a0 0 w hF)
theorem c_MO_empty (l : Launch) (g : qk_G) (sz : Nat) (w : qw) (a0 : Nat) (r : Int32) (w' : qw) (hF : f_MO_empty w a0 = some (r, w')) : qMi l g sz y_MO_empty b_MO_empty 2 (some .int) 0 0 [.inr (some a0)] w r w' := qk_met_i (by decide) (Nat.le_of_ble_eq_true rfl) (fun X hC hR => k_MO_empty r w' hC hR w a0 hF)
theorem qf_MO_50 : qF R_MO 50 1 27 := ⟨R_MO, F_MO, 28, rfl, by decide, in_MO, Or.inl fl_MO_50⟩
theorem qs_MO_80 : qS R_MO 80 y_MO_bit b_MO_bit 1 (some .int) 1 := ⟨Or.inl ml_MO_80, ic_MO_bit, is_MO_bit, in_c_MO, by decide +kernel⟩
def lb_MO_play0_76  (c2 : Nat → Int32 → Int32 → qw → Option (qw)) (c76 : Nat → Int32 → Int32 → Int32 → Int32 → qw → Option (qw)) (a0 : Nat) (x1 : Int32) (x2 : Int32) (x3 : Int32) (x4 : Int32) (w : qw) : Option (qw) :=
  q_b1 (q_gi w a0 1 6) fun v1 =>
  if v1 ≤ x4 then
    c2 a0 x1 (x2 + 1) w
  else
    q_b1 (q_gr w a0 1 27) fun r2 =>
    q_b1 (q_gr w a0 1 27) fun r3 =>
    q_b1 (q_ld w r3 2 x2) fun v4 =>
    if v4 = 0 then
      q_ob (q_z 0) <| q_b1 (q_st w r2 2 x2 0) fun w5 =>
      c76 a0 x1 x2 x3 (x4 + 1) w5
    else
      q_b1 (q_gr w a0 1 7) fun r6 =>
      q_b1 (q_ld w r6 0 x4) fun v7 =>
      if (v7 &&& x3) = 0 then
        q_ob (q_z 0) <| q_b1 (q_st w r2 2 x2 0) fun w8 =>
        c76 a0 x1 x2 x3 (x4 + 1) w8
      else
        q_ob (q_z 1) <| q_b1 (q_st w r2 2 x2 1) fun w9 =>
        c76 a0 x1 x2 x3 (x4 + 1) w9
def ll_MO_play0_76  (c2 : Nat → Int32 → Int32 → qw → Option (qw)) : Nat → Nat → Int32 → Int32 → Int32 → Int32 → qw → Option (qw)
  | 0 => fun _ _ _ _ _ _ => none
  | n + 1 => lb_MO_play0_76  c2 (ll_MO_play0_76  c2 n)
def lb_MO_play0_143  (c136 : Nat → Int32 → Int32 → qw → Option (qw)) (c143 : Nat → Int32 → Int32 → Int32 → qw → Option (qw)) (a0 : Nat) (x1 : Int32) (x2 : Int32) (x3 : Int32) (w : qw) : Option (qw) :=
  if ((1 : Int32) <<< (x2 &&& 31)) ≤ x3 then
    c136 a0 x1 (x2 + (-1)) w
  else
    q_b1 (q_gr w a0 1 27) fun r10 =>
    q_b1 (q_gr w a0 1 4) fun r11 =>
    q_b1 (q_ld w r11 2 x2) fun v12 =>
    if v12 = 0 then
      q_b1 (q_gr w a0 1 27) fun r13 =>
      q_b1 (q_ld w r13 2 x3) fun v14 =>
      if v14 = 0 then
        q_b1 (q_gr w a0 1 27) fun r16 =>
        q_b1 (q_ld w r16 2 (x3 ||| ((1 : Int32) <<< (x2 &&& 31)))) fun v17 =>
        if v17 = 0 then
          q_ob (q_z 0) <| q_b1 (q_st w r10 2 x3 0) fun w18 =>
          c143 a0 x1 x2 (x3 + 1) w18
        else
          q_ob (q_z 1) <| q_b1 (q_st w r10 2 x3 1) fun w19 =>
          c143 a0 x1 x2 (x3 + 1) w19
      else
        q_ob (q_z 1) <| q_b1 (q_st w r10 2 x3 1) fun w15 =>
        c143 a0 x1 x2 (x3 + 1) w15
    else
      q_b1 (q_gr w a0 1 27) fun r20 =>
      q_b1 (q_ld w r20 2 x3) fun v21 =>
      if v21 = 0 then
        q_ob (q_z 0) <| q_b1 (q_st w r10 2 x3 0) fun w22 =>
        c143 a0 x1 x2 (x3 + 1) w22
      else
        q_b1 (q_gr w a0 1 27) fun r23 =>
        q_b1 (q_ld w r23 2 (x3 ||| ((1 : Int32) <<< (x2 &&& 31)))) fun v24 =>
        if v24 = 0 then
          q_ob (q_z 0) <| q_b1 (q_st w r10 2 x3 0) fun w25 =>
          c143 a0 x1 x2 (x3 + 1) w25
        else
          q_ob (q_z 1) <| q_b1 (q_st w r10 2 x3 1) fun w26 =>
          c143 a0 x1 x2 (x3 + 1) w26
def ll_MO_play0_143  (c136 : Nat → Int32 → Int32 → qw → Option (qw)) : Nat → Nat → Int32 → Int32 → Int32 → qw → Option (qw)
  | 0 => fun _ _ _ _ _ => none
  | n + 1 => lb_MO_play0_143  c136 (ll_MO_play0_143  c136 n)
def lb_MO_play0_17  (c2 : Nat → Int32 → Int32 → qw → Option (qw)) (c17 : Nat → Int32 → Int32 → Int32 → Int32 → qw → Option (qw)) (a0 : Nat) (x1 : Int32) (x2 : Int32) (x3 : Int32) (x4 : Int32) (w : qw) : Option (qw) :=
  q_b1 (q_gi w a0 1 2) fun v27 =>
  if v27 ≤ x4 then
    q_b1 (q_gr w a0 1 27) fun r28 =>
    q_ob (q_z 1) <| q_b1 (q_st w r28 2 x2 1) fun w29 =>
    ll_MO_play0_76 c2 q_fu a0 x1 x2 x3 0 w29
  else
    if ((x2 >>> (x4 &&& 31)) &&& 1) = 1 then
      q_b1 (q_gr w a0 1 3) fun r34 =>
      q_b1 (q_ld w r34 0 x4) fun v35 =>
      q_b2 (f_MO_bit w v35) fun v37 w36 =>
      c17 a0 x1 x2 (x3 ||| v37) (x4 + 1) w36
    else
      q_b1 (q_gr w a0 1 3) fun r30 =>
      q_b1 (q_ld w r30 0 x4) fun v31 =>
      q_b2 (f_MO_bit w (-v31)) fun v33 w32 =>
      c17 a0 x1 x2 (x3 ||| v33) (x4 + 1) w32
def ll_MO_play0_17  (c2 : Nat → Int32 → Int32 → qw → Option (qw)) : Nat → Nat → Int32 → Int32 → Int32 → Int32 → qw → Option (qw)
  | 0 => fun _ _ _ _ _ _ => none
  | n + 1 => lb_MO_play0_17  c2 (ll_MO_play0_17  c2 n)
def lb_MO_play0_136  (c136 : Nat → Int32 → Int32 → qw → Option (qw)) (a0 : Nat) (x1 : Int32) (x2 : Int32) (w : qw) : Option (qw) :=
  if x2 < x1 then
    some w
  else
    ll_MO_play0_143 c136 q_fu a0 x1 x2 0 w
def ll_MO_play0_136  : Nat → Nat → Int32 → Int32 → qw → Option (qw)
  | 0 => fun _ _ _ _ => none
  | n + 1 => lb_MO_play0_136  (ll_MO_play0_136  n)
def lb_MO_play0_2  (c2 : Nat → Int32 → Int32 → qw → Option (qw)) (a0 : Nat) (x1 : Int32) (x2 : Int32) (w : qw) : Option (qw) :=
  q_b1 (q_gi w a0 1 2) fun v38 =>
  if ((1 : Int32) <<< (v38 &&& 31)) ≤ x2 then
    q_b1 (q_gi w a0 1 2) fun v39 =>
    ll_MO_play0_136 q_fu a0 x1 (v39 - 1) w
  else
    ll_MO_play0_17 c2 q_fu a0 x1 x2 0 0 w
def ll_MO_play0_2  : Nat → Nat → Int32 → Int32 → qw → Option (qw)
  | 0 => fun _ _ _ _ => none
  | n + 1 => lb_MO_play0_2  (ll_MO_play0_2  n)
def f_MO_play0 (w : qw) (a0 : Nat) (x1 : Int32) : Option (qw) :=
  ll_MO_play0_2 q_fu a0 x1 0 w
set_option maxHeartbeats 4000000 in
set_option maxRecDepth 100000 in
theorem k_MO_play0 {X : qX} (w' : qw) (hC : qC X b_MO_play0 R_MO 5 1 20) (hR : qRv X b_MO_play0 w') (w : qw) (a0 : Nat) (x1 : Int32) (hF : f_MO_play0 w a0 x1 = some w') : qG X 5 0 [(0, .inr (some a0)), (1, .inl x1)] [] w := by
  have L_136 : ∀ (n : Nat) (a0 : Nat) (x1 : Int32) (x2 : Int32) (w : qw), ll_MO_play0_136  n a0 x1 x2 w = some w' → qG X 5 136 [(0, .inr (some a0)), (1, .inl x1), (2, .inl x2)] [] w := by
    intro n_136
    induction n_136 with
    | zero => exact fun _ _ _ _ hF => q_nn (show (none : Option (qw)) = some w' from hF)
    | succ n_136 ih_136 =>
      intro a0 x1 x2 w hF
      have hF : lb_MO_play0_136  (ll_MO_play0_136  n_136) a0 x1 x2 w = some w' := hF
      unfold lb_MO_play0_136 at hF
      have L_143 : ∀ (n : Nat) (a0 : Nat) (x1 : Int32) (x2 : Int32) (x3 : Int32) (w : qw), ll_MO_play0_143  (ll_MO_play0_136  n_136) n a0 x1 x2 x3 w = some w' → qG X 5 143 [(0, .inr (some a0)), (1, .inl x1), (2, .inl x2), (3, .inl x3)] [] w := by
        intro n_143
        induction n_143 with
        | zero => exact fun _ _ _ _ _ hF => q_nn (show (none : Option (qw)) = some w' from hF)
        | succ n_143 ih_143 =>
          intro a0 x1 x2 x3 w hF
          have hF : lb_MO_play0_143  (ll_MO_play0_136  n_136) (ll_MO_play0_143  (ll_MO_play0_136  n_136) n_143) a0 x1 x2 x3 w = some w' := hF
          unfold lb_MO_play0_143 at hF
          refine s_iload_n (pc' := 144) hC d_MO_play0_143 rfl 3 rfl ?_
          refine s_iconst (v := 1) (pc' := 145) hC d_MO_play0_144 rfl (by decide) ?_
          refine s_iload_n (pc' := 146) hC d_MO_play0_145 rfl 2 rfl ?_
          refine s_ishl (pc' := 147) hC d_MO_play0_146 rfl ?_
          refine s_icmp_ge (tgt := 228) (pc' := 150) hC d_MO_play0_147 rfl rfl hF (fun hF => ?_) (fun hF => ?_)
          · refine s_iinc (pc' := 231) (n' := (-1)) (lv' := [(2, .inl (x2 + (-1))), (0, .inr (some a0)), (1, .inl x1), (3, .inl x3)]) hC d_MO_play0_228 rfl 2 rfl (by decide) (by decide) rfl ?_
            refine s_goto (tgt := 136) hC d_MO_play0_231 rfl ?_
            exact qG_sub [1, 2, 0] rfl (ih_136 a0 x1 (x2 + (-1)) w hF)
          · refine s_aload_n (pc' := 151) hC d_MO_play0_150 rfl 0 rfl ?_
            refine s_getr (pc' := 154) hC qf_MO_50 d_MO_play0_151 rfl hF (fun r10 hF => ?_)
            refine s_iload_n (pc' := 155) hC d_MO_play0_154 rfl 3 rfl ?_
            refine s_aload_n (pc' := 156) hC d_MO_play0_155 rfl 0 rfl ?_
            refine s_getr (pc' := 159) hC qf_MO_16 d_MO_play0_156 rfl hF (fun r11 hF => ?_)
            refine s_iload_n (pc' := 160) hC d_MO_play0_159 rfl 2 rfl ?_
            refine s_zald (pc' := 161) hC d_MO_play0_160 rfl hF (fun v12 hF => ?_)
            refine s_if_eq (tgt := 194) (pc' := 164) hC d_MO_play0_161 rfl rfl hF (fun hF => ?_) (fun hF => ?_)
            · refine s_aload_n (pc' := 195) hC d_MO_play0_194 rfl 0 rfl ?_
              refine s_getr (pc' := 198) hC qf_MO_50 d_MO_play0_195 rfl hF (fun r13 hF => ?_)
              refine s_iload_n (pc' := 199) hC d_MO_play0_198 rfl 3 rfl ?_
              refine s_zald (pc' := 200) hC d_MO_play0_199 rfl hF (fun v14 hF => ?_)
              refine s_if_ne (tgt := 216) (pc' := 203) hC d_MO_play0_200 rfl rfl hF (fun hF => ?_) (fun hF => ?_)
              · refine s_iconst (v := 1) (pc' := 217) hC d_MO_play0_216 rfl (by decide) ?_
                refine s_goto (tgt := 221) hC d_MO_play0_217 rfl ?_
                refine s_zast (pc' := 222) hC d_MO_play0_221 rfl hF (fun w15 hF => ?_)
                refine s_iinc (pc' := 225) (n' := 1) (lv' := [(3, .inl (x3 + 1)), (0, .inr (some a0)), (1, .inl x1), (2, .inl x2)]) hC d_MO_play0_222 rfl 3 rfl (by decide) (by decide) rfl ?_
                refine s_goto (tgt := 143) hC d_MO_play0_225 rfl ?_
                exact qG_sub [1, 2, 3, 0] rfl (ih_143 a0 x1 x2 (x3 + 1) w15 hF)
              · refine s_aload_n (pc' := 204) hC d_MO_play0_203 rfl 0 rfl ?_
                refine s_getr (pc' := 207) hC qf_MO_50 d_MO_play0_204 rfl hF (fun r16 hF => ?_)
                refine s_iload_n (pc' := 208) hC d_MO_play0_207 rfl 3 rfl ?_
                refine s_iconst (v := 1) (pc' := 209) hC d_MO_play0_208 rfl (by decide) ?_
                refine s_iload_n (pc' := 210) hC d_MO_play0_209 rfl 2 rfl ?_
                refine s_ishl (pc' := 211) hC d_MO_play0_210 rfl ?_
                refine s_ior (pc' := 212) hC d_MO_play0_211 rfl ?_
                refine s_zald (pc' := 213) hC d_MO_play0_212 rfl hF (fun v17 hF => ?_)
                refine s_if_eq (tgt := 220) (pc' := 216) hC d_MO_play0_213 rfl rfl hF (fun hF => ?_) (fun hF => ?_)
                · refine s_iconst (v := 0) (pc' := 221) hC d_MO_play0_220 rfl (by decide) ?_
                  refine s_zast (pc' := 222) hC d_MO_play0_221 rfl hF (fun w18 hF => ?_)
                  refine s_iinc (pc' := 225) (n' := 1) (lv' := [(3, .inl (x3 + 1)), (0, .inr (some a0)), (1, .inl x1), (2, .inl x2)]) hC d_MO_play0_222 rfl 3 rfl (by decide) (by decide) rfl ?_
                  refine s_goto (tgt := 143) hC d_MO_play0_225 rfl ?_
                  exact qG_sub [1, 2, 3, 0] rfl (ih_143 a0 x1 x2 (x3 + 1) w18 hF)
                · refine s_iconst (v := 1) (pc' := 217) hC d_MO_play0_216 rfl (by decide) ?_
                  refine s_goto (tgt := 221) hC d_MO_play0_217 rfl ?_
                  refine s_zast (pc' := 222) hC d_MO_play0_221 rfl hF (fun w19 hF => ?_)
                  refine s_iinc (pc' := 225) (n' := 1) (lv' := [(3, .inl (x3 + 1)), (0, .inr (some a0)), (1, .inl x1), (2, .inl x2)]) hC d_MO_play0_222 rfl 3 rfl (by decide) (by decide) rfl ?_
                  refine s_goto (tgt := 143) hC d_MO_play0_225 rfl ?_
                  exact qG_sub [1, 2, 3, 0] rfl (ih_143 a0 x1 x2 (x3 + 1) w19 hF)
            · refine s_aload_n (pc' := 165) hC d_MO_play0_164 rfl 0 rfl ?_
              refine s_getr (pc' := 168) hC qf_MO_50 d_MO_play0_165 rfl hF (fun r20 hF => ?_)
              refine s_iload_n (pc' := 169) hC d_MO_play0_168 rfl 3 rfl ?_
              refine s_zald (pc' := 170) hC d_MO_play0_169 rfl hF (fun v21 hF => ?_)
              refine s_if_eq (tgt := 190) (pc' := 173) hC d_MO_play0_170 rfl rfl hF (fun hF => ?_) (fun hF => ?_)
              · refine s_iconst (v := 0) (pc' := 191) hC d_MO_play0_190 rfl (by decide) ?_
                refine s_goto (tgt := 221) hC d_MO_play0_191 rfl ?_
                refine s_zast (pc' := 222) hC d_MO_play0_221 rfl hF (fun w22 hF => ?_)
                refine s_iinc (pc' := 225) (n' := 1) (lv' := [(3, .inl (x3 + 1)), (0, .inr (some a0)), (1, .inl x1), (2, .inl x2)]) hC d_MO_play0_222 rfl 3 rfl (by decide) (by decide) rfl ?_
                refine s_goto (tgt := 143) hC d_MO_play0_225 rfl ?_
                exact qG_sub [1, 2, 3, 0] rfl (ih_143 a0 x1 x2 (x3 + 1) w22 hF)
              · refine s_aload_n (pc' := 174) hC d_MO_play0_173 rfl 0 rfl ?_
                refine s_getr (pc' := 177) hC qf_MO_50 d_MO_play0_174 rfl hF (fun r23 hF => ?_)
                refine s_iload_n (pc' := 178) hC d_MO_play0_177 rfl 3 rfl ?_
                refine s_iconst (v := 1) (pc' := 179) hC d_MO_play0_178 rfl (by decide) ?_
                refine s_iload_n (pc' := 180) hC d_MO_play0_179 rfl 2 rfl ?_
                refine s_ishl (pc' := 181) hC d_MO_play0_180 rfl ?_
                refine s_ior (pc' := 182) hC d_MO_play0_181 rfl ?_
                refine s_zald (pc' := 183) hC d_MO_play0_182 rfl hF (fun v24 hF => ?_)
                refine s_if_eq (tgt := 190) (pc' := 186) hC d_MO_play0_183 rfl rfl hF (fun hF => ?_) (fun hF => ?_)
                · refine s_iconst (v := 0) (pc' := 191) hC d_MO_play0_190 rfl (by decide) ?_
                  refine s_goto (tgt := 221) hC d_MO_play0_191 rfl ?_
                  refine s_zast (pc' := 222) hC d_MO_play0_221 rfl hF (fun w25 hF => ?_)
                  refine s_iinc (pc' := 225) (n' := 1) (lv' := [(3, .inl (x3 + 1)), (0, .inr (some a0)), (1, .inl x1), (2, .inl x2)]) hC d_MO_play0_222 rfl 3 rfl (by decide) (by decide) rfl ?_
                  refine s_goto (tgt := 143) hC d_MO_play0_225 rfl ?_
                  exact qG_sub [1, 2, 3, 0] rfl (ih_143 a0 x1 x2 (x3 + 1) w25 hF)
                · refine s_iconst (v := 1) (pc' := 187) hC d_MO_play0_186 rfl (by decide) ?_
                  refine s_goto (tgt := 221) hC d_MO_play0_187 rfl ?_
                  refine s_zast (pc' := 222) hC d_MO_play0_221 rfl hF (fun w26 hF => ?_)
                  refine s_iinc (pc' := 225) (n' := 1) (lv' := [(3, .inl (x3 + 1)), (0, .inr (some a0)), (1, .inl x1), (2, .inl x2)]) hC d_MO_play0_222 rfl 3 rfl (by decide) (by decide) rfl ?_
                  refine s_goto (tgt := 143) hC d_MO_play0_225 rfl ?_
                  exact qG_sub [1, 2, 3, 0] rfl (ih_143 a0 x1 x2 (x3 + 1) w26 hF)
      refine s_iload_n (pc' := 137) hC d_MO_play0_136 rfl 2 rfl ?_
      refine s_iload_n (pc' := 138) hC d_MO_play0_137 rfl 1 rfl ?_
      refine s_icmp_lt (tgt := 234) (pc' := 141) hC d_MO_play0_138 rfl rfl hF (fun hF => ?_) (fun hF => ?_)
      · exact s_vret hC hR d_MO_play0_234 hF
      · refine s_iconst (v := 0) (pc' := 142) hC d_MO_play0_141 rfl (by decide) ?_
        refine s_istore_n (pc' := 143) (lv' := [(3, .inl 0), (0, .inr (some a0)), (1, .inl x1), (2, .inl x2)]) hC d_MO_play0_142 rfl (by decide) rfl ?_
        exact qG_sub [1, 2, 3, 0] rfl (L_143 q_fu a0 x1 x2 0 w hF)
  have L_2 : ∀ (n : Nat) (a0 : Nat) (x1 : Int32) (x2 : Int32) (w : qw), ll_MO_play0_2  n a0 x1 x2 w = some w' → qG X 5 2 [(0, .inr (some a0)), (1, .inl x1), (2, .inl x2)] [] w := by
    intro n_2
    induction n_2 with
    | zero => exact fun _ _ _ _ hF => q_nn (show (none : Option (qw)) = some w' from hF)
    | succ n_2 ih_2 =>
      intro a0 x1 x2 w hF
      have hF : lb_MO_play0_2  (ll_MO_play0_2  n_2) a0 x1 x2 w = some w' := hF
      unfold lb_MO_play0_2 at hF
      have L_76 : ∀ (n : Nat) (a0 : Nat) (x1 : Int32) (x2 : Int32) (x3 : Int32) (x4 : Int32) (w : qw), ll_MO_play0_76  (ll_MO_play0_2  n_2) n a0 x1 x2 x3 x4 w = some w' → qG X 5 76 [(0, .inr (some a0)), (1, .inl x1), (2, .inl x2), (3, .inl x3), (4, .inl x4)] [] w := by
        intro n_76
        induction n_76 with
        | zero => exact fun _ _ _ _ _ _ hF => q_nn (show (none : Option (qw)) = some w' from hF)
        | succ n_76 ih_76 =>
          intro a0 x1 x2 x3 x4 w hF
          have hF : lb_MO_play0_76  (ll_MO_play0_2  n_2) (ll_MO_play0_76  (ll_MO_play0_2  n_2) n_76) a0 x1 x2 x3 x4 w = some w' := hF
          unfold lb_MO_play0_76 at hF
          refine s_iload (pc' := 78) hC d_MO_play0_76 rfl 4 rfl ?_
          refine s_aload_n (pc' := 79) hC d_MO_play0_78 rfl 0 rfl ?_
          refine s_geti (pc' := 82) hC qf_MO_102 d_MO_play0_79 rfl hF (fun v1 hF => ?_)
          refine s_icmp_ge (tgt := 123) (pc' := 85) hC d_MO_play0_82 rfl rfl hF (fun hF => ?_) (fun hF => ?_)
          · refine s_iinc (pc' := 126) (n' := 1) (lv' := [(2, .inl (x2 + 1)), (0, .inr (some a0)), (1, .inl x1), (3, .inl x3), (4, .inl x4)]) hC d_MO_play0_123 rfl 2 rfl (by decide) (by decide) rfl ?_
            refine s_goto (tgt := 2) hC d_MO_play0_126 rfl ?_
            exact qG_sub [1, 2, 0] rfl (ih_2 a0 x1 (x2 + 1) w hF)
          · refine s_aload_n (pc' := 86) hC d_MO_play0_85 rfl 0 rfl ?_
            refine s_getr (pc' := 89) hC qf_MO_50 d_MO_play0_86 rfl hF (fun r2 hF => ?_)
            refine s_iload_n (pc' := 90) hC d_MO_play0_89 rfl 2 rfl ?_
            refine s_aload_n (pc' := 91) hC d_MO_play0_90 rfl 0 rfl ?_
            refine s_getr (pc' := 94) hC qf_MO_50 d_MO_play0_91 rfl hF (fun r3 hF => ?_)
            refine s_iload_n (pc' := 95) hC d_MO_play0_94 rfl 2 rfl ?_
            refine s_zald (pc' := 96) hC d_MO_play0_95 rfl hF (fun v4 hF => ?_)
            refine s_if_eq (tgt := 115) (pc' := 99) hC d_MO_play0_96 rfl rfl hF (fun hF => ?_) (fun hF => ?_)
            · refine s_iconst (v := 0) (pc' := 116) hC d_MO_play0_115 rfl (by decide) ?_
              refine s_zast (pc' := 117) hC d_MO_play0_116 rfl hF (fun w5 hF => ?_)
              refine s_iinc (pc' := 120) (n' := 1) (lv' := [(4, .inl (x4 + 1)), (0, .inr (some a0)), (1, .inl x1), (2, .inl x2), (3, .inl x3)]) hC d_MO_play0_117 rfl 4 rfl (by decide) (by decide) rfl ?_
              refine s_goto (tgt := 76) hC d_MO_play0_120 rfl ?_
              exact qG_sub [1, 2, 3, 4, 0] rfl (ih_76 a0 x1 x2 x3 (x4 + 1) w5 hF)
            · refine s_aload_n (pc' := 100) hC d_MO_play0_99 rfl 0 rfl ?_
              refine s_getr (pc' := 103) hC qf_MO_23 d_MO_play0_100 rfl hF (fun r6 hF => ?_)
              refine s_iload (pc' := 105) hC d_MO_play0_103 rfl 4 rfl ?_
              refine s_iald (pc' := 106) hC d_MO_play0_105 rfl hF (fun v7 hF => ?_)
              refine s_iload_n (pc' := 107) hC d_MO_play0_106 rfl 3 rfl ?_
              refine s_iand (pc' := 108) hC d_MO_play0_107 rfl ?_
              refine s_if_eq (tgt := 115) (pc' := 111) hC d_MO_play0_108 rfl rfl hF (fun hF => ?_) (fun hF => ?_)
              · refine s_iconst (v := 0) (pc' := 116) hC d_MO_play0_115 rfl (by decide) ?_
                refine s_zast (pc' := 117) hC d_MO_play0_116 rfl hF (fun w8 hF => ?_)
                refine s_iinc (pc' := 120) (n' := 1) (lv' := [(4, .inl (x4 + 1)), (0, .inr (some a0)), (1, .inl x1), (2, .inl x2), (3, .inl x3)]) hC d_MO_play0_117 rfl 4 rfl (by decide) (by decide) rfl ?_
                refine s_goto (tgt := 76) hC d_MO_play0_120 rfl ?_
                exact qG_sub [1, 2, 3, 4, 0] rfl (ih_76 a0 x1 x2 x3 (x4 + 1) w8 hF)
              · refine s_iconst (v := 1) (pc' := 112) hC d_MO_play0_111 rfl (by decide) ?_
                refine s_goto (tgt := 116) hC d_MO_play0_112 rfl ?_
                refine s_zast (pc' := 117) hC d_MO_play0_116 rfl hF (fun w9 hF => ?_)
                refine s_iinc (pc' := 120) (n' := 1) (lv' := [(4, .inl (x4 + 1)), (0, .inr (some a0)), (1, .inl x1), (2, .inl x2), (3, .inl x3)]) hC d_MO_play0_117 rfl 4 rfl (by decide) (by decide) rfl ?_
                refine s_goto (tgt := 76) hC d_MO_play0_120 rfl ?_
                exact qG_sub [1, 2, 3, 4, 0] rfl (ih_76 a0 x1 x2 x3 (x4 + 1) w9 hF)
      have L_17 : ∀ (n : Nat) (a0 : Nat) (x1 : Int32) (x2 : Int32) (x3 : Int32) (x4 : Int32) (w : qw), ll_MO_play0_17  (ll_MO_play0_2  n_2) n a0 x1 x2 x3 x4 w = some w' → qG X 5 17 [(0, .inr (some a0)), (1, .inl x1), (2, .inl x2), (3, .inl x3), (4, .inl x4)] [] w := by
        intro n_17
        induction n_17 with
        | zero => exact fun _ _ _ _ _ _ hF => q_nn (show (none : Option (qw)) = some w' from hF)
        | succ n_17 ih_17 =>
          intro a0 x1 x2 x3 x4 w hF
          have hF : lb_MO_play0_17  (ll_MO_play0_2  n_2) (ll_MO_play0_17  (ll_MO_play0_2  n_2) n_17) a0 x1 x2 x3 x4 w = some w' := hF
          unfold lb_MO_play0_17 at hF
          refine s_iload (pc' := 19) hC d_MO_play0_17 rfl 4 rfl ?_
          refine s_aload_n (pc' := 20) hC d_MO_play0_19 rfl 0 rfl ?_
          refine s_geti (pc' := 23) hC qf_MO_99 d_MO_play0_20 rfl hF (fun v27 hF => ?_)
          refine s_icmp_ge (tgt := 66) (pc' := 26) hC d_MO_play0_23 rfl rfl hF (fun hF => ?_) (fun hF => ?_)
          · refine s_aload_n (pc' := 67) hC d_MO_play0_66 rfl 0 rfl ?_
            refine s_getr (pc' := 70) hC qf_MO_50 d_MO_play0_67 rfl hF (fun r28 hF => ?_)
            refine s_iload_n (pc' := 71) hC d_MO_play0_70 rfl 2 rfl ?_
            refine s_iconst (v := 1) (pc' := 72) hC d_MO_play0_71 rfl (by decide) ?_
            refine s_zast (pc' := 73) hC d_MO_play0_72 rfl hF (fun w29 hF => ?_)
            refine s_iconst (v := 0) (pc' := 74) hC d_MO_play0_73 rfl (by decide) ?_
            refine s_istore (pc' := 76) (lv' := [(4, .inl 0), (0, .inr (some a0)), (1, .inl x1), (2, .inl x2), (3, .inl x3)]) hC d_MO_play0_74 rfl (by decide) rfl ?_
            exact qG_sub [1, 2, 3, 4, 0] rfl (L_76 q_fu a0 x1 x2 x3 0 w29 hF)
          · refine s_iload_n (pc' := 27) hC d_MO_play0_26 rfl 3 rfl ?_
            refine s_iload_n (pc' := 28) hC d_MO_play0_27 rfl 2 rfl ?_
            refine s_iload (pc' := 30) hC d_MO_play0_28 rfl 4 rfl ?_
            refine s_ishr (pc' := 31) hC d_MO_play0_30 rfl ?_
            refine s_iconst (v := 1) (pc' := 32) hC d_MO_play0_31 rfl (by decide) ?_
            refine s_iand (pc' := 33) hC d_MO_play0_32 rfl ?_
            refine s_iconst (v := 1) (pc' := 34) hC d_MO_play0_33 rfl (by decide) ?_
            refine s_icmp_ne (tgt := 47) (pc' := 37) hC d_MO_play0_34 rfl rfl hF (fun hF => ?_) (fun hF => ?_)
            · refine s_aload_n (pc' := 48) hC d_MO_play0_47 rfl 0 rfl ?_
              refine s_getr (pc' := 51) hC qf_MO_13 d_MO_play0_48 rfl hF (fun r30 hF => ?_)
              refine s_iload (pc' := 53) hC d_MO_play0_51 rfl 4 rfl ?_
              refine s_iald (pc' := 54) hC d_MO_play0_53 rfl hF (fun v31 hF => ?_)
              refine s_ineg (pc' := 55) hC d_MO_play0_54 rfl ?_
              refine s_cSi (pc' := 58) (As := [.inl (-v31)]) (rs := [.inl x3]) (fr' := 0) (lo' := 0) hC qs_MO_80 rfl rfl (Nat.le_of_ble_eq_true rfl) ⟨by decide, by decide⟩ d_MO_play0_55 rfl (fun l g sz r w' h => c_MO_bit l g sz w (-v31) r w' h) hF (fun v33 w32 hF => ?_)
              refine s_ior (pc' := 59) hC d_MO_play0_58 rfl ?_
              refine s_istore_n (pc' := 60) (lv' := [(3, .inl (x3 ||| v33)), (0, .inr (some a0)), (1, .inl x1), (2, .inl x2), (4, .inl x4)]) hC d_MO_play0_59 rfl (by decide) rfl ?_
              refine s_iinc (pc' := 63) (n' := 1) (lv' := [(4, .inl (x4 + 1)), (3, .inl (x3 ||| v33)), (0, .inr (some a0)), (1, .inl x1), (2, .inl x2)]) hC d_MO_play0_60 rfl 4 rfl (by decide) (by decide) rfl ?_
              refine s_goto (tgt := 17) hC d_MO_play0_63 rfl ?_
              exact qG_sub [2, 3, 4, 1, 0] rfl (ih_17 a0 x1 x2 (x3 ||| v33) (x4 + 1) w32 hF)
            · refine s_aload_n (pc' := 38) hC d_MO_play0_37 rfl 0 rfl ?_
              refine s_getr (pc' := 41) hC qf_MO_13 d_MO_play0_38 rfl hF (fun r34 hF => ?_)
              refine s_iload (pc' := 43) hC d_MO_play0_41 rfl 4 rfl ?_
              refine s_iald (pc' := 44) hC d_MO_play0_43 rfl hF (fun v35 hF => ?_)
              refine s_goto (tgt := 55) hC d_MO_play0_44 rfl ?_
              refine s_cSi (pc' := 58) (As := [.inl v35]) (rs := [.inl x3]) (fr' := 0) (lo' := 0) hC qs_MO_80 rfl rfl (Nat.le_of_ble_eq_true rfl) ⟨by decide, by decide⟩ d_MO_play0_55 rfl (fun l g sz r w' h => c_MO_bit l g sz w v35 r w' h) hF (fun v37 w36 hF => ?_)
              refine s_ior (pc' := 59) hC d_MO_play0_58 rfl ?_
              refine s_istore_n (pc' := 60) (lv' := [(3, .inl (x3 ||| v37)), (0, .inr (some a0)), (1, .inl x1), (2, .inl x2), (4, .inl x4)]) hC d_MO_play0_59 rfl (by decide) rfl ?_
              refine s_iinc (pc' := 63) (n' := 1) (lv' := [(4, .inl (x4 + 1)), (3, .inl (x3 ||| v37)), (0, .inr (some a0)), (1, .inl x1), (2, .inl x2)]) hC d_MO_play0_60 rfl 4 rfl (by decide) (by decide) rfl ?_
              refine s_goto (tgt := 17) hC d_MO_play0_63 rfl ?_
              exact qG_sub [2, 3, 4, 1, 0] rfl (ih_17 a0 x1 x2 (x3 ||| v37) (x4 + 1) w36 hF)
      refine s_iload_n (pc' := 3) hC d_MO_play0_2 rfl 2 rfl ?_
      refine s_iconst (v := 1) (pc' := 4) hC d_MO_play0_3 rfl (by decide) ?_
      refine s_aload_n (pc' := 5) hC d_MO_play0_4 rfl 0 rfl ?_
      refine s_geti (pc' := 8) hC qf_MO_99 d_MO_play0_5 rfl hF (fun v38 hF => ?_)
      refine s_ishl (pc' := 9) hC d_MO_play0_8 rfl ?_
      refine s_icmp_ge (tgt := 129) (pc' := 12) hC d_MO_play0_9 rfl rfl hF (fun hF => ?_) (fun hF => ?_)
      · refine s_aload_n (pc' := 130) hC d_MO_play0_129 rfl 0 rfl ?_
        refine s_geti (pc' := 133) hC qf_MO_99 d_MO_play0_130 rfl hF (fun v39 hF => ?_)
        refine s_iconst (v := 1) (pc' := 134) hC d_MO_play0_133 rfl (by decide) ?_
        refine s_isub (pc' := 135) hC d_MO_play0_134 rfl ?_
        refine s_istore_n (pc' := 136) (lv' := [(2, .inl (v39 - 1)), (0, .inr (some a0)), (1, .inl x1)]) hC d_MO_play0_135 rfl (by decide) rfl ?_
        exact qG_sub [1, 2, 0] rfl (L_136 q_fu a0 x1 (v39 - 1) w hF)
      · refine s_iconst (v := 0) (pc' := 13) hC d_MO_play0_12 rfl (by decide) ?_
        refine s_istore_n (pc' := 14) (lv' := [(3, .inl 0), (0, .inr (some a0)), (1, .inl x1), (2, .inl x2)]) hC d_MO_play0_13 rfl (by decide) rfl ?_
        refine s_iconst (v := 0) (pc' := 15) hC d_MO_play0_14 rfl (by decide) ?_
        refine s_istore (pc' := 17) (lv' := [(4, .inl 0), (3, .inl 0), (0, .inr (some a0)), (1, .inl x1), (2, .inl x2)]) hC d_MO_play0_15 rfl (by decide) rfl ?_
        exact qG_sub [2, 3, 4, 1, 0] rfl (L_17 q_fu a0 x1 x2 0 0 w hF)
  unfold f_MO_play0 at hF
  refine s_iconst (v := 0) (pc' := 1) hC d_MO_play0_0 rfl (by decide) ?_
  refine s_istore_n (pc' := 2) (lv' := [(2, .inl 0), (0, .inr (some a0)), (1, .inl x1)]) hC d_MO_play0_1 rfl (by decide) rfl ?_
  exact qG_sub [1, 2, 0] rfl (L_2 q_fu a0 x1 0 w hF)
theorem c_MO_play0 (l : Launch) (g : qk_G) (sz : Nat) (w : qw) (a0 : Nat) (x1 : Int32) (w' : qw) (hF : f_MO_play0 w a0 x1 = some w') : qMv l g sz y_MO_play0 b_MO_play0 5 none 1 20 [.inr (some a0), .inl x1] w w' := qk_met_v (by decide) (Nat.le_of_ble_eq_true rfl) (fun X hC hR => k_MO_play0 w' hC hR w a0 x1 hF)
theorem qs_MO_161 : qV R_MO 161 y_MO_play0 b_MO_play0 5 none 1 1 := ⟨Or.inl ml_MO_161, ic_MO_play0, ii_MO_play0, is_MO_play0, in_c_MO, ⟨_, _, rfl⟩, by decide +kernel⟩
def lj_MO_play_73  (c4 : Nat → Int32 → Int32 → Int32 → qw → Option (Int32 × qw)) (a0 : Nat) (x1 : Int32) (x2 : Int32) (x3 : Int32) (x4 : Int32) (w : qw) : Option (Int32 × qw) :=
  if x4 = 0 then
    c4 a0 x1 x2 (x3 + 1) w
  else
    c4 a0 x1 (x2 ||| ((1 : Int32) <<< (x3 &&& 31))) (x3 + 1) w
def lj_MO_play_26  (c4 : Nat → Int32 → Int32 → Int32 → qw → Option (Int32 × qw)) (a0 : Nat) (x1 : Int32) (x2 : Int32) (x3 : Int32) (s0 : Int32) (w : qw) : Option (Int32 × qw) :=
  q_b1 (q_gr w a0 1 4) fun r1 =>
  q_b1 (q_ld w r1 2 x3) fun v2 =>
  if v2 = 0 then
    lj_MO_play_73 c4 a0 x1 x2 x3 s0 w
  else
    q_ob (q_is w a0 1) <| q_b1 (f_MO_play0 w a0 (x3 + 1)) fun w3 =>
    q_b1 (q_gr w3 a0 1 27) fun r4 =>
    q_b1 (q_ld w3 r4 2 x2) fun v5 =>
    if v5 = 0 then
      lj_MO_play_73 c4 a0 x1 x2 x3 0 w3
    else
      q_b1 (q_gr w3 a0 1 27) fun r6 =>
      q_b1 (q_ld w3 r6 2 (x2 ||| ((1 : Int32) <<< (x3 &&& 31)))) fun v7 =>
      if v7 = 0 then
        lj_MO_play_73 c4 a0 x1 x2 x3 1 w3
      else
        lj_MO_play_73 c4 a0 x1 x2 x3 0 w3
def lb_MO_play_4  (c4 : Nat → Int32 → Int32 → Int32 → qw → Option (Int32 × qw)) (a0 : Nat) (x1 : Int32) (x2 : Int32) (x3 : Int32) (w : qw) : Option (Int32 × qw) :=
  q_b1 (q_gi w a0 1 2) fun v8 =>
  if v8 ≤ x3 then
    q_b1 (q_gi w a0 1 2) fun v9 =>
    q_ob (q_is w a0 1) <| q_b1 (f_MO_play0 w a0 v9) fun w10 =>
    q_b1 (q_gr w10 a0 1 27) fun r11 =>
    q_b1 (q_ld w10 r11 2 x2) fun v12 =>
    if v12 = 0 then
      some (x2, w10)
    else
      some (x2 + 256, w10)
  else
    if ((x1 >>> (x3 &&& 31)) &&& 1) = 1 then
      lj_MO_play_26 c4 a0 x1 x2 x3 1 w
    else
      lj_MO_play_26 c4 a0 x1 x2 x3 0 w
def ll_MO_play_4  : Nat → Nat → Int32 → Int32 → Int32 → qw → Option (Int32 × qw)
  | 0 => fun _ _ _ _ _ => none
  | n + 1 => lb_MO_play_4  (ll_MO_play_4  n)
def f_MO_play (w : qw) (a0 : Nat) (x1 : Int32) : Option (Int32 × qw) :=
  ll_MO_play_4 q_fu a0 x1 0 0 w
set_option maxHeartbeats 4000000 in
set_option maxRecDepth 100000 in
theorem k_MO_play {X : qX} (r : Int32) (w' : qw) (hC : qC X b_MO_play R_MO 5 2 44) (hR : qRi X b_MO_play r w') (w : qw) (a0 : Nat) (x1 : Int32) (hF : f_MO_play w a0 x1 = some (r, w')) : qG X 5 0 [(0, .inr (some a0)), (1, .inl x1)] [] w := by
  have L_4 : ∀ (n : Nat) (a0 : Nat) (x1 : Int32) (x2 : Int32) (x3 : Int32) (w : qw), ll_MO_play_4  n a0 x1 x2 x3 w = some (r, w') → qG X 5 4 [(0, .inr (some a0)), (1, .inl x1), (2, .inl x2), (3, .inl x3)] [] w := by
    intro n_4
    induction n_4 with
    | zero => exact fun _ _ _ _ _ hF => q_nn (show (none : Option (Int32 × qw)) = some (r, w') from hF)
    | succ n_4 ih_4 =>
      intro a0 x1 x2 x3 w hF
      have hF : lb_MO_play_4  (ll_MO_play_4  n_4) a0 x1 x2 x3 w = some (r, w') := hF
      unfold lb_MO_play_4 at hF
      have J_73 : ∀ (a0 : Nat) (x1 : Int32) (x2 : Int32) (x3 : Int32) (x4 : Int32) (w : qw), lj_MO_play_73  (ll_MO_play_4  n_4) a0 x1 x2 x3 x4 w = some (r, w') → qG X 5 73 [(0, .inr (some a0)), (1, .inl x1), (2, .inl x2), (3, .inl x3), (4, .inl x4)] [] w := by
        intro a0 x1 x2 x3 x4 w hF
        unfold lj_MO_play_73 at hF
        refine s_iload (pc' := 75) hC d_MO_play_73 rfl 4 rfl ?_
        refine s_if_eq (tgt := 86) (pc' := 78) hC d_MO_play_75 rfl rfl hF (fun hF => ?_) (fun hF => ?_)
        · refine s_iload_n (pc' := 87) hC d_MO_play_86 rfl 2 rfl ?_
          refine s_istore_n (pc' := 88) (lv' := [(2, .inl x2), (0, .inr (some a0)), (1, .inl x1), (3, .inl x3), (4, .inl x4)]) hC d_MO_play_87 rfl (by decide) rfl ?_
          refine s_iinc (pc' := 91) (n' := 1) (lv' := [(3, .inl (x3 + 1)), (2, .inl x2), (0, .inr (some a0)), (1, .inl x1), (4, .inl x4)]) hC d_MO_play_88 rfl 3 rfl (by decide) (by decide) rfl ?_
          refine s_goto (tgt := 4) hC d_MO_play_91 rfl ?_
          exact qG_sub [2, 3, 1, 0] rfl (ih_4 a0 x1 x2 (x3 + 1) w hF)
        · refine s_iload_n (pc' := 79) hC d_MO_play_78 rfl 2 rfl ?_
          refine s_iconst (v := 1) (pc' := 80) hC d_MO_play_79 rfl (by decide) ?_
          refine s_iload_n (pc' := 81) hC d_MO_play_80 rfl 3 rfl ?_
          refine s_ishl (pc' := 82) hC d_MO_play_81 rfl ?_
          refine s_ior (pc' := 83) hC d_MO_play_82 rfl ?_
          refine s_goto (tgt := 87) hC d_MO_play_83 rfl ?_
          refine s_istore_n (pc' := 88) (lv' := [(2, .inl (x2 ||| ((1 : Int32) <<< (x3 &&& 31)))), (0, .inr (some a0)), (1, .inl x1), (3, .inl x3), (4, .inl x4)]) hC d_MO_play_87 rfl (by decide) rfl ?_
          refine s_iinc (pc' := 91) (n' := 1) (lv' := [(3, .inl (x3 + 1)), (2, .inl (x2 ||| ((1 : Int32) <<< (x3 &&& 31)))), (0, .inr (some a0)), (1, .inl x1), (4, .inl x4)]) hC d_MO_play_88 rfl 3 rfl (by decide) (by decide) rfl ?_
          refine s_goto (tgt := 4) hC d_MO_play_91 rfl ?_
          exact qG_sub [2, 3, 1, 0] rfl (ih_4 a0 x1 (x2 ||| ((1 : Int32) <<< (x3 &&& 31))) (x3 + 1) w hF)
      have J_26 : ∀ (a0 : Nat) (x1 : Int32) (x2 : Int32) (x3 : Int32) (s0 : Int32) (w : qw), lj_MO_play_26  (ll_MO_play_4  n_4) a0 x1 x2 x3 s0 w = some (r, w') → qG X 5 26 [(0, .inr (some a0)), (1, .inl x1), (2, .inl x2), (3, .inl x3)] [.inl s0] w := by
        intro a0 x1 x2 x3 s0 w hF
        unfold lj_MO_play_26 at hF
        refine s_istore (pc' := 28) (lv' := [(4, .inl s0), (0, .inr (some a0)), (1, .inl x1), (2, .inl x2), (3, .inl x3)]) hC d_MO_play_26 rfl (by decide) rfl ?_
        refine s_aload_n (pc' := 29) hC d_MO_play_28 rfl 1 rfl ?_
        refine s_getr (pc' := 32) hC qf_MO_16 d_MO_play_29 rfl hF (fun r1 hF => ?_)
        refine s_iload_n (pc' := 33) hC d_MO_play_32 rfl 4 rfl ?_
        refine s_zald (pc' := 34) hC d_MO_play_33 rfl hF (fun v2 hF => ?_)
        refine s_if_eq (tgt := 73) (pc' := 37) hC d_MO_play_34 rfl rfl hF (fun hF => ?_) (fun hF => ?_)
        · exact qG_sub [1, 2, 3, 4, 0] rfl (J_73 a0 x1 x2 x3 s0 w hF)
        · refine s_aload_n (pc' := 38) hC d_MO_play_37 rfl 1 rfl ?_
          refine s_iload_n (pc' := 39) hC d_MO_play_38 rfl 4 rfl ?_
          refine s_iconst (v := 1) (pc' := 40) hC d_MO_play_39 rfl (by decide) ?_
          refine s_iadd (pc' := 41) hC d_MO_play_40 rfl ?_
          refine s_cVv (pc' := 44) (As := [.inl (x3 + 1)]) (rs := []) (a := a0) (fr' := 1) (lo' := 20) hC qs_MO_161 rfl rfl (Nat.le_of_ble_eq_true rfl) ⟨by decide, by decide⟩ d_MO_play_41 rfl (fun l g sz w' h => c_MO_play0 l g sz w a0 (x3 + 1) w' h) hF (fun w3 hF => ?_)
          refine s_aload_n (pc' := 45) hC d_MO_play_44 rfl 1 rfl ?_
          refine s_getr (pc' := 48) hC qf_MO_50 d_MO_play_45 rfl hF (fun r4 hF => ?_)
          refine s_iload_n (pc' := 49) hC d_MO_play_48 rfl 3 rfl ?_
          refine s_zald (pc' := 50) hC d_MO_play_49 rfl hF (fun v5 hF => ?_)
          refine s_if_eq (tgt := 70) (pc' := 53) hC d_MO_play_50 rfl rfl hF (fun hF => ?_) (fun hF => ?_)
          · refine s_iconst (v := 0) (pc' := 71) hC d_MO_play_70 rfl (by decide) ?_
            refine s_istore (pc' := 73) (lv' := [(4, .inl 0), (0, .inr (some a0)), (1, .inl x1), (2, .inl x2), (3, .inl x3)]) hC d_MO_play_71 rfl (by decide) rfl ?_
            exact qG_sub [1, 2, 3, 4, 0] rfl (J_73 a0 x1 x2 x3 0 w3 hF)
          · refine s_aload_n (pc' := 54) hC d_MO_play_53 rfl 1 rfl ?_
            refine s_getr (pc' := 57) hC qf_MO_50 d_MO_play_54 rfl hF (fun r6 hF => ?_)
            refine s_iload_n (pc' := 58) hC d_MO_play_57 rfl 3 rfl ?_
            refine s_iconst (v := 1) (pc' := 59) hC d_MO_play_58 rfl (by decide) ?_
            refine s_iload_n (pc' := 60) hC d_MO_play_59 rfl 4 rfl ?_
            refine s_ishl (pc' := 61) hC d_MO_play_60 rfl ?_
            refine s_ior (pc' := 62) hC d_MO_play_61 rfl ?_
            refine s_zald (pc' := 63) hC d_MO_play_62 rfl hF (fun v7 hF => ?_)
            refine s_if_ne (tgt := 70) (pc' := 66) hC d_MO_play_63 rfl rfl hF (fun hF => ?_) (fun hF => ?_)
            · refine s_iconst (v := 0) (pc' := 71) hC d_MO_play_70 rfl (by decide) ?_
              refine s_istore (pc' := 73) (lv' := [(4, .inl 0), (0, .inr (some a0)), (1, .inl x1), (2, .inl x2), (3, .inl x3)]) hC d_MO_play_71 rfl (by decide) rfl ?_
              exact qG_sub [1, 2, 3, 4, 0] rfl (J_73 a0 x1 x2 x3 0 w3 hF)
            · refine s_iconst (v := 1) (pc' := 67) hC d_MO_play_66 rfl (by decide) ?_
              refine s_goto (tgt := 71) hC d_MO_play_67 rfl ?_
              refine s_istore (pc' := 73) (lv' := [(4, .inl 1), (0, .inr (some a0)), (1, .inl x1), (2, .inl x2), (3, .inl x3)]) hC d_MO_play_71 rfl (by decide) rfl ?_
              exact qG_sub [1, 2, 3, 4, 0] rfl (J_73 a0 x1 x2 x3 1 w3 hF)
      refine s_iload_n (pc' := 5) hC d_MO_play_4 rfl 3 rfl ?_
      refine s_aload_n (pc' := 6) hC d_MO_play_5 rfl 0 rfl ?_
      refine s_geti (pc' := 9) hC qf_MO_99 d_MO_play_6 rfl hF (fun v8 hF => ?_)
      refine s_icmp_ge (tgt := 94) (pc' := 12) hC d_MO_play_9 rfl rfl hF (fun hF => ?_) (fun hF => ?_)
      · refine s_aload_n (pc' := 95) hC d_MO_play_94 rfl 0 rfl ?_
        refine s_aload_n (pc' := 96) hC d_MO_play_95 rfl 0 rfl ?_
        refine s_geti (pc' := 99) hC qf_MO_99 d_MO_play_96 rfl hF (fun v9 hF => ?_)
        refine s_cVv (pc' := 102) (As := [.inl v9]) (rs := []) (a := a0) (fr' := 1) (lo' := 20) hC qs_MO_161 rfl rfl (Nat.le_of_ble_eq_true rfl) ⟨by decide, by decide⟩ d_MO_play_99 rfl (fun l g sz w' h => c_MO_play0 l g sz w a0 v9 w' h) hF (fun w10 hF => ?_)
        refine s_aload_n (pc' := 103) hC d_MO_play_102 rfl 0 rfl ?_
        refine s_getr (pc' := 106) hC qf_MO_50 d_MO_play_103 rfl hF (fun r11 hF => ?_)
        refine s_iload_n (pc' := 107) hC d_MO_play_106 rfl 2 rfl ?_
        refine s_zald (pc' := 108) hC d_MO_play_107 rfl hF (fun v12 hF => ?_)
        refine s_if_eq (tgt := 119) (pc' := 111) hC d_MO_play_108 rfl rfl hF (fun hF => ?_) (fun hF => ?_)
        · refine s_iload_n (pc' := 120) hC d_MO_play_119 rfl 2 rfl ?_
          exact s_iret hC hR d_MO_play_120 hF
        · refine s_iload_n (pc' := 112) hC d_MO_play_111 rfl 2 rfl ?_
          refine s_sipush (v := 256) (pc' := 115) hC d_MO_play_112 rfl (by decide) ?_
          refine s_iadd (pc' := 116) hC d_MO_play_115 rfl ?_
          refine s_goto (tgt := 120) hC d_MO_play_116 rfl ?_
          exact s_iret hC hR d_MO_play_120 hF
      · refine s_iload_n (pc' := 13) hC d_MO_play_12 rfl 1 rfl ?_
        refine s_iload_n (pc' := 14) hC d_MO_play_13 rfl 3 rfl ?_
        refine s_ishr (pc' := 15) hC d_MO_play_14 rfl ?_
        refine s_iconst (v := 1) (pc' := 16) hC d_MO_play_15 rfl (by decide) ?_
        refine s_iand (pc' := 17) hC d_MO_play_16 rfl ?_
        refine s_iconst (v := 1) (pc' := 18) hC d_MO_play_17 rfl (by decide) ?_
        refine s_icmp_ne (tgt := 25) (pc' := 21) hC d_MO_play_18 rfl rfl hF (fun hF => ?_) (fun hF => ?_)
        · refine s_iconst (v := 0) (pc' := 26) hC d_MO_play_25 rfl (by decide) ?_
          exact qG_sub [0, 1, 2, 3] rfl (J_26 a0 x1 x2 x3 0 w hF)
        · refine s_iconst (v := 1) (pc' := 22) hC d_MO_play_21 rfl (by decide) ?_
          refine s_goto (tgt := 26) hC d_MO_play_22 rfl ?_
          exact qG_sub [0, 1, 2, 3] rfl (J_26 a0 x1 x2 x3 1 w hF)
  unfold f_MO_play at hF
  refine s_iconst (v := 0) (pc' := 1) hC d_MO_play_0 rfl (by decide) ?_
  refine s_istore_n (pc' := 2) (lv' := [(2, .inl 0), (0, .inr (some a0)), (1, .inl x1)]) hC d_MO_play_1 rfl (by decide) rfl ?_
  refine s_iconst (v := 0) (pc' := 3) hC d_MO_play_2 rfl (by decide) ?_
  refine s_istore_n (pc' := 4) (lv' := [(3, .inl 0), (2, .inl 0), (0, .inr (some a0)), (1, .inl x1)]) hC d_MO_play_3 rfl (by decide) rfl ?_
  exact qG_sub [2, 3, 1, 0] rfl (L_4 q_fu a0 x1 0 0 w hF)
theorem c_MO_play (l : Launch) (g : qk_G) (sz : Nat) (w : qw) (a0 : Nat) (x1 : Int32) (r : Int32) (w' : qw) (hF : f_MO_play w a0 x1 = some (r, w')) : qMi l g sz y_MO_play b_MO_play 5 (some .int) 2 44 [.inr (some a0), .inl x1] w r w' := qk_met_i (by decide) (Nat.le_of_ble_eq_true rfl) (fun X hC hR => k_MO_play r w' hC hR w a0 x1 hF)
theorem qp_MO_60 : qP R_MO 60 1 20 .boolean := ⟨R_MO, F_MO, 28, t_MO, rfl, by decide, in_MO, Or.inl fl_MO_60, t_MO_ok, n_MO, rfl, by decide +kernel⟩
theorem qp_MO_71 : qP R_MO 71 1 22 .int := ⟨R_MO, F_MO, 28, t_MO, rfl, by decide, in_MO, Or.inl fl_MO_71, t_MO_ok, n_MO, rfl, by decide +kernel⟩
theorem qf_MO_74 : qF R_MO 74 1 12 := ⟨R_MO, F_MO, 28, rfl, by decide, in_MO, Or.inl fl_MO_74⟩
theorem qf_MO_35 : qF R_MO 35 1 13 := ⟨R_MO, F_MO, 28, rfl, by decide, in_MO, Or.inl fl_MO_35⟩
theorem qp_MO_74 : qP R_MO 74 1 12 .int := ⟨R_MO, F_MO, 28, t_MO, rfl, by decide, in_MO, Or.inl fl_MO_74, t_MO_ok, n_MO, rfl, by decide +kernel⟩
theorem qf_MO_57 : qF R_MO 57 1 19 := ⟨R_MO, F_MO, 28, rfl, by decide, in_MO, Or.inl fl_MO_57⟩
theorem qs_MO_67 : qV R_MO 67 y_MO_readInBlock b_MO_readInBlock 2 (some .int) 1 1 := ⟨Or.inl ml_MO_67, ic_MO_readInBlock, ii_MO_readInBlock, is_MO_readInBlock, in_c_MO, ⟨_, _, rfl⟩, by decide +kernel⟩
def lj_MO_read_52  (a0 : Nat) (s0 : Int32) (b1 : Nat) (w : qw) : Option (Int32 × qw) :=
  q_ob (q_z s0) <| q_b1 (q_pf w b1 1 20 (.inl s0)) fun w1 =>
  q_b1 (q_pf w1 a0 1 21 (.inl 0)) fun w2 =>
  q_b1 (q_pf w2 a0 1 19 (.inl 1)) fun w3 =>
  some (0, w3)
def lj_MO_read_179  (a0 : Nat) (x1 : Int32) (s0 : Int32) (b1 : Nat) (w : qw) : Option (Int32 × qw) :=
  q_b1 (q_ld w b1 0 s0) fun v4 =>
  if 0 ≤ v4 then
    q_b1 (q_gi w a0 1 22) fun v5 =>
    q_b1 (q_gi w a0 1 22) fun v6 =>
    q_b2 (f_MO_other w v6) fun v8 w7 =>
    q_b2 (f_MO_bit w7 x1) fun v10 w9 =>
    if ((v5 ||| v8) &&& v10) = 0 then
      q_b1 (q_gi w9 a0 1 22) fun v11 =>
      q_b2 (f_MO_bit w9 x1) fun v13 w12 =>
      q_b1 (q_pf w12 a0 1 22 (.inl (v11 ||| v13))) fun w14 =>
      q_b1 (q_gi w14 a0 1 21) fun v15 =>
      q_b1 (q_pf w14 a0 1 21 (.inl (v15 + 1))) fun w16 =>
      some (0, w16)
    else
      some (3, w9)
  else
    some (2, w)
def lj_MO_read_39  (a0 : Nat) (x1 : Int32) (w : qw) : Option (Int32 × qw) :=
  if x1 = 4097 then
    lj_MO_read_52 a0 1 a0 w
  else
    lj_MO_read_52 a0 0 a0 w
def lj_MO_read_103  (a0 : Nat) (x1 : Int32) (w : qw) : Option (Int32 × qw) :=
  if x1 = 0 then
    q_b1 (q_gi w a0 1 12) fun v18 =>
    if v18 = 12 then
      some (4, w)
    else
      q_b1 (q_gr w a0 1 13) fun r19 =>
      q_b1 (q_gi w a0 1 12) fun v20 =>
      q_b1 (q_gi w a0 1 22) fun v21 =>
      q_b1 (q_st w r19 0 v20 v21) fun w22 =>
      q_b1 (q_gi w22 a0 1 12) fun v23 =>
      q_b1 (q_pf w22 a0 1 12 (.inl (v23 + 1))) fun w24 =>
      q_b1 (q_pf w24 a0 1 22 (.inl 0)) fun w25 =>
      q_b1 (q_pf w25 a0 1 21 (.inl 0)) fun w26 =>
      some (0, w26)
  else
    if x1 < (-8) then
      some (2, w)
    else
      if 8 < x1 then
        some (2, w)
      else
        q_b1 (q_gr w a0 1 11) fun r17 =>
        if 0 ≤ x1 then
          lj_MO_read_179 a0 x1 x1 r17 w
        else
          lj_MO_read_179 a0 x1 (-x1) r17 w
def f_MO_read (w : qw) (a0 : Nat) (x1 : Int32) : Option (Int32 × qw) :=
  if x1 = 5000 then
    some (1, w)
  else
    if x1 ≤ 1000 then
      q_b1 (q_gi w a0 1 19) fun v27 =>
      if v27 = 1 then
        q_ob (q_is w a0 1) <| q_b2 (f_MO_readInBlock w a0 x1) fun v33 w32 =>
        some (v33, w32)
      else
        q_b1 (q_gi w a0 1 19) fun v28 =>
        if v28 = 0 then
          q_b1 (q_pf w a0 1 19 (.inl 2)) fun w29 =>
          q_b1 (q_pf w29 a0 1 22 (.inl 0)) fun w30 =>
          q_b1 (q_pf w30 a0 1 21 (.inl 0)) fun w31 =>
          lj_MO_read_103 a0 x1 w31
        else
          lj_MO_read_103 a0 x1 w
    else
      q_b1 (q_gi w a0 1 19) fun v34 =>
      if v34 = 0 then
        if x1 = 4097 then
          lj_MO_read_39 a0 x1 w
        else
          if x1 = 4101 then
            lj_MO_read_39 a0 x1 w
          else
            some (1, w)
      else
        some (1, w)
set_option maxHeartbeats 4000000 in
set_option maxRecDepth 100000 in
theorem k_MO_read {X : qX} (r : Int32) (w' : qw) (hC : qC X b_MO_read R_MO 2 1 21) (hR : qRi X b_MO_read r w') (w : qw) (a0 : Nat) (x1 : Int32) (hF : f_MO_read w a0 x1 = some (r, w')) : qG X 2 0 [(0, .inr (some a0)), (1, .inl x1)] [] w := by
  have J_52 : ∀ (a0 : Nat) (s0 : Int32) (b1 : Nat) (w : qw), lj_MO_read_52  a0 s0 b1 w = some (r, w') → qG X 2 52 [(0, .inr (some a0))] [.inl s0, .inr (some b1)] w := by
    intro a0 s0 b1 w hF
    unfold lj_MO_read_52 at hF
    refine s_putz (pc' := 55) hC qp_MO_60 d_MO_read_52 rfl hF (fun w1 hF => ?_)
    refine s_aload_n (pc' := 56) hC d_MO_read_55 rfl 0 rfl ?_
    refine s_iconst (v := 0) (pc' := 57) hC d_MO_read_56 rfl (by decide) ?_
    refine s_puti (pc' := 60) hC qp_MO_64 d_MO_read_57 rfl hF (fun w2 hF => ?_)
    refine s_aload_n (pc' := 61) hC d_MO_read_60 rfl 0 rfl ?_
    refine s_iconst (v := 1) (pc' := 62) hC d_MO_read_61 rfl (by decide) ?_
    refine s_puti (pc' := 65) hC qp_MO_57 d_MO_read_62 rfl hF (fun w3 hF => ?_)
    refine s_iconst (v := 0) (pc' := 66) hC d_MO_read_65 rfl (by decide) ?_
    exact s_iret hC hR d_MO_read_66 hF
  have J_179 : ∀ (a0 : Nat) (x1 : Int32) (s0 : Int32) (b1 : Nat) (w : qw), lj_MO_read_179  a0 x1 s0 b1 w = some (r, w') → qG X 2 179 [(0, .inr (some a0)), (1, .inl x1)] [.inl s0, .inr (some b1)] w := by
    intro a0 x1 s0 b1 w hF
    unfold lj_MO_read_179 at hF
    refine s_iald (pc' := 180) hC d_MO_read_179 rfl hF (fun v4 hF => ?_)
    refine s_if_ge (tgt := 185) (pc' := 183) hC d_MO_read_180 rfl rfl hF (fun hF => ?_) (fun hF => ?_)
    · refine s_aload_n (pc' := 186) hC d_MO_read_185 rfl 0 rfl ?_
      refine s_geti (pc' := 189) hC qf_MO_71 d_MO_read_186 rfl hF (fun v5 hF => ?_)
      refine s_aload_n (pc' := 190) hC d_MO_read_189 rfl 0 rfl ?_
      refine s_geti (pc' := 193) hC qf_MO_71 d_MO_read_190 rfl hF (fun v6 hF => ?_)
      refine s_cSi (pc' := 196) (As := [.inl v6]) (rs := [.inl v5]) (fr' := 0) (lo' := 0) hC qs_MO_77 rfl rfl (Nat.le_of_ble_eq_true rfl) ⟨by decide, by decide⟩ d_MO_read_193 rfl (fun l g sz r w' h => c_MO_other l g sz w v6 r w' h) hF (fun v8 w7 hF => ?_)
      refine s_ior (pc' := 197) hC d_MO_read_196 rfl ?_
      refine s_iload_n (pc' := 198) hC d_MO_read_197 rfl 1 rfl ?_
      refine s_cSi (pc' := 201) (As := [.inl x1]) (rs := [.inl (v5 ||| v8)]) (fr' := 0) (lo' := 0) hC qs_MO_80 rfl rfl (Nat.le_of_ble_eq_true rfl) ⟨by decide, by decide⟩ d_MO_read_198 rfl (fun l g sz r w' h => c_MO_bit l g sz w7 x1 r w' h) hF (fun v10 w9 hF => ?_)
      refine s_iand (pc' := 202) hC d_MO_read_201 rfl ?_
      refine s_if_eq (tgt := 207) (pc' := 205) hC d_MO_read_202 rfl rfl hF (fun hF => ?_) (fun hF => ?_)
      · refine s_aload_n (pc' := 208) hC d_MO_read_207 rfl 0 rfl ?_
        refine s_aload_n (pc' := 209) hC d_MO_read_208 rfl 0 rfl ?_
        refine s_geti (pc' := 212) hC qf_MO_71 d_MO_read_209 rfl hF (fun v11 hF => ?_)
        refine s_iload_n (pc' := 213) hC d_MO_read_212 rfl 1 rfl ?_
        refine s_cSi (pc' := 216) (As := [.inl x1]) (rs := [.inl v11, .inr (some a0)]) (fr' := 0) (lo' := 0) hC qs_MO_80 rfl rfl (Nat.le_of_ble_eq_true rfl) ⟨by decide, by decide⟩ d_MO_read_213 rfl (fun l g sz r w' h => c_MO_bit l g sz w9 x1 r w' h) hF (fun v13 w12 hF => ?_)
        refine s_ior (pc' := 217) hC d_MO_read_216 rfl ?_
        refine s_puti (pc' := 220) hC qp_MO_71 d_MO_read_217 rfl hF (fun w14 hF => ?_)
        refine s_aload_n (pc' := 221) hC d_MO_read_220 rfl 0 rfl ?_
        refine s_dup (pc' := 222) hC d_MO_read_221 rfl ?_
        refine s_geti (pc' := 225) hC qf_MO_64 d_MO_read_222 rfl hF (fun v15 hF => ?_)
        refine s_iconst (v := 1) (pc' := 226) hC d_MO_read_225 rfl (by decide) ?_
        refine s_iadd (pc' := 227) hC d_MO_read_226 rfl ?_
        refine s_puti (pc' := 230) hC qp_MO_64 d_MO_read_227 rfl hF (fun w16 hF => ?_)
        refine s_iconst (v := 0) (pc' := 231) hC d_MO_read_230 rfl (by decide) ?_
        exact s_iret hC hR d_MO_read_231 hF
      · refine s_iconst (v := 3) (pc' := 206) hC d_MO_read_205 rfl (by decide) ?_
        exact s_iret hC hR d_MO_read_206 hF
    · refine s_iconst (v := 2) (pc' := 184) hC d_MO_read_183 rfl (by decide) ?_
      exact s_iret hC hR d_MO_read_184 hF
  have J_39 : ∀ (a0 : Nat) (x1 : Int32) (w : qw), lj_MO_read_39  a0 x1 w = some (r, w') → qG X 2 39 [(0, .inr (some a0)), (1, .inl x1)] [] w := by
    intro a0 x1 w hF
    unfold lj_MO_read_39 at hF
    refine s_aload_n (pc' := 40) hC d_MO_read_39 rfl 0 rfl ?_
    refine s_iload_n (pc' := 41) hC d_MO_read_40 rfl 1 rfl ?_
    refine s_sipush (v := 4097) (pc' := 44) hC d_MO_read_41 rfl (by decide) ?_
    refine s_icmp_ne (tgt := 51) (pc' := 47) hC d_MO_read_44 rfl rfl hF (fun hF => ?_) (fun hF => ?_)
    · refine s_iconst (v := 0) (pc' := 52) hC d_MO_read_51 rfl (by decide) ?_
      exact qG_sub [0] rfl (J_52 a0 0 a0 w hF)
    · refine s_iconst (v := 1) (pc' := 48) hC d_MO_read_47 rfl (by decide) ?_
      refine s_goto (tgt := 52) hC d_MO_read_48 rfl ?_
      exact qG_sub [0] rfl (J_52 a0 1 a0 w hF)
  have J_103 : ∀ (a0 : Nat) (x1 : Int32) (w : qw), lj_MO_read_103  a0 x1 w = some (r, w') → qG X 2 103 [(0, .inr (some a0)), (1, .inl x1)] [] w := by
    intro a0 x1 w hF
    unfold lj_MO_read_103 at hF
    refine s_iload_n (pc' := 104) hC d_MO_read_103 rfl 1 rfl ?_
    refine s_if_ne (tgt := 153) (pc' := 107) hC d_MO_read_104 rfl rfl hF (fun hF => ?_) (fun hF => ?_)
    · refine s_iload_n (pc' := 154) hC d_MO_read_153 rfl 1 rfl ?_
      refine s_bipush (v := (-8)) (pc' := 156) hC d_MO_read_154 rfl (by decide) ?_
      refine s_icmp_lt (tgt := 183) (pc' := 159) hC d_MO_read_156 rfl rfl hF (fun hF => ?_) (fun hF => ?_)
      · refine s_iconst (v := 2) (pc' := 184) hC d_MO_read_183 rfl (by decide) ?_
        exact s_iret hC hR d_MO_read_184 hF
      · refine s_iload_n (pc' := 160) hC d_MO_read_159 rfl 1 rfl ?_
        refine s_bipush (v := 8) (pc' := 162) hC d_MO_read_160 rfl (by decide) ?_
        refine s_icmp_gt (tgt := 183) (pc' := 165) hC d_MO_read_162 rfl rfl hF (fun hF => ?_) (fun hF => ?_)
        · refine s_iconst (v := 2) (pc' := 184) hC d_MO_read_183 rfl (by decide) ?_
          exact s_iret hC hR d_MO_read_184 hF
        · refine s_aload_n (pc' := 166) hC d_MO_read_165 rfl 0 rfl ?_
          refine s_getr (pc' := 169) hC qf_MO_32 d_MO_read_166 rfl hF (fun r17 hF => ?_)
          refine s_iload_n (pc' := 170) hC d_MO_read_169 rfl 1 rfl ?_
          refine s_if_ge (tgt := 178) (pc' := 173) hC d_MO_read_170 rfl rfl hF (fun hF => ?_) (fun hF => ?_)
          · refine s_iload_n (pc' := 179) hC d_MO_read_178 rfl 1 rfl ?_
            exact qG_sub [0, 1] rfl (J_179 a0 x1 x1 r17 w hF)
          · refine s_iload_n (pc' := 174) hC d_MO_read_173 rfl 1 rfl ?_
            refine s_ineg (pc' := 175) hC d_MO_read_174 rfl ?_
            refine s_goto (tgt := 179) hC d_MO_read_175 rfl ?_
            exact qG_sub [0, 1] rfl (J_179 a0 x1 (-x1) r17 w hF)
    · refine s_aload_n (pc' := 108) hC d_MO_read_107 rfl 0 rfl ?_
      refine s_geti (pc' := 111) hC qf_MO_74 d_MO_read_108 rfl hF (fun v18 hF => ?_)
      refine s_bipush (v := 12) (pc' := 113) hC d_MO_read_111 rfl (by decide) ?_
      refine s_icmp_ne (tgt := 118) (pc' := 116) hC d_MO_read_113 rfl rfl hF (fun hF => ?_) (fun hF => ?_)
      · refine s_aload_n (pc' := 119) hC d_MO_read_118 rfl 0 rfl ?_
        refine s_getr (pc' := 122) hC qf_MO_35 d_MO_read_119 rfl hF (fun r19 hF => ?_)
        refine s_aload_n (pc' := 123) hC d_MO_read_122 rfl 0 rfl ?_
        refine s_geti (pc' := 126) hC qf_MO_74 d_MO_read_123 rfl hF (fun v20 hF => ?_)
        refine s_aload_n (pc' := 127) hC d_MO_read_126 rfl 0 rfl ?_
        refine s_geti (pc' := 130) hC qf_MO_71 d_MO_read_127 rfl hF (fun v21 hF => ?_)
        refine s_iast (pc' := 131) hC d_MO_read_130 rfl hF (fun w22 hF => ?_)
        refine s_aload_n (pc' := 132) hC d_MO_read_131 rfl 0 rfl ?_
        refine s_dup (pc' := 133) hC d_MO_read_132 rfl ?_
        refine s_geti (pc' := 136) hC qf_MO_74 d_MO_read_133 rfl hF (fun v23 hF => ?_)
        refine s_iconst (v := 1) (pc' := 137) hC d_MO_read_136 rfl (by decide) ?_
        refine s_iadd (pc' := 138) hC d_MO_read_137 rfl ?_
        refine s_puti (pc' := 141) hC qp_MO_74 d_MO_read_138 rfl hF (fun w24 hF => ?_)
        refine s_aload_n (pc' := 142) hC d_MO_read_141 rfl 0 rfl ?_
        refine s_iconst (v := 0) (pc' := 143) hC d_MO_read_142 rfl (by decide) ?_
        refine s_puti (pc' := 146) hC qp_MO_71 d_MO_read_143 rfl hF (fun w25 hF => ?_)
        refine s_aload_n (pc' := 147) hC d_MO_read_146 rfl 0 rfl ?_
        refine s_iconst (v := 0) (pc' := 148) hC d_MO_read_147 rfl (by decide) ?_
        refine s_puti (pc' := 151) hC qp_MO_64 d_MO_read_148 rfl hF (fun w26 hF => ?_)
        refine s_iconst (v := 0) (pc' := 152) hC d_MO_read_151 rfl (by decide) ?_
        exact s_iret hC hR d_MO_read_152 hF
      · refine s_iconst (v := 4) (pc' := 117) hC d_MO_read_116 rfl (by decide) ?_
        exact s_iret hC hR d_MO_read_117 hF
  unfold f_MO_read at hF
  refine s_iload_n (pc' := 1) hC d_MO_read_0 rfl 1 rfl ?_
  refine s_sipush (v := 5000) (pc' := 4) hC d_MO_read_1 rfl (by decide) ?_
  refine s_icmp_ne (tgt := 9) (pc' := 7) hC d_MO_read_4 rfl rfl hF (fun hF => ?_) (fun hF => ?_)
  · refine s_iload_n (pc' := 10) hC d_MO_read_9 rfl 1 rfl ?_
    refine s_sipush (v := 1000) (pc' := 13) hC d_MO_read_10 rfl (by decide) ?_
    refine s_icmp_le (tgt := 67) (pc' := 16) hC d_MO_read_13 rfl rfl hF (fun hF => ?_) (fun hF => ?_)
    · refine s_aload_n (pc' := 68) hC d_MO_read_67 rfl 0 rfl ?_
      refine s_geti (pc' := 71) hC qf_MO_57 d_MO_read_68 rfl hF (fun v27 hF => ?_)
      refine s_iconst (v := 1) (pc' := 72) hC d_MO_read_71 rfl (by decide) ?_
      refine s_icmp_ne (tgt := 81) (pc' := 75) hC d_MO_read_72 rfl rfl hF (fun hF => ?_) (fun hF => ?_)
      · refine s_aload_n (pc' := 82) hC d_MO_read_81 rfl 0 rfl ?_
        refine s_geti (pc' := 85) hC qf_MO_57 d_MO_read_82 rfl hF (fun v28 hF => ?_)
        refine s_if_ne (tgt := 103) (pc' := 88) hC d_MO_read_85 rfl rfl hF (fun hF => ?_) (fun hF => ?_)
        · exact qG_sub [0, 1] rfl (J_103 a0 x1 w hF)
        · refine s_aload_n (pc' := 89) hC d_MO_read_88 rfl 0 rfl ?_
          refine s_iconst (v := 2) (pc' := 90) hC d_MO_read_89 rfl (by decide) ?_
          refine s_puti (pc' := 93) hC qp_MO_57 d_MO_read_90 rfl hF (fun w29 hF => ?_)
          refine s_aload_n (pc' := 94) hC d_MO_read_93 rfl 0 rfl ?_
          refine s_iconst (v := 0) (pc' := 95) hC d_MO_read_94 rfl (by decide) ?_
          refine s_puti (pc' := 98) hC qp_MO_71 d_MO_read_95 rfl hF (fun w30 hF => ?_)
          refine s_aload_n (pc' := 99) hC d_MO_read_98 rfl 0 rfl ?_
          refine s_iconst (v := 0) (pc' := 100) hC d_MO_read_99 rfl (by decide) ?_
          refine s_puti (pc' := 103) hC qp_MO_64 d_MO_read_100 rfl hF (fun w31 hF => ?_)
          exact qG_sub [0, 1] rfl (J_103 a0 x1 w31 hF)
      · refine s_aload_n (pc' := 76) hC d_MO_read_75 rfl 0 rfl ?_
        refine s_iload_n (pc' := 77) hC d_MO_read_76 rfl 1 rfl ?_
        refine s_cVi (pc' := 80) (As := [.inl x1]) (rs := []) (a := a0) (fr' := 0) (lo' := 0) hC qs_MO_67 rfl rfl (Nat.le_of_ble_eq_true rfl) ⟨by decide, by decide⟩ d_MO_read_77 rfl (fun l g sz r w' h => c_MO_readInBlock l g sz w a0 x1 r w' h) hF (fun v33 w32 hF => ?_)
        exact s_iret hC hR d_MO_read_80 hF
    · refine s_aload_n (pc' := 17) hC d_MO_read_16 rfl 0 rfl ?_
      refine s_geti (pc' := 20) hC qf_MO_57 d_MO_read_17 rfl hF (fun v34 hF => ?_)
      refine s_if_ne (tgt := 37) (pc' := 23) hC d_MO_read_20 rfl rfl hF (fun hF => ?_) (fun hF => ?_)
      · refine s_iconst (v := 1) (pc' := 38) hC d_MO_read_37 rfl (by decide) ?_
        exact s_iret hC hR d_MO_read_38 hF
      · refine s_iload_n (pc' := 24) hC d_MO_read_23 rfl 1 rfl ?_
        refine s_sipush (v := 4097) (pc' := 27) hC d_MO_read_24 rfl (by decide) ?_
        refine s_icmp_eq (tgt := 39) (pc' := 30) hC d_MO_read_27 rfl rfl hF (fun hF => ?_) (fun hF => ?_)
        · exact qG_sub [0, 1] rfl (J_39 a0 x1 w hF)
        · refine s_iload_n (pc' := 31) hC d_MO_read_30 rfl 1 rfl ?_
          refine s_sipush (v := 4101) (pc' := 34) hC d_MO_read_31 rfl (by decide) ?_
          refine s_icmp_eq (tgt := 39) (pc' := 37) hC d_MO_read_34 rfl rfl hF (fun hF => ?_) (fun hF => ?_)
          · exact qG_sub [0, 1] rfl (J_39 a0 x1 w hF)
          · refine s_iconst (v := 1) (pc' := 38) hC d_MO_read_37 rfl (by decide) ?_
            exact s_iret hC hR d_MO_read_38 hF
  · refine s_iconst (v := 1) (pc' := 8) hC d_MO_read_7 rfl (by decide) ?_
    exact s_iret hC hR d_MO_read_8 hF
theorem c_MO_read (l : Launch) (g : qk_G) (sz : Nat) (w : qw) (a0 : Nat) (x1 : Int32) (r : Int32) (w' : qw) (hF : f_MO_read w a0 x1 = some (r, w')) : qMi l g sz y_MO_read b_MO_read 2 (some .int) 1 21 [.inr (some a0), .inl x1] w r w' := qk_met_i (by decide) (Nat.le_of_ble_eq_true rfl) (fun X hC hR => k_MO_read r w' hC hR w a0 x1 hF)
theorem qs_MO_154 : qV R_MO 154 y_MO_isMain b_MO_isMain 2 (some .boolean) 1 1 := ⟨Or.inl ml_MO_154, ic_MO_isMain, ii_MO_isMain, is_MO_isMain, in_c_MO, ⟨_, _, rfl⟩, by decide +kernel⟩
theorem qs_MO_151 : qS R_MO 151 y_MO_hasWay b_MO_hasWay 2 (some .boolean) 2 := ⟨Or.inl ml_MO_151, ic_MO_hasWay, is_MO_hasWay, in_c_MO, by decide +kernel⟩
def lj_MO_reduced_102  (c55 : Nat → Int32 → Int32 → Int32 → Int32 → qw → Option (Int32 × qw)) (a0 : Nat) (x1 : Int32) (x2 : Int32) (x3 : Int32) (x4 : Int32) (x6 : Int32) (w : qw) : Option (Int32 × qw) :=
  c55 a0 x1 x2 (x3 ||| (x1 &&& x6)) (x4 + 1) w
def lb_MO_reduced_55  (c55 : Nat → Int32 → Int32 → Int32 → Int32 → qw → Option (Int32 × qw)) (a0 : Nat) (x1 : Int32) (x2 : Int32) (x3 : Int32) (x4 : Int32) (w : qw) : Option (Int32 × qw) :=
  q_b1 (q_gi w a0 1 2) fun v1 =>
  if v1 ≤ x4 then
    some (x3, w)
  else
    q_b1 (q_gr w a0 1 3) fun r2 =>
    q_b1 (q_ld w r2 0 x4) fun v3 =>
    q_b2 (f_MO_bit w v3) fun v5 w4 =>
    q_b2 (f_MO_bit w4 (-v3)) fun v7 w6 =>
    q_ob (q_is w6 a0 1) <| q_b2 (f_MO_isMain w6 a0 v3) fun v9 w8 =>
    if v9 = 0 then
      if x2 ≤ x4 then
        c55 a0 x1 x2 x3 (x4 + 1) w8
      else
        lj_MO_reduced_102 c55 a0 x1 x2 x3 x4 (v5 ||| v7) w8
    else
      lj_MO_reduced_102 c55 a0 x1 x2 x3 x4 (v5 ||| v7) w8
def ll_MO_reduced_55  : Nat → Nat → Int32 → Int32 → Int32 → Int32 → qw → Option (Int32 × qw)
  | 0 => fun _ _ _ _ _ _ => none
  | n + 1 => lb_MO_reduced_55  (ll_MO_reduced_55  n)
def lb_MO_reduced_4  (c4 : Nat → Int32 → Int32 → Int32 → qw → Option (Int32 × qw)) (a0 : Nat) (x1 : Int32) (x2 : Int32) (x3 : Int32) (w : qw) : Option (Int32 × qw) :=
  q_b1 (q_gi w a0 1 2) fun v10 =>
  if v10 ≤ x3 then
    ll_MO_reduced_55 q_fu a0 x1 x2 0 0 w
  else
    q_b1 (q_gr w a0 1 3) fun r11 =>
    q_b1 (q_ld w r11 0 x3) fun v12 =>
    q_b2 (f_MO_hasWay w x1 v12) fun v14 w13 =>
    if v14 = 0 then
      c4 a0 x1 x2 (x3 + 1) w13
    else
      q_b1 (q_gr w13 a0 1 3) fun r15 =>
      q_b1 (q_ld w13 r15 0 x3) fun v16 =>
      q_ob (q_is w13 a0 1) <| q_b2 (f_MO_isMain w13 a0 v16) fun v18 w17 =>
      if v18 = 0 then
        c4 a0 x1 x2 (x3 + 1) w17
      else
        c4 a0 x1 x3 (x3 + 1) w17
def ll_MO_reduced_4  : Nat → Nat → Int32 → Int32 → Int32 → qw → Option (Int32 × qw)
  | 0 => fun _ _ _ _ _ => none
  | n + 1 => lb_MO_reduced_4  (ll_MO_reduced_4  n)
def f_MO_reduced (w : qw) (a0 : Nat) (x1 : Int32) : Option (Int32 × qw) :=
  ll_MO_reduced_4 q_fu a0 x1 (-1) 0 w
set_option maxHeartbeats 4000000 in
set_option maxRecDepth 100000 in
theorem k_MO_reduced {X : qX} (r : Int32) (w' : qw) (hC : qC X b_MO_reduced R_MO 7 1 21) (hR : qRi X b_MO_reduced r w') (w : qw) (a0 : Nat) (x1 : Int32) (hF : f_MO_reduced w a0 x1 = some (r, w')) : qG X 7 0 [(0, .inr (some a0)), (1, .inl x1)] [] w := by
  have L_55 : ∀ (n : Nat) (a0 : Nat) (x1 : Int32) (x2 : Int32) (x3 : Int32) (x4 : Int32) (w : qw), ll_MO_reduced_55  n a0 x1 x2 x3 x4 w = some (r, w') → qG X 7 55 [(0, .inr (some a0)), (1, .inl x1), (2, .inl x2), (3, .inl x3), (4, .inl x4)] [] w := by
    intro n_55
    induction n_55 with
    | zero => exact fun _ _ _ _ _ _ hF => q_nn (show (none : Option (Int32 × qw)) = some (r, w') from hF)
    | succ n_55 ih_55 =>
      intro a0 x1 x2 x3 x4 w hF
      have hF : lb_MO_reduced_55  (ll_MO_reduced_55  n_55) a0 x1 x2 x3 x4 w = some (r, w') := hF
      unfold lb_MO_reduced_55 at hF
      have J_102 : ∀ (a0 : Nat) (x1 : Int32) (x2 : Int32) (x3 : Int32) (x4 : Int32) (x6 : Int32) (w : qw), lj_MO_reduced_102  (ll_MO_reduced_55  n_55) a0 x1 x2 x3 x4 x6 w = some (r, w') → qG X 7 102 [(0, .inr (some a0)), (1, .inl x1), (2, .inl x2), (3, .inl x3), (4, .inl x4), (6, .inl x6)] [] w := by
        intro a0 x1 x2 x3 x4 x6 w hF
        unfold lj_MO_reduced_102 at hF
        refine s_iload_n (pc' := 103) hC d_MO_reduced_102 rfl 3 rfl ?_
        refine s_iload_n (pc' := 104) hC d_MO_reduced_103 rfl 1 rfl ?_
        refine s_iload (pc' := 106) hC d_MO_reduced_104 rfl 5 rfl ?_
        refine s_iand (pc' := 107) hC d_MO_reduced_106 rfl ?_
        refine s_ior (pc' := 108) hC d_MO_reduced_107 rfl ?_
        refine s_goto (tgt := 112) hC d_MO_reduced_108 rfl ?_
        refine s_istore_n (pc' := 113) (lv' := [(3, .inl (x3 ||| (x1 &&& x6))), (0, .inr (some a0)), (1, .inl x1), (2, .inl x2), (4, .inl x4), (6, .inl x6)]) hC d_MO_reduced_112 rfl (by decide) rfl ?_
        refine s_iinc (pc' := 116) (n' := 1) (lv' := [(4, .inl (x4 + 1)), (3, .inl (x3 ||| (x1 &&& x6))), (0, .inr (some a0)), (1, .inl x1), (2, .inl x2), (6, .inl x6)]) hC d_MO_reduced_113 rfl 4 rfl (by decide) (by decide) rfl ?_
        refine s_goto (tgt := 55) hC d_MO_reduced_116 rfl ?_
        exact qG_sub [2, 3, 4, 1, 0] rfl (ih_55 a0 x1 x2 (x3 ||| (x1 &&& x6)) (x4 + 1) w hF)
      refine s_iload (pc' := 57) hC d_MO_reduced_55 rfl 4 rfl ?_
      refine s_aload_n (pc' := 58) hC d_MO_reduced_57 rfl 0 rfl ?_
      refine s_geti (pc' := 61) hC qf_MO_99 d_MO_reduced_58 rfl hF (fun v1 hF => ?_)
      refine s_icmp_ge (tgt := 119) (pc' := 64) hC d_MO_reduced_61 rfl rfl hF (fun hF => ?_) (fun hF => ?_)
      · refine s_iload_n (pc' := 120) hC d_MO_reduced_119 rfl 3 rfl ?_
        exact s_iret hC hR d_MO_reduced_120 hF
      · refine s_aload_n (pc' := 65) hC d_MO_reduced_64 rfl 0 rfl ?_
        refine s_getr (pc' := 68) hC qf_MO_13 d_MO_reduced_65 rfl hF (fun r2 hF => ?_)
        refine s_iload (pc' := 70) hC d_MO_reduced_68 rfl 4 rfl ?_
        refine s_iald (pc' := 71) hC d_MO_reduced_70 rfl hF (fun v3 hF => ?_)
        refine s_istore (pc' := 73) (lv' := [(5, .inl v3), (0, .inr (some a0)), (1, .inl x1), (2, .inl x2), (3, .inl x3), (4, .inl x4)]) hC d_MO_reduced_71 rfl (by decide) rfl ?_
        refine s_iload (pc' := 75) hC d_MO_reduced_73 rfl 0 rfl ?_
        refine s_cSi (pc' := 78) (As := [.inl v3]) (rs := []) (fr' := 0) (lo' := 0) hC qs_MO_80 rfl rfl (Nat.le_of_ble_eq_true rfl) ⟨by decide, by decide⟩ d_MO_reduced_75 rfl (fun l g sz r w' h => c_MO_bit l g sz w v3 r w' h) hF (fun v5 w4 hF => ?_)
        refine s_iload (pc' := 80) hC d_MO_reduced_78 rfl 0 rfl ?_
        refine s_ineg (pc' := 81) hC d_MO_reduced_80 rfl ?_
        refine s_cSi (pc' := 84) (As := [.inl (-v3)]) (rs := [.inl v5]) (fr' := 0) (lo' := 0) hC qs_MO_80 rfl rfl (Nat.le_of_ble_eq_true rfl) ⟨by decide, by decide⟩ d_MO_reduced_81 rfl (fun l g sz r w' h => c_MO_bit l g sz w4 (-v3) r w' h) hF (fun v7 w6 hF => ?_)
        refine s_ior (pc' := 85) hC d_MO_reduced_84 rfl ?_
        refine s_istore (pc' := 87) (lv' := [(6, .inl (v5 ||| v7)), (5, .inl v3), (0, .inr (some a0)), (1, .inl x1), (2, .inl x2), (3, .inl x3), (4, .inl x4)]) hC d_MO_reduced_85 rfl (by decide) rfl ?_
        refine s_aload_n (pc' := 88) hC d_MO_reduced_87 rfl 2 rfl ?_
        refine s_iload (pc' := 90) hC d_MO_reduced_88 rfl 1 rfl ?_
        refine s_cVi (pc' := 93) (As := [.inl v3]) (rs := []) (a := a0) (fr' := 0) (lo' := 0) hC qs_MO_154 rfl rfl (Nat.le_of_ble_eq_true rfl) ⟨by decide, by decide⟩ d_MO_reduced_90 rfl (fun l g sz r w' h => c_MO_isMain l g sz w6 a0 v3 r w' h) hF (fun v9 w8 hF => ?_)
        refine s_if_ne (tgt := 102) (pc' := 96) hC d_MO_reduced_93 rfl rfl hF (fun hF => ?_) (fun hF => ?_)
        · exact qG_sub [2, 3, 4, 5, 6, 0] rfl (J_102 a0 x1 x2 x3 x4 (v5 ||| v7) w8 hF)
        · refine s_iload (pc' := 98) hC d_MO_reduced_96 rfl 6 rfl ?_
          refine s_iload_n (pc' := 99) hC d_MO_reduced_98 rfl 4 rfl ?_
          refine s_icmp_ge (tgt := 111) (pc' := 102) hC d_MO_reduced_99 rfl rfl hF (fun hF => ?_) (fun hF => ?_)
          · refine s_iload_n (pc' := 112) hC d_MO_reduced_111 rfl 5 rfl ?_
            refine s_istore_n (pc' := 113) (lv' := [(3, .inl x3), (6, .inl (v5 ||| v7)), (5, .inl v3), (0, .inr (some a0)), (1, .inl x1), (2, .inl x2), (4, .inl x4)]) hC d_MO_reduced_112 rfl (by decide) rfl ?_
            refine s_iinc (pc' := 116) (n' := 1) (lv' := [(4, .inl (x4 + 1)), (3, .inl x3), (6, .inl (v5 ||| v7)), (5, .inl v3), (0, .inr (some a0)), (1, .inl x1), (2, .inl x2)]) hC d_MO_reduced_113 rfl 6 rfl (by decide) (by decide) rfl ?_
            refine s_goto (tgt := 55) hC d_MO_reduced_116 rfl ?_
            exact qG_sub [4, 5, 6, 1, 0] rfl (ih_55 a0 x1 x2 x3 (x4 + 1) w8 hF)
          · exact qG_sub [2, 3, 4, 5, 6, 0] rfl (J_102 a0 x1 x2 x3 x4 (v5 ||| v7) w8 hF)
  have L_4 : ∀ (n : Nat) (a0 : Nat) (x1 : Int32) (x2 : Int32) (x3 : Int32) (w : qw), ll_MO_reduced_4  n a0 x1 x2 x3 w = some (r, w') → qG X 7 4 [(0, .inr (some a0)), (1, .inl x1), (2, .inl x2), (3, .inl x3)] [] w := by
    intro n_4
    induction n_4 with
    | zero => exact fun _ _ _ _ _ hF => q_nn (show (none : Option (Int32 × qw)) = some (r, w') from hF)
    | succ n_4 ih_4 =>
      intro a0 x1 x2 x3 w hF
      have hF : lb_MO_reduced_4  (ll_MO_reduced_4  n_4) a0 x1 x2 x3 w = some (r, w') := hF
      unfold lb_MO_reduced_4 at hF
      refine s_iload_n (pc' := 5) hC d_MO_reduced_4 rfl 3 rfl ?_
      refine s_aload_n (pc' := 6) hC d_MO_reduced_5 rfl 0 rfl ?_
      refine s_geti (pc' := 9) hC qf_MO_99 d_MO_reduced_6 rfl hF (fun v10 hF => ?_)
      refine s_icmp_ge (tgt := 50) (pc' := 12) hC d_MO_reduced_9 rfl rfl hF (fun hF => ?_) (fun hF => ?_)
      · refine s_iconst (v := 0) (pc' := 51) hC d_MO_reduced_50 rfl (by decide) ?_
        refine s_istore_n (pc' := 52) (lv' := [(3, .inl 0), (0, .inr (some a0)), (1, .inl x1), (2, .inl x2)]) hC d_MO_reduced_51 rfl (by decide) rfl ?_
        refine s_iconst (v := 0) (pc' := 53) hC d_MO_reduced_52 rfl (by decide) ?_
        refine s_istore (pc' := 55) (lv' := [(4, .inl 0), (3, .inl 0), (0, .inr (some a0)), (1, .inl x1), (2, .inl x2)]) hC d_MO_reduced_53 rfl (by decide) rfl ?_
        exact qG_sub [2, 3, 4, 1, 0] rfl (L_55 q_fu a0 x1 x2 0 0 w hF)
      · refine s_iload_n (pc' := 13) hC d_MO_reduced_12 rfl 1 rfl ?_
        refine s_aload_n (pc' := 14) hC d_MO_reduced_13 rfl 0 rfl ?_
        refine s_getr (pc' := 17) hC qf_MO_13 d_MO_reduced_14 rfl hF (fun r11 hF => ?_)
        refine s_iload_n (pc' := 18) hC d_MO_reduced_17 rfl 3 rfl ?_
        refine s_iald (pc' := 19) hC d_MO_reduced_18 rfl hF (fun v12 hF => ?_)
        refine s_cSi (pc' := 22) (As := [.inl x1, .inl v12]) (rs := []) (fr' := 0) (lo' := 0) hC qs_MO_151 rfl rfl (Nat.le_of_ble_eq_true rfl) ⟨by decide, by decide⟩ d_MO_reduced_19 rfl (fun l g sz r w' h => c_MO_hasWay l g sz w x1 v12 r w' h) hF (fun v14 w13 hF => ?_)
        refine s_if_eq (tgt := 42) (pc' := 25) hC d_MO_reduced_22 rfl rfl hF (fun hF => ?_) (fun hF => ?_)
        · refine s_iload_n (pc' := 43) hC d_MO_reduced_42 rfl 2 rfl ?_
          refine s_istore_n (pc' := 44) (lv' := [(2, .inl x2), (0, .inr (some a0)), (1, .inl x1), (3, .inl x3)]) hC d_MO_reduced_43 rfl (by decide) rfl ?_
          refine s_iinc (pc' := 47) (n' := 1) (lv' := [(3, .inl (x3 + 1)), (2, .inl x2), (0, .inr (some a0)), (1, .inl x1)]) hC d_MO_reduced_44 rfl 3 rfl (by decide) (by decide) rfl ?_
          refine s_goto (tgt := 4) hC d_MO_reduced_47 rfl ?_
          exact qG_sub [2, 3, 1, 0] rfl (ih_4 a0 x1 x2 (x3 + 1) w13 hF)
        · refine s_aload_n (pc' := 26) hC d_MO_reduced_25 rfl 0 rfl ?_
          refine s_aload_n (pc' := 27) hC d_MO_reduced_26 rfl 0 rfl ?_
          refine s_getr (pc' := 30) hC qf_MO_13 d_MO_reduced_27 rfl hF (fun r15 hF => ?_)
          refine s_iload_n (pc' := 31) hC d_MO_reduced_30 rfl 3 rfl ?_
          refine s_iald (pc' := 32) hC d_MO_reduced_31 rfl hF (fun v16 hF => ?_)
          refine s_cVi (pc' := 35) (As := [.inl v16]) (rs := []) (a := a0) (fr' := 0) (lo' := 0) hC qs_MO_154 rfl rfl (Nat.le_of_ble_eq_true rfl) ⟨by decide, by decide⟩ d_MO_reduced_32 rfl (fun l g sz r w' h => c_MO_isMain l g sz w13 a0 v16 r w' h) hF (fun v18 w17 hF => ?_)
          refine s_if_eq (tgt := 42) (pc' := 38) hC d_MO_reduced_35 rfl rfl hF (fun hF => ?_) (fun hF => ?_)
          · refine s_iload_n (pc' := 43) hC d_MO_reduced_42 rfl 2 rfl ?_
            refine s_istore_n (pc' := 44) (lv' := [(2, .inl x2), (0, .inr (some a0)), (1, .inl x1), (3, .inl x3)]) hC d_MO_reduced_43 rfl (by decide) rfl ?_
            refine s_iinc (pc' := 47) (n' := 1) (lv' := [(3, .inl (x3 + 1)), (2, .inl x2), (0, .inr (some a0)), (1, .inl x1)]) hC d_MO_reduced_44 rfl 3 rfl (by decide) (by decide) rfl ?_
            refine s_goto (tgt := 4) hC d_MO_reduced_47 rfl ?_
            exact qG_sub [2, 3, 1, 0] rfl (ih_4 a0 x1 x2 (x3 + 1) w17 hF)
          · refine s_iload_n (pc' := 39) hC d_MO_reduced_38 rfl 3 rfl ?_
            refine s_goto (tgt := 43) hC d_MO_reduced_39 rfl ?_
            refine s_istore_n (pc' := 44) (lv' := [(2, .inl x3), (0, .inr (some a0)), (1, .inl x1), (3, .inl x3)]) hC d_MO_reduced_43 rfl (by decide) rfl ?_
            refine s_iinc (pc' := 47) (n' := 1) (lv' := [(3, .inl (x3 + 1)), (2, .inl x3), (0, .inr (some a0)), (1, .inl x1)]) hC d_MO_reduced_44 rfl 3 rfl (by decide) (by decide) rfl ?_
            refine s_goto (tgt := 4) hC d_MO_reduced_47 rfl ?_
            exact qG_sub [2, 3, 1, 0] rfl (ih_4 a0 x1 x3 (x3 + 1) w17 hF)
  unfold f_MO_reduced at hF
  refine s_iconst (v := (-1)) (pc' := 1) hC d_MO_reduced_0 rfl (by decide) ?_
  refine s_istore_n (pc' := 2) (lv' := [(2, .inl (-1)), (0, .inr (some a0)), (1, .inl x1)]) hC d_MO_reduced_1 rfl (by decide) rfl ?_
  refine s_iconst (v := 0) (pc' := 3) hC d_MO_reduced_2 rfl (by decide) ?_
  refine s_istore_n (pc' := 4) (lv' := [(3, .inl 0), (2, .inl (-1)), (0, .inr (some a0)), (1, .inl x1)]) hC d_MO_reduced_3 rfl (by decide) rfl ?_
  exact qG_sub [2, 3, 1, 0] rfl (L_4 q_fu a0 x1 (-1) 0 w hF)
theorem c_MO_reduced (l : Launch) (g : qk_G) (sz : Nat) (w : qw) (a0 : Nat) (x1 : Int32) (r : Int32) (w' : qw) (hF : f_MO_reduced w a0 x1 = some (r, w')) : qMi l g sz y_MO_reduced b_MO_reduced 7 (some .int) 1 21 [.inr (some a0), .inl x1] w r w' := qk_met_i (by decide) (Nat.le_of_ble_eq_true rfl) (fun X hC hR => k_MO_reduced r w' hC hR w a0 x1 hF)
theorem qs_MO_157 : qS R_MO 157 y_MO_hasBoth b_MO_hasBoth 2 (some .boolean) 2 := ⟨Or.inl ml_MO_157, ic_MO_hasBoth, is_MO_hasBoth, in_c_MO, by decide +kernel⟩
def lj_MO_isResolved_160  (c114 : Nat → Int32 → Int32 → Int32 → Int32 → Int32 → Int32 → qw → Option (Int32 × qw)) (a0 : Nat) (x1 : Int32) (x2 : Int32) (x3 : Int32) (x5 : Int32) (x7 : Int32) (x8 : Int32) (x9 : Int32) (w : qw) : Option (Int32 × qw) :=
  if x9 = 0 then
    c114 a0 x1 x2 x3 x5 1 (x7 + 1) w
  else
    q_b2 (f_MO_hasWay w x1 x8) fun v2 w1 =>
    if v2 = 0 then
      c114 a0 x1 x2 x3 x5 1 (x7 + 1) w1
    else
      q_b2 (f_MO_hasWay w1 x2 x8) fun v4 w3 =>
      if v4 = 0 then
        c114 a0 x1 x2 x3 x5 1 (x7 + 1) w3
      else
        q_b1 (q_gr w3 a0 1 5) fun r5 =>
        q_b1 (q_ld w3 r5 0 x3) fun v6 =>
        if x7 < v6 then
          c114 a0 x1 x2 x3 x5 0 (x7 + 1) w3
        else
          c114 a0 x1 x2 x3 x5 1 (x7 + 1) w3
def lb_MO_isResolved_114  (c114 : Nat → Int32 → Int32 → Int32 → Int32 → Int32 → Int32 → qw → Option (Int32 × qw)) (a0 : Nat) (x1 : Int32) (x2 : Int32) (x3 : Int32) (x5 : Int32) (x6 : Int32) (x7 : Int32) (w : qw) : Option (Int32 × qw) :=
  q_b1 (q_gi w a0 1 2) fun v7 =>
  if v7 ≤ x7 then
    q_ob (q_z x6) (some (x6, w))
  else
    q_b1 (q_gr w a0 1 3) fun r8 =>
    q_b1 (q_ld w r8 0 x7) fun v9 =>
    q_b2 (f_MO_hasBoth w x5 v9) fun v11 w10 =>
    if x6 = 0 then
      c114 a0 x1 x2 x3 x5 0 (x7 + 1) w10
    else
      if v11 = 0 then
        lj_MO_isResolved_160 c114 a0 x1 x2 x3 x5 x7 v9 v11 w10
      else
        q_ob (q_is w10 a0 1) <| q_b2 (f_MO_isMain w10 a0 v9) fun v13 w12 =>
        if v13 = 0 then
          lj_MO_isResolved_160 c114 a0 x1 x2 x3 x5 x7 v9 v11 w12
        else
          c114 a0 x1 x2 x3 x5 0 (x7 + 1) w12
def ll_MO_isResolved_114  : Nat → Nat → Int32 → Int32 → Int32 → Int32 → Int32 → Int32 → qw → Option (Int32 × qw)
  | 0 => fun _ _ _ _ _ _ _ _ => none
  | n + 1 => lb_MO_isResolved_114  (ll_MO_isResolved_114  n)
def lb_MO_isResolved_8  (c8 : Nat → Int32 → Int32 → Int32 → Int32 → Int32 → qw → Option (Int32 × qw)) (a0 : Nat) (x1 : Int32) (x2 : Int32) (x3 : Int32) (x4 : Int32) (x5 : Int32) (w : qw) : Option (Int32 × qw) :=
  q_b1 (q_gi w a0 1 2) fun v14 =>
  if v14 ≤ x5 then
    if x4 = 1 then
      q_b2 (f_MO_bit w x3) fun v16 w15 =>
      q_b2 (f_MO_bit w15 (-x3)) fun v18 w17 =>
      q_b1 (q_gi w17 a0 1 22) fun v19 =>
      if v19 = ((x1 ||| x2) &&& ((v16 ||| v18) ^^^ (-1))) then
        ll_MO_isResolved_114 q_fu a0 x1 x2 x3 ((x1 ||| x2) &&& ((v16 ||| v18) ^^^ (-1))) 1 0 w17
      else
        ll_MO_isResolved_114 q_fu a0 x1 x2 x3 ((x1 ||| x2) &&& ((v16 ||| v18) ^^^ (-1))) 0 0 w17
    else
      q_ob (q_z 0) (some (0, w))
  else
    q_b1 (q_gr w a0 1 3) fun r20 =>
    q_b1 (q_ld w r20 0 x5) fun v21 =>
    q_ob (q_is w a0 1) <| q_b2 (f_MO_isMain w a0 v21) fun v23 w22 =>
    if v23 = 0 then
      c8 a0 x1 x2 x3 x4 (x5 + 1) w22
    else
      q_b2 (f_MO_other w22 x1) fun v25 w24 =>
      q_b2 (f_MO_bit w24 v21) fun v27 w26 =>
      q_b2 (f_MO_bit w26 (-v21)) fun v29 w28 =>
      if ((v25 &&& x2) &&& (v27 ||| v29)) = 0 then
        c8 a0 x1 x2 x3 x4 (x5 + 1) w28
      else
        c8 a0 x1 x2 v21 (x4 + 1) (x5 + 1) w28
def ll_MO_isResolved_8  : Nat → Nat → Int32 → Int32 → Int32 → Int32 → Int32 → qw → Option (Int32 × qw)
  | 0 => fun _ _ _ _ _ _ _ => none
  | n + 1 => lb_MO_isResolved_8  (ll_MO_isResolved_8  n)
def f_MO_isResolved (w : qw) (a0 : Nat) (x1 : Int32) (x2 : Int32) : Option (Int32 × qw) :=
  ll_MO_isResolved_8 q_fu a0 x1 x2 0 0 0 w
set_option maxHeartbeats 4000000 in
set_option maxRecDepth 100000 in
theorem k_MO_isResolved {X : qX} (r : Int32) (w' : qw) (hC : qC X b_MO_isResolved R_MO 10 1 21) (hR : qRz X b_MO_isResolved r w') (w : qw) (a0 : Nat) (x1 : Int32) (x2 : Int32) (hF : f_MO_isResolved w a0 x1 x2 = some (r, w')) : qG X 10 0 [(0, .inr (some a0)), (1, .inl x1), (2, .inl x2)] [] w := by
  have L_114 : ∀ (n : Nat) (a0 : Nat) (x1 : Int32) (x2 : Int32) (x3 : Int32) (x5 : Int32) (x6 : Int32) (x7 : Int32) (w : qw), ll_MO_isResolved_114  n a0 x1 x2 x3 x5 x6 x7 w = some (r, w') → qG X 10 114 [(0, .inr (some a0)), (1, .inl x1), (2, .inl x2), (3, .inl x3), (5, .inl x5), (6, .inl x6), (7, .inl x7)] [] w := by
    intro n_114
    induction n_114 with
    | zero => exact fun _ _ _ _ _ _ _ _ hF => q_nn (show (none : Option (Int32 × qw)) = some (r, w') from hF)
    | succ n_114 ih_114 =>
      intro a0 x1 x2 x3 x5 x6 x7 w hF
      have hF : lb_MO_isResolved_114  (ll_MO_isResolved_114  n_114) a0 x1 x2 x3 x5 x6 x7 w = some (r, w') := hF
      unfold lb_MO_isResolved_114 at hF
      have J_160 : ∀ (a0 : Nat) (x1 : Int32) (x2 : Int32) (x3 : Int32) (x5 : Int32) (x7 : Int32) (x8 : Int32) (x9 : Int32) (w : qw), lj_MO_isResolved_160  (ll_MO_isResolved_114  n_114) a0 x1 x2 x3 x5 x7 x8 x9 w = some (r, w') → qG X 10 160 [(0, .inr (some a0)), (1, .inl x1), (2, .inl x2), (3, .inl x3), (5, .inl x5), (7, .inl x7), (8, .inl x8), (9, .inl x9)] [] w := by
        intro a0 x1 x2 x3 x5 x7 x8 x9 w hF
        unfold lj_MO_isResolved_160 at hF
        refine s_iload (pc' := 162) hC d_MO_isResolved_160 rfl 7 rfl ?_
        refine s_if_eq (tgt := 194) (pc' := 165) hC d_MO_isResolved_162 rfl rfl hF (fun hF => ?_) (fun hF => ?_)
        · refine s_iconst (v := 1) (pc' := 195) hC d_MO_isResolved_194 rfl (by decide) ?_
          refine s_goto (tgt := 199) hC d_MO_isResolved_195 rfl ?_
          refine s_istore (pc' := 201) (lv' := [(6, .inl 1), (0, .inr (some a0)), (1, .inl x1), (2, .inl x2), (3, .inl x3), (5, .inl x5), (7, .inl x7), (8, .inl x8), (9, .inl x9)]) hC d_MO_isResolved_199 rfl (by decide) rfl ?_
          refine s_iinc (pc' := 204) (n' := 1) (lv' := [(7, .inl (x7 + 1)), (6, .inl 1), (0, .inr (some a0)), (1, .inl x1), (2, .inl x2), (3, .inl x3), (5, .inl x5), (8, .inl x8), (9, .inl x9)]) hC d_MO_isResolved_201 rfl 6 rfl (by decide) (by decide) rfl ?_
          refine s_goto (tgt := 114) hC d_MO_isResolved_204 rfl ?_
          exact qG_sub [2, 3, 4, 5, 6, 1, 0] rfl (ih_114 a0 x1 x2 x3 x5 1 (x7 + 1) w hF)
        · refine s_iload_n (pc' := 166) hC d_MO_isResolved_165 rfl 1 rfl ?_
          refine s_iload (pc' := 168) hC d_MO_isResolved_166 rfl 6 rfl ?_
          refine s_cSi (pc' := 171) (As := [.inl x1, .inl x8]) (rs := []) (fr' := 0) (lo' := 0) hC qs_MO_151 rfl rfl (Nat.le_of_ble_eq_true rfl) ⟨by decide, by decide⟩ d_MO_isResolved_168 rfl (fun l g sz r w' h => c_MO_hasWay l g sz w x1 x8 r w' h) hF (fun v2 w1 hF => ?_)
          refine s_if_eq (tgt := 194) (pc' := 174) hC d_MO_isResolved_171 rfl rfl hF (fun hF => ?_) (fun hF => ?_)
          · refine s_iconst (v := 1) (pc' := 195) hC d_MO_isResolved_194 rfl (by decide) ?_
            refine s_goto (tgt := 199) hC d_MO_isResolved_195 rfl ?_
            refine s_istore (pc' := 201) (lv' := [(6, .inl 1), (0, .inr (some a0)), (1, .inl x1), (2, .inl x2), (3, .inl x3), (5, .inl x5), (7, .inl x7), (8, .inl x8), (9, .inl x9)]) hC d_MO_isResolved_199 rfl (by decide) rfl ?_
            refine s_iinc (pc' := 204) (n' := 1) (lv' := [(7, .inl (x7 + 1)), (6, .inl 1), (0, .inr (some a0)), (1, .inl x1), (2, .inl x2), (3, .inl x3), (5, .inl x5), (8, .inl x8), (9, .inl x9)]) hC d_MO_isResolved_201 rfl 6 rfl (by decide) (by decide) rfl ?_
            refine s_goto (tgt := 114) hC d_MO_isResolved_204 rfl ?_
            exact qG_sub [2, 3, 4, 5, 6, 1, 0] rfl (ih_114 a0 x1 x2 x3 x5 1 (x7 + 1) w1 hF)
          · refine s_iload_n (pc' := 175) hC d_MO_isResolved_174 rfl 2 rfl ?_
            refine s_iload (pc' := 177) hC d_MO_isResolved_175 rfl 6 rfl ?_
            refine s_cSi (pc' := 180) (As := [.inl x2, .inl x8]) (rs := []) (fr' := 0) (lo' := 0) hC qs_MO_151 rfl rfl (Nat.le_of_ble_eq_true rfl) ⟨by decide, by decide⟩ d_MO_isResolved_177 rfl (fun l g sz r w' h => c_MO_hasWay l g sz w1 x2 x8 r w' h) hF (fun v4 w3 hF => ?_)
            refine s_if_eq (tgt := 194) (pc' := 183) hC d_MO_isResolved_180 rfl rfl hF (fun hF => ?_) (fun hF => ?_)
            · refine s_iconst (v := 1) (pc' := 195) hC d_MO_isResolved_194 rfl (by decide) ?_
              refine s_goto (tgt := 199) hC d_MO_isResolved_195 rfl ?_
              refine s_istore (pc' := 201) (lv' := [(6, .inl 1), (0, .inr (some a0)), (1, .inl x1), (2, .inl x2), (3, .inl x3), (5, .inl x5), (7, .inl x7), (8, .inl x8), (9, .inl x9)]) hC d_MO_isResolved_199 rfl (by decide) rfl ?_
              refine s_iinc (pc' := 204) (n' := 1) (lv' := [(7, .inl (x7 + 1)), (6, .inl 1), (0, .inr (some a0)), (1, .inl x1), (2, .inl x2), (3, .inl x3), (5, .inl x5), (8, .inl x8), (9, .inl x9)]) hC d_MO_isResolved_201 rfl 6 rfl (by decide) (by decide) rfl ?_
              refine s_goto (tgt := 114) hC d_MO_isResolved_204 rfl ?_
              exact qG_sub [2, 3, 4, 5, 6, 1, 0] rfl (ih_114 a0 x1 x2 x3 x5 1 (x7 + 1) w3 hF)
            · refine s_iload (pc' := 185) hC d_MO_isResolved_183 rfl 5 rfl ?_
              refine s_aload_n (pc' := 186) hC d_MO_isResolved_185 rfl 0 rfl ?_
              refine s_getr (pc' := 189) hC qf_MO_20 d_MO_isResolved_186 rfl hF (fun r5 hF => ?_)
              refine s_iload_n (pc' := 190) hC d_MO_isResolved_189 rfl 3 rfl ?_
              refine s_iald (pc' := 191) hC d_MO_isResolved_190 rfl hF (fun v6 hF => ?_)
              refine s_icmp_lt (tgt := 198) (pc' := 194) hC d_MO_isResolved_191 rfl rfl hF (fun hF => ?_) (fun hF => ?_)
              · refine s_iconst (v := 0) (pc' := 199) hC d_MO_isResolved_198 rfl (by decide) ?_
                refine s_istore (pc' := 201) (lv' := [(6, .inl 0), (0, .inr (some a0)), (1, .inl x1), (2, .inl x2), (3, .inl x3), (5, .inl x5), (7, .inl x7), (8, .inl x8), (9, .inl x9)]) hC d_MO_isResolved_199 rfl (by decide) rfl ?_
                refine s_iinc (pc' := 204) (n' := 1) (lv' := [(7, .inl (x7 + 1)), (6, .inl 0), (0, .inr (some a0)), (1, .inl x1), (2, .inl x2), (3, .inl x3), (5, .inl x5), (8, .inl x8), (9, .inl x9)]) hC d_MO_isResolved_201 rfl 6 rfl (by decide) (by decide) rfl ?_
                refine s_goto (tgt := 114) hC d_MO_isResolved_204 rfl ?_
                exact qG_sub [2, 3, 4, 5, 6, 1, 0] rfl (ih_114 a0 x1 x2 x3 x5 0 (x7 + 1) w3 hF)
              · refine s_iconst (v := 1) (pc' := 195) hC d_MO_isResolved_194 rfl (by decide) ?_
                refine s_goto (tgt := 199) hC d_MO_isResolved_195 rfl ?_
                refine s_istore (pc' := 201) (lv' := [(6, .inl 1), (0, .inr (some a0)), (1, .inl x1), (2, .inl x2), (3, .inl x3), (5, .inl x5), (7, .inl x7), (8, .inl x8), (9, .inl x9)]) hC d_MO_isResolved_199 rfl (by decide) rfl ?_
                refine s_iinc (pc' := 204) (n' := 1) (lv' := [(7, .inl (x7 + 1)), (6, .inl 1), (0, .inr (some a0)), (1, .inl x1), (2, .inl x2), (3, .inl x3), (5, .inl x5), (8, .inl x8), (9, .inl x9)]) hC d_MO_isResolved_201 rfl 6 rfl (by decide) (by decide) rfl ?_
                refine s_goto (tgt := 114) hC d_MO_isResolved_204 rfl ?_
                exact qG_sub [2, 3, 4, 5, 6, 1, 0] rfl (ih_114 a0 x1 x2 x3 x5 1 (x7 + 1) w3 hF)
      refine s_iload (pc' := 116) hC d_MO_isResolved_114 rfl 6 rfl ?_
      refine s_aload_n (pc' := 117) hC d_MO_isResolved_116 rfl 0 rfl ?_
      refine s_geti (pc' := 120) hC qf_MO_99 d_MO_isResolved_117 rfl hF (fun v7 hF => ?_)
      refine s_icmp_ge (tgt := 207) (pc' := 123) hC d_MO_isResolved_120 rfl rfl hF (fun hF => ?_) (fun hF => ?_)
      · refine s_iload (pc' := 209) hC d_MO_isResolved_207 rfl 5 rfl ?_
        exact s_zret hC hR d_MO_isResolved_209 hF
      · refine s_aload_n (pc' := 124) hC d_MO_isResolved_123 rfl 0 rfl ?_
        refine s_getr (pc' := 127) hC qf_MO_13 d_MO_isResolved_124 rfl hF (fun r8 hF => ?_)
        refine s_iload (pc' := 129) hC d_MO_isResolved_127 rfl 6 rfl ?_
        refine s_iald (pc' := 130) hC d_MO_isResolved_129 rfl hF (fun v9 hF => ?_)
        refine s_istore (pc' := 132) (lv' := [(8, .inl v9), (0, .inr (some a0)), (1, .inl x1), (2, .inl x2), (3, .inl x3), (5, .inl x5), (6, .inl x6), (7, .inl x7)]) hC d_MO_isResolved_130 rfl (by decide) rfl ?_
        refine s_iload (pc' := 134) hC d_MO_isResolved_132 rfl 5 rfl ?_
        refine s_iload (pc' := 136) hC d_MO_isResolved_134 rfl 0 rfl ?_
        refine s_cSi (pc' := 139) (As := [.inl x5, .inl v9]) (rs := []) (fr' := 0) (lo' := 0) hC qs_MO_157 rfl rfl (Nat.le_of_ble_eq_true rfl) ⟨by decide, by decide⟩ d_MO_isResolved_136 rfl (fun l g sz r w' h => c_MO_hasBoth l g sz w x5 v9 r w' h) hF (fun v11 w10 hF => ?_)
        refine s_istore (pc' := 141) (lv' := [(9, .inl v11), (8, .inl v9), (0, .inr (some a0)), (1, .inl x1), (2, .inl x2), (3, .inl x3), (5, .inl x5), (6, .inl x6), (7, .inl x7)]) hC d_MO_isResolved_139 rfl (by decide) rfl ?_
        refine s_iload (pc' := 143) hC d_MO_isResolved_141 rfl 7 rfl ?_
        refine s_if_eq (tgt := 198) (pc' := 146) hC d_MO_isResolved_143 rfl rfl hF (fun hF => ?_) (fun hF => ?_)
        · refine s_iconst (v := 0) (pc' := 199) hC d_MO_isResolved_198 rfl (by decide) ?_
          refine s_istore (pc' := 201) (lv' := [(6, .inl 0), (9, .inl v11), (8, .inl v9), (0, .inr (some a0)), (1, .inl x1), (2, .inl x2), (3, .inl x3), (5, .inl x5), (7, .inl x7)]) hC d_MO_isResolved_199 rfl (by decide) rfl ?_
          refine s_iinc (pc' := 204) (n' := 1) (lv' := [(7, .inl (x7 + 1)), (6, .inl 0), (9, .inl v11), (8, .inl v9), (0, .inr (some a0)), (1, .inl x1), (2, .inl x2), (3, .inl x3), (5, .inl x5)]) hC d_MO_isResolved_201 rfl 8 rfl (by decide) (by decide) rfl ?_
          refine s_goto (tgt := 114) hC d_MO_isResolved_204 rfl ?_
          exact qG_sub [4, 5, 6, 7, 8, 1, 0] rfl (ih_114 a0 x1 x2 x3 x5 0 (x7 + 1) w10 hF)
        · refine s_iload (pc' := 148) hC d_MO_isResolved_146 rfl 0 rfl ?_
          refine s_if_eq (tgt := 160) (pc' := 151) hC d_MO_isResolved_148 rfl rfl hF (fun hF => ?_) (fun hF => ?_)
          · exact qG_sub [2, 3, 4, 5, 6, 8, 1, 0] rfl (J_160 a0 x1 x2 x3 x5 x7 v9 v11 w10 hF)
          · refine s_aload_n (pc' := 152) hC d_MO_isResolved_151 rfl 2 rfl ?_
            refine s_iload (pc' := 154) hC d_MO_isResolved_152 rfl 1 rfl ?_
            refine s_cVi (pc' := 157) (As := [.inl v9]) (rs := []) (a := a0) (fr' := 0) (lo' := 0) hC qs_MO_154 rfl rfl (Nat.le_of_ble_eq_true rfl) ⟨by decide, by decide⟩ d_MO_isResolved_154 rfl (fun l g sz r w' h => c_MO_isMain l g sz w10 a0 v9 r w' h) hF (fun v13 w12 hF => ?_)
            refine s_if_ne (tgt := 198) (pc' := 160) hC d_MO_isResolved_157 rfl rfl hF (fun hF => ?_) (fun hF => ?_)
            · refine s_iconst (v := 0) (pc' := 199) hC d_MO_isResolved_198 rfl (by decide) ?_
              refine s_istore (pc' := 201) (lv' := [(6, .inl 0), (9, .inl v11), (8, .inl v9), (0, .inr (some a0)), (1, .inl x1), (2, .inl x2), (3, .inl x3), (5, .inl x5), (7, .inl x7)]) hC d_MO_isResolved_199 rfl (by decide) rfl ?_
              refine s_iinc (pc' := 204) (n' := 1) (lv' := [(7, .inl (x7 + 1)), (6, .inl 0), (9, .inl v11), (8, .inl v9), (0, .inr (some a0)), (1, .inl x1), (2, .inl x2), (3, .inl x3), (5, .inl x5)]) hC d_MO_isResolved_201 rfl 8 rfl (by decide) (by decide) rfl ?_
              refine s_goto (tgt := 114) hC d_MO_isResolved_204 rfl ?_
              exact qG_sub [4, 5, 6, 7, 8, 1, 0] rfl (ih_114 a0 x1 x2 x3 x5 0 (x7 + 1) w12 hF)
            · exact qG_sub [2, 3, 4, 5, 6, 8, 1, 0] rfl (J_160 a0 x1 x2 x3 x5 x7 v9 v11 w12 hF)
  have L_8 : ∀ (n : Nat) (a0 : Nat) (x1 : Int32) (x2 : Int32) (x3 : Int32) (x4 : Int32) (x5 : Int32) (w : qw), ll_MO_isResolved_8  n a0 x1 x2 x3 x4 x5 w = some (r, w') → qG X 10 8 [(0, .inr (some a0)), (1, .inl x1), (2, .inl x2), (3, .inl x3), (4, .inl x4), (5, .inl x5)] [] w := by
    intro n_8
    induction n_8 with
    | zero => exact fun _ _ _ _ _ _ _ hF => q_nn (show (none : Option (Int32 × qw)) = some (r, w') from hF)
    | succ n_8 ih_8 =>
      intro a0 x1 x2 x3 x4 x5 w hF
      have hF : lb_MO_isResolved_8  (ll_MO_isResolved_8  n_8) a0 x1 x2 x3 x4 x5 w = some (r, w') := hF
      unfold lb_MO_isResolved_8 at hF
      refine s_iload (pc' := 10) hC d_MO_isResolved_8 rfl 5 rfl ?_
      refine s_aload_n (pc' := 11) hC d_MO_isResolved_10 rfl 0 rfl ?_
      refine s_geti (pc' := 14) hC qf_MO_99 d_MO_isResolved_11 rfl hF (fun v14 hF => ?_)
      refine s_icmp_ge (tgt := 69) (pc' := 17) hC d_MO_isResolved_14 rfl rfl hF (fun hF => ?_) (fun hF => ?_)
      · refine s_iload (pc' := 71) hC d_MO_isResolved_69 rfl 4 rfl ?_
        refine s_iconst (v := 1) (pc' := 72) hC d_MO_isResolved_71 rfl (by decide) ?_
        refine s_icmp_eq (tgt := 77) (pc' := 75) hC d_MO_isResolved_72 rfl rfl hF (fun hF => ?_) (fun hF => ?_)
        · refine s_iload_n (pc' := 78) hC d_MO_isResolved_77 rfl 1 rfl ?_
          refine s_iload_n (pc' := 79) hC d_MO_isResolved_78 rfl 2 rfl ?_
          refine s_ior (pc' := 80) hC d_MO_isResolved_79 rfl ?_
          refine s_iload_n (pc' := 81) hC d_MO_isResolved_80 rfl 3 rfl ?_
          refine s_cSi (pc' := 84) (As := [.inl x3]) (rs := [.inl (x1 ||| x2)]) (fr' := 0) (lo' := 0) hC qs_MO_80 rfl rfl (Nat.le_of_ble_eq_true rfl) ⟨by decide, by decide⟩ d_MO_isResolved_81 rfl (fun l g sz r w' h => c_MO_bit l g sz w x3 r w' h) hF (fun v16 w15 hF => ?_)
          refine s_iload_n (pc' := 85) hC d_MO_isResolved_84 rfl 3 rfl ?_
          refine s_ineg (pc' := 86) hC d_MO_isResolved_85 rfl ?_
          refine s_cSi (pc' := 89) (As := [.inl (-x3)]) (rs := [.inl v16, .inl (x1 ||| x2)]) (fr' := 0) (lo' := 0) hC qs_MO_80 rfl rfl (Nat.le_of_ble_eq_true rfl) ⟨by decide, by decide⟩ d_MO_isResolved_86 rfl (fun l g sz r w' h => c_MO_bit l g sz w15 (-x3) r w' h) hF (fun v18 w17 hF => ?_)
          refine s_ior (pc' := 90) hC d_MO_isResolved_89 rfl ?_
          refine s_iconst (v := (-1)) (pc' := 91) hC d_MO_isResolved_90 rfl (by decide) ?_
          refine s_ixor (pc' := 92) hC d_MO_isResolved_91 rfl ?_
          refine s_iand (pc' := 93) hC d_MO_isResolved_92 rfl ?_
          refine s_istore (pc' := 95) (lv' := [(5, .inl ((x1 ||| x2) &&& ((v16 ||| v18) ^^^ (-1)))), (0, .inr (some a0)), (1, .inl x1), (2, .inl x2), (3, .inl x3), (4, .inl x4)]) hC d_MO_isResolved_93 rfl (by decide) rfl ?_
          refine s_aload_n (pc' := 96) hC d_MO_isResolved_95 rfl 1 rfl ?_
          refine s_geti (pc' := 99) hC qf_MO_71 d_MO_isResolved_96 rfl hF (fun v19 hF => ?_)
          refine s_iload (pc' := 101) hC d_MO_isResolved_99 rfl 0 rfl ?_
          refine s_icmp_ne (tgt := 108) (pc' := 104) hC d_MO_isResolved_101 rfl rfl hF (fun hF => ?_) (fun hF => ?_)
          · refine s_iconst (v := 0) (pc' := 109) hC d_MO_isResolved_108 rfl (by decide) ?_
            refine s_istore (pc' := 111) (lv' := [(6, .inl 0), (5, .inl ((x1 ||| x2) &&& ((v16 ||| v18) ^^^ (-1)))), (0, .inr (some a0)), (1, .inl x1), (2, .inl x2), (3, .inl x3), (4, .inl x4)]) hC d_MO_isResolved_109 rfl (by decide) rfl ?_
            refine s_iconst (v := 0) (pc' := 112) hC d_MO_isResolved_111 rfl (by decide) ?_
            refine s_istore (pc' := 114) (lv' := [(7, .inl 0), (6, .inl 0), (5, .inl ((x1 ||| x2) &&& ((v16 ||| v18) ^^^ (-1)))), (0, .inr (some a0)), (1, .inl x1), (2, .inl x2), (3, .inl x3), (4, .inl x4)]) hC d_MO_isResolved_112 rfl (by decide) rfl ?_
            exact qG_sub [3, 4, 5, 6, 2, 1, 0] rfl (L_114 q_fu a0 x1 x2 x3 ((x1 ||| x2) &&& ((v16 ||| v18) ^^^ (-1))) 0 0 w17 hF)
          · refine s_iconst (v := 1) (pc' := 105) hC d_MO_isResolved_104 rfl (by decide) ?_
            refine s_goto (tgt := 109) hC d_MO_isResolved_105 rfl ?_
            refine s_istore (pc' := 111) (lv' := [(6, .inl 1), (5, .inl ((x1 ||| x2) &&& ((v16 ||| v18) ^^^ (-1)))), (0, .inr (some a0)), (1, .inl x1), (2, .inl x2), (3, .inl x3), (4, .inl x4)]) hC d_MO_isResolved_109 rfl (by decide) rfl ?_
            refine s_iconst (v := 0) (pc' := 112) hC d_MO_isResolved_111 rfl (by decide) ?_
            refine s_istore (pc' := 114) (lv' := [(7, .inl 0), (6, .inl 1), (5, .inl ((x1 ||| x2) &&& ((v16 ||| v18) ^^^ (-1)))), (0, .inr (some a0)), (1, .inl x1), (2, .inl x2), (3, .inl x3), (4, .inl x4)]) hC d_MO_isResolved_112 rfl (by decide) rfl ?_
            exact qG_sub [3, 4, 5, 6, 2, 1, 0] rfl (L_114 q_fu a0 x1 x2 x3 ((x1 ||| x2) &&& ((v16 ||| v18) ^^^ (-1))) 1 0 w17 hF)
        · refine s_iconst (v := 0) (pc' := 76) hC d_MO_isResolved_75 rfl (by decide) ?_
          exact s_zret hC hR d_MO_isResolved_76 hF
      · refine s_aload_n (pc' := 18) hC d_MO_isResolved_17 rfl 0 rfl ?_
        refine s_getr (pc' := 21) hC qf_MO_13 d_MO_isResolved_18 rfl hF (fun r20 hF => ?_)
        refine s_iload (pc' := 23) hC d_MO_isResolved_21 rfl 5 rfl ?_
        refine s_iald (pc' := 24) hC d_MO_isResolved_23 rfl hF (fun v21 hF => ?_)
        refine s_istore (pc' := 26) (lv' := [(6, .inl v21), (0, .inr (some a0)), (1, .inl x1), (2, .inl x2), (3, .inl x3), (4, .inl x4), (5, .inl x5)]) hC d_MO_isResolved_24 rfl (by decide) rfl ?_
        refine s_aload_n (pc' := 27) hC d_MO_isResolved_26 rfl 1 rfl ?_
        refine s_iload (pc' := 29) hC d_MO_isResolved_27 rfl 0 rfl ?_
        refine s_cVi (pc' := 32) (As := [.inl v21]) (rs := []) (a := a0) (fr' := 0) (lo' := 0) hC qs_MO_154 rfl rfl (Nat.le_of_ble_eq_true rfl) ⟨by decide, by decide⟩ d_MO_isResolved_29 rfl (fun l g sz r w' h => c_MO_isMain l g sz w a0 v21 r w' h) hF (fun v23 w22 hF => ?_)
        refine s_if_eq (tgt := 63) (pc' := 35) hC d_MO_isResolved_32 rfl rfl hF (fun hF => ?_) (fun hF => ?_)
        · refine s_iinc (pc' := 66) (n' := 1) (lv' := [(5, .inl (x5 + 1)), (6, .inl v21), (0, .inr (some a0)), (1, .inl x1), (2, .inl x2), (3, .inl x3), (4, .inl x4)]) hC d_MO_isResolved_63 rfl 6 rfl (by decide) (by decide) rfl ?_
          refine s_goto (tgt := 8) hC d_MO_isResolved_66 rfl ?_
          exact qG_sub [2, 3, 4, 5, 6, 0] rfl (ih_8 a0 x1 x2 x3 x4 (x5 + 1) w22 hF)
        · refine s_iload_n (pc' := 36) hC d_MO_isResolved_35 rfl 2 rfl ?_
          refine s_cSi (pc' := 39) (As := [.inl x1]) (rs := []) (fr' := 0) (lo' := 0) hC qs_MO_77 rfl rfl (Nat.le_of_ble_eq_true rfl) ⟨by decide, by decide⟩ d_MO_isResolved_36 rfl (fun l g sz r w' h => c_MO_other l g sz w22 x1 r w' h) hF (fun v25 w24 hF => ?_)
          refine s_iload_n (pc' := 40) hC d_MO_isResolved_39 rfl 3 rfl ?_
          refine s_iand (pc' := 41) hC d_MO_isResolved_40 rfl ?_
          refine s_iload (pc' := 43) hC d_MO_isResolved_41 rfl 0 rfl ?_
          refine s_cSi (pc' := 46) (As := [.inl v21]) (rs := [.inl (v25 &&& x2)]) (fr' := 0) (lo' := 0) hC qs_MO_80 rfl rfl (Nat.le_of_ble_eq_true rfl) ⟨by decide, by decide⟩ d_MO_isResolved_43 rfl (fun l g sz r w' h => c_MO_bit l g sz w24 v21 r w' h) hF (fun v27 w26 hF => ?_)
          refine s_iload (pc' := 48) hC d_MO_isResolved_46 rfl 0 rfl ?_
          refine s_ineg (pc' := 49) hC d_MO_isResolved_48 rfl ?_
          refine s_cSi (pc' := 52) (As := [.inl (-v21)]) (rs := [.inl v27, .inl (v25 &&& x2)]) (fr' := 0) (lo' := 0) hC qs_MO_80 rfl rfl (Nat.le_of_ble_eq_true rfl) ⟨by decide, by decide⟩ d_MO_isResolved_49 rfl (fun l g sz r w' h => c_MO_bit l g sz w26 (-v21) r w' h) hF (fun v29 w28 hF => ?_)
          refine s_ior (pc' := 53) hC d_MO_isResolved_52 rfl ?_
          refine s_iand (pc' := 54) hC d_MO_isResolved_53 rfl ?_
          refine s_if_eq (tgt := 63) (pc' := 57) hC d_MO_isResolved_54 rfl rfl hF (fun hF => ?_) (fun hF => ?_)
          · refine s_iinc (pc' := 66) (n' := 1) (lv' := [(5, .inl (x5 + 1)), (6, .inl v21), (0, .inr (some a0)), (1, .inl x1), (2, .inl x2), (3, .inl x3), (4, .inl x4)]) hC d_MO_isResolved_63 rfl 6 rfl (by decide) (by decide) rfl ?_
            refine s_goto (tgt := 8) hC d_MO_isResolved_66 rfl ?_
            exact qG_sub [2, 3, 4, 5, 6, 0] rfl (ih_8 a0 x1 x2 x3 x4 (x5 + 1) w28 hF)
          · refine s_iload (pc' := 59) hC d_MO_isResolved_57 rfl 0 rfl ?_
            refine s_istore_n (pc' := 60) (lv' := [(3, .inl v21), (6, .inl v21), (0, .inr (some a0)), (1, .inl x1), (2, .inl x2), (4, .inl x4), (5, .inl x5)]) hC d_MO_isResolved_59 rfl (by decide) rfl ?_
            refine s_iinc (pc' := 63) (n' := 1) (lv' := [(4, .inl (x4 + 1)), (3, .inl v21), (6, .inl v21), (0, .inr (some a0)), (1, .inl x1), (2, .inl x2), (5, .inl x5)]) hC d_MO_isResolved_60 rfl 5 rfl (by decide) (by decide) rfl ?_
            refine s_iinc (pc' := 66) (n' := 1) (lv' := [(5, .inl (x5 + 1)), (4, .inl (x4 + 1)), (3, .inl v21), (6, .inl v21), (0, .inr (some a0)), (1, .inl x1), (2, .inl x2)]) hC d_MO_isResolved_63 rfl 6 rfl (by decide) (by decide) rfl ?_
            refine s_goto (tgt := 8) hC d_MO_isResolved_66 rfl ?_
            exact qG_sub [4, 5, 6, 2, 1, 0] rfl (ih_8 a0 x1 x2 v21 (x4 + 1) (x5 + 1) w28 hF)
  unfold f_MO_isResolved at hF
  refine s_iconst (v := 0) (pc' := 1) hC d_MO_isResolved_0 rfl (by decide) ?_
  refine s_istore_n (pc' := 2) (lv' := [(3, .inl 0), (0, .inr (some a0)), (1, .inl x1), (2, .inl x2)]) hC d_MO_isResolved_1 rfl (by decide) rfl ?_
  refine s_iconst (v := 0) (pc' := 3) hC d_MO_isResolved_2 rfl (by decide) ?_
  refine s_istore (pc' := 5) (lv' := [(4, .inl 0), (3, .inl 0), (0, .inr (some a0)), (1, .inl x1), (2, .inl x2)]) hC d_MO_isResolved_3 rfl (by decide) rfl ?_
  refine s_iconst (v := 0) (pc' := 6) hC d_MO_isResolved_5 rfl (by decide) ?_
  refine s_istore (pc' := 8) (lv' := [(5, .inl 0), (4, .inl 0), (3, .inl 0), (0, .inr (some a0)), (1, .inl x1), (2, .inl x2)]) hC d_MO_isResolved_6 rfl (by decide) rfl ?_
  exact qG_sub [3, 4, 5, 2, 1, 0] rfl (L_8 q_fu a0 x1 x2 0 0 0 w hF)
theorem c_MO_isResolved (l : Launch) (g : qk_G) (sz : Nat) (w : qw) (a0 : Nat) (x1 : Int32) (x2 : Int32) (r : Int32) (w' : qw) (hF : f_MO_isResolved w a0 x1 x2 = some (r, w')) : qMi l g sz y_MO_isResolved b_MO_isResolved 10 (some .boolean) 1 21 [.inr (some a0), .inl x1, .inl x2] w r w' := qk_met_z (by decide) (Nat.le_of_ble_eq_true rfl) (fun X hC hR => k_MO_isResolved r w' hC hR w a0 x1 x2 hF)
def f_MO_won (w : qw) (a0 : Nat) (x1 : Int32) (x2 : Int32) : Option (Int32 × qw) :=
  if x1 < 0 then
    q_ob (q_z 0) (some (0, w))
  else
    q_b1 (q_gi w a0 1 2) fun v1 =>
    if x1 ≤ v1 then
      q_ob (q_is w a0 1) <| q_b1 (f_MO_play0 w a0 x1) fun w2 =>
      q_b1 (q_gr w2 a0 1 27) fun r3 =>
      q_b1 (q_ld w2 r3 2 (x2 &&& (((1 : Int32) <<< (x1 &&& 31)) - 1))) fun v4 =>
      q_ob (q_z v4) (some (v4, w2))
    else
      q_ob (q_z 0) (some (0, w))
set_option maxHeartbeats 4000000 in
set_option maxRecDepth 100000 in
theorem k_MO_won {X : qX} (r : Int32) (w' : qw) (hC : qC X b_MO_won R_MO 3 2 44) (hR : qRz X b_MO_won r w') (w : qw) (a0 : Nat) (x1 : Int32) (x2 : Int32) (hF : f_MO_won w a0 x1 x2 = some (r, w')) : qG X 3 0 [(0, .inr (some a0)), (1, .inl x1), (2, .inl x2)] [] w := by
  unfold f_MO_won at hF
  refine s_iload_n (pc' := 1) hC d_MO_won_0 rfl 1 rfl ?_
  refine s_if_lt (tgt := 12) (pc' := 4) hC d_MO_won_1 rfl rfl hF (fun hF => ?_) (fun hF => ?_)
  · refine s_iconst (v := 0) (pc' := 13) hC d_MO_won_12 rfl (by decide) ?_
    exact s_zret hC hR d_MO_won_13 hF
  · refine s_iload_n (pc' := 5) hC d_MO_won_4 rfl 1 rfl ?_
    refine s_aload_n (pc' := 6) hC d_MO_won_5 rfl 0 rfl ?_
    refine s_geti (pc' := 9) hC qf_MO_99 d_MO_won_6 rfl hF (fun v1 hF => ?_)
    refine s_icmp_le (tgt := 14) (pc' := 12) hC d_MO_won_9 rfl rfl hF (fun hF => ?_) (fun hF => ?_)
    · refine s_aload_n (pc' := 15) hC d_MO_won_14 rfl 0 rfl ?_
      refine s_iload_n (pc' := 16) hC d_MO_won_15 rfl 1 rfl ?_
      refine s_cVv (pc' := 19) (As := [.inl x1]) (rs := []) (a := a0) (fr' := 1) (lo' := 20) hC qs_MO_161 rfl rfl (Nat.le_of_ble_eq_true rfl) ⟨by decide, by decide⟩ d_MO_won_16 rfl (fun l g sz w' h => c_MO_play0 l g sz w a0 x1 w' h) hF (fun w2 hF => ?_)
      refine s_aload_n (pc' := 20) hC d_MO_won_19 rfl 0 rfl ?_
      refine s_getr (pc' := 23) hC qf_MO_50 d_MO_won_20 rfl hF (fun r3 hF => ?_)
      refine s_iload_n (pc' := 24) hC d_MO_won_23 rfl 2 rfl ?_
      refine s_iconst (v := 1) (pc' := 25) hC d_MO_won_24 rfl (by decide) ?_
      refine s_iload_n (pc' := 26) hC d_MO_won_25 rfl 1 rfl ?_
      refine s_ishl (pc' := 27) hC d_MO_won_26 rfl ?_
      refine s_iconst (v := 1) (pc' := 28) hC d_MO_won_27 rfl (by decide) ?_
      refine s_isub (pc' := 29) hC d_MO_won_28 rfl ?_
      refine s_iand (pc' := 30) hC d_MO_won_29 rfl ?_
      refine s_zald (pc' := 31) hC d_MO_won_30 rfl hF (fun v4 hF => ?_)
      exact s_zret hC hR d_MO_won_31 hF
    · refine s_iconst (v := 0) (pc' := 13) hC d_MO_won_12 rfl (by decide) ?_
      exact s_zret hC hR d_MO_won_13 hF
theorem c_MO_won (l : Launch) (g : qk_G) (sz : Nat) (w : qw) (a0 : Nat) (x1 : Int32) (x2 : Int32) (r : Int32) (w' : qw) (hF : f_MO_won w a0 x1 x2 = some (r, w')) : qMi l g sz y_MO_won b_MO_won 3 (some .boolean) 2 44 [.inr (some a0), .inl x1, .inl x2] w r w' := qk_met_z (by decide) (Nat.le_of_ble_eq_true rfl) (fun X hC hR => k_MO_won r w' hC hR w a0 x1 x2 hF)
theorem qp_MO_99 : qP R_MO 99 1 2 .int := ⟨R_MO, F_MO, 28, t_MO, rfl, by decide, in_MO, Or.inl fl_MO_99, t_MO_ok, n_MO, rfl, by decide +kernel⟩
theorem qp_MO_102 : qP R_MO 102 1 6 .int := ⟨R_MO, F_MO, 28, t_MO, rfl, by decide, in_MO, Or.inl fl_MO_102, t_MO_ok, n_MO, rfl, by decide +kernel⟩
theorem qp_MO_105 : qP R_MO 105 1 14 .int := ⟨R_MO, F_MO, 28, t_MO, rfl, by decide, in_MO, Or.inl fl_MO_105, t_MO_ok, n_MO, rfl, by decide +kernel⟩
theorem qs_MO_86 : qV R_MO 86 y_MO_begin b_MO_begin 3 (some .int) 1 1 := ⟨Or.inl ml_MO_86, ic_MO_begin, ii_MO_begin, is_MO_begin, in_c_MO, ⟨_, _, rfl⟩, by decide +kernel⟩
theorem qs_MO_96 : qV R_MO 96 y_MO_read b_MO_read 2 (some .int) 1 1 := ⟨Or.inl ml_MO_96, ic_MO_read, ii_MO_read, is_MO_read, in_c_MO, ⟨_, _, rfl⟩, by decide +kernel⟩
theorem qs_MO_92 : qV R_MO 92 y_MO_word b_MO_word 8 (some .int) 2 1 := ⟨Or.inl ml_MO_92, ic_MO_word, ii_MO_word, is_MO_word, in_c_MO, ⟨_, _, rfl⟩, by decide +kernel⟩
theorem qs_MO_89 : qV R_MO 89 y_MO_end b_MO_end 3 (some .int) 1 1 := ⟨Or.inl ml_MO_89, ic_MO_end, ii_MO_end, is_MO_end, in_c_MO, ⟨_, _, rfl⟩, by decide +kernel⟩
def lb_MO_formula_244  (c244 : Nat → Int32 → qw → Option (Int32 × qw)) (a0 : Nat) (x4 : Int32) (w : qw) : Option (Int32 × qw) :=
  if 12 ≤ x4 then
    some (0, w)
  else
    q_b1 (q_gr w a0 1 7) fun r1 =>
    q_b1 (q_gr w a0 1 13) fun r2 =>
    q_b1 (q_ld w r2 0 x4) fun v3 =>
    q_b1 (q_st w r1 0 x4 v3) fun w4 =>
    c244 a0 (x4 + 1) w4
def ll_MO_formula_244  : Nat → Nat → Int32 → qw → Option (Int32 × qw)
  | 0 => fun _ _ _ => none
  | n + 1 => lb_MO_formula_244  (ll_MO_formula_244  n)
def lb_MO_formula_200  (c200 : Nat → Int32 → qw → Option (Int32 × qw)) (a0 : Nat) (x4 : Int32) (w : qw) : Option (Int32 × qw) :=
  if 8 ≤ x4 then
    ll_MO_formula_244 q_fu a0 0 w
  else
    q_b1 (q_gr w a0 1 3) fun r5 =>
    q_b1 (q_gr w a0 1 9) fun r6 =>
    q_b1 (q_ld w r6 0 x4) fun v7 =>
    q_b1 (q_st w r5 0 x4 v7) fun w8 =>
    q_b1 (q_gr w8 a0 1 4) fun r9 =>
    q_b1 (q_gr w8 a0 1 10) fun r10 =>
    q_b1 (q_ld w8 r10 2 x4) fun v11 =>
    q_ob (q_z v11) <| q_b1 (q_st w8 r9 2 x4 v11) fun w12 =>
    c200 a0 (x4 + 1) w12
def ll_MO_formula_200  : Nat → Nat → Int32 → qw → Option (Int32 × qw)
  | 0 => fun _ _ _ => none
  | n + 1 => lb_MO_formula_200  (ll_MO_formula_200  n)
def lb_MO_formula_170  (c170 : Nat → Int32 → qw → Option (Int32 × qw)) (a0 : Nat) (x4 : Int32) (w : qw) : Option (Int32 × qw) :=
  if 9 ≤ x4 then
    ll_MO_formula_200 q_fu a0 0 w
  else
    q_b1 (q_gr w a0 1 5) fun r13 =>
    q_b1 (q_gr w a0 1 11) fun r14 =>
    q_b1 (q_ld w r14 0 x4) fun v15 =>
    q_b1 (q_st w r13 0 x4 v15) fun w16 =>
    c170 a0 (x4 + 1) w16
def ll_MO_formula_170  : Nat → Nat → Int32 → qw → Option (Int32 × qw)
  | 0 => fun _ _ _ => none
  | n + 1 => lb_MO_formula_170  (ll_MO_formula_170  n)
def lj_MO_formula_146  (a0 : Nat) (w : qw) : Option (Int32 × qw) :=
  q_b1 (q_gi w a0 1 8) fun v17 =>
  q_b1 (q_pf w a0 1 2 (.inl v17)) fun w18 =>
  q_b1 (q_gi w18 a0 1 12) fun v19 =>
  q_b1 (q_pf w18 a0 1 6 (.inl v19)) fun w20 =>
  q_b1 (q_pf w20 a0 1 14 (.inl 0)) fun w21 =>
  ll_MO_formula_170 q_fu a0 0 w21
def lj_MO_formula_95  (a0 : Nat) (x1 : Int32) (x2 : Int32) (w : qw) : Option (Int32 × qw) :=
  q_b1 (q_gi w a0 1 1) fun v22 =>
  q_b1 (q_pf w a0 1 1 (.inl 0)) fun w23 =>
  if x2 ≤ 0 then
    q_b1 (q_gi w23 a0 1 19) fun v24 =>
    if v24 = 1 then
      some ((-1000 : Int32) - v22, w23)
    else
      q_b1 (q_gi w23 a0 1 19) fun v25 =>
      if v25 = 2 then
        q_b1 (q_gi w23 a0 1 21) fun v26 =>
        if v26 ≤ 0 then
          lj_MO_formula_146 a0 w23
        else
          some ((-1000 : Int32) - v22, w23)
      else
        lj_MO_formula_146 a0 w23
  else
    some (((-1000 : Int32) * x2) - x1, w23)
def lb_MO_formula_49  (c49 : Nat → Int32 → Int32 → qw → Option (Int32 × qw)) (a0 : Nat) (x1 : Int32) (x2 : Int32) (w : qw) : Option (Int32 × qw) :=
  q_b1 (q_gi w a0 1 1) fun v27 =>
  if v27 ≤ x1 then
    lj_MO_formula_95 a0 x1 x2 w
  else
    if x2 = 0 then
      q_ob (q_is w a0 1) <| q_b2 (f_MO_end w a0 x1) fun v29 w28 =>
      q_ob (q_is w28 a0 1) <| q_b2 (f_MO_word w28 a0 x1 v29) fun v31 w30 =>
      q_ob (q_is w30 a0 1) <| q_b2 (f_MO_read w30 a0 v31) fun v33 w32 =>
      if v33 = 0 then
        q_ob (q_is w32 a0 1) <| q_b2 (f_MO_begin w32 a0 v29) fun v35 w34 =>
        c49 a0 v35 v33 w34
      else
        c49 a0 x1 v33 w32
    else
      lj_MO_formula_95 a0 x1 x2 w
def ll_MO_formula_49  : Nat → Nat → Int32 → Int32 → qw → Option (Int32 × qw)
  | 0 => fun _ _ _ _ => none
  | n + 1 => lb_MO_formula_49  (ll_MO_formula_49  n)
def lb_MO_formula_12  (c12 : Nat → Int32 → qw → Option (Int32 × qw)) (a0 : Nat) (x1 : Int32) (w : qw) : Option (Int32 × qw) :=
  if 9 ≤ x1 then
    q_b1 (q_pf w a0 1 19 (.inl 0)) fun w36 =>
    q_b1 (q_pf w36 a0 1 21 (.inl 0)) fun w37 =>
    q_ob (q_is w37 a0 1) <| q_b2 (f_MO_begin w37 a0 0) fun v39 w38 =>
    ll_MO_formula_49 q_fu a0 v39 0 w38
  else
    q_b1 (q_gr w a0 1 11) fun r40 =>
    q_b1 (q_st w r40 0 x1 (-1)) fun w41 =>
    c12 a0 (x1 + 1) w41
def ll_MO_formula_12  : Nat → Nat → Int32 → qw → Option (Int32 × qw)
  | 0 => fun _ _ _ => none
  | n + 1 => lb_MO_formula_12  (ll_MO_formula_12  n)
def f_MO_formula (w : qw) (a0 : Nat) : Option (Int32 × qw) :=
  q_b1 (q_pf w a0 1 8 (.inl 0)) fun w42 =>
  q_b1 (q_pf w42 a0 1 12 (.inl 0)) fun w43 =>
  ll_MO_formula_12 q_fu a0 0 w43
set_option maxHeartbeats 4000000 in
set_option maxRecDepth 100000 in
theorem k_MO_formula {X : qX} (r : Int32) (w' : qw) (hC : qC X b_MO_formula R_MO 5 2 42) (hR : qRi X b_MO_formula r w') (w : qw) (a0 : Nat) (hF : f_MO_formula w a0 = some (r, w')) : qG X 5 0 [(0, .inr (some a0))] [] w := by
  have L_244 : ∀ (n : Nat) (a0 : Nat) (x4 : Int32) (w : qw), ll_MO_formula_244  n a0 x4 w = some (r, w') → qG X 5 244 [(0, .inr (some a0)), (4, .inl x4)] [] w := by
    intro n_244
    induction n_244 with
    | zero => exact fun _ _ _ hF => q_nn (show (none : Option (Int32 × qw)) = some (r, w') from hF)
    | succ n_244 ih_244 =>
      intro a0 x4 w hF
      have hF : lb_MO_formula_244  (ll_MO_formula_244  n_244) a0 x4 w = some (r, w') := hF
      unfold lb_MO_formula_244 at hF
      refine s_iload (pc' := 246) hC d_MO_formula_244 rfl 1 rfl ?_
      refine s_bipush (v := 12) (pc' := 248) hC d_MO_formula_246 rfl (by decide) ?_
      refine s_icmp_ge (tgt := 271) (pc' := 251) hC d_MO_formula_248 rfl rfl hF (fun hF => ?_) (fun hF => ?_)
      · refine s_iconst (v := 0) (pc' := 272) hC d_MO_formula_271 rfl (by decide) ?_
        exact s_iret hC hR d_MO_formula_272 hF
      · refine s_aload_n (pc' := 252) hC d_MO_formula_251 rfl 0 rfl ?_
        refine s_getr (pc' := 255) hC qf_MO_23 d_MO_formula_252 rfl hF (fun r1 hF => ?_)
        refine s_iload (pc' := 257) hC d_MO_formula_255 rfl 1 rfl ?_
        refine s_aload_n (pc' := 258) hC d_MO_formula_257 rfl 0 rfl ?_
        refine s_getr (pc' := 261) hC qf_MO_35 d_MO_formula_258 rfl hF (fun r2 hF => ?_)
        refine s_iload (pc' := 263) hC d_MO_formula_261 rfl 1 rfl ?_
        refine s_iald (pc' := 264) hC d_MO_formula_263 rfl hF (fun v3 hF => ?_)
        refine s_iast (pc' := 265) hC d_MO_formula_264 rfl hF (fun w4 hF => ?_)
        refine s_iinc (pc' := 268) (n' := 1) (lv' := [(4, .inl (x4 + 1)), (0, .inr (some a0))]) hC d_MO_formula_265 rfl 1 rfl (by decide) (by decide) rfl ?_
        refine s_goto (tgt := 244) hC d_MO_formula_268 rfl ?_
        exact qG_sub [1, 0] rfl (ih_244 a0 (x4 + 1) w4 hF)
  have L_200 : ∀ (n : Nat) (a0 : Nat) (x4 : Int32) (w : qw), ll_MO_formula_200  n a0 x4 w = some (r, w') → qG X 5 200 [(0, .inr (some a0)), (4, .inl x4)] [] w := by
    intro n_200
    induction n_200 with
    | zero => exact fun _ _ _ hF => q_nn (show (none : Option (Int32 × qw)) = some (r, w') from hF)
    | succ n_200 ih_200 =>
      intro a0 x4 w hF
      have hF : lb_MO_formula_200  (ll_MO_formula_200  n_200) a0 x4 w = some (r, w') := hF
      unfold lb_MO_formula_200 at hF
      refine s_iload (pc' := 202) hC d_MO_formula_200 rfl 1 rfl ?_
      refine s_bipush (v := 8) (pc' := 204) hC d_MO_formula_202 rfl (by decide) ?_
      refine s_icmp_ge (tgt := 241) (pc' := 207) hC d_MO_formula_204 rfl rfl hF (fun hF => ?_) (fun hF => ?_)
      · refine s_iconst (v := 0) (pc' := 242) hC d_MO_formula_241 rfl (by decide) ?_
        refine s_istore (pc' := 244) (lv' := [(4, .inl 0), (0, .inr (some a0))]) hC d_MO_formula_242 rfl (by decide) rfl ?_
        exact qG_sub [1, 0] rfl (L_244 q_fu a0 0 w hF)
      · refine s_aload_n (pc' := 208) hC d_MO_formula_207 rfl 0 rfl ?_
        refine s_getr (pc' := 211) hC qf_MO_13 d_MO_formula_208 rfl hF (fun r5 hF => ?_)
        refine s_iload (pc' := 213) hC d_MO_formula_211 rfl 1 rfl ?_
        refine s_aload_n (pc' := 214) hC d_MO_formula_213 rfl 0 rfl ?_
        refine s_getr (pc' := 217) hC qf_MO_26 d_MO_formula_214 rfl hF (fun r6 hF => ?_)
        refine s_iload (pc' := 219) hC d_MO_formula_217 rfl 1 rfl ?_
        refine s_iald (pc' := 220) hC d_MO_formula_219 rfl hF (fun v7 hF => ?_)
        refine s_iast (pc' := 221) hC d_MO_formula_220 rfl hF (fun w8 hF => ?_)
        refine s_aload_n (pc' := 222) hC d_MO_formula_221 rfl 0 rfl ?_
        refine s_getr (pc' := 225) hC qf_MO_16 d_MO_formula_222 rfl hF (fun r9 hF => ?_)
        refine s_iload (pc' := 227) hC d_MO_formula_225 rfl 1 rfl ?_
        refine s_aload_n (pc' := 228) hC d_MO_formula_227 rfl 0 rfl ?_
        refine s_getr (pc' := 231) hC qf_MO_29 d_MO_formula_228 rfl hF (fun r10 hF => ?_)
        refine s_iload (pc' := 233) hC d_MO_formula_231 rfl 1 rfl ?_
        refine s_zald (pc' := 234) hC d_MO_formula_233 rfl hF (fun v11 hF => ?_)
        refine s_zast (pc' := 235) hC d_MO_formula_234 rfl hF (fun w12 hF => ?_)
        refine s_iinc (pc' := 238) (n' := 1) (lv' := [(4, .inl (x4 + 1)), (0, .inr (some a0))]) hC d_MO_formula_235 rfl 1 rfl (by decide) (by decide) rfl ?_
        refine s_goto (tgt := 200) hC d_MO_formula_238 rfl ?_
        exact qG_sub [1, 0] rfl (ih_200 a0 (x4 + 1) w12 hF)
  have L_170 : ∀ (n : Nat) (a0 : Nat) (x4 : Int32) (w : qw), ll_MO_formula_170  n a0 x4 w = some (r, w') → qG X 5 170 [(0, .inr (some a0)), (4, .inl x4)] [] w := by
    intro n_170
    induction n_170 with
    | zero => exact fun _ _ _ hF => q_nn (show (none : Option (Int32 × qw)) = some (r, w') from hF)
    | succ n_170 ih_170 =>
      intro a0 x4 w hF
      have hF : lb_MO_formula_170  (ll_MO_formula_170  n_170) a0 x4 w = some (r, w') := hF
      unfold lb_MO_formula_170 at hF
      refine s_iload (pc' := 172) hC d_MO_formula_170 rfl 1 rfl ?_
      refine s_bipush (v := 9) (pc' := 174) hC d_MO_formula_172 rfl (by decide) ?_
      refine s_icmp_ge (tgt := 197) (pc' := 177) hC d_MO_formula_174 rfl rfl hF (fun hF => ?_) (fun hF => ?_)
      · refine s_iconst (v := 0) (pc' := 198) hC d_MO_formula_197 rfl (by decide) ?_
        refine s_istore (pc' := 200) (lv' := [(4, .inl 0), (0, .inr (some a0))]) hC d_MO_formula_198 rfl (by decide) rfl ?_
        exact qG_sub [1, 0] rfl (L_200 q_fu a0 0 w hF)
      · refine s_aload_n (pc' := 178) hC d_MO_formula_177 rfl 0 rfl ?_
        refine s_getr (pc' := 181) hC qf_MO_20 d_MO_formula_178 rfl hF (fun r13 hF => ?_)
        refine s_iload (pc' := 183) hC d_MO_formula_181 rfl 1 rfl ?_
        refine s_aload_n (pc' := 184) hC d_MO_formula_183 rfl 0 rfl ?_
        refine s_getr (pc' := 187) hC qf_MO_32 d_MO_formula_184 rfl hF (fun r14 hF => ?_)
        refine s_iload (pc' := 189) hC d_MO_formula_187 rfl 1 rfl ?_
        refine s_iald (pc' := 190) hC d_MO_formula_189 rfl hF (fun v15 hF => ?_)
        refine s_iast (pc' := 191) hC d_MO_formula_190 rfl hF (fun w16 hF => ?_)
        refine s_iinc (pc' := 194) (n' := 1) (lv' := [(4, .inl (x4 + 1)), (0, .inr (some a0))]) hC d_MO_formula_191 rfl 1 rfl (by decide) (by decide) rfl ?_
        refine s_goto (tgt := 170) hC d_MO_formula_194 rfl ?_
        exact qG_sub [1, 0] rfl (ih_170 a0 (x4 + 1) w16 hF)
  have J_146 : ∀ (a0 : Nat) (w : qw), lj_MO_formula_146  a0 w = some (r, w') → qG X 5 146 [(0, .inr (some a0))] [] w := by
    intro a0 w hF
    unfold lj_MO_formula_146 at hF
    refine s_aload_n (pc' := 147) hC d_MO_formula_146 rfl 0 rfl ?_
    refine s_aload_n (pc' := 148) hC d_MO_formula_147 rfl 0 rfl ?_
    refine s_geti (pc' := 151) hC qf_MO_83 d_MO_formula_148 rfl hF (fun v17 hF => ?_)
    refine s_puti (pc' := 154) hC qp_MO_99 d_MO_formula_151 rfl hF (fun w18 hF => ?_)
    refine s_aload_n (pc' := 155) hC d_MO_formula_154 rfl 0 rfl ?_
    refine s_aload_n (pc' := 156) hC d_MO_formula_155 rfl 0 rfl ?_
    refine s_geti (pc' := 159) hC qf_MO_74 d_MO_formula_156 rfl hF (fun v19 hF => ?_)
    refine s_puti (pc' := 162) hC qp_MO_102 d_MO_formula_159 rfl hF (fun w20 hF => ?_)
    refine s_aload_n (pc' := 163) hC d_MO_formula_162 rfl 0 rfl ?_
    refine s_iconst (v := 0) (pc' := 164) hC d_MO_formula_163 rfl (by decide) ?_
    refine s_puti (pc' := 167) hC qp_MO_105 d_MO_formula_164 rfl hF (fun w21 hF => ?_)
    refine s_iconst (v := 0) (pc' := 168) hC d_MO_formula_167 rfl (by decide) ?_
    refine s_istore (pc' := 170) (lv' := [(4, .inl 0), (0, .inr (some a0))]) hC d_MO_formula_168 rfl (by decide) rfl ?_
    exact qG_sub [1, 0] rfl (L_170 q_fu a0 0 w21 hF)
  have J_95 : ∀ (a0 : Nat) (x1 : Int32) (x2 : Int32) (w : qw), lj_MO_formula_95  a0 x1 x2 w = some (r, w') → qG X 5 95 [(0, .inr (some a0)), (1, .inl x1), (2, .inl x2)] [] w := by
    intro a0 x1 x2 w hF
    unfold lj_MO_formula_95 at hF
    refine s_aload_n (pc' := 96) hC d_MO_formula_95 rfl 0 rfl ?_
    refine s_geti (pc' := 99) hC qf_MO_53 d_MO_formula_96 rfl hF (fun v22 hF => ?_)
    refine s_istore_n (pc' := 100) (lv' := [(3, .inl v22), (0, .inr (some a0)), (1, .inl x1), (2, .inl x2)]) hC d_MO_formula_99 rfl (by decide) rfl ?_
    refine s_aload_n (pc' := 101) hC d_MO_formula_100 rfl 1 rfl ?_
    refine s_iconst (v := 0) (pc' := 102) hC d_MO_formula_101 rfl (by decide) ?_
    refine s_puti (pc' := 105) hC qp_MO_53 d_MO_formula_102 rfl hF (fun w23 hF => ?_)
    refine s_iload_n (pc' := 106) hC d_MO_formula_105 rfl 3 rfl ?_
    refine s_if_le (tgt := 117) (pc' := 109) hC d_MO_formula_106 rfl rfl hF (fun hF => ?_) (fun hF => ?_)
    · refine s_aload_n (pc' := 118) hC d_MO_formula_117 rfl 1 rfl ?_
      refine s_geti (pc' := 121) hC qf_MO_57 d_MO_formula_118 rfl hF (fun v24 hF => ?_)
      refine s_iconst (v := 1) (pc' := 122) hC d_MO_formula_121 rfl (by decide) ?_
      refine s_icmp_eq (tgt := 140) (pc' := 125) hC d_MO_formula_122 rfl rfl hF (fun hF => ?_) (fun hF => ?_)
      · refine s_sipush (v := (-1000)) (pc' := 143) hC d_MO_formula_140 rfl (by decide) ?_
        refine s_iload_n (pc' := 144) hC d_MO_formula_143 rfl 0 rfl ?_
        refine s_isub (pc' := 145) hC d_MO_formula_144 rfl ?_
        exact s_iret hC hR d_MO_formula_145 hF
      · refine s_aload_n (pc' := 126) hC d_MO_formula_125 rfl 1 rfl ?_
        refine s_geti (pc' := 129) hC qf_MO_57 d_MO_formula_126 rfl hF (fun v25 hF => ?_)
        refine s_iconst (v := 2) (pc' := 130) hC d_MO_formula_129 rfl (by decide) ?_
        refine s_icmp_ne (tgt := 146) (pc' := 133) hC d_MO_formula_130 rfl rfl hF (fun hF => ?_) (fun hF => ?_)
        · exact qG_sub [1] rfl (J_146 a0 w23 hF)
        · refine s_aload_n (pc' := 134) hC d_MO_formula_133 rfl 1 rfl ?_
          refine s_geti (pc' := 137) hC qf_MO_64 d_MO_formula_134 rfl hF (fun v26 hF => ?_)
          refine s_if_le (tgt := 146) (pc' := 140) hC d_MO_formula_137 rfl rfl hF (fun hF => ?_) (fun hF => ?_)
          · exact qG_sub [1] rfl (J_146 a0 w23 hF)
          · refine s_sipush (v := (-1000)) (pc' := 143) hC d_MO_formula_140 rfl (by decide) ?_
            refine s_iload_n (pc' := 144) hC d_MO_formula_143 rfl 0 rfl ?_
            refine s_isub (pc' := 145) hC d_MO_formula_144 rfl ?_
            exact s_iret hC hR d_MO_formula_145 hF
    · refine s_sipush (v := (-1000)) (pc' := 112) hC d_MO_formula_109 rfl (by decide) ?_
      refine s_iload_n (pc' := 113) hC d_MO_formula_112 rfl 3 rfl ?_
      refine s_imul (pc' := 114) hC d_MO_formula_113 rfl ?_
      refine s_iload_n (pc' := 115) hC d_MO_formula_114 rfl 2 rfl ?_
      refine s_isub (pc' := 116) hC d_MO_formula_115 rfl ?_
      exact s_iret hC hR d_MO_formula_116 hF
  have L_49 : ∀ (n : Nat) (a0 : Nat) (x1 : Int32) (x2 : Int32) (w : qw), ll_MO_formula_49  n a0 x1 x2 w = some (r, w') → qG X 5 49 [(0, .inr (some a0)), (1, .inl x1), (2, .inl x2)] [] w := by
    intro n_49
    induction n_49 with
    | zero => exact fun _ _ _ _ hF => q_nn (show (none : Option (Int32 × qw)) = some (r, w') from hF)
    | succ n_49 ih_49 =>
      intro a0 x1 x2 w hF
      have hF : lb_MO_formula_49  (ll_MO_formula_49  n_49) a0 x1 x2 w = some (r, w') := hF
      unfold lb_MO_formula_49 at hF
      refine s_iload_n (pc' := 50) hC d_MO_formula_49 rfl 1 rfl ?_
      refine s_aload_n (pc' := 51) hC d_MO_formula_50 rfl 0 rfl ?_
      refine s_geti (pc' := 54) hC qf_MO_53 d_MO_formula_51 rfl hF (fun v27 hF => ?_)
      refine s_icmp_ge (tgt := 95) (pc' := 57) hC d_MO_formula_54 rfl rfl hF (fun hF => ?_) (fun hF => ?_)
      · exact qG_sub [0, 1, 2] rfl (J_95 a0 x1 x2 w hF)
      · refine s_iload_n (pc' := 58) hC d_MO_formula_57 rfl 2 rfl ?_
        refine s_if_ne (tgt := 95) (pc' := 61) hC d_MO_formula_58 rfl rfl hF (fun hF => ?_) (fun hF => ?_)
        · exact qG_sub [0, 1, 2] rfl (J_95 a0 x1 x2 w hF)
        · refine s_aload_n (pc' := 62) hC d_MO_formula_61 rfl 0 rfl ?_
          refine s_iload_n (pc' := 63) hC d_MO_formula_62 rfl 1 rfl ?_
          refine s_cVi (pc' := 66) (As := [.inl x1]) (rs := []) (a := a0) (fr' := 0) (lo' := 0) hC qs_MO_89 rfl rfl (Nat.le_of_ble_eq_true rfl) ⟨by decide, by decide⟩ d_MO_formula_63 rfl (fun l g sz r w' h => c_MO_end l g sz w a0 x1 r w' h) hF (fun v29 w28 hF => ?_)
          refine s_istore_n (pc' := 67) (lv' := [(3, .inl v29), (0, .inr (some a0)), (1, .inl x1), (2, .inl x2)]) hC d_MO_formula_66 rfl (by decide) rfl ?_
          refine s_aload_n (pc' := 68) hC d_MO_formula_67 rfl 1 rfl ?_
          refine s_aload_n (pc' := 69) hC d_MO_formula_68 rfl 1 rfl ?_
          refine s_iload_n (pc' := 70) hC d_MO_formula_69 rfl 2 rfl ?_
          refine s_iload_n (pc' := 71) hC d_MO_formula_70 rfl 0 rfl ?_
          refine s_cVi (pc' := 74) (As := [.inl x1, .inl v29]) (rs := [.inr (some a0)]) (a := a0) (fr' := 0) (lo' := 0) hC qs_MO_92 rfl rfl (Nat.le_of_ble_eq_true rfl) ⟨by decide, by decide⟩ d_MO_formula_71 rfl (fun l g sz r w' h => c_MO_word l g sz w28 a0 x1 v29 r w' h) hF (fun v31 w30 hF => ?_)
          refine s_cVi (pc' := 77) (As := [.inl v31]) (rs := []) (a := a0) (fr' := 1) (lo' := 21) hC qs_MO_96 rfl rfl (Nat.le_of_ble_eq_true rfl) ⟨by decide, by decide⟩ d_MO_formula_74 rfl (fun l g sz r w' h => c_MO_read l g sz w30 a0 v31 r w' h) hF (fun v33 w32 hF => ?_)
          refine s_istore_n (pc' := 78) (lv' := [(2, .inl v33), (3, .inl v29), (0, .inr (some a0)), (1, .inl x1)]) hC d_MO_formula_77 rfl (by decide) rfl ?_
          refine s_iload_n (pc' := 79) hC d_MO_formula_78 rfl 0 rfl ?_
          refine s_if_ne (tgt := 90) (pc' := 82) hC d_MO_formula_79 rfl rfl hF (fun hF => ?_) (fun hF => ?_)
          · refine s_iload_n (pc' := 91) hC d_MO_formula_90 rfl 3 rfl ?_
            refine s_istore_n (pc' := 92) (lv' := [(1, .inl x1), (2, .inl v33), (3, .inl v29), (0, .inr (some a0))]) hC d_MO_formula_91 rfl (by decide) rfl ?_
            refine s_goto (tgt := 49) hC d_MO_formula_92 rfl ?_
            exact qG_sub [3, 0, 1] rfl (ih_49 a0 x1 v33 w32 hF)
          · refine s_aload_n (pc' := 83) hC d_MO_formula_82 rfl 2 rfl ?_
            refine s_iload_n (pc' := 84) hC d_MO_formula_83 rfl 1 rfl ?_
            refine s_cVi (pc' := 87) (As := [.inl v29]) (rs := []) (a := a0) (fr' := 0) (lo' := 0) hC qs_MO_86 rfl rfl (Nat.le_of_ble_eq_true rfl) ⟨by decide, by decide⟩ d_MO_formula_84 rfl (fun l g sz r w' h => c_MO_begin l g sz w32 a0 v29 r w' h) hF (fun v35 w34 hF => ?_)
            refine s_goto (tgt := 91) hC d_MO_formula_87 rfl ?_
            refine s_istore_n (pc' := 92) (lv' := [(1, .inl v35), (2, .inl v33), (3, .inl v29), (0, .inr (some a0))]) hC d_MO_formula_91 rfl (by decide) rfl ?_
            refine s_goto (tgt := 49) hC d_MO_formula_92 rfl ?_
            exact qG_sub [3, 0, 1] rfl (ih_49 a0 v35 v33 w34 hF)
  have L_12 : ∀ (n : Nat) (a0 : Nat) (x1 : Int32) (w : qw), ll_MO_formula_12  n a0 x1 w = some (r, w') → qG X 5 12 [(0, .inr (some a0)), (1, .inl x1)] [] w := by
    intro n_12
    induction n_12 with
    | zero => exact fun _ _ _ hF => q_nn (show (none : Option (Int32 × qw)) = some (r, w') from hF)
    | succ n_12 ih_12 =>
      intro a0 x1 w hF
      have hF : lb_MO_formula_12  (ll_MO_formula_12  n_12) a0 x1 w = some (r, w') := hF
      unfold lb_MO_formula_12 at hF
      refine s_iload_n (pc' := 13) hC d_MO_formula_12 rfl 1 rfl ?_
      refine s_bipush (v := 9) (pc' := 15) hC d_MO_formula_13 rfl (by decide) ?_
      refine s_icmp_ge (tgt := 31) (pc' := 18) hC d_MO_formula_15 rfl rfl hF (fun hF => ?_) (fun hF => ?_)
      · refine s_aload_n (pc' := 32) hC d_MO_formula_31 rfl 0 rfl ?_
        refine s_iconst (v := 0) (pc' := 33) hC d_MO_formula_32 rfl (by decide) ?_
        refine s_puti (pc' := 36) hC qp_MO_57 d_MO_formula_33 rfl hF (fun w36 hF => ?_)
        refine s_aload_n (pc' := 37) hC d_MO_formula_36 rfl 0 rfl ?_
        refine s_iconst (v := 0) (pc' := 38) hC d_MO_formula_37 rfl (by decide) ?_
        refine s_puti (pc' := 41) hC qp_MO_64 d_MO_formula_38 rfl hF (fun w37 hF => ?_)
        refine s_aload_n (pc' := 42) hC d_MO_formula_41 rfl 0 rfl ?_
        refine s_iconst (v := 0) (pc' := 43) hC d_MO_formula_42 rfl (by decide) ?_
        refine s_cVi (pc' := 46) (As := [.inl 0]) (rs := []) (a := a0) (fr' := 0) (lo' := 0) hC qs_MO_86 rfl rfl (Nat.le_of_ble_eq_true rfl) ⟨by decide, by decide⟩ d_MO_formula_43 rfl (fun l g sz r w' h => c_MO_begin l g sz w37 a0 0 r w' h) hF (fun v39 w38 hF => ?_)
        refine s_istore_n (pc' := 47) (lv' := [(1, .inl v39), (0, .inr (some a0))]) hC d_MO_formula_46 rfl (by decide) rfl ?_
        refine s_iconst (v := 0) (pc' := 48) hC d_MO_formula_47 rfl (by decide) ?_
        refine s_istore_n (pc' := 49) (lv' := [(2, .inl 0), (1, .inl v39), (0, .inr (some a0))]) hC d_MO_formula_48 rfl (by decide) rfl ?_
        exact qG_sub [2, 1, 0] rfl (L_49 q_fu a0 v39 0 w38 hF)
      · refine s_aload_n (pc' := 19) hC d_MO_formula_18 rfl 0 rfl ?_
        refine s_getr (pc' := 22) hC qf_MO_32 d_MO_formula_19 rfl hF (fun r40 hF => ?_)
        refine s_iload_n (pc' := 23) hC d_MO_formula_22 rfl 1 rfl ?_
        refine s_iconst (v := (-1)) (pc' := 24) hC d_MO_formula_23 rfl (by decide) ?_
        refine s_iast (pc' := 25) hC d_MO_formula_24 rfl hF (fun w41 hF => ?_)
        refine s_iinc (pc' := 28) (n' := 1) (lv' := [(1, .inl (x1 + 1)), (0, .inr (some a0))]) hC d_MO_formula_25 rfl 1 rfl (by decide) (by decide) rfl ?_
        refine s_goto (tgt := 12) hC d_MO_formula_28 rfl ?_
        exact qG_sub [1, 0] rfl (ih_12 a0 (x1 + 1) w41 hF)
  unfold f_MO_formula at hF
  refine s_aload_n (pc' := 1) hC d_MO_formula_0 rfl 0 rfl ?_
  refine s_iconst (v := 0) (pc' := 2) hC d_MO_formula_1 rfl (by decide) ?_
  refine s_puti (pc' := 5) hC qp_MO_83 d_MO_formula_2 rfl hF (fun w42 hF => ?_)
  refine s_aload_n (pc' := 6) hC d_MO_formula_5 rfl 0 rfl ?_
  refine s_iconst (v := 0) (pc' := 7) hC d_MO_formula_6 rfl (by decide) ?_
  refine s_puti (pc' := 10) hC qp_MO_74 d_MO_formula_7 rfl hF (fun w43 hF => ?_)
  refine s_iconst (v := 0) (pc' := 11) hC d_MO_formula_10 rfl (by decide) ?_
  refine s_istore_n (pc' := 12) (lv' := [(1, .inl 0), (0, .inr (some a0))]) hC d_MO_formula_11 rfl (by decide) rfl ?_
  exact qG_sub [1, 0] rfl (L_12 q_fu a0 0 w43 hF)
theorem c_MO_formula (l : Launch) (g : qk_G) (sz : Nat) (w : qw) (a0 : Nat) (r : Int32) (w' : qw) (hF : f_MO_formula w a0 = some (r, w')) : qMi l g sz y_MO_formula b_MO_formula 5 (some .int) 2 42 [.inr (some a0)] w r w' := qk_met_i (by decide) (Nat.le_of_ble_eq_true rfl) (fun X hC hR => k_MO_formula r w' hC hR w a0 hF)
theorem qs_MO_147 : qV R_MO 147 y_MO_isResolved b_MO_isResolved 10 (some .boolean) 2 1 := ⟨Or.inl ml_MO_147, ic_MO_isResolved, ii_MO_isResolved, is_MO_isResolved, in_c_MO, ⟨_, _, rfl⟩, by decide +kernel⟩
theorem qs_MO_144 : qV R_MO 144 y_MO_reduced b_MO_reduced 7 (some .int) 1 1 := ⟨Or.inl ml_MO_144, ic_MO_reduced, ii_MO_reduced, is_MO_reduced, in_c_MO, ⟨_, _, rfl⟩, by decide +kernel⟩
theorem qs_MO_141 : qV R_MO 141 y_MO_isFirst b_MO_isFirst 4 (some .boolean) 0 1 := ⟨Or.inl ml_MO_141, ic_MO_isFirst, ii_MO_isFirst, is_MO_isFirst, in_c_MO, ⟨_, _, rfl⟩, by decide +kernel⟩
def f_MO_follows (w : qw) (a0 : Nat) : Option (Int32 × qw) :=
  q_b1 (q_gi w a0 1 21) fun v1 =>
  if v1 = 0 then
    q_ob (q_is w a0 1) <| q_b2 (f_MO_isFirst w a0) fun v18 w17 =>
    q_ob (q_z v18) (some (v18, w17))
  else
    q_b1 (q_gi w a0 1 21) fun v2 =>
    if v2 = 1 then
      q_b1 (q_gi w a0 1 22) fun v11 =>
      q_b1 (q_gr w a0 1 16) fun r12 =>
      q_b1 (q_gi w a0 1 25) fun v13 =>
      q_b1 (q_ld w r12 0 v13) fun v14 =>
      q_ob (q_is w a0 1) <| q_b2 (f_MO_reduced w a0 v14) fun v16 w15 =>
      if v11 = v16 then
        q_ob (q_z 1) (some (1, w15))
      else
        q_ob (q_z 0) (some (0, w15))
    else
      q_b1 (q_gr w a0 1 16) fun r3 =>
      q_b1 (q_gi w a0 1 25) fun v4 =>
      q_b1 (q_ld w r3 0 v4) fun v5 =>
      q_b1 (q_gr w a0 1 16) fun r6 =>
      q_b1 (q_gi w a0 1 26) fun v7 =>
      q_b1 (q_ld w r6 0 v7) fun v8 =>
      q_ob (q_is w a0 1) <| q_b2 (f_MO_isResolved w a0 v5 v8) fun v10 w9 =>
      q_ob (q_z v10) (some (v10, w9))
set_option maxHeartbeats 4000000 in
set_option maxRecDepth 100000 in
theorem k_MO_follows {X : qX} (r : Int32) (w' : qw) (hC : qC X b_MO_follows R_MO 1 2 50) (hR : qRz X b_MO_follows r w') (w : qw) (a0 : Nat) (hF : f_MO_follows w a0 = some (r, w')) : qG X 1 0 [(0, .inr (some a0))] [] w := by
  unfold f_MO_follows at hF
  refine s_aload_n (pc' := 1) hC d_MO_follows_0 rfl 0 rfl ?_
  refine s_geti (pc' := 4) hC qf_MO_64 d_MO_follows_1 rfl hF (fun v1 hF => ?_)
  refine s_if_ne (tgt := 14) (pc' := 7) hC d_MO_follows_4 rfl rfl hF (fun hF => ?_) (fun hF => ?_)
  · refine s_aload_n (pc' := 15) hC d_MO_follows_14 rfl 0 rfl ?_
    refine s_geti (pc' := 18) hC qf_MO_64 d_MO_follows_15 rfl hF (fun v2 hF => ?_)
    refine s_iconst (v := 1) (pc' := 19) hC d_MO_follows_18 rfl (by decide) ?_
    refine s_icmp_ne (tgt := 50) (pc' := 22) hC d_MO_follows_19 rfl rfl hF (fun hF => ?_) (fun hF => ?_)
    · refine s_aload_n (pc' := 51) hC d_MO_follows_50 rfl 0 rfl ?_
      refine s_aload_n (pc' := 52) hC d_MO_follows_51 rfl 0 rfl ?_
      refine s_getr (pc' := 55) hC qf_MO_41 d_MO_follows_52 rfl hF (fun r3 hF => ?_)
      refine s_aload_n (pc' := 56) hC d_MO_follows_55 rfl 0 rfl ?_
      refine s_geti (pc' := 59) hC qf_MO_117 d_MO_follows_56 rfl hF (fun v4 hF => ?_)
      refine s_iald (pc' := 60) hC d_MO_follows_59 rfl hF (fun v5 hF => ?_)
      refine s_aload_n (pc' := 61) hC d_MO_follows_60 rfl 0 rfl ?_
      refine s_getr (pc' := 64) hC qf_MO_41 d_MO_follows_61 rfl hF (fun r6 hF => ?_)
      refine s_aload_n (pc' := 65) hC d_MO_follows_64 rfl 0 rfl ?_
      refine s_geti (pc' := 68) hC qf_MO_120 d_MO_follows_65 rfl hF (fun v7 hF => ?_)
      refine s_iald (pc' := 69) hC d_MO_follows_68 rfl hF (fun v8 hF => ?_)
      refine s_cVi (pc' := 72) (As := [.inl v5, .inl v8]) (rs := []) (a := a0) (fr' := 1) (lo' := 21) hC qs_MO_147 rfl rfl (Nat.le_of_ble_eq_true rfl) ⟨by decide, by decide⟩ d_MO_follows_69 rfl (fun l g sz r w' h => c_MO_isResolved l g sz w a0 v5 v8 r w' h) hF (fun v10 w9 hF => ?_)
      exact s_zret hC hR d_MO_follows_72 hF
    · refine s_aload_n (pc' := 23) hC d_MO_follows_22 rfl 0 rfl ?_
      refine s_geti (pc' := 26) hC qf_MO_71 d_MO_follows_23 rfl hF (fun v11 hF => ?_)
      refine s_aload_n (pc' := 27) hC d_MO_follows_26 rfl 0 rfl ?_
      refine s_aload_n (pc' := 28) hC d_MO_follows_27 rfl 0 rfl ?_
      refine s_getr (pc' := 31) hC qf_MO_41 d_MO_follows_28 rfl hF (fun r12 hF => ?_)
      refine s_aload_n (pc' := 32) hC d_MO_follows_31 rfl 0 rfl ?_
      refine s_geti (pc' := 35) hC qf_MO_117 d_MO_follows_32 rfl hF (fun v13 hF => ?_)
      refine s_iald (pc' := 36) hC d_MO_follows_35 rfl hF (fun v14 hF => ?_)
      refine s_cVi (pc' := 39) (As := [.inl v14]) (rs := [.inl v11]) (a := a0) (fr' := 1) (lo' := 21) hC qs_MO_144 rfl rfl (Nat.le_of_ble_eq_true rfl) ⟨by decide, by decide⟩ d_MO_follows_36 rfl (fun l g sz r w' h => c_MO_reduced l g sz w a0 v14 r w' h) hF (fun v16 w15 hF => ?_)
      refine s_icmp_ne (tgt := 46) (pc' := 42) hC d_MO_follows_39 rfl rfl hF (fun hF => ?_) (fun hF => ?_)
      · refine s_iconst (v := 0) (pc' := 47) hC d_MO_follows_46 rfl (by decide) ?_
        refine s_goto (tgt := 72) hC d_MO_follows_47 rfl ?_
        exact s_zret hC hR d_MO_follows_72 hF
      · refine s_iconst (v := 1) (pc' := 43) hC d_MO_follows_42 rfl (by decide) ?_
        refine s_goto (tgt := 72) hC d_MO_follows_43 rfl ?_
        exact s_zret hC hR d_MO_follows_72 hF
  · refine s_aload_n (pc' := 8) hC d_MO_follows_7 rfl 0 rfl ?_
    refine s_cVi (pc' := 11) (As := []) (rs := []) (a := a0) (fr' := 1) (lo' := 20) hC qs_MO_141 rfl rfl (Nat.le_of_ble_eq_true rfl) ⟨by decide, by decide⟩ d_MO_follows_8 rfl (fun l g sz r w' h => c_MO_isFirst l g sz w a0 r w' h) hF (fun v18 w17 hF => ?_)
    refine s_goto (tgt := 72) hC d_MO_follows_11 rfl ?_
    exact s_zret hC hR d_MO_follows_72 hF
theorem c_MO_follows (l : Launch) (g : qk_G) (sz : Nat) (w : qw) (a0 : Nat) (r : Int32) (w' : qw) (hF : f_MO_follows w a0 = some (r, w')) : qMi l g sz y_MO_follows b_MO_follows 1 (some .boolean) 2 50 [.inr (some a0)] w r w' := qk_met_z (by decide) (Nat.le_of_ble_eq_true rfl) (fun X hC hR => k_MO_follows r w' hC hR w a0 hF)
theorem qf_MO_114 : qF R_MO 114 1 23 := ⟨R_MO, F_MO, 28, rfl, by decide, in_MO, Or.inl fl_MO_114⟩
theorem qs_MO_134 : qV R_MO 134 y_MO_follows b_MO_follows 1 (some .boolean) 0 1 := ⟨Or.inl ml_MO_134, ic_MO_follows, ii_MO_follows, is_MO_follows, in_c_MO, ⟨_, _, rfl⟩, by decide +kernel⟩
def lj_MO_close_103  (a0 : Nat) (s0 : Int32) (s1 : Int32) (s2 : Int32) (b3 : Nat) (w : qw) : Option (Int32 × qw) :=
  q_b1 (q_st w b3 0 s2 (s1 ||| s0)) fun w1 =>
  q_b1 (q_gi w1 a0 1 14) fun v2 =>
  q_b1 (q_pf w1 a0 1 14 (.inl (v2 + 1))) fun w3 =>
  q_b1 (q_pf w3 a0 1 19 (.inl 4)) fun w4 =>
  some (0, w4)
def lj_MO_close_82  (a0 : Nat) (s0 : Int32) (s1 : Int32) (s2 : Int32) (b3 : Nat) (w : qw) : Option (Int32 × qw) :=
  q_b1 (q_gi w a0 1 26) fun v5 =>
  if 0 ≤ v5 then
    q_b1 (q_gr w a0 1 18) fun r6 =>
    q_b1 (q_gi w a0 1 26) fun v7 =>
    q_b1 (q_ld w r6 0 v7) fun v8 =>
    lj_MO_close_103 a0 v8 (s1 ||| s0) s2 b3 w
  else
    lj_MO_close_103 a0 0 (s1 ||| s0) s2 b3 w
def f_MO_close (w : qw) (a0 : Nat) : Option (Int32 × qw) :=
  q_ob (q_is w a0 1) <| q_b2 (f_MO_follows w a0) fun v10 w9 =>
  if v10 = 0 then
    some (5, w9)
  else
    q_b1 (q_gr w9 a0 1 15) fun r11 =>
    q_b1 (q_gi w9 a0 1 14) fun v12 =>
    q_b1 (q_gi w9 a0 1 23) fun v13 =>
    q_b1 (q_st w9 r11 0 v12 v13) fun w14 =>
    q_b1 (q_gr w14 a0 1 16) fun r15 =>
    q_b1 (q_gi w14 a0 1 14) fun v16 =>
    q_b1 (q_gi w14 a0 1 22) fun v17 =>
    q_b1 (q_st w14 r15 0 v16 v17) fun w18 =>
    q_b1 (q_gr w18 a0 1 17) fun r19 =>
    q_b1 (q_gi w18 a0 1 14) fun v20 =>
    q_b1 (q_gi w18 a0 1 24) fun v21 =>
    q_ob (q_z v21) <| q_b1 (q_st w18 r19 2 v20 v21) fun w22 =>
    q_b1 (q_gr w22 a0 1 18) fun r23 =>
    q_b1 (q_gi w22 a0 1 14) fun v24 =>
    q_b1 (q_gi w22 a0 1 14) fun v25 =>
    q_b1 (q_gi w22 a0 1 25) fun v26 =>
    if 0 ≤ v26 then
      q_b1 (q_gr w22 a0 1 18) fun r27 =>
      q_b1 (q_gi w22 a0 1 25) fun v28 =>
      q_b1 (q_ld w22 r27 0 v28) fun v29 =>
      lj_MO_close_82 a0 v29 ((1 : Int32) <<< (v25 &&& 31)) v24 r23 w22
    else
      lj_MO_close_82 a0 0 ((1 : Int32) <<< (v25 &&& 31)) v24 r23 w22
set_option maxHeartbeats 4000000 in
set_option maxRecDepth 100000 in
theorem k_MO_close {X : qX} (r : Int32) (w' : qw) (hC : qC X b_MO_close R_MO 1 3 70) (hR : qRi X b_MO_close r w') (w : qw) (a0 : Nat) (hF : f_MO_close w a0 = some (r, w')) : qG X 1 0 [(0, .inr (some a0))] [] w := by
  have J_103 : ∀ (a0 : Nat) (s0 : Int32) (s1 : Int32) (s2 : Int32) (b3 : Nat) (w : qw), lj_MO_close_103  a0 s0 s1 s2 b3 w = some (r, w') → qG X 1 103 [(0, .inr (some a0))] [.inl s0, .inl s1, .inl s2, .inr (some b3)] w := by
    intro a0 s0 s1 s2 b3 w hF
    unfold lj_MO_close_103 at hF
    refine s_ior (pc' := 104) hC d_MO_close_103 rfl ?_
    refine s_iast (pc' := 105) hC d_MO_close_104 rfl hF (fun w1 hF => ?_)
    refine s_aload_n (pc' := 106) hC d_MO_close_105 rfl 0 rfl ?_
    refine s_dup (pc' := 107) hC d_MO_close_106 rfl ?_
    refine s_geti (pc' := 110) hC qf_MO_105 d_MO_close_107 rfl hF (fun v2 hF => ?_)
    refine s_iconst (v := 1) (pc' := 111) hC d_MO_close_110 rfl (by decide) ?_
    refine s_iadd (pc' := 112) hC d_MO_close_111 rfl ?_
    refine s_puti (pc' := 115) hC qp_MO_105 d_MO_close_112 rfl hF (fun w3 hF => ?_)
    refine s_aload_n (pc' := 116) hC d_MO_close_115 rfl 0 rfl ?_
    refine s_iconst (v := 4) (pc' := 117) hC d_MO_close_116 rfl (by decide) ?_
    refine s_puti (pc' := 120) hC qp_MO_57 d_MO_close_117 rfl hF (fun w4 hF => ?_)
    refine s_iconst (v := 0) (pc' := 121) hC d_MO_close_120 rfl (by decide) ?_
    exact s_iret hC hR d_MO_close_121 hF
  have J_82 : ∀ (a0 : Nat) (s0 : Int32) (s1 : Int32) (s2 : Int32) (b3 : Nat) (w : qw), lj_MO_close_82  a0 s0 s1 s2 b3 w = some (r, w') → qG X 1 82 [(0, .inr (some a0))] [.inl s0, .inl s1, .inl s2, .inr (some b3)] w := by
    intro a0 s0 s1 s2 b3 w hF
    unfold lj_MO_close_82 at hF
    refine s_ior (pc' := 83) hC d_MO_close_82 rfl ?_
    refine s_aload_n (pc' := 84) hC d_MO_close_83 rfl 0 rfl ?_
    refine s_geti (pc' := 87) hC qf_MO_120 d_MO_close_84 rfl hF (fun v5 hF => ?_)
    refine s_if_ge (tgt := 94) (pc' := 90) hC d_MO_close_87 rfl rfl hF (fun hF => ?_) (fun hF => ?_)
    · refine s_aload_n (pc' := 95) hC d_MO_close_94 rfl 0 rfl ?_
      refine s_getr (pc' := 98) hC qf_MO_47 d_MO_close_95 rfl hF (fun r6 hF => ?_)
      refine s_aload_n (pc' := 99) hC d_MO_close_98 rfl 0 rfl ?_
      refine s_geti (pc' := 102) hC qf_MO_120 d_MO_close_99 rfl hF (fun v7 hF => ?_)
      refine s_iald (pc' := 103) hC d_MO_close_102 rfl hF (fun v8 hF => ?_)
      exact qG_sub [0] rfl (J_103 a0 v8 (s1 ||| s0) s2 b3 w hF)
    · refine s_iconst (v := 0) (pc' := 91) hC d_MO_close_90 rfl (by decide) ?_
      refine s_goto (tgt := 103) hC d_MO_close_91 rfl ?_
      exact qG_sub [0] rfl (J_103 a0 0 (s1 ||| s0) s2 b3 w hF)
  unfold f_MO_close at hF
  refine s_aload_n (pc' := 1) hC d_MO_close_0 rfl 0 rfl ?_
  refine s_cVi (pc' := 4) (As := []) (rs := []) (a := a0) (fr' := 2) (lo' := 50) hC qs_MO_134 rfl rfl (Nat.le_of_ble_eq_true rfl) ⟨by decide, by decide⟩ d_MO_close_1 rfl (fun l g sz r w' h => c_MO_follows l g sz w a0 r w' h) hF (fun v10 w9 hF => ?_)
  refine s_if_ne (tgt := 9) (pc' := 7) hC d_MO_close_4 rfl rfl hF (fun hF => ?_) (fun hF => ?_)
  · refine s_aload_n (pc' := 10) hC d_MO_close_9 rfl 0 rfl ?_
    refine s_getr (pc' := 13) hC qf_MO_38 d_MO_close_10 rfl hF (fun r11 hF => ?_)
    refine s_aload_n (pc' := 14) hC d_MO_close_13 rfl 0 rfl ?_
    refine s_geti (pc' := 17) hC qf_MO_105 d_MO_close_14 rfl hF (fun v12 hF => ?_)
    refine s_aload_n (pc' := 18) hC d_MO_close_17 rfl 0 rfl ?_
    refine s_geti (pc' := 21) hC qf_MO_114 d_MO_close_18 rfl hF (fun v13 hF => ?_)
    refine s_iast (pc' := 22) hC d_MO_close_21 rfl hF (fun w14 hF => ?_)
    refine s_aload_n (pc' := 23) hC d_MO_close_22 rfl 0 rfl ?_
    refine s_getr (pc' := 26) hC qf_MO_41 d_MO_close_23 rfl hF (fun r15 hF => ?_)
    refine s_aload_n (pc' := 27) hC d_MO_close_26 rfl 0 rfl ?_
    refine s_geti (pc' := 30) hC qf_MO_105 d_MO_close_27 rfl hF (fun v16 hF => ?_)
    refine s_aload_n (pc' := 31) hC d_MO_close_30 rfl 0 rfl ?_
    refine s_geti (pc' := 34) hC qf_MO_71 d_MO_close_31 rfl hF (fun v17 hF => ?_)
    refine s_iast (pc' := 35) hC d_MO_close_34 rfl hF (fun w18 hF => ?_)
    refine s_aload_n (pc' := 36) hC d_MO_close_35 rfl 0 rfl ?_
    refine s_getr (pc' := 39) hC qf_MO_44 d_MO_close_36 rfl hF (fun r19 hF => ?_)
    refine s_aload_n (pc' := 40) hC d_MO_close_39 rfl 0 rfl ?_
    refine s_geti (pc' := 43) hC qf_MO_105 d_MO_close_40 rfl hF (fun v20 hF => ?_)
    refine s_aload_n (pc' := 44) hC d_MO_close_43 rfl 0 rfl ?_
    refine s_geti (pc' := 47) hC qf_MO_108 d_MO_close_44 rfl hF (fun v21 hF => ?_)
    refine s_zast (pc' := 48) hC d_MO_close_47 rfl hF (fun w22 hF => ?_)
    refine s_aload_n (pc' := 49) hC d_MO_close_48 rfl 0 rfl ?_
    refine s_getr (pc' := 52) hC qf_MO_47 d_MO_close_49 rfl hF (fun r23 hF => ?_)
    refine s_aload_n (pc' := 53) hC d_MO_close_52 rfl 0 rfl ?_
    refine s_geti (pc' := 56) hC qf_MO_105 d_MO_close_53 rfl hF (fun v24 hF => ?_)
    refine s_iconst (v := 1) (pc' := 57) hC d_MO_close_56 rfl (by decide) ?_
    refine s_aload_n (pc' := 58) hC d_MO_close_57 rfl 0 rfl ?_
    refine s_geti (pc' := 61) hC qf_MO_105 d_MO_close_58 rfl hF (fun v25 hF => ?_)
    refine s_ishl (pc' := 62) hC d_MO_close_61 rfl ?_
    refine s_aload_n (pc' := 63) hC d_MO_close_62 rfl 0 rfl ?_
    refine s_geti (pc' := 66) hC qf_MO_117 d_MO_close_63 rfl hF (fun v26 hF => ?_)
    refine s_if_ge (tgt := 73) (pc' := 69) hC d_MO_close_66 rfl rfl hF (fun hF => ?_) (fun hF => ?_)
    · refine s_aload_n (pc' := 74) hC d_MO_close_73 rfl 0 rfl ?_
      refine s_getr (pc' := 77) hC qf_MO_47 d_MO_close_74 rfl hF (fun r27 hF => ?_)
      refine s_aload_n (pc' := 78) hC d_MO_close_77 rfl 0 rfl ?_
      refine s_geti (pc' := 81) hC qf_MO_117 d_MO_close_78 rfl hF (fun v28 hF => ?_)
      refine s_iald (pc' := 82) hC d_MO_close_81 rfl hF (fun v29 hF => ?_)
      exact qG_sub [0] rfl (J_82 a0 v29 ((1 : Int32) <<< (v25 &&& 31)) v24 r23 w22 hF)
    · refine s_iconst (v := 0) (pc' := 70) hC d_MO_close_69 rfl (by decide) ?_
      refine s_goto (tgt := 82) hC d_MO_close_70 rfl ?_
      exact qG_sub [0] rfl (J_82 a0 0 ((1 : Int32) <<< (v25 &&& 31)) v24 r23 w22 hF)
  · refine s_iconst (v := 5) (pc' := 8) hC d_MO_close_7 rfl (by decide) ?_
    exact s_iret hC hR d_MO_close_8 hF
theorem c_MO_close (l : Launch) (g : qk_G) (sz : Nat) (w : qw) (a0 : Nat) (r : Int32) (w' : qw) (hF : f_MO_close w a0 = some (r, w')) : qMi l g sz y_MO_close b_MO_close 1 (some .int) 3 70 [.inr (some a0)] w r w' := qk_met_i (by decide) (Nat.le_of_ble_eq_true rfl) (fun X hC hR => k_MO_close r w' hC hR w a0 hF)
theorem qs_MO_131 : qV R_MO 131 y_MO_takeId b_MO_takeId 3 (some .int) 1 1 := ⟨Or.inl ml_MO_131, ic_MO_takeId, ii_MO_takeId, is_MO_takeId, in_c_MO, ⟨_, _, rfl⟩, by decide +kernel⟩
theorem qs_MO_127 : qV R_MO 127 y_MO_close b_MO_close 1 (some .int) 0 1 := ⟨Or.inl ml_MO_127, ic_MO_close, ii_MO_close, is_MO_close, in_c_MO, ⟨_, _, rfl⟩, by decide +kernel⟩
theorem qs_MO_123 : qV R_MO 123 y_MO_isVariable b_MO_isVariable 2 (some .boolean) 1 1 := ⟨Or.inl ml_MO_123, ic_MO_isVariable, ii_MO_isVariable, is_MO_isVariable, in_c_MO, ⟨_, _, rfl⟩, by decide +kernel⟩
theorem qp_MO_114 : qP R_MO 114 1 23 .int := ⟨R_MO, F_MO, 28, t_MO, rfl, by decide, in_MO, Or.inl fl_MO_114, t_MO_ok, n_MO, rfl, by decide +kernel⟩
theorem qp_MO_108 : qP R_MO 108 1 24 .boolean := ⟨R_MO, F_MO, 28, t_MO, rfl, by decide, in_MO, Or.inl fl_MO_108, t_MO_ok, n_MO, rfl, by decide +kernel⟩
def lj_MO_follow_59  (a0 : Nat) (x1 : Int32) (w : qw) : Option (Int32 × qw) :=
  q_b1 (q_gi w a0 1 19) fun v1 =>
  if v1 = 3 then
    if x1 = 4115 then
      q_ob (q_z 1) <| q_b1 (q_pf w a0 1 24 (.inl 1)) fun w29 =>
      q_b1 (q_pf w29 a0 1 19 (.inl 4)) fun w30 =>
      some (0, w30)
    else
      q_ob (q_z 0) <| q_b1 (q_pf w a0 1 24 (.inl 0)) fun w27 =>
      q_b1 (q_pf w27 a0 1 19 (.inl 4)) fun w28 =>
      some (0, w28)
  else
    q_b1 (q_gi w a0 1 19) fun v2 =>
    if v2 = 4 then
      if 1 ≤ x1 then
        if 99 < x1 then
          some (2, w)
        else
          q_ob (q_is w a0 1) <| q_b2 (f_MO_stepOf w a0 x1) fun v19 w18 =>
          if v19 < 0 then
            q_b1 (q_pf w18 a0 1 23 (.inl x1)) fun w20 =>
            q_b1 (q_pf w20 a0 1 22 (.inl 0)) fun w21 =>
            q_b1 (q_pf w21 a0 1 21 (.inl 0)) fun w22 =>
            q_b1 (q_pf w22 a0 1 25 (.inl (-1))) fun w23 =>
            q_b1 (q_pf w23 a0 1 26 (.inl (-1))) fun w24 =>
            q_b1 (q_pf w24 a0 1 19 (.inl 5)) fun w25 =>
            q_b1 (q_gi w25 a0 1 14) fun v26 =>
            if v26 = 24 then
              some (4, w25)
            else
              some (0, w25)
          else
            some (2, w18)
      else
        some (1, w)
    else
      q_b1 (q_gi w a0 1 19) fun v3 =>
      if v3 = 5 then
        if x1 = 0 then
          q_b1 (q_pf w a0 1 19 (.inl 6)) fun w17 =>
          some (0, w17)
        else
          q_ob (q_is w a0 1) <| q_b2 (f_MO_isVariable w a0 x1) fun v9 w8 =>
          if v9 = 0 then
            some (2, w8)
          else
            q_b1 (q_gi w8 a0 1 22) fun v10 =>
            q_b2 (f_MO_bit w8 x1) fun v12 w11 =>
            if (v10 &&& v12) = 0 then
              q_b1 (q_gi w11 a0 1 22) fun v13 =>
              q_b2 (f_MO_bit w11 x1) fun v15 w14 =>
              q_b1 (q_pf w14 a0 1 22 (.inl (v13 ||| v15))) fun w16 =>
              some (0, w16)
            else
              some (3, w11)
      else
        if x1 = 0 then
          q_ob (q_is w a0 1) <| q_b2 (f_MO_close w a0) fun v7 w6 =>
          some (v7, w6)
        else
          q_ob (q_is w a0 1) <| q_b2 (f_MO_takeId w a0 x1) fun v5 w4 =>
          some (v5, w4)
def lj_MO_follow_32  (a0 : Nat) (x1 : Int32) (s0 : Int32) (s1 : Int32) (w : qw) : Option (Int32 × qw) :=
  if s1 = s0 then
    q_b1 (q_gi w a0 1 19) fun v31 =>
    if v31 = 3 then
      if x1 = 4114 then
        lj_MO_follow_59 a0 x1 w
      else
        if x1 = 4115 then
          lj_MO_follow_59 a0 x1 w
        else
          some (1, w)
    else
      lj_MO_follow_59 a0 x1 w
  else
    some (1, w)
def lj_MO_follow_19  (a0 : Nat) (x1 : Int32) (s0 : Int32) (w : qw) : Option (Int32 × qw) :=
  q_b1 (q_gi w a0 1 19) fun v32 =>
  if v32 = 3 then
    lj_MO_follow_32 a0 x1 1 s0 w
  else
    lj_MO_follow_32 a0 x1 0 s0 w
def f_MO_follow (w : qw) (a0 : Nat) (x1 : Int32) : Option (Int32 × qw) :=
  if x1 = 5000 then
    some (1, w)
  else
    if x1 ≤ 1000 then
      lj_MO_follow_19 a0 x1 0 w
    else
      lj_MO_follow_19 a0 x1 1 w
set_option maxHeartbeats 4000000 in
set_option maxRecDepth 100000 in
theorem k_MO_follow {X : qX} (r : Int32) (w' : qw) (hC : qC X b_MO_follow R_MO 2 4 90) (hR : qRi X b_MO_follow r w') (w : qw) (a0 : Nat) (x1 : Int32) (hF : f_MO_follow w a0 x1 = some (r, w')) : qG X 2 0 [(0, .inr (some a0)), (1, .inl x1)] [] w := by
  have J_59 : ∀ (a0 : Nat) (x1 : Int32) (w : qw), lj_MO_follow_59  a0 x1 w = some (r, w') → qG X 2 59 [(0, .inr (some a0)), (1, .inl x1)] [] w := by
    intro a0 x1 w hF
    unfold lj_MO_follow_59 at hF
    refine s_aload_n (pc' := 60) hC d_MO_follow_59 rfl 0 rfl ?_
    refine s_geti (pc' := 63) hC qf_MO_57 d_MO_follow_60 rfl hF (fun v1 hF => ?_)
    refine s_iconst (v := 3) (pc' := 64) hC d_MO_follow_63 rfl (by decide) ?_
    refine s_icmp_ne (tgt := 90) (pc' := 67) hC d_MO_follow_64 rfl rfl hF (fun hF => ?_) (fun hF => ?_)
    · refine s_aload_n (pc' := 91) hC d_MO_follow_90 rfl 0 rfl ?_
      refine s_geti (pc' := 94) hC qf_MO_57 d_MO_follow_91 rfl hF (fun v2 hF => ?_)
      refine s_iconst (v := 4) (pc' := 95) hC d_MO_follow_94 rfl (by decide) ?_
      refine s_icmp_ne (tgt := 166) (pc' := 98) hC d_MO_follow_95 rfl rfl hF (fun hF => ?_) (fun hF => ?_)
      · refine s_aload_n (pc' := 167) hC d_MO_follow_166 rfl 0 rfl ?_
        refine s_geti (pc' := 170) hC qf_MO_57 d_MO_follow_167 rfl hF (fun v3 hF => ?_)
        refine s_iconst (v := 5) (pc' := 171) hC d_MO_follow_170 rfl (by decide) ?_
        refine s_icmp_ne (tgt := 225) (pc' := 174) hC d_MO_follow_171 rfl rfl hF (fun hF => ?_) (fun hF => ?_)
        · refine s_iload_n (pc' := 226) hC d_MO_follow_225 rfl 1 rfl ?_
          refine s_if_ne (tgt := 236) (pc' := 229) hC d_MO_follow_226 rfl rfl hF (fun hF => ?_) (fun hF => ?_)
          · refine s_aload_n (pc' := 237) hC d_MO_follow_236 rfl 0 rfl ?_
            refine s_iload_n (pc' := 238) hC d_MO_follow_237 rfl 1 rfl ?_
            refine s_cVi (pc' := 241) (As := [.inl x1]) (rs := []) (a := a0) (fr' := 1) (lo' := 23) hC qs_MO_131 rfl rfl (Nat.le_of_ble_eq_true rfl) ⟨by decide, by decide⟩ d_MO_follow_238 rfl (fun l g sz r w' h => c_MO_takeId l g sz w a0 x1 r w' h) hF (fun v5 w4 hF => ?_)
            exact s_iret hC hR d_MO_follow_241 hF
          · refine s_aload_n (pc' := 230) hC d_MO_follow_229 rfl 0 rfl ?_
            refine s_cVi (pc' := 233) (As := []) (rs := []) (a := a0) (fr' := 3) (lo' := 70) hC qs_MO_127 rfl rfl (Nat.le_of_ble_eq_true rfl) ⟨by decide, by decide⟩ d_MO_follow_230 rfl (fun l g sz r w' h => c_MO_close l g sz w a0 r w' h) hF (fun v7 w6 hF => ?_)
            refine s_goto (tgt := 241) hC d_MO_follow_233 rfl ?_
            exact s_iret hC hR d_MO_follow_241 hF
        · refine s_iload_n (pc' := 175) hC d_MO_follow_174 rfl 1 rfl ?_
          refine s_if_ne (tgt := 186) (pc' := 178) hC d_MO_follow_175 rfl rfl hF (fun hF => ?_) (fun hF => ?_)
          · refine s_aload_n (pc' := 187) hC d_MO_follow_186 rfl 0 rfl ?_
            refine s_iload_n (pc' := 188) hC d_MO_follow_187 rfl 1 rfl ?_
            refine s_cVi (pc' := 191) (As := [.inl x1]) (rs := []) (a := a0) (fr' := 0) (lo' := 0) hC qs_MO_123 rfl rfl (Nat.le_of_ble_eq_true rfl) ⟨by decide, by decide⟩ d_MO_follow_188 rfl (fun l g sz r w' h => c_MO_isVariable l g sz w a0 x1 r w' h) hF (fun v9 w8 hF => ?_)
            refine s_if_ne (tgt := 196) (pc' := 194) hC d_MO_follow_191 rfl rfl hF (fun hF => ?_) (fun hF => ?_)
            · refine s_aload_n (pc' := 197) hC d_MO_follow_196 rfl 0 rfl ?_
              refine s_geti (pc' := 200) hC qf_MO_71 d_MO_follow_197 rfl hF (fun v10 hF => ?_)
              refine s_iload_n (pc' := 201) hC d_MO_follow_200 rfl 1 rfl ?_
              refine s_cSi (pc' := 204) (As := [.inl x1]) (rs := [.inl v10]) (fr' := 0) (lo' := 0) hC qs_MO_80 rfl rfl (Nat.le_of_ble_eq_true rfl) ⟨by decide, by decide⟩ d_MO_follow_201 rfl (fun l g sz r w' h => c_MO_bit l g sz w8 x1 r w' h) hF (fun v12 w11 hF => ?_)
              refine s_iand (pc' := 205) hC d_MO_follow_204 rfl ?_
              refine s_if_eq (tgt := 210) (pc' := 208) hC d_MO_follow_205 rfl rfl hF (fun hF => ?_) (fun hF => ?_)
              · refine s_aload_n (pc' := 211) hC d_MO_follow_210 rfl 0 rfl ?_
                refine s_aload_n (pc' := 212) hC d_MO_follow_211 rfl 0 rfl ?_
                refine s_geti (pc' := 215) hC qf_MO_71 d_MO_follow_212 rfl hF (fun v13 hF => ?_)
                refine s_iload_n (pc' := 216) hC d_MO_follow_215 rfl 1 rfl ?_
                refine s_cSi (pc' := 219) (As := [.inl x1]) (rs := [.inl v13, .inr (some a0)]) (fr' := 0) (lo' := 0) hC qs_MO_80 rfl rfl (Nat.le_of_ble_eq_true rfl) ⟨by decide, by decide⟩ d_MO_follow_216 rfl (fun l g sz r w' h => c_MO_bit l g sz w11 x1 r w' h) hF (fun v15 w14 hF => ?_)
                refine s_ior (pc' := 220) hC d_MO_follow_219 rfl ?_
                refine s_puti (pc' := 223) hC qp_MO_71 d_MO_follow_220 rfl hF (fun w16 hF => ?_)
                refine s_iconst (v := 0) (pc' := 224) hC d_MO_follow_223 rfl (by decide) ?_
                exact s_iret hC hR d_MO_follow_224 hF
              · refine s_iconst (v := 3) (pc' := 209) hC d_MO_follow_208 rfl (by decide) ?_
                exact s_iret hC hR d_MO_follow_209 hF
            · refine s_iconst (v := 2) (pc' := 195) hC d_MO_follow_194 rfl (by decide) ?_
              exact s_iret hC hR d_MO_follow_195 hF
          · refine s_aload_n (pc' := 179) hC d_MO_follow_178 rfl 0 rfl ?_
            refine s_bipush (v := 6) (pc' := 181) hC d_MO_follow_179 rfl (by decide) ?_
            refine s_puti (pc' := 184) hC qp_MO_57 d_MO_follow_181 rfl hF (fun w17 hF => ?_)
            refine s_iconst (v := 0) (pc' := 185) hC d_MO_follow_184 rfl (by decide) ?_
            exact s_iret hC hR d_MO_follow_185 hF
      · refine s_iload_n (pc' := 99) hC d_MO_follow_98 rfl 1 rfl ?_
        refine s_iconst (v := 1) (pc' := 100) hC d_MO_follow_99 rfl (by decide) ?_
        refine s_icmp_ge (tgt := 105) (pc' := 103) hC d_MO_follow_100 rfl rfl hF (fun hF => ?_) (fun hF => ?_)
        · refine s_iload_n (pc' := 106) hC d_MO_follow_105 rfl 1 rfl ?_
          refine s_bipush (v := 99) (pc' := 108) hC d_MO_follow_106 rfl (by decide) ?_
          refine s_icmp_gt (tgt := 119) (pc' := 111) hC d_MO_follow_108 rfl rfl hF (fun hF => ?_) (fun hF => ?_)
          · refine s_iconst (v := 2) (pc' := 120) hC d_MO_follow_119 rfl (by decide) ?_
            exact s_iret hC hR d_MO_follow_120 hF
          · refine s_aload_n (pc' := 112) hC d_MO_follow_111 rfl 0 rfl ?_
            refine s_iload_n (pc' := 113) hC d_MO_follow_112 rfl 1 rfl ?_
            refine s_cVi (pc' := 116) (As := [.inl x1]) (rs := []) (a := a0) (fr' := 0) (lo' := 0) hC qs_MO_111 rfl rfl (Nat.le_of_ble_eq_true rfl) ⟨by decide, by decide⟩ d_MO_follow_113 rfl (fun l g sz r w' h => c_MO_stepOf l g sz w a0 x1 r w' h) hF (fun v19 w18 hF => ?_)
            refine s_if_lt (tgt := 121) (pc' := 119) hC d_MO_follow_116 rfl rfl hF (fun hF => ?_) (fun hF => ?_)
            · refine s_aload_n (pc' := 122) hC d_MO_follow_121 rfl 0 rfl ?_
              refine s_iload_n (pc' := 123) hC d_MO_follow_122 rfl 1 rfl ?_
              refine s_puti (pc' := 126) hC qp_MO_114 d_MO_follow_123 rfl hF (fun w20 hF => ?_)
              refine s_aload_n (pc' := 127) hC d_MO_follow_126 rfl 0 rfl ?_
              refine s_iconst (v := 0) (pc' := 128) hC d_MO_follow_127 rfl (by decide) ?_
              refine s_puti (pc' := 131) hC qp_MO_71 d_MO_follow_128 rfl hF (fun w21 hF => ?_)
              refine s_aload_n (pc' := 132) hC d_MO_follow_131 rfl 0 rfl ?_
              refine s_iconst (v := 0) (pc' := 133) hC d_MO_follow_132 rfl (by decide) ?_
              refine s_puti (pc' := 136) hC qp_MO_64 d_MO_follow_133 rfl hF (fun w22 hF => ?_)
              refine s_aload_n (pc' := 137) hC d_MO_follow_136 rfl 0 rfl ?_
              refine s_iconst (v := (-1)) (pc' := 138) hC d_MO_follow_137 rfl (by decide) ?_
              refine s_puti (pc' := 141) hC qp_MO_117 d_MO_follow_138 rfl hF (fun w23 hF => ?_)
              refine s_aload_n (pc' := 142) hC d_MO_follow_141 rfl 0 rfl ?_
              refine s_iconst (v := (-1)) (pc' := 143) hC d_MO_follow_142 rfl (by decide) ?_
              refine s_puti (pc' := 146) hC qp_MO_120 d_MO_follow_143 rfl hF (fun w24 hF => ?_)
              refine s_aload_n (pc' := 147) hC d_MO_follow_146 rfl 0 rfl ?_
              refine s_iconst (v := 5) (pc' := 148) hC d_MO_follow_147 rfl (by decide) ?_
              refine s_puti (pc' := 151) hC qp_MO_57 d_MO_follow_148 rfl hF (fun w25 hF => ?_)
              refine s_aload_n (pc' := 152) hC d_MO_follow_151 rfl 0 rfl ?_
              refine s_geti (pc' := 155) hC qf_MO_105 d_MO_follow_152 rfl hF (fun v26 hF => ?_)
              refine s_bipush (v := 24) (pc' := 157) hC d_MO_follow_155 rfl (by decide) ?_
              refine s_icmp_ne (tgt := 164) (pc' := 160) hC d_MO_follow_157 rfl rfl hF (fun hF => ?_) (fun hF => ?_)
              · refine s_iconst (v := 0) (pc' := 165) hC d_MO_follow_164 rfl (by decide) ?_
                exact s_iret hC hR d_MO_follow_165 hF
              · refine s_iconst (v := 4) (pc' := 161) hC d_MO_follow_160 rfl (by decide) ?_
                refine s_goto (tgt := 165) hC d_MO_follow_161 rfl ?_
                exact s_iret hC hR d_MO_follow_165 hF
            · refine s_iconst (v := 2) (pc' := 120) hC d_MO_follow_119 rfl (by decide) ?_
              exact s_iret hC hR d_MO_follow_120 hF
        · refine s_iconst (v := 1) (pc' := 104) hC d_MO_follow_103 rfl (by decide) ?_
          exact s_iret hC hR d_MO_follow_104 hF
    · refine s_aload_n (pc' := 68) hC d_MO_follow_67 rfl 0 rfl ?_
      refine s_iload_n (pc' := 69) hC d_MO_follow_68 rfl 1 rfl ?_
      refine s_sipush (v := 4115) (pc' := 72) hC d_MO_follow_69 rfl (by decide) ?_
      refine s_icmp_ne (tgt := 79) (pc' := 75) hC d_MO_follow_72 rfl rfl hF (fun hF => ?_) (fun hF => ?_)
      · refine s_iconst (v := 0) (pc' := 80) hC d_MO_follow_79 rfl (by decide) ?_
        refine s_putz (pc' := 83) hC qp_MO_108 d_MO_follow_80 rfl hF (fun w27 hF => ?_)
        refine s_aload_n (pc' := 84) hC d_MO_follow_83 rfl 0 rfl ?_
        refine s_iconst (v := 4) (pc' := 85) hC d_MO_follow_84 rfl (by decide) ?_
        refine s_puti (pc' := 88) hC qp_MO_57 d_MO_follow_85 rfl hF (fun w28 hF => ?_)
        refine s_iconst (v := 0) (pc' := 89) hC d_MO_follow_88 rfl (by decide) ?_
        exact s_iret hC hR d_MO_follow_89 hF
      · refine s_iconst (v := 1) (pc' := 76) hC d_MO_follow_75 rfl (by decide) ?_
        refine s_goto (tgt := 80) hC d_MO_follow_76 rfl ?_
        refine s_putz (pc' := 83) hC qp_MO_108 d_MO_follow_80 rfl hF (fun w29 hF => ?_)
        refine s_aload_n (pc' := 84) hC d_MO_follow_83 rfl 0 rfl ?_
        refine s_iconst (v := 4) (pc' := 85) hC d_MO_follow_84 rfl (by decide) ?_
        refine s_puti (pc' := 88) hC qp_MO_57 d_MO_follow_85 rfl hF (fun w30 hF => ?_)
        refine s_iconst (v := 0) (pc' := 89) hC d_MO_follow_88 rfl (by decide) ?_
        exact s_iret hC hR d_MO_follow_89 hF
  have J_32 : ∀ (a0 : Nat) (x1 : Int32) (s0 : Int32) (s1 : Int32) (w : qw), lj_MO_follow_32  a0 x1 s0 s1 w = some (r, w') → qG X 2 32 [(0, .inr (some a0)), (1, .inl x1)] [.inl s0, .inl s1] w := by
    intro a0 x1 s0 s1 w hF
    unfold lj_MO_follow_32 at hF
    refine s_icmp_ne (tgt := 57) (pc' := 35) hC d_MO_follow_32 rfl rfl hF (fun hF => ?_) (fun hF => ?_)
    · refine s_iconst (v := 1) (pc' := 58) hC d_MO_follow_57 rfl (by decide) ?_
      exact s_iret hC hR d_MO_follow_58 hF
    · refine s_aload_n (pc' := 36) hC d_MO_follow_35 rfl 0 rfl ?_
      refine s_geti (pc' := 39) hC qf_MO_57 d_MO_follow_36 rfl hF (fun v31 hF => ?_)
      refine s_iconst (v := 3) (pc' := 40) hC d_MO_follow_39 rfl (by decide) ?_
      refine s_icmp_ne (tgt := 59) (pc' := 43) hC d_MO_follow_40 rfl rfl hF (fun hF => ?_) (fun hF => ?_)
      · exact qG_sub [0, 1] rfl (J_59 a0 x1 w hF)
      · refine s_iload_n (pc' := 44) hC d_MO_follow_43 rfl 1 rfl ?_
        refine s_sipush (v := 4114) (pc' := 47) hC d_MO_follow_44 rfl (by decide) ?_
        refine s_icmp_eq (tgt := 59) (pc' := 50) hC d_MO_follow_47 rfl rfl hF (fun hF => ?_) (fun hF => ?_)
        · exact qG_sub [0, 1] rfl (J_59 a0 x1 w hF)
        · refine s_iload_n (pc' := 51) hC d_MO_follow_50 rfl 1 rfl ?_
          refine s_sipush (v := 4115) (pc' := 54) hC d_MO_follow_51 rfl (by decide) ?_
          refine s_icmp_eq (tgt := 59) (pc' := 57) hC d_MO_follow_54 rfl rfl hF (fun hF => ?_) (fun hF => ?_)
          · exact qG_sub [0, 1] rfl (J_59 a0 x1 w hF)
          · refine s_iconst (v := 1) (pc' := 58) hC d_MO_follow_57 rfl (by decide) ?_
            exact s_iret hC hR d_MO_follow_58 hF
  have J_19 : ∀ (a0 : Nat) (x1 : Int32) (s0 : Int32) (w : qw), lj_MO_follow_19  a0 x1 s0 w = some (r, w') → qG X 2 19 [(0, .inr (some a0)), (1, .inl x1)] [.inl s0] w := by
    intro a0 x1 s0 w hF
    unfold lj_MO_follow_19 at hF
    refine s_aload_n (pc' := 20) hC d_MO_follow_19 rfl 0 rfl ?_
    refine s_geti (pc' := 23) hC qf_MO_57 d_MO_follow_20 rfl hF (fun v32 hF => ?_)
    refine s_iconst (v := 3) (pc' := 24) hC d_MO_follow_23 rfl (by decide) ?_
    refine s_icmp_ne (tgt := 31) (pc' := 27) hC d_MO_follow_24 rfl rfl hF (fun hF => ?_) (fun hF => ?_)
    · refine s_iconst (v := 0) (pc' := 32) hC d_MO_follow_31 rfl (by decide) ?_
      exact qG_sub [0, 1] rfl (J_32 a0 x1 0 s0 w hF)
    · refine s_iconst (v := 1) (pc' := 28) hC d_MO_follow_27 rfl (by decide) ?_
      refine s_goto (tgt := 32) hC d_MO_follow_28 rfl ?_
      exact qG_sub [0, 1] rfl (J_32 a0 x1 1 s0 w hF)
  unfold f_MO_follow at hF
  refine s_iload_n (pc' := 1) hC d_MO_follow_0 rfl 1 rfl ?_
  refine s_sipush (v := 5000) (pc' := 4) hC d_MO_follow_1 rfl (by decide) ?_
  refine s_icmp_eq (tgt := 57) (pc' := 7) hC d_MO_follow_4 rfl rfl hF (fun hF => ?_) (fun hF => ?_)
  · refine s_iconst (v := 1) (pc' := 58) hC d_MO_follow_57 rfl (by decide) ?_
    exact s_iret hC hR d_MO_follow_58 hF
  · refine s_iload_n (pc' := 8) hC d_MO_follow_7 rfl 1 rfl ?_
    refine s_sipush (v := 1000) (pc' := 11) hC d_MO_follow_8 rfl (by decide) ?_
    refine s_icmp_le (tgt := 18) (pc' := 14) hC d_MO_follow_11 rfl rfl hF (fun hF => ?_) (fun hF => ?_)
    · refine s_iconst (v := 0) (pc' := 19) hC d_MO_follow_18 rfl (by decide) ?_
      exact qG_sub [0, 1] rfl (J_19 a0 x1 0 w hF)
    · refine s_iconst (v := 1) (pc' := 15) hC d_MO_follow_14 rfl (by decide) ?_
      refine s_goto (tgt := 19) hC d_MO_follow_15 rfl ?_
      exact qG_sub [0, 1] rfl (J_19 a0 x1 1 w hF)
theorem c_MO_follow (l : Launch) (g : qk_G) (sz : Nat) (w : qw) (a0 : Nat) (x1 : Int32) (r : Int32) (w' : qw) (hF : f_MO_follow w a0 x1 = some (r, w')) : qMi l g sz y_MO_follow b_MO_follow 2 (some .int) 4 90 [.inr (some a0), .inl x1] w r w' := qk_met_i (by decide) (Nat.le_of_ble_eq_true rfl) (fun X hC hR => k_MO_follow r w' hC hR w a0 x1 hF)
theorem qs_MO_138 : qV R_MO 138 y_MO_follow b_MO_follow 2 (some .int) 1 1 := ⟨Or.inl ml_MO_138, ic_MO_follow, ii_MO_follow, is_MO_follow, in_c_MO, ⟨_, _, rfl⟩, by decide +kernel⟩
def lj_MO_trace_67  (a0 : Nat) (x1 : Int32) (x2 : Int32) (x3 : Int32) (w : qw) : Option (Int32 × qw) :=
  q_b1 (q_gi w a0 1 1) fun v1 =>
  q_b1 (q_pf w a0 1 1 (.inl 0)) fun w2 =>
  if x3 ≤ 0 then
    q_b1 (q_gi w2 a0 1 19) fun v3 =>
    if v3 = 4 then
      q_b1 (q_gi w2 a0 1 14) fun v4 =>
      some (v4 - x1, w2)
    else
      some ((-1000 : Int32) - v1, w2)
  else
    some (((-1000 : Int32) * x3) - x2, w2)
def lb_MO_trace_18  (c18 : Nat → Int32 → Int32 → Int32 → qw → Option (Int32 × qw)) (a0 : Nat) (x1 : Int32) (x2 : Int32) (x3 : Int32) (w : qw) : Option (Int32 × qw) :=
  q_b1 (q_gi w a0 1 1) fun v5 =>
  if v5 ≤ x2 then
    lj_MO_trace_67 a0 x1 x2 x3 w
  else
    if x3 = 0 then
      q_ob (q_is w a0 1) <| q_b2 (f_MO_end w a0 x2) fun v7 w6 =>
      q_ob (q_is w6 a0 1) <| q_b2 (f_MO_word w6 a0 x2 v7) fun v9 w8 =>
      q_ob (q_is w8 a0 1) <| q_b2 (f_MO_follow w8 a0 v9) fun v11 w10 =>
      if v11 = 0 then
        q_ob (q_is w10 a0 1) <| q_b2 (f_MO_begin w10 a0 v7) fun v13 w12 =>
        c18 a0 x1 v13 v11 w12
      else
        c18 a0 x1 x2 v11 w10
    else
      lj_MO_trace_67 a0 x1 x2 x3 w
def ll_MO_trace_18  : Nat → Nat → Int32 → Int32 → Int32 → qw → Option (Int32 × qw)
  | 0 => fun _ _ _ _ _ => none
  | n + 1 => lb_MO_trace_18  (ll_MO_trace_18  n)
def f_MO_trace (w : qw) (a0 : Nat) : Option (Int32 × qw) :=
  q_b1 (q_pf w a0 1 19 (.inl 3)) fun w14 =>
  q_b1 (q_gi w14 a0 1 14) fun v15 =>
  q_ob (q_is w14 a0 1) <| q_b2 (f_MO_begin w14 a0 0) fun v17 w16 =>
  ll_MO_trace_18 q_fu a0 v15 v17 0 w16
set_option maxHeartbeats 4000000 in
set_option maxRecDepth 100000 in
theorem k_MO_trace {X : qX} (r : Int32) (w' : qw) (hC : qC X b_MO_trace R_MO 5 5 111) (hR : qRi X b_MO_trace r w') (w : qw) (a0 : Nat) (hF : f_MO_trace w a0 = some (r, w')) : qG X 5 0 [(0, .inr (some a0))] [] w := by
  have J_67 : ∀ (a0 : Nat) (x1 : Int32) (x2 : Int32) (x3 : Int32) (w : qw), lj_MO_trace_67  a0 x1 x2 x3 w = some (r, w') → qG X 5 67 [(0, .inr (some a0)), (1, .inl x1), (2, .inl x2), (3, .inl x3)] [] w := by
    intro a0 x1 x2 x3 w hF
    unfold lj_MO_trace_67 at hF
    refine s_aload_n (pc' := 68) hC d_MO_trace_67 rfl 0 rfl ?_
    refine s_geti (pc' := 71) hC qf_MO_53 d_MO_trace_68 rfl hF (fun v1 hF => ?_)
    refine s_istore (pc' := 73) (lv' := [(4, .inl v1), (0, .inr (some a0)), (1, .inl x1), (2, .inl x2), (3, .inl x3)]) hC d_MO_trace_71 rfl (by decide) rfl ?_
    refine s_aload_n (pc' := 74) hC d_MO_trace_73 rfl 1 rfl ?_
    refine s_iconst (v := 0) (pc' := 75) hC d_MO_trace_74 rfl (by decide) ?_
    refine s_puti (pc' := 78) hC qp_MO_53 d_MO_trace_75 rfl hF (fun w2 hF => ?_)
    refine s_iload_n (pc' := 79) hC d_MO_trace_78 rfl 4 rfl ?_
    refine s_if_le (tgt := 90) (pc' := 82) hC d_MO_trace_79 rfl rfl hF (fun hF => ?_) (fun hF => ?_)
    · refine s_aload_n (pc' := 91) hC d_MO_trace_90 rfl 1 rfl ?_
      refine s_geti (pc' := 94) hC qf_MO_57 d_MO_trace_91 rfl hF (fun v3 hF => ?_)
      refine s_iconst (v := 4) (pc' := 95) hC d_MO_trace_94 rfl (by decide) ?_
      refine s_icmp_ne (tgt := 107) (pc' := 98) hC d_MO_trace_95 rfl rfl hF (fun hF => ?_) (fun hF => ?_)
      · refine s_sipush (v := (-1000)) (pc' := 110) hC d_MO_trace_107 rfl (by decide) ?_
        refine s_iload (pc' := 112) hC d_MO_trace_110 rfl 0 rfl ?_
        refine s_isub (pc' := 113) hC d_MO_trace_112 rfl ?_
        exact s_iret hC hR d_MO_trace_113 hF
      · refine s_aload_n (pc' := 99) hC d_MO_trace_98 rfl 1 rfl ?_
        refine s_geti (pc' := 102) hC qf_MO_105 d_MO_trace_99 rfl hF (fun v4 hF => ?_)
        refine s_iload_n (pc' := 103) hC d_MO_trace_102 rfl 2 rfl ?_
        refine s_isub (pc' := 104) hC d_MO_trace_103 rfl ?_
        refine s_goto (tgt := 113) hC d_MO_trace_104 rfl ?_
        exact s_iret hC hR d_MO_trace_113 hF
    · refine s_sipush (v := (-1000)) (pc' := 85) hC d_MO_trace_82 rfl (by decide) ?_
      refine s_iload_n (pc' := 86) hC d_MO_trace_85 rfl 4 rfl ?_
      refine s_imul (pc' := 87) hC d_MO_trace_86 rfl ?_
      refine s_iload_n (pc' := 88) hC d_MO_trace_87 rfl 3 rfl ?_
      refine s_isub (pc' := 89) hC d_MO_trace_88 rfl ?_
      exact s_iret hC hR d_MO_trace_89 hF
  have L_18 : ∀ (n : Nat) (a0 : Nat) (x1 : Int32) (x2 : Int32) (x3 : Int32) (w : qw), ll_MO_trace_18  n a0 x1 x2 x3 w = some (r, w') → qG X 5 18 [(0, .inr (some a0)), (1, .inl x1), (2, .inl x2), (3, .inl x3)] [] w := by
    intro n_18
    induction n_18 with
    | zero => exact fun _ _ _ _ _ hF => q_nn (show (none : Option (Int32 × qw)) = some (r, w') from hF)
    | succ n_18 ih_18 =>
      intro a0 x1 x2 x3 w hF
      have hF : lb_MO_trace_18  (ll_MO_trace_18  n_18) a0 x1 x2 x3 w = some (r, w') := hF
      unfold lb_MO_trace_18 at hF
      refine s_iload_n (pc' := 19) hC d_MO_trace_18 rfl 2 rfl ?_
      refine s_aload_n (pc' := 20) hC d_MO_trace_19 rfl 0 rfl ?_
      refine s_geti (pc' := 23) hC qf_MO_53 d_MO_trace_20 rfl hF (fun v5 hF => ?_)
      refine s_icmp_ge (tgt := 67) (pc' := 26) hC d_MO_trace_23 rfl rfl hF (fun hF => ?_) (fun hF => ?_)
      · exact qG_sub [0, 1, 2, 3] rfl (J_67 a0 x1 x2 x3 w hF)
      · refine s_iload_n (pc' := 27) hC d_MO_trace_26 rfl 3 rfl ?_
        refine s_if_ne (tgt := 67) (pc' := 30) hC d_MO_trace_27 rfl rfl hF (fun hF => ?_) (fun hF => ?_)
        · exact qG_sub [0, 1, 2, 3] rfl (J_67 a0 x1 x2 x3 w hF)
        · refine s_aload_n (pc' := 31) hC d_MO_trace_30 rfl 0 rfl ?_
          refine s_iload_n (pc' := 32) hC d_MO_trace_31 rfl 2 rfl ?_
          refine s_cVi (pc' := 35) (As := [.inl x2]) (rs := []) (a := a0) (fr' := 0) (lo' := 0) hC qs_MO_89 rfl rfl (Nat.le_of_ble_eq_true rfl) ⟨by decide, by decide⟩ d_MO_trace_32 rfl (fun l g sz r w' h => c_MO_end l g sz w a0 x2 r w' h) hF (fun v7 w6 hF => ?_)
          refine s_istore (pc' := 37) (lv' := [(4, .inl v7), (0, .inr (some a0)), (1, .inl x1), (2, .inl x2), (3, .inl x3)]) hC d_MO_trace_35 rfl (by decide) rfl ?_
          refine s_aload_n (pc' := 38) hC d_MO_trace_37 rfl 1 rfl ?_
          refine s_aload_n (pc' := 39) hC d_MO_trace_38 rfl 1 rfl ?_
          refine s_iload_n (pc' := 40) hC d_MO_trace_39 rfl 3 rfl ?_
          refine s_iload (pc' := 42) hC d_MO_trace_40 rfl 0 rfl ?_
          refine s_cVi (pc' := 45) (As := [.inl x2, .inl v7]) (rs := [.inr (some a0)]) (a := a0) (fr' := 0) (lo' := 0) hC qs_MO_92 rfl rfl (Nat.le_of_ble_eq_true rfl) ⟨by decide, by decide⟩ d_MO_trace_42 rfl (fun l g sz r w' h => c_MO_word l g sz w6 a0 x2 v7 r w' h) hF (fun v9 w8 hF => ?_)
          refine s_cVi (pc' := 48) (As := [.inl v9]) (rs := []) (a := a0) (fr' := 4) (lo' := 90) hC qs_MO_138 rfl rfl (Nat.le_of_ble_eq_true rfl) ⟨by decide, by decide⟩ d_MO_trace_45 rfl (fun l g sz r w' h => c_MO_follow l g sz w8 a0 v9 r w' h) hF (fun v11 w10 hF => ?_)
          refine s_istore_n (pc' := 49) (lv' := [(3, .inl v11), (4, .inl v7), (0, .inr (some a0)), (1, .inl x1), (2, .inl x2)]) hC d_MO_trace_48 rfl (by decide) rfl ?_
          refine s_iload_n (pc' := 50) hC d_MO_trace_49 rfl 0 rfl ?_
          refine s_if_ne (tgt := 62) (pc' := 53) hC d_MO_trace_50 rfl rfl hF (fun hF => ?_) (fun hF => ?_)
          · refine s_iload_n (pc' := 63) hC d_MO_trace_62 rfl 4 rfl ?_
            refine s_istore_n (pc' := 64) (lv' := [(2, .inl x2), (3, .inl v11), (4, .inl v7), (0, .inr (some a0)), (1, .inl x1)]) hC d_MO_trace_63 rfl (by decide) rfl ?_
            refine s_goto (tgt := 18) hC d_MO_trace_64 rfl ?_
            exact qG_sub [3, 4, 0, 1] rfl (ih_18 a0 x1 x2 v11 w10 hF)
          · refine s_aload_n (pc' := 54) hC d_MO_trace_53 rfl 2 rfl ?_
            refine s_iload (pc' := 56) hC d_MO_trace_54 rfl 1 rfl ?_
            refine s_cVi (pc' := 59) (As := [.inl v7]) (rs := []) (a := a0) (fr' := 0) (lo' := 0) hC qs_MO_86 rfl rfl (Nat.le_of_ble_eq_true rfl) ⟨by decide, by decide⟩ d_MO_trace_56 rfl (fun l g sz r w' h => c_MO_begin l g sz w10 a0 v7 r w' h) hF (fun v13 w12 hF => ?_)
            refine s_goto (tgt := 63) hC d_MO_trace_59 rfl ?_
            refine s_istore_n (pc' := 64) (lv' := [(2, .inl v13), (3, .inl v11), (4, .inl v7), (0, .inr (some a0)), (1, .inl x1)]) hC d_MO_trace_63 rfl (by decide) rfl ?_
            refine s_goto (tgt := 18) hC d_MO_trace_64 rfl ?_
            exact qG_sub [3, 4, 0, 1] rfl (ih_18 a0 x1 v13 v11 w12 hF)
  unfold f_MO_trace at hF
  refine s_aload_n (pc' := 1) hC d_MO_trace_0 rfl 0 rfl ?_
  refine s_iconst (v := 3) (pc' := 2) hC d_MO_trace_1 rfl (by decide) ?_
  refine s_puti (pc' := 5) hC qp_MO_57 d_MO_trace_2 rfl hF (fun w14 hF => ?_)
  refine s_aload_n (pc' := 6) hC d_MO_trace_5 rfl 0 rfl ?_
  refine s_geti (pc' := 9) hC qf_MO_105 d_MO_trace_6 rfl hF (fun v15 hF => ?_)
  refine s_istore_n (pc' := 10) (lv' := [(1, .inl v15), (0, .inr (some a0))]) hC d_MO_trace_9 rfl (by decide) rfl ?_
  refine s_aload_n (pc' := 11) hC d_MO_trace_10 rfl 1 rfl ?_
  refine s_iconst (v := 0) (pc' := 12) hC d_MO_trace_11 rfl (by decide) ?_
  refine s_cVi (pc' := 15) (As := [.inl 0]) (rs := []) (a := a0) (fr' := 0) (lo' := 0) hC qs_MO_86 rfl rfl (Nat.le_of_ble_eq_true rfl) ⟨by decide, by decide⟩ d_MO_trace_12 rfl (fun l g sz r w' h => c_MO_begin l g sz w14 a0 0 r w' h) hF (fun v17 w16 hF => ?_)
  refine s_istore_n (pc' := 16) (lv' := [(2, .inl v17), (1, .inl v15), (0, .inr (some a0))]) hC d_MO_trace_15 rfl (by decide) rfl ?_
  refine s_iconst (v := 0) (pc' := 17) hC d_MO_trace_16 rfl (by decide) ?_
  refine s_istore_n (pc' := 18) (lv' := [(3, .inl 0), (2, .inl v17), (1, .inl v15), (0, .inr (some a0))]) hC d_MO_trace_17 rfl (by decide) rfl ?_
  exact qG_sub [3, 2, 1, 0] rfl (L_18 q_fu a0 v15 v17 0 w16 hF)
theorem c_MO_trace (l : Launch) (g : qk_G) (sz : Nat) (w : qw) (a0 : Nat) (r : Int32) (w' : qw) (hF : f_MO_trace w a0 = some (r, w')) : qMi l g sz y_MO_trace b_MO_trace 5 (some .int) 5 111 [.inr (some a0)] w r w' := qk_met_i (by decide) (Nat.le_of_ble_eq_true rfl) (fun X hC hR => k_MO_trace r w' hC hR w a0 hF)
