theorem qf_Words_15 : qF R_Words 15 6 1 := ⟨R_Words, F_Words, 6, rfl, by decide, in_Words, Or.inl fl_Words_15⟩
theorem qf_Words_9 : qF R_Words 9 6 0 := ⟨R_Words, F_Words, 6, rfl, by decide, in_Words, Or.inl fl_Words_9⟩
theorem qp_Words_15 : qP R_Words 15 6 1 .int := ⟨R_Words, F_Words, 6, t_Words, rfl, by decide, in_Words, Or.inl fl_Words_15, t_Words_ok, n_Words, rfl, by decide +kernel⟩
def f_Words_append (w : qw) (a0 : Nat) (x1 : Int32) : Option (Int32 × qw) :=
  if x1 < 32 then
    q_ob (q_z 0) (some (0, w))
  else
    if 126 < x1 then
      q_ob (q_z 0) (some (0, w))
    else
      q_b1 (q_gi w a0 6 1) fun v1 =>
      if v1 < 200 then
        q_b1 (q_gr w a0 6 0) fun r2 =>
        q_b1 (q_gi w a0 6 1) fun v3 =>
        q_b1 (q_st w r2 1 v3 (vp_nar .char x1)) fun w4 =>
        q_b1 (q_gi w4 a0 6 1) fun v5 =>
        q_b1 (q_pf w4 a0 6 1 (.inl (v5 + 1))) fun w6 =>
        q_ob (q_z 1) (some (1, w6))
      else
        q_ob (q_z 0) (some (0, w))
set_option maxHeartbeats 4000000 in
set_option maxRecDepth 100000 in
theorem k_Words_append {X : qX} (r : Int32) (w' : qw) (hC : qC X b_Words_append R_Words 2 0 0) (hR : qRz X b_Words_append r w') (w : qw) (a0 : Nat) (x1 : Int32) (hF : f_Words_append w a0 x1 = some (r, w')) : qG X 2 0 [(0, .inr (some a0)), (1, .inl x1)] [] w := by
  unfold f_Words_append at hF
  refine s_iload_n (pc' := 1) hC d_Words_append_0 rfl 1 rfl ?_
  refine s_bipush (v := 32) (pc' := 3) hC d_Words_append_1 rfl (by decide) ?_
  refine s_icmp_lt (tgt := 22) (pc' := 6) hC d_Words_append_3 rfl rfl hF (fun hF => ?_) (fun hF => ?_)
  · refine s_iconst (v := 0) (pc' := 23) hC d_Words_append_22 rfl (by decide) ?_
    exact s_zret hC hR d_Words_append_23 hF
  · refine s_iload_n (pc' := 7) hC d_Words_append_6 rfl 1 rfl ?_
    refine s_bipush (v := 126) (pc' := 9) hC d_Words_append_7 rfl (by decide) ?_
    refine s_icmp_gt (tgt := 22) (pc' := 12) hC d_Words_append_9 rfl rfl hF (fun hF => ?_) (fun hF => ?_)
    · refine s_iconst (v := 0) (pc' := 23) hC d_Words_append_22 rfl (by decide) ?_
      exact s_zret hC hR d_Words_append_23 hF
    · refine s_aload_n (pc' := 13) hC d_Words_append_12 rfl 0 rfl ?_
      refine s_geti (pc' := 16) hC qf_Words_15 d_Words_append_13 rfl hF (fun v1 hF => ?_)
      refine s_sipush (v := 200) (pc' := 19) hC d_Words_append_16 rfl (by decide) ?_
      refine s_icmp_lt (tgt := 24) (pc' := 22) hC d_Words_append_19 rfl rfl hF (fun hF => ?_) (fun hF => ?_)
      · refine s_aload_n (pc' := 25) hC d_Words_append_24 rfl 0 rfl ?_
        refine s_getr (pc' := 28) hC qf_Words_9 d_Words_append_25 rfl hF (fun r2 hF => ?_)
        refine s_aload_n (pc' := 29) hC d_Words_append_28 rfl 0 rfl ?_
        refine s_geti (pc' := 32) hC qf_Words_15 d_Words_append_29 rfl hF (fun v3 hF => ?_)
        refine s_iload_n (pc' := 33) hC d_Words_append_32 rfl 1 rfl ?_
        refine s_cast (pc' := 34) hC d_Words_append_33 rfl hF (fun w4 hF => ?_)
        refine s_aload_n (pc' := 35) hC d_Words_append_34 rfl 0 rfl ?_
        refine s_dup (pc' := 36) hC d_Words_append_35 rfl ?_
        refine s_geti (pc' := 39) hC qf_Words_15 d_Words_append_36 rfl hF (fun v5 hF => ?_)
        refine s_iconst (v := 1) (pc' := 40) hC d_Words_append_39 rfl (by decide) ?_
        refine s_iadd (pc' := 41) hC d_Words_append_40 rfl ?_
        refine s_puti (pc' := 44) hC qp_Words_15 d_Words_append_41 rfl hF (fun w6 hF => ?_)
        refine s_iconst (v := 1) (pc' := 45) hC d_Words_append_44 rfl (by decide) ?_
        exact s_zret hC hR d_Words_append_45 hF
      · refine s_iconst (v := 0) (pc' := 23) hC d_Words_append_22 rfl (by decide) ?_
        exact s_zret hC hR d_Words_append_23 hF
theorem c_Words_append (l : Launch) (g : qk_G) (sz : Nat) (w : qw) (a0 : Nat) (x1 : Int32) (r : Int32) (w' : qw) (hF : f_Words_append w a0 x1 = some (r, w')) : qMi l g sz y_Words_append b_Words_append 2 (some .boolean) 0 0 [.inr (some a0), .inl x1] w r w' := qk_met_z (by decide) (Nat.le_of_ble_eq_true rfl) (fun X hC hR => k_Words_append r w' hC hR w a0 x1 hF)
theorem qp_Formula_18 : qP R_Formula 18 2 2 .int := ⟨R_Formula, F_Formula, 6, t_Formula, rfl, by decide, in_Formula, Or.inl fl_Formula_18, t_Formula_ok, n_Formula, rfl, by decide +kernel⟩
theorem qp_Formula_22 : qP R_Formula 22 2 3 .int := ⟨R_Formula, F_Formula, 6, t_Formula, rfl, by decide, in_Formula, Or.inl fl_Formula_22, t_Formula_ok, n_Formula, rfl, by decide +kernel⟩
theorem qp_Formula_25 : qP R_Formula 25 2 4 .int := ⟨R_Formula, F_Formula, 6, t_Formula, rfl, by decide, in_Formula, Or.inl fl_Formula_25, t_Formula_ok, n_Formula, rfl, by decide +kernel⟩
theorem qp_Formula_28 : qP R_Formula 28 2 5 .int := ⟨R_Formula, F_Formula, 6, t_Formula, rfl, by decide, in_Formula, Or.inl fl_Formula_28, t_Formula_ok, n_Formula, rfl, by decide +kernel⟩
def f_Formula_forget (w : qw) (a0 : Nat) : Option (qw) :=
  q_b1 (q_pf w a0 2 2 (.inl 0)) fun w1 =>
  q_b1 (q_pf w1 a0 2 3 (.inl 0)) fun w2 =>
  q_b1 (q_pf w2 a0 2 4 (.inl 0)) fun w3 =>
  q_b1 (q_pf w3 a0 2 5 (.inl 0)) fun w4 =>
  some w4
set_option maxHeartbeats 4000000 in
set_option maxRecDepth 100000 in
theorem k_Formula_forget {X : qX} (w' : qw) (hC : qC X b_Formula_forget R_Formula 1 0 0) (hR : qRv X b_Formula_forget w') (w : qw) (a0 : Nat) (hF : f_Formula_forget w a0 = some w') : qG X 1 0 [(0, .inr (some a0))] [] w := by
  unfold f_Formula_forget at hF
  refine s_aload_n (pc' := 1) hC d_Formula_forget_0 rfl 0 rfl ?_
  refine s_iconst (v := 0) (pc' := 2) hC d_Formula_forget_1 rfl (by decide) ?_
  refine s_puti (pc' := 5) hC qp_Formula_18 d_Formula_forget_2 rfl hF (fun w1 hF => ?_)
  refine s_aload_n (pc' := 6) hC d_Formula_forget_5 rfl 0 rfl ?_
  refine s_iconst (v := 0) (pc' := 7) hC d_Formula_forget_6 rfl (by decide) ?_
  refine s_puti (pc' := 10) hC qp_Formula_22 d_Formula_forget_7 rfl hF (fun w2 hF => ?_)
  refine s_aload_n (pc' := 11) hC d_Formula_forget_10 rfl 0 rfl ?_
  refine s_iconst (v := 0) (pc' := 12) hC d_Formula_forget_11 rfl (by decide) ?_
  refine s_puti (pc' := 15) hC qp_Formula_25 d_Formula_forget_12 rfl hF (fun w3 hF => ?_)
  refine s_aload_n (pc' := 16) hC d_Formula_forget_15 rfl 0 rfl ?_
  refine s_iconst (v := 0) (pc' := 17) hC d_Formula_forget_16 rfl (by decide) ?_
  refine s_puti (pc' := 20) hC qp_Formula_28 d_Formula_forget_17 rfl hF (fun w4 hF => ?_)
  exact s_vret hC hR d_Formula_forget_20 hF
theorem c_Formula_forget (l : Launch) (g : qk_G) (sz : Nat) (w : qw) (a0 : Nat) (w' : qw) (hF : f_Formula_forget w a0 = some w') : qMv l g sz y_Formula_forget b_Formula_forget 1 none 0 0 [.inr (some a0)] w w' := qk_met_v (by decide) (Nat.le_of_ble_eq_true rfl) (fun X hC hR => k_Formula_forget w' hC hR w a0 hF)
theorem qp_Words_19 : qP R_Words 19 6 3 .int := ⟨R_Words, F_Words, 6, t_Words, rfl, by decide, in_Words, Or.inl fl_Words_19, t_Words_ok, n_Words, rfl, by decide +kernel⟩
def f_Words_rewind (w : qw) (a0 : Nat) : Option (qw) :=
  q_b1 (q_pf w a0 6 3 (.inl 0)) fun w1 =>
  some w1
set_option maxHeartbeats 4000000 in
set_option maxRecDepth 100000 in
theorem k_Words_rewind {X : qX} (w' : qw) (hC : qC X b_Words_rewind R_Words 1 0 0) (hR : qRv X b_Words_rewind w') (w : qw) (a0 : Nat) (hF : f_Words_rewind w a0 = some w') : qG X 1 0 [(0, .inr (some a0))] [] w := by
  unfold f_Words_rewind at hF
  refine s_aload_n (pc' := 1) hC d_Words_rewind_0 rfl 0 rfl ?_
  refine s_iconst (v := 0) (pc' := 2) hC d_Words_rewind_1 rfl (by decide) ?_
  refine s_puti (pc' := 5) hC qp_Words_19 d_Words_rewind_2 rfl hF (fun w1 hF => ?_)
  exact s_vret hC hR d_Words_rewind_5 hF
theorem c_Words_rewind (l : Launch) (g : qk_G) (sz : Nat) (w : qw) (a0 : Nat) (w' : qw) (hF : f_Words_rewind w a0 = some w') : qMv l g sz y_Words_rewind b_Words_rewind 1 none 0 0 [.inr (some a0)] w w' := qk_met_v (by decide) (Nat.le_of_ble_eq_true rfl) (fun X hC hR => k_Words_rewind w' hC hR w a0 hF)
def f_Words_hasIdleZero (w : qw) (a0 : Nat) (x1 : Int32) (x2 : Int32) (x3 : Int32) : Option (Int32 × qw) :=
  q_b1 (q_gr w a0 6 0) fun r1 =>
  q_b1 (q_ld w r1 1 x1) fun v2 =>
  if v2 = 48 then
    if x3 = 0 then
      if x2 ≤ 1 then
        q_ob (q_z 0) (some (0, w))
      else
        q_ob (q_z 1) (some (1, w))
    else
      q_ob (q_z 1) (some (1, w))
  else
    q_ob (q_z 0) (some (0, w))
set_option maxHeartbeats 4000000 in
set_option maxRecDepth 100000 in
theorem k_Words_hasIdleZero {X : qX} (r : Int32) (w' : qw) (hC : qC X b_Words_hasIdleZero R_Words 4 0 0) (hR : qRz X b_Words_hasIdleZero r w') (w : qw) (a0 : Nat) (x1 : Int32) (x2 : Int32) (x3 : Int32) (hF : f_Words_hasIdleZero w a0 x1 x2 x3 = some (r, w')) : qG X 4 0 [(0, .inr (some a0)), (1, .inl x1), (2, .inl x2), (3, .inl x3)] [] w := by
  unfold f_Words_hasIdleZero at hF
  refine s_aload_n (pc' := 1) hC d_Words_hasIdleZero_0 rfl 0 rfl ?_
  refine s_getr (pc' := 4) hC qf_Words_9 d_Words_hasIdleZero_1 rfl hF (fun r1 hF => ?_)
  refine s_iload_n (pc' := 5) hC d_Words_hasIdleZero_4 rfl 1 rfl ?_
  refine s_cald (pc' := 6) hC d_Words_hasIdleZero_5 rfl hF (fun v2 hF => ?_)
  refine s_bipush (v := 48) (pc' := 8) hC d_Words_hasIdleZero_6 rfl (by decide) ?_
  refine s_icmp_ne (tgt := 24) (pc' := 11) hC d_Words_hasIdleZero_8 rfl rfl hF (fun hF => ?_) (fun hF => ?_)
  · refine s_iconst (v := 0) (pc' := 25) hC d_Words_hasIdleZero_24 rfl (by decide) ?_
    exact s_zret hC hR d_Words_hasIdleZero_25 hF
  · refine s_iload_n (pc' := 12) hC d_Words_hasIdleZero_11 rfl 3 rfl ?_
    refine s_if_ne (tgt := 20) (pc' := 15) hC d_Words_hasIdleZero_12 rfl rfl hF (fun hF => ?_) (fun hF => ?_)
    · refine s_iconst (v := 1) (pc' := 21) hC d_Words_hasIdleZero_20 rfl (by decide) ?_
      refine s_goto (tgt := 25) hC d_Words_hasIdleZero_21 rfl ?_
      exact s_zret hC hR d_Words_hasIdleZero_25 hF
    · refine s_iload_n (pc' := 16) hC d_Words_hasIdleZero_15 rfl 2 rfl ?_
      refine s_iconst (v := 1) (pc' := 17) hC d_Words_hasIdleZero_16 rfl (by decide) ?_
      refine s_icmp_le (tgt := 24) (pc' := 20) hC d_Words_hasIdleZero_17 rfl rfl hF (fun hF => ?_) (fun hF => ?_)
      · refine s_iconst (v := 0) (pc' := 25) hC d_Words_hasIdleZero_24 rfl (by decide) ?_
        exact s_zret hC hR d_Words_hasIdleZero_25 hF
      · refine s_iconst (v := 1) (pc' := 21) hC d_Words_hasIdleZero_20 rfl (by decide) ?_
        refine s_goto (tgt := 25) hC d_Words_hasIdleZero_21 rfl ?_
        exact s_zret hC hR d_Words_hasIdleZero_25 hF
theorem c_Words_hasIdleZero (l : Launch) (g : qk_G) (sz : Nat) (w : qw) (a0 : Nat) (x1 : Int32) (x2 : Int32) (x3 : Int32) (r : Int32) (w' : qw) (hF : f_Words_hasIdleZero w a0 x1 x2 x3 = some (r, w')) : qMi l g sz y_Words_hasIdleZero b_Words_hasIdleZero 4 (some .boolean) 0 0 [.inr (some a0), .inl x1, .inl x2, .inl x3] w r w' := qk_met_z (by decide) (Nat.le_of_ble_eq_true rfl) (fun X hC hR => k_Words_hasIdleZero r w' hC hR w a0 x1 x2 x3 hF)
theorem qf_Words_28 : qF R_Words 28 6 4 := ⟨R_Words, F_Words, 6, rfl, by decide, in_Words, Or.inl fl_Words_28⟩
def f_Words_isNumber (w : qw) (a0 : Nat) : Option (Int32 × qw) :=
  q_b1 (q_gi w a0 6 4) fun v1 =>
  q_ob (q_z v1) (some (v1, w))
set_option maxHeartbeats 4000000 in
set_option maxRecDepth 100000 in
theorem k_Words_isNumber {X : qX} (r : Int32) (w' : qw) (hC : qC X b_Words_isNumber R_Words 1 0 0) (hR : qRz X b_Words_isNumber r w') (w : qw) (a0 : Nat) (hF : f_Words_isNumber w a0 = some (r, w')) : qG X 1 0 [(0, .inr (some a0))] [] w := by
  unfold f_Words_isNumber at hF
  refine s_aload_n (pc' := 1) hC d_Words_isNumber_0 rfl 0 rfl ?_
  refine s_geti (pc' := 4) hC qf_Words_28 d_Words_isNumber_1 rfl hF (fun v1 hF => ?_)
  exact s_zret hC hR d_Words_isNumber_4 hF
theorem c_Words_isNumber (l : Launch) (g : qk_G) (sz : Nat) (w : qw) (a0 : Nat) (r : Int32) (w' : qw) (hF : f_Words_isNumber w a0 = some (r, w')) : qMi l g sz y_Words_isNumber b_Words_isNumber 1 (some .boolean) 0 0 [.inr (some a0)] w r w' := qk_met_z (by decide) (Nat.le_of_ble_eq_true rfl) (fun X hC hR => k_Words_isNumber r w' hC hR w a0 hF)
theorem qf_Words_19 : qF R_Words 19 6 3 := ⟨R_Words, F_Words, 6, rfl, by decide, in_Words, Or.inl fl_Words_19⟩
theorem qf_Words_22 : qF R_Words 22 6 2 := ⟨R_Words, F_Words, 6, rfl, by decide, in_Words, Or.inl fl_Words_22⟩
def f_Words_isLetter (w : qw) (a0 : Nat) (x1 : Int32) : Option (Int32 × qw) :=
  q_b1 (q_gi w a0 6 3) fun v1 =>
  q_b1 (q_gi w a0 6 2) fun v2 =>
  if (v1 - v2) = 1 then
    q_b1 (q_gr w a0 6 0) fun r3 =>
    q_b1 (q_gi w a0 6 2) fun v4 =>
    q_b1 (q_ld w r3 1 v4) fun v5 =>
    if v5 = x1 then
      q_ob (q_z 1) (some (1, w))
    else
      q_ob (q_z 0) (some (0, w))
  else
    q_ob (q_z 0) (some (0, w))
set_option maxHeartbeats 4000000 in
set_option maxRecDepth 100000 in
theorem k_Words_isLetter {X : qX} (r : Int32) (w' : qw) (hC : qC X b_Words_isLetter R_Words 2 0 0) (hR : qRz X b_Words_isLetter r w') (w : qw) (a0 : Nat) (x1 : Int32) (hF : f_Words_isLetter w a0 x1 = some (r, w')) : qG X 2 0 [(0, .inr (some a0)), (1, .inl x1)] [] w := by
  unfold f_Words_isLetter at hF
  refine s_aload_n (pc' := 1) hC d_Words_isLetter_0 rfl 0 rfl ?_
  refine s_geti (pc' := 4) hC qf_Words_19 d_Words_isLetter_1 rfl hF (fun v1 hF => ?_)
  refine s_aload_n (pc' := 5) hC d_Words_isLetter_4 rfl 0 rfl ?_
  refine s_geti (pc' := 8) hC qf_Words_22 d_Words_isLetter_5 rfl hF (fun v2 hF => ?_)
  refine s_isub (pc' := 9) hC d_Words_isLetter_8 rfl ?_
  refine s_iconst (v := 1) (pc' := 10) hC d_Words_isLetter_9 rfl (by decide) ?_
  refine s_icmp_ne (tgt := 30) (pc' := 13) hC d_Words_isLetter_10 rfl rfl hF (fun hF => ?_) (fun hF => ?_)
  · refine s_iconst (v := 0) (pc' := 31) hC d_Words_isLetter_30 rfl (by decide) ?_
    exact s_zret hC hR d_Words_isLetter_31 hF
  · refine s_aload_n (pc' := 14) hC d_Words_isLetter_13 rfl 0 rfl ?_
    refine s_getr (pc' := 17) hC qf_Words_9 d_Words_isLetter_14 rfl hF (fun r3 hF => ?_)
    refine s_aload_n (pc' := 18) hC d_Words_isLetter_17 rfl 0 rfl ?_
    refine s_geti (pc' := 21) hC qf_Words_22 d_Words_isLetter_18 rfl hF (fun v4 hF => ?_)
    refine s_cald (pc' := 22) hC d_Words_isLetter_21 rfl hF (fun v5 hF => ?_)
    refine s_iload_n (pc' := 23) hC d_Words_isLetter_22 rfl 1 rfl ?_
    refine s_icmp_ne (tgt := 30) (pc' := 26) hC d_Words_isLetter_23 rfl rfl hF (fun hF => ?_) (fun hF => ?_)
    · refine s_iconst (v := 0) (pc' := 31) hC d_Words_isLetter_30 rfl (by decide) ?_
      exact s_zret hC hR d_Words_isLetter_31 hF
    · refine s_iconst (v := 1) (pc' := 27) hC d_Words_isLetter_26 rfl (by decide) ?_
      refine s_goto (tgt := 31) hC d_Words_isLetter_27 rfl ?_
      exact s_zret hC hR d_Words_isLetter_31 hF
theorem c_Words_isLetter (l : Launch) (g : qk_G) (sz : Nat) (w : qw) (a0 : Nat) (x1 : Int32) (r : Int32) (w' : qw) (hF : f_Words_isLetter w a0 x1 = some (r, w')) : qMi l g sz y_Words_isLetter b_Words_isLetter 2 (some .boolean) 0 0 [.inr (some a0), .inl x1] w r w' := qk_met_z (by decide) (Nat.le_of_ble_eq_true rfl) (fun X hC hR => k_Words_isLetter r w' hC hR w a0 x1 hF)
theorem qf_Words_32 : qF R_Words 32 6 5 := ⟨R_Words, F_Words, 6, rfl, by decide, in_Words, Or.inl fl_Words_32⟩
def f_Words_value (w : qw) (a0 : Nat) : Option (Int32 × qw) :=
  q_b1 (q_gi w a0 6 5) fun v1 =>
  some (v1, w)
set_option maxHeartbeats 4000000 in
set_option maxRecDepth 100000 in
theorem k_Words_value {X : qX} (r : Int32) (w' : qw) (hC : qC X b_Words_value R_Words 1 0 0) (hR : qRi X b_Words_value r w') (w : qw) (a0 : Nat) (hF : f_Words_value w a0 = some (r, w')) : qG X 1 0 [(0, .inr (some a0))] [] w := by
  unfold f_Words_value at hF
  refine s_aload_n (pc' := 1) hC d_Words_value_0 rfl 0 rfl ?_
  refine s_geti (pc' := 4) hC qf_Words_32 d_Words_value_1 rfl hF (fun v1 hF => ?_)
  exact s_iret hC hR d_Words_value_4 hF
theorem c_Words_value (l : Launch) (g : qk_G) (sz : Nat) (w : qw) (a0 : Nat) (r : Int32) (w' : qw) (hF : f_Words_value w a0 = some (r, w')) : qMi l g sz y_Words_value b_Words_value 1 (some .int) 0 0 [.inr (some a0)] w r w' := qk_met_i (by decide) (Nat.le_of_ble_eq_true rfl) (fun X hC hR => k_Words_value r w' hC hR w a0 hF)
theorem qf_FormulaReader_57 : qF R_FormulaReader 57 3 3 := ⟨R_FormulaReader, F_FormulaReader, 6, rfl, by decide, in_FormulaReader, Or.inl fl_FormulaReader_57⟩
theorem qp_FormulaReader_25 : qP R_FormulaReader 25 3 2 .boolean := ⟨R_FormulaReader, F_FormulaReader, 6, t_FormulaReader, rfl, by decide, in_FormulaReader, Or.inl fl_FormulaReader_25, t_FormulaReader_ok, n_FormulaReader, rfl, by decide +kernel⟩
theorem qp_FormulaReader_21 : qP R_FormulaReader 21 3 1 .boolean := ⟨R_FormulaReader, F_FormulaReader, 6, t_FormulaReader, rfl, by decide, in_FormulaReader, Or.inl fl_FormulaReader_21, t_FormulaReader_ok, n_FormulaReader, rfl, by decide +kernel⟩
def f_FormulaReader_endBlock (w : qw) (a0 : Nat) : Option (Int32 × qw) :=
  q_b1 (q_gi w a0 3 3) fun v1 =>
  if v1 = 0 then
    some (1, w)
  else
    q_ob (q_z 0) <| q_b1 (q_pf w a0 3 2 (.inl 0)) fun w2 =>
    q_ob (q_z 1) <| q_b1 (q_pf w2 a0 3 1 (.inl 1)) fun w3 =>
    some (0, w3)
set_option maxHeartbeats 4000000 in
set_option maxRecDepth 100000 in
theorem k_FormulaReader_endBlock {X : qX} (r : Int32) (w' : qw) (hC : qC X b_FormulaReader_endBlock R_FormulaReader 1 0 0) (hR : qRi X b_FormulaReader_endBlock r w') (w : qw) (a0 : Nat) (hF : f_FormulaReader_endBlock w a0 = some (r, w')) : qG X 1 0 [(0, .inr (some a0))] [] w := by
  unfold f_FormulaReader_endBlock at hF
  refine s_aload_n (pc' := 1) hC d_FormulaReader_endBlock_0 rfl 0 rfl ?_
  refine s_geti (pc' := 4) hC qf_FormulaReader_57 d_FormulaReader_endBlock_1 rfl hF (fun v1 hF => ?_)
  refine s_if_ne (tgt := 9) (pc' := 7) hC d_FormulaReader_endBlock_4 rfl rfl hF (fun hF => ?_) (fun hF => ?_)
  · refine s_aload_n (pc' := 10) hC d_FormulaReader_endBlock_9 rfl 0 rfl ?_
    refine s_iconst (v := 0) (pc' := 11) hC d_FormulaReader_endBlock_10 rfl (by decide) ?_
    refine s_putz (pc' := 14) hC qp_FormulaReader_25 d_FormulaReader_endBlock_11 rfl hF (fun w2 hF => ?_)
    refine s_aload_n (pc' := 15) hC d_FormulaReader_endBlock_14 rfl 0 rfl ?_
    refine s_iconst (v := 1) (pc' := 16) hC d_FormulaReader_endBlock_15 rfl (by decide) ?_
    refine s_putz (pc' := 19) hC qp_FormulaReader_21 d_FormulaReader_endBlock_16 rfl hF (fun w3 hF => ?_)
    refine s_iconst (v := 0) (pc' := 20) hC d_FormulaReader_endBlock_19 rfl (by decide) ?_
    exact s_iret hC hR d_FormulaReader_endBlock_20 hF
  · refine s_iconst (v := 1) (pc' := 8) hC d_FormulaReader_endBlock_7 rfl (by decide) ?_
    exact s_iret hC hR d_FormulaReader_endBlock_8 hF
theorem c_FormulaReader_endBlock (l : Launch) (g : qk_G) (sz : Nat) (w : qw) (a0 : Nat) (r : Int32) (w' : qw) (hF : f_FormulaReader_endBlock w a0 = some (r, w')) : qMi l g sz y_FormulaReader_endBlock b_FormulaReader_endBlock 1 (some .int) 0 0 [.inr (some a0)] w r w' := qk_met_i (by decide) (Nat.le_of_ble_eq_true rfl) (fun X hC hR => k_FormulaReader_endBlock r w' hC hR w a0 hF)
def f_QP_literalsOf (w : qw) (x0 : Int32) : Option (Int32 × qw) :=
  some (x0 ||| (x0 <<< ((8 : Int32) &&& 31)), w)
set_option maxHeartbeats 4000000 in
set_option maxRecDepth 100000 in
theorem k_QP_literalsOf {X : qX} (r : Int32) (w' : qw) (hC : qC X b_QP_literalsOf R_QP 1 0 0) (hR : qRi X b_QP_literalsOf r w') (w : qw) (x0 : Int32) (hF : f_QP_literalsOf w x0 = some (r, w')) : qG X 1 0 [(0, .inl x0)] [] w := by
  unfold f_QP_literalsOf at hF
  refine s_iload_n (pc' := 1) hC d_QP_literalsOf_0 rfl 0 rfl ?_
  refine s_iload_n (pc' := 2) hC d_QP_literalsOf_1 rfl 0 rfl ?_
  refine s_bipush (v := 8) (pc' := 4) hC d_QP_literalsOf_2 rfl (by decide) ?_
  refine s_ishl (pc' := 5) hC d_QP_literalsOf_4 rfl ?_
  refine s_ior (pc' := 6) hC d_QP_literalsOf_5 rfl ?_
  exact s_iret hC hR d_QP_literalsOf_6 hF
theorem c_QP_literalsOf (l : Launch) (g : qk_G) (sz : Nat) (w : qw) (x0 : Int32) (r : Int32) (w' : qw) (hF : f_QP_literalsOf w x0 = some (r, w')) : qMi l g sz y_QP_literalsOf b_QP_literalsOf 1 (some .int) 0 0 [.inl x0] w r w' := qk_met_i (by decide) (Nat.le_of_ble_eq_true rfl) (fun X hC hR => k_QP_literalsOf r w' hC hR w x0 hF)
def f_QP_setOf (w : qw) (x0 : Int32) : Option (Int32 × qw) :=
  if x0 ≤ 0 then
    some ((1 : Int32) <<< (((7 : Int32) - x0) &&& 31), w)
  else
    some ((1 : Int32) <<< ((x0 - 1) &&& 31), w)
set_option maxHeartbeats 4000000 in
set_option maxRecDepth 100000 in
theorem k_QP_setOf {X : qX} (r : Int32) (w' : qw) (hC : qC X b_QP_setOf R_QP 1 0 0) (hR : qRi X b_QP_setOf r w') (w : qw) (x0 : Int32) (hF : f_QP_setOf w x0 = some (r, w')) : qG X 1 0 [(0, .inl x0)] [] w := by
  unfold f_QP_setOf at hF
  refine s_iload_n (pc' := 1) hC d_QP_setOf_0 rfl 0 rfl ?_
  refine s_if_le (tgt := 12) (pc' := 4) hC d_QP_setOf_1 rfl rfl hF (fun hF => ?_) (fun hF => ?_)
  · refine s_iconst (v := 1) (pc' := 13) hC d_QP_setOf_12 rfl (by decide) ?_
    refine s_bipush (v := 7) (pc' := 15) hC d_QP_setOf_13 rfl (by decide) ?_
    refine s_iload_n (pc' := 16) hC d_QP_setOf_15 rfl 0 rfl ?_
    refine s_isub (pc' := 17) hC d_QP_setOf_16 rfl ?_
    refine s_ishl (pc' := 18) hC d_QP_setOf_17 rfl ?_
    exact s_iret hC hR d_QP_setOf_18 hF
  · refine s_iconst (v := 1) (pc' := 5) hC d_QP_setOf_4 rfl (by decide) ?_
    refine s_iload_n (pc' := 6) hC d_QP_setOf_5 rfl 0 rfl ?_
    refine s_iconst (v := 1) (pc' := 7) hC d_QP_setOf_6 rfl (by decide) ?_
    refine s_isub (pc' := 8) hC d_QP_setOf_7 rfl ?_
    refine s_ishl (pc' := 9) hC d_QP_setOf_8 rfl ?_
    refine s_goto (tgt := 18) hC d_QP_setOf_9 rfl ?_
    exact s_iret hC hR d_QP_setOf_18 hF
theorem c_QP_setOf (l : Launch) (g : qk_G) (sz : Nat) (w : qw) (x0 : Int32) (r : Int32) (w' : qw) (hF : f_QP_setOf w x0 = some (r, w')) : qMi l g sz y_QP_setOf b_QP_setOf 1 (some .int) 0 0 [.inl x0] w r w' := qk_met_i (by decide) (Nat.le_of_ble_eq_true rfl) (fun X hC hR => k_QP_setOf r w' hC hR w x0 hF)
theorem qf_Formula_18 : qF R_Formula 18 2 2 := ⟨R_Formula, F_Formula, 6, rfl, by decide, in_Formula, Or.inl fl_Formula_18⟩
theorem qf_Formula_9 : qF R_Formula 9 2 0 := ⟨R_Formula, F_Formula, 6, rfl, by decide, in_Formula, Or.inl fl_Formula_9⟩
theorem qf_Formula_28 : qF R_Formula 28 2 5 := ⟨R_Formula, F_Formula, 6, rfl, by decide, in_Formula, Or.inl fl_Formula_28⟩
theorem qs_Formula_35 : qS R_Formula 35 y_QP_setOf b_QP_setOf 1 (some .int) 1 := ⟨Or.inr ⟨_, mn_Formula_35⟩, ic_QP_setOf, is_QP_setOf, in_c_QP, by decide +kernel⟩
theorem qf_Formula_25 : qF R_Formula 25 2 4 := ⟨R_Formula, F_Formula, 6, rfl, by decide, in_Formula, Or.inl fl_Formula_25⟩
def f_Formula_addVariable (w : qw) (a0 : Nat) (x1 : Int32) (x2 : Int32) : Option (qw) :=
  q_b1 (q_gi w a0 2 2) fun v1 =>
  if v1 < 8 then
    q_b1 (q_gr w a0 2 0) fun r2 =>
    q_b1 (q_gi w a0 2 2) fun v3 =>
    q_b1 (q_st w r2 0 v3 x1) fun w4 =>
    q_b1 (q_gi w4 a0 2 2) fun v5 =>
    q_b1 (q_pf w4 a0 2 2 (.inl (v5 + 1))) fun w6 =>
    if x2 = 0 then
      q_b1 (q_gi w6 a0 2 5) fun v7 =>
      q_b2 (f_QP_setOf w6 x1) fun v9 w8 =>
      q_b1 (q_pf w8 a0 2 5 (.inl (v7 ||| v9))) fun w10 =>
      some w10
    else
      q_b1 (q_gi w6 a0 2 4) fun v11 =>
      q_b2 (f_QP_setOf w6 x1) fun v13 w12 =>
      q_b1 (q_pf w12 a0 2 4 (.inl (v11 ||| v13))) fun w14 =>
      some w14
  else
    some w
set_option maxHeartbeats 4000000 in
set_option maxRecDepth 100000 in
theorem k_Formula_addVariable {X : qX} (w' : qw) (hC : qC X b_Formula_addVariable R_Formula 3 1 20) (hR : qRv X b_Formula_addVariable w') (w : qw) (a0 : Nat) (x1 : Int32) (x2 : Int32) (hF : f_Formula_addVariable w a0 x1 x2 = some w') : qG X 3 0 [(0, .inr (some a0)), (1, .inl x1), (2, .inl x2)] [] w := by
  unfold f_Formula_addVariable at hF
  refine s_aload_n (pc' := 1) hC d_Formula_addVariable_0 rfl 0 rfl ?_
  refine s_geti (pc' := 4) hC qf_Formula_18 d_Formula_addVariable_1 rfl hF (fun v1 hF => ?_)
  refine s_bipush (v := 8) (pc' := 6) hC d_Formula_addVariable_4 rfl (by decide) ?_
  refine s_icmp_lt (tgt := 10) (pc' := 9) hC d_Formula_addVariable_6 rfl rfl hF (fun hF => ?_) (fun hF => ?_)
  · refine s_aload_n (pc' := 11) hC d_Formula_addVariable_10 rfl 0 rfl ?_
    refine s_getr (pc' := 14) hC qf_Formula_9 d_Formula_addVariable_11 rfl hF (fun r2 hF => ?_)
    refine s_aload_n (pc' := 15) hC d_Formula_addVariable_14 rfl 0 rfl ?_
    refine s_geti (pc' := 18) hC qf_Formula_18 d_Formula_addVariable_15 rfl hF (fun v3 hF => ?_)
    refine s_iload_n (pc' := 19) hC d_Formula_addVariable_18 rfl 1 rfl ?_
    refine s_iast (pc' := 20) hC d_Formula_addVariable_19 rfl hF (fun w4 hF => ?_)
    refine s_aload_n (pc' := 21) hC d_Formula_addVariable_20 rfl 0 rfl ?_
    refine s_dup (pc' := 22) hC d_Formula_addVariable_21 rfl ?_
    refine s_geti (pc' := 25) hC qf_Formula_18 d_Formula_addVariable_22 rfl hF (fun v5 hF => ?_)
    refine s_iconst (v := 1) (pc' := 26) hC d_Formula_addVariable_25 rfl (by decide) ?_
    refine s_iadd (pc' := 27) hC d_Formula_addVariable_26 rfl ?_
    refine s_puti (pc' := 30) hC qp_Formula_18 d_Formula_addVariable_27 rfl hF (fun w6 hF => ?_)
    refine s_iload_n (pc' := 31) hC d_Formula_addVariable_30 rfl 2 rfl ?_
    refine s_if_eq (tgt := 50) (pc' := 34) hC d_Formula_addVariable_31 rfl rfl hF (fun hF => ?_) (fun hF => ?_)
    · refine s_aload_n (pc' := 51) hC d_Formula_addVariable_50 rfl 0 rfl ?_
      refine s_dup (pc' := 52) hC d_Formula_addVariable_51 rfl ?_
      refine s_geti (pc' := 55) hC qf_Formula_28 d_Formula_addVariable_52 rfl hF (fun v7 hF => ?_)
      refine s_iload_n (pc' := 56) hC d_Formula_addVariable_55 rfl 1 rfl ?_
      refine s_cSi (pc' := 59) (As := [.inl x1]) (rs := [.inl v7, .inr (some a0)]) (fr' := 0) (lo' := 0) hC qs_Formula_35 rfl rfl (Nat.le_of_ble_eq_true rfl) ⟨by decide, by decide⟩ d_Formula_addVariable_56 rfl (fun l g sz r w' h => c_QP_setOf l g sz w6 x1 r w' h) hF (fun v9 w8 hF => ?_)
      refine s_ior (pc' := 60) hC d_Formula_addVariable_59 rfl ?_
      refine s_puti (pc' := 63) hC qp_Formula_28 d_Formula_addVariable_60 rfl hF (fun w10 hF => ?_)
      exact s_vret hC hR d_Formula_addVariable_63 hF
    · refine s_aload_n (pc' := 35) hC d_Formula_addVariable_34 rfl 0 rfl ?_
      refine s_dup (pc' := 36) hC d_Formula_addVariable_35 rfl ?_
      refine s_geti (pc' := 39) hC qf_Formula_25 d_Formula_addVariable_36 rfl hF (fun v11 hF => ?_)
      refine s_iload_n (pc' := 40) hC d_Formula_addVariable_39 rfl 1 rfl ?_
      refine s_cSi (pc' := 43) (As := [.inl x1]) (rs := [.inl v11, .inr (some a0)]) (fr' := 0) (lo' := 0) hC qs_Formula_35 rfl rfl (Nat.le_of_ble_eq_true rfl) ⟨by decide, by decide⟩ d_Formula_addVariable_40 rfl (fun l g sz r w' h => c_QP_setOf l g sz w6 x1 r w' h) hF (fun v13 w12 hF => ?_)
      refine s_ior (pc' := 44) hC d_Formula_addVariable_43 rfl ?_
      refine s_puti (pc' := 47) hC qp_Formula_25 d_Formula_addVariable_44 rfl hF (fun w14 hF => ?_)
      refine s_goto (tgt := 63) hC d_Formula_addVariable_47 rfl ?_
      exact s_vret hC hR d_Formula_addVariable_63 hF
  · exact s_vret hC hR d_Formula_addVariable_9 hF
theorem c_Formula_addVariable (l : Launch) (g : qk_G) (sz : Nat) (w : qw) (a0 : Nat) (x1 : Int32) (x2 : Int32) (w' : qw) (hF : f_Formula_addVariable w a0 x1 x2 = some w') : qMv l g sz y_Formula_addVariable b_Formula_addVariable 3 none 1 20 [.inr (some a0), .inl x1, .inl x2] w w' := qk_met_v (by decide) (Nat.le_of_ble_eq_true rfl) (fun X hC hR => k_Formula_addVariable w' hC hR w a0 x1 x2 hF)
theorem qf_Formula_22 : qF R_Formula 22 2 3 := ⟨R_Formula, F_Formula, 6, rfl, by decide, in_Formula, Or.inl fl_Formula_22⟩
theorem qf_Formula_15 : qF R_Formula 15 2 1 := ⟨R_Formula, F_Formula, 6, rfl, by decide, in_Formula, Or.inl fl_Formula_15⟩
def f_Formula_addClause (w : qw) (a0 : Nat) (x1 : Int32) : Option (Int32 × qw) :=
  q_b1 (q_gi w a0 2 3) fun v1 =>
  if v1 < 12 then
    q_b1 (q_gr w a0 2 1) fun r2 =>
    q_b1 (q_gi w a0 2 3) fun v3 =>
    q_b1 (q_st w r2 0 v3 x1) fun w4 =>
    q_b1 (q_gi w4 a0 2 3) fun v5 =>
    q_b1 (q_pf w4 a0 2 3 (.inl (v5 + 1))) fun w6 =>
    q_ob (q_z 1) (some (1, w6))
  else
    q_ob (q_z 0) (some (0, w))
set_option maxHeartbeats 4000000 in
set_option maxRecDepth 100000 in
theorem k_Formula_addClause {X : qX} (r : Int32) (w' : qw) (hC : qC X b_Formula_addClause R_Formula 2 0 0) (hR : qRz X b_Formula_addClause r w') (w : qw) (a0 : Nat) (x1 : Int32) (hF : f_Formula_addClause w a0 x1 = some (r, w')) : qG X 2 0 [(0, .inr (some a0)), (1, .inl x1)] [] w := by
  unfold f_Formula_addClause at hF
  refine s_aload_n (pc' := 1) hC d_Formula_addClause_0 rfl 0 rfl ?_
  refine s_geti (pc' := 4) hC qf_Formula_22 d_Formula_addClause_1 rfl hF (fun v1 hF => ?_)
  refine s_bipush (v := 12) (pc' := 6) hC d_Formula_addClause_4 rfl (by decide) ?_
  refine s_icmp_lt (tgt := 11) (pc' := 9) hC d_Formula_addClause_6 rfl rfl hF (fun hF => ?_) (fun hF => ?_)
  · refine s_aload_n (pc' := 12) hC d_Formula_addClause_11 rfl 0 rfl ?_
    refine s_getr (pc' := 15) hC qf_Formula_15 d_Formula_addClause_12 rfl hF (fun r2 hF => ?_)
    refine s_aload_n (pc' := 16) hC d_Formula_addClause_15 rfl 0 rfl ?_
    refine s_geti (pc' := 19) hC qf_Formula_22 d_Formula_addClause_16 rfl hF (fun v3 hF => ?_)
    refine s_iload_n (pc' := 20) hC d_Formula_addClause_19 rfl 1 rfl ?_
    refine s_iast (pc' := 21) hC d_Formula_addClause_20 rfl hF (fun w4 hF => ?_)
    refine s_aload_n (pc' := 22) hC d_Formula_addClause_21 rfl 0 rfl ?_
    refine s_dup (pc' := 23) hC d_Formula_addClause_22 rfl ?_
    refine s_geti (pc' := 26) hC qf_Formula_22 d_Formula_addClause_23 rfl hF (fun v5 hF => ?_)
    refine s_iconst (v := 1) (pc' := 27) hC d_Formula_addClause_26 rfl (by decide) ?_
    refine s_iadd (pc' := 28) hC d_Formula_addClause_27 rfl ?_
    refine s_puti (pc' := 31) hC qp_Formula_22 d_Formula_addClause_28 rfl hF (fun w6 hF => ?_)
    refine s_iconst (v := 1) (pc' := 32) hC d_Formula_addClause_31 rfl (by decide) ?_
    exact s_zret hC hR d_Formula_addClause_32 hF
  · refine s_iconst (v := 0) (pc' := 10) hC d_Formula_addClause_9 rfl (by decide) ?_
    exact s_zret hC hR d_Formula_addClause_10 hF
theorem c_Formula_addClause (l : Launch) (g : qk_G) (sz : Nat) (w : qw) (a0 : Nat) (x1 : Int32) (r : Int32) (w' : qw) (hF : f_Formula_addClause w a0 x1 = some (r, w')) : qMi l g sz y_Formula_addClause b_Formula_addClause 2 (some .boolean) 0 0 [.inr (some a0), .inl x1] w r w' := qk_met_z (by decide) (Nat.le_of_ble_eq_true rfl) (fun X hC hR => k_Formula_addClause r w' hC hR w a0 x1 hF)
theorem qp_TraceReader_67 : qP R_TraceReader 67 5 4 .boolean := ⟨R_TraceReader, F_TraceReader, 8, t_TraceReader, rfl, by decide, in_TraceReader, Or.inl fl_TraceReader_67, t_TraceReader_ok, n_TraceReader, rfl, by decide +kernel⟩
theorem qf_TraceReader_67 : qF R_TraceReader 67 5 4 := ⟨R_TraceReader, F_TraceReader, 8, rfl, by decide, in_TraceReader, Or.inl fl_TraceReader_67⟩
theorem qp_TraceReader_29 : qP R_TraceReader 29 5 3 .int := ⟨R_TraceReader, F_TraceReader, 8, t_TraceReader, rfl, by decide, in_TraceReader, Or.inl fl_TraceReader_29, t_TraceReader_ok, n_TraceReader, rfl, by decide +kernel⟩
theorem qs_TraceReader_63 : qV R_TraceReader 63 y_Words_isLetter b_Words_isLetter 2 (some .boolean) 1 6 := ⟨Or.inl ml_TraceReader_63, ic_Words_isLetter, ii_Words_isLetter, is_Words_isLetter, in_c_Words, ⟨_, _, rfl⟩, by decide +kernel⟩
def f_TraceReader_takeLetter (w : qw) (a0 : Nat) (a1 : Nat) : Option (Int32 × qw) :=
  q_ob (q_is w a1 6) <| q_b2 (f_Words_isLetter w a1 115) fun v2 w1 =>
  q_ob (q_z v2) <| q_b1 (q_pf w1 a0 5 4 (.inl v2)) fun w3 =>
  q_b1 (q_gi w3 a0 5 4) fun v4 =>
  if v4 = 0 then
    q_ob (q_is w3 a1 6) <| q_b2 (f_Words_isLetter w3 a1 114) fun v7 w6 =>
    if v7 = 0 then
      some (1, w6)
    else
      q_b1 (q_pf w6 a0 5 3 (.inl 1)) fun w8 =>
      some (0, w8)
  else
    q_b1 (q_pf w3 a0 5 3 (.inl 1)) fun w5 =>
    some (0, w5)
set_option maxHeartbeats 4000000 in
set_option maxRecDepth 100000 in
theorem k_TraceReader_takeLetter {X : qX} (r : Int32) (w' : qw) (hC : qC X b_TraceReader_takeLetter R_TraceReader 2 1 21) (hR : qRi X b_TraceReader_takeLetter r w') (w : qw) (a0 : Nat) (a1 : Nat) (hF : f_TraceReader_takeLetter w a0 a1 = some (r, w')) : qG X 2 0 [(0, .inr (some a0)), (1, .inr (some a1))] [] w := by
  unfold f_TraceReader_takeLetter at hF
  refine s_aload_n (pc' := 1) hC d_TraceReader_takeLetter_0 rfl 0 rfl ?_
  refine s_aload_n (pc' := 2) hC d_TraceReader_takeLetter_1 rfl 1 rfl ?_
  refine s_bipush (v := 115) (pc' := 4) hC d_TraceReader_takeLetter_2 rfl (by decide) ?_
  refine s_cVi (pc' := 7) (As := [.inl 115]) (rs := [.inr (some a0)]) (a := a1) (fr' := 0) (lo' := 0) hC qs_TraceReader_63 rfl rfl (Nat.le_of_ble_eq_true rfl) ⟨by decide, by decide⟩ d_TraceReader_takeLetter_4 rfl (fun l g sz r w' h => c_Words_isLetter l g sz w a1 115 r w' h) hF (fun v2 w1 hF => ?_)
  refine s_putz (pc' := 10) hC qp_TraceReader_67 d_TraceReader_takeLetter_7 rfl hF (fun w3 hF => ?_)
  refine s_aload_n (pc' := 11) hC d_TraceReader_takeLetter_10 rfl 0 rfl ?_
  refine s_geti (pc' := 14) hC qf_TraceReader_67 d_TraceReader_takeLetter_11 rfl hF (fun v4 hF => ?_)
  refine s_if_ne (tgt := 28) (pc' := 17) hC d_TraceReader_takeLetter_14 rfl rfl hF (fun hF => ?_) (fun hF => ?_)
  · refine s_aload_n (pc' := 29) hC d_TraceReader_takeLetter_28 rfl 0 rfl ?_
    refine s_iconst (v := 1) (pc' := 30) hC d_TraceReader_takeLetter_29 rfl (by decide) ?_
    refine s_puti (pc' := 33) hC qp_TraceReader_29 d_TraceReader_takeLetter_30 rfl hF (fun w5 hF => ?_)
    refine s_iconst (v := 0) (pc' := 34) hC d_TraceReader_takeLetter_33 rfl (by decide) ?_
    exact s_iret hC hR d_TraceReader_takeLetter_34 hF
  · refine s_aload_n (pc' := 18) hC d_TraceReader_takeLetter_17 rfl 1 rfl ?_
    refine s_bipush (v := 114) (pc' := 20) hC d_TraceReader_takeLetter_18 rfl (by decide) ?_
    refine s_cVi (pc' := 23) (As := [.inl 114]) (rs := []) (a := a1) (fr' := 0) (lo' := 0) hC qs_TraceReader_63 rfl rfl (Nat.le_of_ble_eq_true rfl) ⟨by decide, by decide⟩ d_TraceReader_takeLetter_20 rfl (fun l g sz r w' h => c_Words_isLetter l g sz w3 a1 114 r w' h) hF (fun v7 w6 hF => ?_)
    refine s_if_ne (tgt := 28) (pc' := 26) hC d_TraceReader_takeLetter_23 rfl rfl hF (fun hF => ?_) (fun hF => ?_)
    · refine s_aload_n (pc' := 29) hC d_TraceReader_takeLetter_28 rfl 0 rfl ?_
      refine s_iconst (v := 1) (pc' := 30) hC d_TraceReader_takeLetter_29 rfl (by decide) ?_
      refine s_puti (pc' := 33) hC qp_TraceReader_29 d_TraceReader_takeLetter_30 rfl hF (fun w8 hF => ?_)
      refine s_iconst (v := 0) (pc' := 34) hC d_TraceReader_takeLetter_33 rfl (by decide) ?_
      exact s_iret hC hR d_TraceReader_takeLetter_34 hF
    · refine s_iconst (v := 1) (pc' := 27) hC d_TraceReader_takeLetter_26 rfl (by decide) ?_
      exact s_iret hC hR d_TraceReader_takeLetter_27 hF
theorem c_TraceReader_takeLetter (l : Launch) (g : qk_G) (sz : Nat) (w : qw) (a0 : Nat) (a1 : Nat) (r : Int32) (w' : qw) (hF : f_TraceReader_takeLetter w a0 a1 = some (r, w')) : qMi l g sz y_TraceReader_takeLetter b_TraceReader_takeLetter 2 (some .int) 1 21 [.inr (some a0), .inr (some a1)] w r w' := qk_met_i (by decide) (Nat.le_of_ble_eq_true rfl) (fun X hC hR => k_TraceReader_takeLetter r w' hC hR w a0 a1 hF)
theorem qf_Proof_25 : qF R_Proof 25 4 4 := ⟨R_Proof, F_Proof, 5, rfl, by decide, in_Proof, Or.inl fl_Proof_25⟩
theorem qf_Proof_9 : qF R_Proof 9 4 0 := ⟨R_Proof, F_Proof, 5, rfl, by decide, in_Proof, Or.inl fl_Proof_9⟩
def lb_Proof_find_2  (c2 : Nat → Int32 → Int32 → qw → Option (Int32 × qw)) (a0 : Nat) (x1 : Int32) (x2 : Int32) (w : qw) : Option (Int32 × qw) :=
  q_b1 (q_gi w a0 4 4) fun v1 =>
  if v1 ≤ x2 then
    some ((-1), w)
  else
    q_b1 (q_gr w a0 4 0) fun r2 =>
    q_b1 (q_ld w r2 0 x2) fun v3 =>
    if v3 = x1 then
      some (x2, w)
    else
      c2 a0 x1 (x2 + 1) w
def ll_Proof_find_2  : Nat → Nat → Int32 → Int32 → qw → Option (Int32 × qw)
  | 0 => fun _ _ _ _ => none
  | n + 1 => lb_Proof_find_2  (ll_Proof_find_2  n)
def f_Proof_find (w : qw) (a0 : Nat) (x1 : Int32) : Option (Int32 × qw) :=
  ll_Proof_find_2 q_fu a0 x1 0 w
set_option maxHeartbeats 4000000 in
set_option maxRecDepth 100000 in
theorem k_Proof_find {X : qX} (r : Int32) (w' : qw) (hC : qC X b_Proof_find R_Proof 3 0 0) (hR : qRi X b_Proof_find r w') (w : qw) (a0 : Nat) (x1 : Int32) (hF : f_Proof_find w a0 x1 = some (r, w')) : qG X 3 0 [(0, .inr (some a0)), (1, .inl x1)] [] w := by
  have L_2 : ∀ (n : Nat) (a0 : Nat) (x1 : Int32) (x2 : Int32) (w : qw), ll_Proof_find_2  n a0 x1 x2 w = some (r, w') → qG X 3 2 [(0, .inr (some a0)), (1, .inl x1), (2, .inl x2)] [] w := by
    intro n_2
    induction n_2 with
    | zero => exact fun _ _ _ _ hF => q_nn (show (none : Option (Int32 × qw)) = some (r, w') from hF)
    | succ n_2 ih_2 =>
      intro a0 x1 x2 w hF
      have hF : lb_Proof_find_2  (ll_Proof_find_2  n_2) a0 x1 x2 w = some (r, w') := hF
      unfold lb_Proof_find_2 at hF
      refine s_iload_n (pc' := 3) hC d_Proof_find_2 rfl 2 rfl ?_
      refine s_aload_n (pc' := 4) hC d_Proof_find_3 rfl 0 rfl ?_
      refine s_geti (pc' := 7) hC qf_Proof_25 d_Proof_find_4 rfl hF (fun v1 hF => ?_)
      refine s_icmp_ge (tgt := 28) (pc' := 10) hC d_Proof_find_7 rfl rfl hF (fun hF => ?_) (fun hF => ?_)
      · refine s_iconst (v := (-1)) (pc' := 29) hC d_Proof_find_28 rfl (by decide) ?_
        exact s_iret hC hR d_Proof_find_29 hF
      · refine s_aload_n (pc' := 11) hC d_Proof_find_10 rfl 0 rfl ?_
        refine s_getr (pc' := 14) hC qf_Proof_9 d_Proof_find_11 rfl hF (fun r2 hF => ?_)
        refine s_iload_n (pc' := 15) hC d_Proof_find_14 rfl 2 rfl ?_
        refine s_iald (pc' := 16) hC d_Proof_find_15 rfl hF (fun v3 hF => ?_)
        refine s_iload_n (pc' := 17) hC d_Proof_find_16 rfl 1 rfl ?_
        refine s_icmp_ne (tgt := 22) (pc' := 20) hC d_Proof_find_17 rfl rfl hF (fun hF => ?_) (fun hF => ?_)
        · refine s_iinc (pc' := 25) (n' := 1) (lv' := [(2, .inl (x2 + 1)), (0, .inr (some a0)), (1, .inl x1)]) hC d_Proof_find_22 rfl 2 rfl (by decide) (by decide) rfl ?_
          refine s_goto (tgt := 2) hC d_Proof_find_25 rfl ?_
          exact qG_sub [1, 2, 0] rfl (ih_2 a0 x1 (x2 + 1) w hF)
        · refine s_iload_n (pc' := 21) hC d_Proof_find_20 rfl 2 rfl ?_
          exact s_iret hC hR d_Proof_find_21 hF
  unfold f_Proof_find at hF
  refine s_iconst (v := 0) (pc' := 1) hC d_Proof_find_0 rfl (by decide) ?_
  refine s_istore_n (pc' := 2) (lv' := [(2, .inl 0), (0, .inr (some a0)), (1, .inl x1)]) hC d_Proof_find_1 rfl (by decide) rfl ?_
  exact qG_sub [1, 2, 0] rfl (L_2 q_fu a0 x1 0 w hF)
theorem c_Proof_find (l : Launch) (g : qk_G) (sz : Nat) (w : qw) (a0 : Nat) (x1 : Int32) (r : Int32) (w' : qw) (hF : f_Proof_find w a0 x1 = some (r, w')) : qMi l g sz y_Proof_find b_Proof_find 3 (some .int) 0 0 [.inr (some a0), .inl x1] w r w' := qk_met_i (by decide) (Nat.le_of_ble_eq_true rfl) (fun X hC hR => k_Proof_find r w' hC hR w a0 x1 hF)
def f_Proof_isFull (w : qw) (a0 : Nat) : Option (Int32 × qw) :=
  q_b1 (q_gi w a0 4 4) fun v1 =>
  if v1 < 24 then
    q_ob (q_z 0) (some (0, w))
  else
    q_ob (q_z 1) (some (1, w))
set_option maxHeartbeats 4000000 in
set_option maxRecDepth 100000 in
theorem k_Proof_isFull {X : qX} (r : Int32) (w' : qw) (hC : qC X b_Proof_isFull R_Proof 1 0 0) (hR : qRz X b_Proof_isFull r w') (w : qw) (a0 : Nat) (hF : f_Proof_isFull w a0 = some (r, w')) : qG X 1 0 [(0, .inr (some a0))] [] w := by
  unfold f_Proof_isFull at hF
  refine s_aload_n (pc' := 1) hC d_Proof_isFull_0 rfl 0 rfl ?_
  refine s_geti (pc' := 4) hC qf_Proof_25 d_Proof_isFull_1 rfl hF (fun v1 hF => ?_)
  refine s_bipush (v := 24) (pc' := 6) hC d_Proof_isFull_4 rfl (by decide) ?_
  refine s_icmp_lt (tgt := 13) (pc' := 9) hC d_Proof_isFull_6 rfl rfl hF (fun hF => ?_) (fun hF => ?_)
  · refine s_iconst (v := 0) (pc' := 14) hC d_Proof_isFull_13 rfl (by decide) ?_
    exact s_zret hC hR d_Proof_isFull_14 hF
  · refine s_iconst (v := 1) (pc' := 10) hC d_Proof_isFull_9 rfl (by decide) ?_
    refine s_goto (tgt := 14) hC d_Proof_isFull_10 rfl ?_
    exact s_zret hC hR d_Proof_isFull_14 hF
theorem c_Proof_isFull (l : Launch) (g : qk_G) (sz : Nat) (w : qw) (a0 : Nat) (r : Int32) (w' : qw) (hF : f_Proof_isFull w a0 = some (r, w')) : qMi l g sz y_Proof_isFull b_Proof_isFull 1 (some .boolean) 0 0 [.inr (some a0)] w r w' := qk_met_z (by decide) (Nat.le_of_ble_eq_true rfl) (fun X hC hR => k_Proof_isFull r w' hC hR w a0 hF)
def f_Proof_has (w : qw) (a0 : Nat) (x1 : Int32) : Option (Int32 × qw) :=
  if x1 < 0 then
    q_ob (q_z 0) (some (0, w))
  else
    q_b1 (q_gi w a0 4 4) fun v1 =>
    if v1 ≤ x1 then
      q_ob (q_z 0) (some (0, w))
    else
      q_ob (q_z 1) (some (1, w))
set_option maxHeartbeats 4000000 in
set_option maxRecDepth 100000 in
theorem k_Proof_has {X : qX} (r : Int32) (w' : qw) (hC : qC X b_Proof_has R_Proof 2 0 0) (hR : qRz X b_Proof_has r w') (w : qw) (a0 : Nat) (x1 : Int32) (hF : f_Proof_has w a0 x1 = some (r, w')) : qG X 2 0 [(0, .inr (some a0)), (1, .inl x1)] [] w := by
  unfold f_Proof_has at hF
  refine s_iload_n (pc' := 1) hC d_Proof_has_0 rfl 1 rfl ?_
  refine s_if_lt (tgt := 16) (pc' := 4) hC d_Proof_has_1 rfl rfl hF (fun hF => ?_) (fun hF => ?_)
  · refine s_iconst (v := 0) (pc' := 17) hC d_Proof_has_16 rfl (by decide) ?_
    exact s_zret hC hR d_Proof_has_17 hF
  · refine s_iload_n (pc' := 5) hC d_Proof_has_4 rfl 1 rfl ?_
    refine s_aload_n (pc' := 6) hC d_Proof_has_5 rfl 0 rfl ?_
    refine s_geti (pc' := 9) hC qf_Proof_25 d_Proof_has_6 rfl hF (fun v1 hF => ?_)
    refine s_icmp_ge (tgt := 16) (pc' := 12) hC d_Proof_has_9 rfl rfl hF (fun hF => ?_) (fun hF => ?_)
    · refine s_iconst (v := 0) (pc' := 17) hC d_Proof_has_16 rfl (by decide) ?_
      exact s_zret hC hR d_Proof_has_17 hF
    · refine s_iconst (v := 1) (pc' := 13) hC d_Proof_has_12 rfl (by decide) ?_
      refine s_goto (tgt := 17) hC d_Proof_has_13 rfl ?_
      exact s_zret hC hR d_Proof_has_17 hF
theorem c_Proof_has (l : Launch) (g : qk_G) (sz : Nat) (w : qw) (a0 : Nat) (x1 : Int32) (r : Int32) (w' : qw) (hF : f_Proof_has w a0 x1 = some (r, w')) : qMi l g sz y_Proof_has b_Proof_has 2 (some .boolean) 0 0 [.inr (some a0), .inl x1] w r w' := qk_met_z (by decide) (Nat.le_of_ble_eq_true rfl) (fun X hC hR => k_Proof_has r w' hC hR w a0 x1 hF)
def f_QP_bothWaysIn (w : qw) (x0 : Int32) : Option (Int32 × qw) :=
  some ((x0 &&& (x0 >>> ((8 : Int32) &&& 31))) &&& 255, w)
set_option maxHeartbeats 4000000 in
set_option maxRecDepth 100000 in
theorem k_QP_bothWaysIn {X : qX} (r : Int32) (w' : qw) (hC : qC X b_QP_bothWaysIn R_QP 1 0 0) (hR : qRi X b_QP_bothWaysIn r w') (w : qw) (x0 : Int32) (hF : f_QP_bothWaysIn w x0 = some (r, w')) : qG X 1 0 [(0, .inl x0)] [] w := by
  unfold f_QP_bothWaysIn at hF
  refine s_iload_n (pc' := 1) hC d_QP_bothWaysIn_0 rfl 0 rfl ?_
  refine s_iload_n (pc' := 2) hC d_QP_bothWaysIn_1 rfl 0 rfl ?_
  refine s_bipush (v := 8) (pc' := 4) hC d_QP_bothWaysIn_2 rfl (by decide) ?_
  refine s_ishr (pc' := 5) hC d_QP_bothWaysIn_4 rfl ?_
  refine s_iand (pc' := 6) hC d_QP_bothWaysIn_5 rfl ?_
  refine s_sipush (v := 255) (pc' := 9) hC d_QP_bothWaysIn_6 rfl (by decide) ?_
  refine s_iand (pc' := 10) hC d_QP_bothWaysIn_9 rfl ?_
  exact s_iret hC hR d_QP_bothWaysIn_10 hF
theorem c_QP_bothWaysIn (l : Launch) (g : qk_G) (sz : Nat) (w : qw) (x0 : Int32) (r : Int32) (w' : qw) (hF : f_QP_bothWaysIn w x0 = some (r, w')) : qMi l g sz y_QP_bothWaysIn b_QP_bothWaysIn 1 (some .int) 0 0 [.inl x0] w r w' := qk_met_i (by decide) (Nat.le_of_ble_eq_true rfl) (fun X hC hR => k_QP_bothWaysIn r w' hC hR w x0 hF)
def lb_Formula_isMetBy_2  (c2 : Nat → Int32 → Int32 → qw → Option (Int32 × qw)) (a0 : Nat) (x1 : Int32) (x2 : Int32) (w : qw) : Option (Int32 × qw) :=
  q_b1 (q_gi w a0 2 3) fun v1 =>
  if v1 ≤ x2 then
    q_ob (q_z 1) (some (1, w))
  else
    q_b1 (q_gr w a0 2 1) fun r2 =>
    q_b1 (q_ld w r2 0 x2) fun v3 =>
    if (v3 &&& x1) = 0 then
      q_ob (q_z 0) (some (0, w))
    else
      c2 a0 x1 (x2 + 1) w
def ll_Formula_isMetBy_2  : Nat → Nat → Int32 → Int32 → qw → Option (Int32 × qw)
  | 0 => fun _ _ _ _ => none
  | n + 1 => lb_Formula_isMetBy_2  (ll_Formula_isMetBy_2  n)
def f_Formula_isMetBy (w : qw) (a0 : Nat) (x1 : Int32) : Option (Int32 × qw) :=
  ll_Formula_isMetBy_2 q_fu a0 x1 0 w
set_option maxHeartbeats 4000000 in
set_option maxRecDepth 100000 in
theorem k_Formula_isMetBy {X : qX} (r : Int32) (w' : qw) (hC : qC X b_Formula_isMetBy R_Formula 3 0 0) (hR : qRz X b_Formula_isMetBy r w') (w : qw) (a0 : Nat) (x1 : Int32) (hF : f_Formula_isMetBy w a0 x1 = some (r, w')) : qG X 3 0 [(0, .inr (some a0)), (1, .inl x1)] [] w := by
  have L_2 : ∀ (n : Nat) (a0 : Nat) (x1 : Int32) (x2 : Int32) (w : qw), ll_Formula_isMetBy_2  n a0 x1 x2 w = some (r, w') → qG X 3 2 [(0, .inr (some a0)), (1, .inl x1), (2, .inl x2)] [] w := by
    intro n_2
    induction n_2 with
    | zero => exact fun _ _ _ _ hF => q_nn (show (none : Option (Int32 × qw)) = some (r, w') from hF)
    | succ n_2 ih_2 =>
      intro a0 x1 x2 w hF
      have hF : lb_Formula_isMetBy_2  (ll_Formula_isMetBy_2  n_2) a0 x1 x2 w = some (r, w') := hF
      unfold lb_Formula_isMetBy_2 at hF
      refine s_iload_n (pc' := 3) hC d_Formula_isMetBy_2 rfl 2 rfl ?_
      refine s_aload_n (pc' := 4) hC d_Formula_isMetBy_3 rfl 0 rfl ?_
      refine s_geti (pc' := 7) hC qf_Formula_22 d_Formula_isMetBy_4 rfl hF (fun v1 hF => ?_)
      refine s_icmp_ge (tgt := 29) (pc' := 10) hC d_Formula_isMetBy_7 rfl rfl hF (fun hF => ?_) (fun hF => ?_)
      · refine s_iconst (v := 1) (pc' := 30) hC d_Formula_isMetBy_29 rfl (by decide) ?_
        exact s_zret hC hR d_Formula_isMetBy_30 hF
      · refine s_aload_n (pc' := 11) hC d_Formula_isMetBy_10 rfl 0 rfl ?_
        refine s_getr (pc' := 14) hC qf_Formula_15 d_Formula_isMetBy_11 rfl hF (fun r2 hF => ?_)
        refine s_iload_n (pc' := 15) hC d_Formula_isMetBy_14 rfl 2 rfl ?_
        refine s_iald (pc' := 16) hC d_Formula_isMetBy_15 rfl hF (fun v3 hF => ?_)
        refine s_iload_n (pc' := 17) hC d_Formula_isMetBy_16 rfl 1 rfl ?_
        refine s_iand (pc' := 18) hC d_Formula_isMetBy_17 rfl ?_
        refine s_if_ne (tgt := 23) (pc' := 21) hC d_Formula_isMetBy_18 rfl rfl hF (fun hF => ?_) (fun hF => ?_)
        · refine s_iinc (pc' := 26) (n' := 1) (lv' := [(2, .inl (x2 + 1)), (0, .inr (some a0)), (1, .inl x1)]) hC d_Formula_isMetBy_23 rfl 2 rfl (by decide) (by decide) rfl ?_
          refine s_goto (tgt := 2) hC d_Formula_isMetBy_26 rfl ?_
          exact qG_sub [1, 2, 0] rfl (ih_2 a0 x1 (x2 + 1) w hF)
        · refine s_iconst (v := 0) (pc' := 22) hC d_Formula_isMetBy_21 rfl (by decide) ?_
          exact s_zret hC hR d_Formula_isMetBy_22 hF
  unfold f_Formula_isMetBy at hF
  refine s_iconst (v := 0) (pc' := 1) hC d_Formula_isMetBy_0 rfl (by decide) ?_
  refine s_istore_n (pc' := 2) (lv' := [(2, .inl 0), (0, .inr (some a0)), (1, .inl x1)]) hC d_Formula_isMetBy_1 rfl (by decide) rfl ?_
  exact qG_sub [1, 2, 0] rfl (L_2 q_fu a0 x1 0 w hF)
theorem c_Formula_isMetBy (l : Launch) (g : qk_G) (sz : Nat) (w : qw) (a0 : Nat) (x1 : Int32) (r : Int32) (w' : qw) (hF : f_Formula_isMetBy w a0 x1 = some (r, w')) : qMi l g sz y_Formula_isMetBy b_Formula_isMetBy 3 (some .boolean) 0 0 [.inr (some a0), .inl x1] w r w' := qk_met_z (by decide) (Nat.le_of_ble_eq_true rfl) (fun X hC hR => k_Formula_isMetBy r w' hC hR w a0 x1 hF)
def lb_Formula_hasClause_2  (c2 : Nat → Int32 → Int32 → qw → Option (Int32 × qw)) (a0 : Nat) (x1 : Int32) (x2 : Int32) (w : qw) : Option (Int32 × qw) :=
  q_b1 (q_gi w a0 2 3) fun v1 =>
  if v1 ≤ x2 then
    q_ob (q_z 0) (some (0, w))
  else
    q_b1 (q_gr w a0 2 1) fun r2 =>
    q_b1 (q_ld w r2 0 x2) fun v3 =>
    if v3 = x1 then
      q_ob (q_z 1) (some (1, w))
    else
      c2 a0 x1 (x2 + 1) w
def ll_Formula_hasClause_2  : Nat → Nat → Int32 → Int32 → qw → Option (Int32 × qw)
  | 0 => fun _ _ _ _ => none
  | n + 1 => lb_Formula_hasClause_2  (ll_Formula_hasClause_2  n)
def f_Formula_hasClause (w : qw) (a0 : Nat) (x1 : Int32) : Option (Int32 × qw) :=
  ll_Formula_hasClause_2 q_fu a0 x1 0 w
set_option maxHeartbeats 4000000 in
set_option maxRecDepth 100000 in
theorem k_Formula_hasClause {X : qX} (r : Int32) (w' : qw) (hC : qC X b_Formula_hasClause R_Formula 3 0 0) (hR : qRz X b_Formula_hasClause r w') (w : qw) (a0 : Nat) (x1 : Int32) (hF : f_Formula_hasClause w a0 x1 = some (r, w')) : qG X 3 0 [(0, .inr (some a0)), (1, .inl x1)] [] w := by
  have L_2 : ∀ (n : Nat) (a0 : Nat) (x1 : Int32) (x2 : Int32) (w : qw), ll_Formula_hasClause_2  n a0 x1 x2 w = some (r, w') → qG X 3 2 [(0, .inr (some a0)), (1, .inl x1), (2, .inl x2)] [] w := by
    intro n_2
    induction n_2 with
    | zero => exact fun _ _ _ _ hF => q_nn (show (none : Option (Int32 × qw)) = some (r, w') from hF)
    | succ n_2 ih_2 =>
      intro a0 x1 x2 w hF
      have hF : lb_Formula_hasClause_2  (ll_Formula_hasClause_2  n_2) a0 x1 x2 w = some (r, w') := hF
      unfold lb_Formula_hasClause_2 at hF
      refine s_iload_n (pc' := 3) hC d_Formula_hasClause_2 rfl 2 rfl ?_
      refine s_aload_n (pc' := 4) hC d_Formula_hasClause_3 rfl 0 rfl ?_
      refine s_geti (pc' := 7) hC qf_Formula_22 d_Formula_hasClause_4 rfl hF (fun v1 hF => ?_)
      refine s_icmp_ge (tgt := 28) (pc' := 10) hC d_Formula_hasClause_7 rfl rfl hF (fun hF => ?_) (fun hF => ?_)
      · refine s_iconst (v := 0) (pc' := 29) hC d_Formula_hasClause_28 rfl (by decide) ?_
        exact s_zret hC hR d_Formula_hasClause_29 hF
      · refine s_aload_n (pc' := 11) hC d_Formula_hasClause_10 rfl 0 rfl ?_
        refine s_getr (pc' := 14) hC qf_Formula_15 d_Formula_hasClause_11 rfl hF (fun r2 hF => ?_)
        refine s_iload_n (pc' := 15) hC d_Formula_hasClause_14 rfl 2 rfl ?_
        refine s_iald (pc' := 16) hC d_Formula_hasClause_15 rfl hF (fun v3 hF => ?_)
        refine s_iload_n (pc' := 17) hC d_Formula_hasClause_16 rfl 1 rfl ?_
        refine s_icmp_ne (tgt := 22) (pc' := 20) hC d_Formula_hasClause_17 rfl rfl hF (fun hF => ?_) (fun hF => ?_)
        · refine s_iinc (pc' := 25) (n' := 1) (lv' := [(2, .inl (x2 + 1)), (0, .inr (some a0)), (1, .inl x1)]) hC d_Formula_hasClause_22 rfl 2 rfl (by decide) (by decide) rfl ?_
          refine s_goto (tgt := 2) hC d_Formula_hasClause_25 rfl ?_
          exact qG_sub [1, 2, 0] rfl (ih_2 a0 x1 (x2 + 1) w hF)
        · refine s_iconst (v := 1) (pc' := 21) hC d_Formula_hasClause_20 rfl (by decide) ?_
          exact s_zret hC hR d_Formula_hasClause_21 hF
  unfold f_Formula_hasClause at hF
  refine s_iconst (v := 0) (pc' := 1) hC d_Formula_hasClause_0 rfl (by decide) ?_
  refine s_istore_n (pc' := 2) (lv' := [(2, .inl 0), (0, .inr (some a0)), (1, .inl x1)]) hC d_Formula_hasClause_1 rfl (by decide) rfl ?_
  exact qG_sub [1, 2, 0] rfl (L_2 q_fu a0 x1 0 w hF)
theorem c_Formula_hasClause (l : Launch) (g : qk_G) (sz : Nat) (w : qw) (a0 : Nat) (x1 : Int32) (r : Int32) (w' : qw) (hF : f_Formula_hasClause w a0 x1 = some (r, w')) : qMi l g sz y_Formula_hasClause b_Formula_hasClause 3 (some .boolean) 0 0 [.inr (some a0), .inl x1] w r w' := qk_met_z (by decide) (Nat.le_of_ble_eq_true rfl) (fun X hC hR => k_Formula_hasClause r w' hC hR w a0 x1 hF)
def f_QP_variablesIn (w : qw) (x0 : Int32) : Option (Int32 × qw) :=
  some ((x0 ||| (x0 >>> ((8 : Int32) &&& 31))) &&& 255, w)
set_option maxHeartbeats 4000000 in
set_option maxRecDepth 100000 in
theorem k_QP_variablesIn {X : qX} (r : Int32) (w' : qw) (hC : qC X b_QP_variablesIn R_QP 1 0 0) (hR : qRi X b_QP_variablesIn r w') (w : qw) (x0 : Int32) (hF : f_QP_variablesIn w x0 = some (r, w')) : qG X 1 0 [(0, .inl x0)] [] w := by
  unfold f_QP_variablesIn at hF
  refine s_iload_n (pc' := 1) hC d_QP_variablesIn_0 rfl 0 rfl ?_
  refine s_iload_n (pc' := 2) hC d_QP_variablesIn_1 rfl 0 rfl ?_
  refine s_bipush (v := 8) (pc' := 4) hC d_QP_variablesIn_2 rfl (by decide) ?_
  refine s_ishr (pc' := 5) hC d_QP_variablesIn_4 rfl ?_
  refine s_ior (pc' := 6) hC d_QP_variablesIn_5 rfl ?_
  refine s_sipush (v := 255) (pc' := 9) hC d_QP_variablesIn_6 rfl (by decide) ?_
  refine s_iand (pc' := 10) hC d_QP_variablesIn_9 rfl ?_
  exact s_iret hC hR d_QP_variablesIn_10 hF
theorem c_QP_variablesIn (l : Launch) (g : qk_G) (sz : Nat) (w : qw) (x0 : Int32) (r : Int32) (w' : qw) (hF : f_QP_variablesIn w x0 = some (r, w')) : qMi l g sz y_QP_variablesIn b_QP_variablesIn 1 (some .int) 0 0 [.inl x0] w r w' := qk_met_i (by decide) (Nat.le_of_ble_eq_true rfl) (fun X hC hR => k_QP_variablesIn r w' hC hR w x0 hF)
theorem qf_TraceReader_25 : qF R_TraceReader 25 5 2 := ⟨R_TraceReader, F_TraceReader, 8, rfl, by decide, in_TraceReader, Or.inl fl_TraceReader_25⟩
theorem qf_TraceReader_125 : qF R_TraceReader 125 2 5 := ⟨R_Formula, F_Formula, 6, rfl, by decide, in_Formula, Or.inr ⟨_, fn_TraceReader_125⟩⟩
theorem qf_TraceReader_122 : qF R_TraceReader 122 2 4 := ⟨R_Formula, F_Formula, 6, rfl, by decide, in_Formula, Or.inr ⟨_, fn_TraceReader_122⟩⟩
def f_TraceReader_mainVariables (w : qw) (a0 : Nat) : Option (Int32 × qw) :=
  q_b1 (q_gi w a0 5 4) fun v1 =>
  if v1 = 0 then
    q_b1 (q_gr w a0 5 2) fun r2 =>
    q_b1 (q_gi w r2 2 5) fun v3 =>
    some (v3, w)
  else
    q_b1 (q_gr w a0 5 2) fun r4 =>
    q_b1 (q_gi w r4 2 4) fun v5 =>
    some (v5, w)
set_option maxHeartbeats 4000000 in
set_option maxRecDepth 100000 in
theorem k_TraceReader_mainVariables {X : qX} (r : Int32) (w' : qw) (hC : qC X b_TraceReader_mainVariables R_TraceReader 1 0 0) (hR : qRi X b_TraceReader_mainVariables r w') (w : qw) (a0 : Nat) (hF : f_TraceReader_mainVariables w a0 = some (r, w')) : qG X 1 0 [(0, .inr (some a0))] [] w := by
  unfold f_TraceReader_mainVariables at hF
  refine s_aload_n (pc' := 1) hC d_TraceReader_mainVariables_0 rfl 0 rfl ?_
  refine s_geti (pc' := 4) hC qf_TraceReader_67 d_TraceReader_mainVariables_1 rfl hF (fun v1 hF => ?_)
  refine s_if_eq (tgt := 17) (pc' := 7) hC d_TraceReader_mainVariables_4 rfl rfl hF (fun hF => ?_) (fun hF => ?_)
  · refine s_aload_n (pc' := 18) hC d_TraceReader_mainVariables_17 rfl 0 rfl ?_
    refine s_getr (pc' := 21) hC qf_TraceReader_25 d_TraceReader_mainVariables_18 rfl hF (fun r2 hF => ?_)
    refine s_geti (pc' := 24) hC qf_TraceReader_125 d_TraceReader_mainVariables_21 rfl hF (fun v3 hF => ?_)
    exact s_iret hC hR d_TraceReader_mainVariables_24 hF
  · refine s_aload_n (pc' := 8) hC d_TraceReader_mainVariables_7 rfl 0 rfl ?_
    refine s_getr (pc' := 11) hC qf_TraceReader_25 d_TraceReader_mainVariables_8 rfl hF (fun r4 hF => ?_)
    refine s_geti (pc' := 14) hC qf_TraceReader_122 d_TraceReader_mainVariables_11 rfl hF (fun v5 hF => ?_)
    refine s_goto (tgt := 24) hC d_TraceReader_mainVariables_14 rfl ?_
    exact s_iret hC hR d_TraceReader_mainVariables_24 hF
theorem c_TraceReader_mainVariables (l : Launch) (g : qk_G) (sz : Nat) (w : qw) (a0 : Nat) (r : Int32) (w' : qw) (hF : f_TraceReader_mainVariables w a0 = some (r, w')) : qMi l g sz y_TraceReader_mainVariables b_TraceReader_mainVariables 1 (some .int) 0 0 [.inr (some a0)] w r w' := qk_met_i (by decide) (Nat.le_of_ble_eq_true rfl) (fun X hC hR => k_TraceReader_mainVariables r w' hC hR w a0 hF)
def lb_Formula_innerToAll_9  (c9 : Nat → Int32 → Int32 → Int32 → qw → Option (Int32 × qw)) (a0 : Nat) (x1 : Int32) (x2 : Int32) (x3 : Int32) (w : qw) : Option (Int32 × qw) :=
  if x3 < 0 then
    some (x2, w)
  else
    q_b1 (q_gr w a0 2 0) fun r1 =>
    q_b1 (q_ld w r1 0 x3) fun v2 =>
    q_b2 (f_QP_setOf w v2) fun v4 w3 =>
    if (x1 &&& v4) = 0 then
      c9 a0 x1 (x2 ||| v4) (x3 + (-1)) w3
    else
      some (x2, w3)
def ll_Formula_innerToAll_9  : Nat → Nat → Int32 → Int32 → Int32 → qw → Option (Int32 × qw)
  | 0 => fun _ _ _ _ _ => none
  | n + 1 => lb_Formula_innerToAll_9  (ll_Formula_innerToAll_9  n)
def f_Formula_innerToAll (w : qw) (a0 : Nat) (x1 : Int32) : Option (Int32 × qw) :=
  q_b1 (q_gi w a0 2 2) fun v5 =>
  ll_Formula_innerToAll_9 q_fu a0 x1 0 (v5 - 1) w
set_option maxHeartbeats 4000000 in
set_option maxRecDepth 100000 in
theorem k_Formula_innerToAll {X : qX} (r : Int32) (w' : qw) (hC : qC X b_Formula_innerToAll R_Formula 5 1 20) (hR : qRi X b_Formula_innerToAll r w') (w : qw) (a0 : Nat) (x1 : Int32) (hF : f_Formula_innerToAll w a0 x1 = some (r, w')) : qG X 5 0 [(0, .inr (some a0)), (1, .inl x1)] [] w := by
  have L_9 : ∀ (n : Nat) (a0 : Nat) (x1 : Int32) (x2 : Int32) (x3 : Int32) (w : qw), ll_Formula_innerToAll_9  n a0 x1 x2 x3 w = some (r, w') → qG X 5 9 [(0, .inr (some a0)), (1, .inl x1), (2, .inl x2), (3, .inl x3)] [] w := by
    intro n_9
    induction n_9 with
    | zero => exact fun _ _ _ _ _ hF => q_nn (show (none : Option (Int32 × qw)) = some (r, w') from hF)
    | succ n_9 ih_9 =>
      intro a0 x1 x2 x3 w hF
      have hF : lb_Formula_innerToAll_9  (ll_Formula_innerToAll_9  n_9) a0 x1 x2 x3 w = some (r, w') := hF
      unfold lb_Formula_innerToAll_9 at hF
      refine s_iload_n (pc' := 10) hC d_Formula_innerToAll_9 rfl 3 rfl ?_
      refine s_if_lt (tgt := 44) (pc' := 13) hC d_Formula_innerToAll_10 rfl rfl hF (fun hF => ?_) (fun hF => ?_)
      · refine s_iload_n (pc' := 45) hC d_Formula_innerToAll_44 rfl 2 rfl ?_
        exact s_iret hC hR d_Formula_innerToAll_45 hF
      · refine s_aload_n (pc' := 14) hC d_Formula_innerToAll_13 rfl 0 rfl ?_
        refine s_getr (pc' := 17) hC qf_Formula_9 d_Formula_innerToAll_14 rfl hF (fun r1 hF => ?_)
        refine s_iload_n (pc' := 18) hC d_Formula_innerToAll_17 rfl 3 rfl ?_
        refine s_iald (pc' := 19) hC d_Formula_innerToAll_18 rfl hF (fun v2 hF => ?_)
        refine s_cSi (pc' := 22) (As := [.inl v2]) (rs := []) (fr' := 0) (lo' := 0) hC qs_Formula_35 rfl rfl (Nat.le_of_ble_eq_true rfl) ⟨by decide, by decide⟩ d_Formula_innerToAll_19 rfl (fun l g sz r w' h => c_QP_setOf l g sz w v2 r w' h) hF (fun v4 w3 hF => ?_)
        refine s_istore (pc' := 24) (lv' := [(4, .inl v4), (0, .inr (some a0)), (1, .inl x1), (2, .inl x2), (3, .inl x3)]) hC d_Formula_innerToAll_22 rfl (by decide) rfl ?_
        refine s_iload_n (pc' := 25) hC d_Formula_innerToAll_24 rfl 2 rfl ?_
        refine s_iload (pc' := 27) hC d_Formula_innerToAll_25 rfl 0 rfl ?_
        refine s_iand (pc' := 28) hC d_Formula_innerToAll_27 rfl ?_
        refine s_if_eq (tgt := 33) (pc' := 31) hC d_Formula_innerToAll_28 rfl rfl hF (fun hF => ?_) (fun hF => ?_)
        · refine s_iload_n (pc' := 34) hC d_Formula_innerToAll_33 rfl 3 rfl ?_
          refine s_iload (pc' := 36) hC d_Formula_innerToAll_34 rfl 0 rfl ?_
          refine s_ior (pc' := 37) hC d_Formula_innerToAll_36 rfl ?_
          refine s_istore_n (pc' := 38) (lv' := [(2, .inl (x2 ||| v4)), (4, .inl v4), (0, .inr (some a0)), (1, .inl x1), (3, .inl x3)]) hC d_Formula_innerToAll_37 rfl (by decide) rfl ?_
          refine s_iinc (pc' := 41) (n' := (-1)) (lv' := [(3, .inl (x3 + (-1))), (2, .inl (x2 ||| v4)), (4, .inl v4), (0, .inr (some a0)), (1, .inl x1)]) hC d_Formula_innerToAll_38 rfl 4 rfl (by decide) (by decide) rfl ?_
          refine s_goto (tgt := 9) hC d_Formula_innerToAll_41 rfl ?_
          exact qG_sub [3, 4, 1, 0] rfl (ih_9 a0 x1 (x2 ||| v4) (x3 + (-1)) w3 hF)
        · refine s_iload_n (pc' := 32) hC d_Formula_innerToAll_31 rfl 3 rfl ?_
          exact s_iret hC hR d_Formula_innerToAll_32 hF
  unfold f_Formula_innerToAll at hF
  refine s_iconst (v := 0) (pc' := 1) hC d_Formula_innerToAll_0 rfl (by decide) ?_
  refine s_istore_n (pc' := 2) (lv' := [(2, .inl 0), (0, .inr (some a0)), (1, .inl x1)]) hC d_Formula_innerToAll_1 rfl (by decide) rfl ?_
  refine s_aload_n (pc' := 3) hC d_Formula_innerToAll_2 rfl 1 rfl ?_
  refine s_geti (pc' := 6) hC qf_Formula_18 d_Formula_innerToAll_3 rfl hF (fun v5 hF => ?_)
  refine s_iconst (v := 1) (pc' := 7) hC d_Formula_innerToAll_6 rfl (by decide) ?_
  refine s_isub (pc' := 8) hC d_Formula_innerToAll_7 rfl ?_
  refine s_istore_n (pc' := 9) (lv' := [(3, .inl (v5 - 1)), (2, .inl 0), (0, .inr (some a0)), (1, .inl x1)]) hC d_Formula_innerToAll_8 rfl (by decide) rfl ?_
  exact qG_sub [2, 3, 1, 0] rfl (L_9 q_fu a0 x1 0 (v5 - 1) w hF)
theorem c_Formula_innerToAll (l : Launch) (g : qk_G) (sz : Nat) (w : qw) (a0 : Nat) (x1 : Int32) (r : Int32) (w' : qw) (hF : f_Formula_innerToAll w a0 x1 = some (r, w')) : qMi l g sz y_Formula_innerToAll b_Formula_innerToAll 5 (some .int) 1 20 [.inr (some a0), .inl x1] w r w' := qk_met_i (by decide) (Nat.le_of_ble_eq_true rfl) (fun X hC hR => k_Formula_innerToAll r w' hC hR w a0 x1 hF)
def f_TraceReader_sideVariables (w : qw) (a0 : Nat) : Option (Int32 × qw) :=
  q_b1 (q_gi w a0 5 4) fun v1 =>
  if v1 = 0 then
    q_b1 (q_gr w a0 5 2) fun r2 =>
    q_b1 (q_gi w r2 2 4) fun v3 =>
    some (v3, w)
  else
    q_b1 (q_gr w a0 5 2) fun r4 =>
    q_b1 (q_gi w r4 2 5) fun v5 =>
    some (v5, w)
set_option maxHeartbeats 4000000 in
set_option maxRecDepth 100000 in
theorem k_TraceReader_sideVariables {X : qX} (r : Int32) (w' : qw) (hC : qC X b_TraceReader_sideVariables R_TraceReader 1 0 0) (hR : qRi X b_TraceReader_sideVariables r w') (w : qw) (a0 : Nat) (hF : f_TraceReader_sideVariables w a0 = some (r, w')) : qG X 1 0 [(0, .inr (some a0))] [] w := by
  unfold f_TraceReader_sideVariables at hF
  refine s_aload_n (pc' := 1) hC d_TraceReader_sideVariables_0 rfl 0 rfl ?_
  refine s_geti (pc' := 4) hC qf_TraceReader_67 d_TraceReader_sideVariables_1 rfl hF (fun v1 hF => ?_)
  refine s_if_eq (tgt := 17) (pc' := 7) hC d_TraceReader_sideVariables_4 rfl rfl hF (fun hF => ?_) (fun hF => ?_)
  · refine s_aload_n (pc' := 18) hC d_TraceReader_sideVariables_17 rfl 0 rfl ?_
    refine s_getr (pc' := 21) hC qf_TraceReader_25 d_TraceReader_sideVariables_18 rfl hF (fun r2 hF => ?_)
    refine s_geti (pc' := 24) hC qf_TraceReader_122 d_TraceReader_sideVariables_21 rfl hF (fun v3 hF => ?_)
    exact s_iret hC hR d_TraceReader_sideVariables_24 hF
  · refine s_aload_n (pc' := 8) hC d_TraceReader_sideVariables_7 rfl 0 rfl ?_
    refine s_getr (pc' := 11) hC qf_TraceReader_25 d_TraceReader_sideVariables_8 rfl hF (fun r4 hF => ?_)
    refine s_geti (pc' := 14) hC qf_TraceReader_125 d_TraceReader_sideVariables_11 rfl hF (fun v5 hF => ?_)
    refine s_goto (tgt := 24) hC d_TraceReader_sideVariables_14 rfl ?_
    exact s_iret hC hR d_TraceReader_sideVariables_24 hF
theorem c_TraceReader_sideVariables (l : Launch) (g : qk_G) (sz : Nat) (w : qw) (a0 : Nat) (r : Int32) (w' : qw) (hF : f_TraceReader_sideVariables w a0 = some (r, w')) : qMi l g sz y_TraceReader_sideVariables b_TraceReader_sideVariables 1 (some .int) 0 0 [.inr (some a0)] w r w' := qk_met_i (by decide) (Nat.le_of_ble_eq_true rfl) (fun X hC hR => k_TraceReader_sideVariables r w' hC hR w a0 hF)
def f_JI_bitCount (w : qw) (x0 : Int32) : Option (Int32 × qw) :=
  some ((((((((x0 - (((x0.toUInt32 >>> ((1 : Int32).toUInt32 &&& Int32.toUInt32 31)).toInt32) &&& 1431655765)) &&& 858993459) + ((((x0 - (((x0.toUInt32 >>> ((1 : Int32).toUInt32 &&& Int32.toUInt32 31)).toInt32) &&& 1431655765)).toUInt32 >>> ((2 : Int32).toUInt32 &&& Int32.toUInt32 31)).toInt32) &&& 858993459)) + (((((x0 - (((x0.toUInt32 >>> ((1 : Int32).toUInt32 &&& Int32.toUInt32 31)).toInt32) &&& 1431655765)) &&& 858993459) + ((((x0 - (((x0.toUInt32 >>> ((1 : Int32).toUInt32 &&& Int32.toUInt32 31)).toInt32) &&& 1431655765)).toUInt32 >>> ((2 : Int32).toUInt32 &&& Int32.toUInt32 31)).toInt32) &&& 858993459)).toUInt32 >>> ((4 : Int32).toUInt32 &&& Int32.toUInt32 31)).toInt32)) &&& 252645135) + (((((((x0 - (((x0.toUInt32 >>> ((1 : Int32).toUInt32 &&& Int32.toUInt32 31)).toInt32) &&& 1431655765)) &&& 858993459) + ((((x0 - (((x0.toUInt32 >>> ((1 : Int32).toUInt32 &&& Int32.toUInt32 31)).toInt32) &&& 1431655765)).toUInt32 >>> ((2 : Int32).toUInt32 &&& Int32.toUInt32 31)).toInt32) &&& 858993459)) + (((((x0 - (((x0.toUInt32 >>> ((1 : Int32).toUInt32 &&& Int32.toUInt32 31)).toInt32) &&& 1431655765)) &&& 858993459) + ((((x0 - (((x0.toUInt32 >>> ((1 : Int32).toUInt32 &&& Int32.toUInt32 31)).toInt32) &&& 1431655765)).toUInt32 >>> ((2 : Int32).toUInt32 &&& Int32.toUInt32 31)).toInt32) &&& 858993459)).toUInt32 >>> ((4 : Int32).toUInt32 &&& Int32.toUInt32 31)).toInt32)) &&& 252645135).toUInt32 >>> ((8 : Int32).toUInt32 &&& Int32.toUInt32 31)).toInt32)) + ((((((((x0 - (((x0.toUInt32 >>> ((1 : Int32).toUInt32 &&& Int32.toUInt32 31)).toInt32) &&& 1431655765)) &&& 858993459) + ((((x0 - (((x0.toUInt32 >>> ((1 : Int32).toUInt32 &&& Int32.toUInt32 31)).toInt32) &&& 1431655765)).toUInt32 >>> ((2 : Int32).toUInt32 &&& Int32.toUInt32 31)).toInt32) &&& 858993459)) + (((((x0 - (((x0.toUInt32 >>> ((1 : Int32).toUInt32 &&& Int32.toUInt32 31)).toInt32) &&& 1431655765)) &&& 858993459) + ((((x0 - (((x0.toUInt32 >>> ((1 : Int32).toUInt32 &&& Int32.toUInt32 31)).toInt32) &&& 1431655765)).toUInt32 >>> ((2 : Int32).toUInt32 &&& Int32.toUInt32 31)).toInt32) &&& 858993459)).toUInt32 >>> ((4 : Int32).toUInt32 &&& Int32.toUInt32 31)).toInt32)) &&& 252645135) + (((((((x0 - (((x0.toUInt32 >>> ((1 : Int32).toUInt32 &&& Int32.toUInt32 31)).toInt32) &&& 1431655765)) &&& 858993459) + ((((x0 - (((x0.toUInt32 >>> ((1 : Int32).toUInt32 &&& Int32.toUInt32 31)).toInt32) &&& 1431655765)).toUInt32 >>> ((2 : Int32).toUInt32 &&& Int32.toUInt32 31)).toInt32) &&& 858993459)) + (((((x0 - (((x0.toUInt32 >>> ((1 : Int32).toUInt32 &&& Int32.toUInt32 31)).toInt32) &&& 1431655765)) &&& 858993459) + ((((x0 - (((x0.toUInt32 >>> ((1 : Int32).toUInt32 &&& Int32.toUInt32 31)).toInt32) &&& 1431655765)).toUInt32 >>> ((2 : Int32).toUInt32 &&& Int32.toUInt32 31)).toInt32) &&& 858993459)).toUInt32 >>> ((4 : Int32).toUInt32 &&& Int32.toUInt32 31)).toInt32)) &&& 252645135).toUInt32 >>> ((8 : Int32).toUInt32 &&& Int32.toUInt32 31)).toInt32)).toUInt32 >>> ((16 : Int32).toUInt32 &&& Int32.toUInt32 31)).toInt32)) &&& 63, w)
set_option maxHeartbeats 4000000 in
set_option maxRecDepth 100000 in
theorem k_JI_bitCount {X : qX} (r : Int32) (w' : qw) (hC : qC X b_JI_bitCount R_JI 1 0 0) (hR : qRi X b_JI_bitCount r w') (w : qw) (x0 : Int32) (hF : f_JI_bitCount w x0 = some (r, w')) : qG X 1 0 [(0, .inl x0)] [] w := by
  unfold f_JI_bitCount at hF
  refine s_iload_n (pc' := 1) hC d_JI_bitCount_0 rfl 0 rfl ?_
  refine s_iload_n (pc' := 2) hC d_JI_bitCount_1 rfl 0 rfl ?_
  refine s_iconst (v := 1) (pc' := 3) hC d_JI_bitCount_2 rfl (by decide) ?_
  refine s_iushr (pc' := 4) hC d_JI_bitCount_3 rfl ?_
  refine s_ldc_w (v := 1431655765) (pc' := 7) hC d_JI_bitCount_4 rfl co_JI_265 ?_
  refine s_iand (pc' := 8) hC d_JI_bitCount_7 rfl ?_
  refine s_isub (pc' := 9) hC d_JI_bitCount_8 rfl ?_
  refine s_istore_n (pc' := 10) (lv' := [(0, .inl (x0 - (((x0.toUInt32 >>> ((1 : Int32).toUInt32 &&& Int32.toUInt32 31)).toInt32) &&& 1431655765)))]) hC d_JI_bitCount_9 rfl (by decide) rfl ?_
  refine s_iload_n (pc' := 11) hC d_JI_bitCount_10 rfl 0 rfl ?_
  refine s_ldc_w (v := 858993459) (pc' := 14) hC d_JI_bitCount_11 rfl co_JI_266 ?_
  refine s_iand (pc' := 15) hC d_JI_bitCount_14 rfl ?_
  refine s_iload_n (pc' := 16) hC d_JI_bitCount_15 rfl 0 rfl ?_
  refine s_iconst (v := 2) (pc' := 17) hC d_JI_bitCount_16 rfl (by decide) ?_
  refine s_iushr (pc' := 18) hC d_JI_bitCount_17 rfl ?_
  refine s_ldc_w (v := 858993459) (pc' := 21) hC d_JI_bitCount_18 rfl co_JI_266 ?_
  refine s_iand (pc' := 22) hC d_JI_bitCount_21 rfl ?_
  refine s_iadd (pc' := 23) hC d_JI_bitCount_22 rfl ?_
  refine s_istore_n (pc' := 24) (lv' := [(0, .inl (((x0 - (((x0.toUInt32 >>> ((1 : Int32).toUInt32 &&& Int32.toUInt32 31)).toInt32) &&& 1431655765)) &&& 858993459) + ((((x0 - (((x0.toUInt32 >>> ((1 : Int32).toUInt32 &&& Int32.toUInt32 31)).toInt32) &&& 1431655765)).toUInt32 >>> ((2 : Int32).toUInt32 &&& Int32.toUInt32 31)).toInt32) &&& 858993459)))]) hC d_JI_bitCount_23 rfl (by decide) rfl ?_
  refine s_iload_n (pc' := 25) hC d_JI_bitCount_24 rfl 0 rfl ?_
  refine s_iload_n (pc' := 26) hC d_JI_bitCount_25 rfl 0 rfl ?_
  refine s_iconst (v := 4) (pc' := 27) hC d_JI_bitCount_26 rfl (by decide) ?_
  refine s_iushr (pc' := 28) hC d_JI_bitCount_27 rfl ?_
  refine s_iadd (pc' := 29) hC d_JI_bitCount_28 rfl ?_
  refine s_ldc_w (v := 252645135) (pc' := 32) hC d_JI_bitCount_29 rfl co_JI_267 ?_
  refine s_iand (pc' := 33) hC d_JI_bitCount_32 rfl ?_
  refine s_istore_n (pc' := 34) (lv' := [(0, .inl (((((x0 - (((x0.toUInt32 >>> ((1 : Int32).toUInt32 &&& Int32.toUInt32 31)).toInt32) &&& 1431655765)) &&& 858993459) + ((((x0 - (((x0.toUInt32 >>> ((1 : Int32).toUInt32 &&& Int32.toUInt32 31)).toInt32) &&& 1431655765)).toUInt32 >>> ((2 : Int32).toUInt32 &&& Int32.toUInt32 31)).toInt32) &&& 858993459)) + (((((x0 - (((x0.toUInt32 >>> ((1 : Int32).toUInt32 &&& Int32.toUInt32 31)).toInt32) &&& 1431655765)) &&& 858993459) + ((((x0 - (((x0.toUInt32 >>> ((1 : Int32).toUInt32 &&& Int32.toUInt32 31)).toInt32) &&& 1431655765)).toUInt32 >>> ((2 : Int32).toUInt32 &&& Int32.toUInt32 31)).toInt32) &&& 858993459)).toUInt32 >>> ((4 : Int32).toUInt32 &&& Int32.toUInt32 31)).toInt32)) &&& 252645135))]) hC d_JI_bitCount_33 rfl (by decide) rfl ?_
  refine s_iload_n (pc' := 35) hC d_JI_bitCount_34 rfl 0 rfl ?_
  refine s_iload_n (pc' := 36) hC d_JI_bitCount_35 rfl 0 rfl ?_
  refine s_bipush (v := 8) (pc' := 38) hC d_JI_bitCount_36 rfl (by decide) ?_
  refine s_iushr (pc' := 39) hC d_JI_bitCount_38 rfl ?_
  refine s_iadd (pc' := 40) hC d_JI_bitCount_39 rfl ?_
  refine s_istore_n (pc' := 41) (lv' := [(0, .inl ((((((x0 - (((x0.toUInt32 >>> ((1 : Int32).toUInt32 &&& Int32.toUInt32 31)).toInt32) &&& 1431655765)) &&& 858993459) + ((((x0 - (((x0.toUInt32 >>> ((1 : Int32).toUInt32 &&& Int32.toUInt32 31)).toInt32) &&& 1431655765)).toUInt32 >>> ((2 : Int32).toUInt32 &&& Int32.toUInt32 31)).toInt32) &&& 858993459)) + (((((x0 - (((x0.toUInt32 >>> ((1 : Int32).toUInt32 &&& Int32.toUInt32 31)).toInt32) &&& 1431655765)) &&& 858993459) + ((((x0 - (((x0.toUInt32 >>> ((1 : Int32).toUInt32 &&& Int32.toUInt32 31)).toInt32) &&& 1431655765)).toUInt32 >>> ((2 : Int32).toUInt32 &&& Int32.toUInt32 31)).toInt32) &&& 858993459)).toUInt32 >>> ((4 : Int32).toUInt32 &&& Int32.toUInt32 31)).toInt32)) &&& 252645135) + (((((((x0 - (((x0.toUInt32 >>> ((1 : Int32).toUInt32 &&& Int32.toUInt32 31)).toInt32) &&& 1431655765)) &&& 858993459) + ((((x0 - (((x0.toUInt32 >>> ((1 : Int32).toUInt32 &&& Int32.toUInt32 31)).toInt32) &&& 1431655765)).toUInt32 >>> ((2 : Int32).toUInt32 &&& Int32.toUInt32 31)).toInt32) &&& 858993459)) + (((((x0 - (((x0.toUInt32 >>> ((1 : Int32).toUInt32 &&& Int32.toUInt32 31)).toInt32) &&& 1431655765)) &&& 858993459) + ((((x0 - (((x0.toUInt32 >>> ((1 : Int32).toUInt32 &&& Int32.toUInt32 31)).toInt32) &&& 1431655765)).toUInt32 >>> ((2 : Int32).toUInt32 &&& Int32.toUInt32 31)).toInt32) &&& 858993459)).toUInt32 >>> ((4 : Int32).toUInt32 &&& Int32.toUInt32 31)).toInt32)) &&& 252645135).toUInt32 >>> ((8 : Int32).toUInt32 &&& Int32.toUInt32 31)).toInt32)))]) hC d_JI_bitCount_40 rfl (by decide) rfl ?_
  refine s_iload_n (pc' := 42) hC d_JI_bitCount_41 rfl 0 rfl ?_
  refine s_iload_n (pc' := 43) hC d_JI_bitCount_42 rfl 0 rfl ?_
  refine s_bipush (v := 16) (pc' := 45) hC d_JI_bitCount_43 rfl (by decide) ?_
  refine s_iushr (pc' := 46) hC d_JI_bitCount_45 rfl ?_
  refine s_iadd (pc' := 47) hC d_JI_bitCount_46 rfl ?_
  refine s_istore_n (pc' := 48) (lv' := [(0, .inl (((((((x0 - (((x0.toUInt32 >>> ((1 : Int32).toUInt32 &&& Int32.toUInt32 31)).toInt32) &&& 1431655765)) &&& 858993459) + ((((x0 - (((x0.toUInt32 >>> ((1 : Int32).toUInt32 &&& Int32.toUInt32 31)).toInt32) &&& 1431655765)).toUInt32 >>> ((2 : Int32).toUInt32 &&& Int32.toUInt32 31)).toInt32) &&& 858993459)) + (((((x0 - (((x0.toUInt32 >>> ((1 : Int32).toUInt32 &&& Int32.toUInt32 31)).toInt32) &&& 1431655765)) &&& 858993459) + ((((x0 - (((x0.toUInt32 >>> ((1 : Int32).toUInt32 &&& Int32.toUInt32 31)).toInt32) &&& 1431655765)).toUInt32 >>> ((2 : Int32).toUInt32 &&& Int32.toUInt32 31)).toInt32) &&& 858993459)).toUInt32 >>> ((4 : Int32).toUInt32 &&& Int32.toUInt32 31)).toInt32)) &&& 252645135) + (((((((x0 - (((x0.toUInt32 >>> ((1 : Int32).toUInt32 &&& Int32.toUInt32 31)).toInt32) &&& 1431655765)) &&& 858993459) + ((((x0 - (((x0.toUInt32 >>> ((1 : Int32).toUInt32 &&& Int32.toUInt32 31)).toInt32) &&& 1431655765)).toUInt32 >>> ((2 : Int32).toUInt32 &&& Int32.toUInt32 31)).toInt32) &&& 858993459)) + (((((x0 - (((x0.toUInt32 >>> ((1 : Int32).toUInt32 &&& Int32.toUInt32 31)).toInt32) &&& 1431655765)) &&& 858993459) + ((((x0 - (((x0.toUInt32 >>> ((1 : Int32).toUInt32 &&& Int32.toUInt32 31)).toInt32) &&& 1431655765)).toUInt32 >>> ((2 : Int32).toUInt32 &&& Int32.toUInt32 31)).toInt32) &&& 858993459)).toUInt32 >>> ((4 : Int32).toUInt32 &&& Int32.toUInt32 31)).toInt32)) &&& 252645135).toUInt32 >>> ((8 : Int32).toUInt32 &&& Int32.toUInt32 31)).toInt32)) + ((((((((x0 - (((x0.toUInt32 >>> ((1 : Int32).toUInt32 &&& Int32.toUInt32 31)).toInt32) &&& 1431655765)) &&& 858993459) + ((((x0 - (((x0.toUInt32 >>> ((1 : Int32).toUInt32 &&& Int32.toUInt32 31)).toInt32) &&& 1431655765)).toUInt32 >>> ((2 : Int32).toUInt32 &&& Int32.toUInt32 31)).toInt32) &&& 858993459)) + (((((x0 - (((x0.toUInt32 >>> ((1 : Int32).toUInt32 &&& Int32.toUInt32 31)).toInt32) &&& 1431655765)) &&& 858993459) + ((((x0 - (((x0.toUInt32 >>> ((1 : Int32).toUInt32 &&& Int32.toUInt32 31)).toInt32) &&& 1431655765)).toUInt32 >>> ((2 : Int32).toUInt32 &&& Int32.toUInt32 31)).toInt32) &&& 858993459)).toUInt32 >>> ((4 : Int32).toUInt32 &&& Int32.toUInt32 31)).toInt32)) &&& 252645135) + (((((((x0 - (((x0.toUInt32 >>> ((1 : Int32).toUInt32 &&& Int32.toUInt32 31)).toInt32) &&& 1431655765)) &&& 858993459) + ((((x0 - (((x0.toUInt32 >>> ((1 : Int32).toUInt32 &&& Int32.toUInt32 31)).toInt32) &&& 1431655765)).toUInt32 >>> ((2 : Int32).toUInt32 &&& Int32.toUInt32 31)).toInt32) &&& 858993459)) + (((((x0 - (((x0.toUInt32 >>> ((1 : Int32).toUInt32 &&& Int32.toUInt32 31)).toInt32) &&& 1431655765)) &&& 858993459) + ((((x0 - (((x0.toUInt32 >>> ((1 : Int32).toUInt32 &&& Int32.toUInt32 31)).toInt32) &&& 1431655765)).toUInt32 >>> ((2 : Int32).toUInt32 &&& Int32.toUInt32 31)).toInt32) &&& 858993459)).toUInt32 >>> ((4 : Int32).toUInt32 &&& Int32.toUInt32 31)).toInt32)) &&& 252645135).toUInt32 >>> ((8 : Int32).toUInt32 &&& Int32.toUInt32 31)).toInt32)).toUInt32 >>> ((16 : Int32).toUInt32 &&& Int32.toUInt32 31)).toInt32)))]) hC d_JI_bitCount_47 rfl (by decide) rfl ?_
  refine s_iload_n (pc' := 49) hC d_JI_bitCount_48 rfl 0 rfl ?_
  refine s_bipush (v := 63) (pc' := 51) hC d_JI_bitCount_49 rfl (by decide) ?_
  refine s_iand (pc' := 52) hC d_JI_bitCount_51 rfl ?_
  exact s_iret hC hR d_JI_bitCount_52 hF
theorem c_JI_bitCount (l : Launch) (g : qk_G) (sz : Nat) (w : qw) (x0 : Int32) (r : Int32) (w' : qw) (hF : f_JI_bitCount w x0 = some (r, w')) : qMi l g sz y_JI_bitCount b_JI_bitCount 1 (some .int) 0 0 [.inl x0] w r w' := qk_met_i (by decide) (Nat.le_of_ble_eq_true rfl) (fun X hC hR => k_JI_bitCount r w' hC hR w x0 hF)
theorem qf_Proof_15 : qF R_Proof 15 4 1 := ⟨R_Proof, F_Proof, 5, rfl, by decide, in_Proof, Or.inl fl_Proof_15⟩
theorem qf_Proof_21 : qF R_Proof 21 4 3 := ⟨R_Proof, F_Proof, 5, rfl, by decide, in_Proof, Or.inl fl_Proof_21⟩
theorem qf_Proof_18 : qF R_Proof 18 4 2 := ⟨R_Proof, F_Proof, 5, rfl, by decide, in_Proof, Or.inl fl_Proof_18⟩
theorem qp_Proof_25 : qP R_Proof 25 4 4 .int := ⟨R_Proof, F_Proof, 5, t_Proof, rfl, by decide, in_Proof, Or.inl fl_Proof_25, t_Proof_ok, n_Proof, rfl, by decide +kernel⟩
theorem qs_Proof_29 : qV R_Proof 29 y_Proof_isFull b_Proof_isFull 1 (some .boolean) 0 4 := ⟨Or.inl ml_Proof_29, ic_Proof_isFull, ii_Proof_isFull, is_Proof_isFull, in_c_Proof, ⟨_, _, rfl⟩, by decide +kernel⟩
def f_Proof_add (w : qw) (a0 : Nat) (x1 : Int32) (x2 : Int32) (x3 : Int32) (x4 : Int32) : Option (qw) :=
  q_ob (q_is w a0 4) <| q_b2 (f_Proof_isFull w a0) fun v2 w1 =>
  if v2 = 0 then
    q_b1 (q_gr w1 a0 4 0) fun r3 =>
    q_b1 (q_gi w1 a0 4 4) fun v4 =>
    q_b1 (q_st w1 r3 0 v4 x1) fun w5 =>
    q_b1 (q_gr w5 a0 4 1) fun r6 =>
    q_b1 (q_gi w5 a0 4 4) fun v7 =>
    q_b1 (q_st w5 r6 0 v7 x2) fun w8 =>
    q_b1 (q_gr w8 a0 4 3) fun r9 =>
    q_b1 (q_gi w8 a0 4 4) fun v10 =>
    q_ob (q_z x3) <| q_b1 (q_st w8 r9 2 v10 x3) fun w11 =>
    q_b1 (q_gr w11 a0 4 2) fun r12 =>
    q_b1 (q_gi w11 a0 4 4) fun v13 =>
    q_b1 (q_gi w11 a0 4 4) fun v14 =>
    q_b1 (q_st w11 r12 0 v13 (x4 ||| ((1 : Int32) <<< (v14 &&& 31)))) fun w15 =>
    q_b1 (q_gi w15 a0 4 4) fun v16 =>
    q_b1 (q_pf w15 a0 4 4 (.inl (v16 + 1))) fun w17 =>
    some w17
  else
    some w1
set_option maxHeartbeats 4000000 in
set_option maxRecDepth 100000 in
theorem k_Proof_add {X : qX} (w' : qw) (hC : qC X b_Proof_add R_Proof 5 1 20) (hR : qRv X b_Proof_add w') (w : qw) (a0 : Nat) (x1 : Int32) (x2 : Int32) (x3 : Int32) (x4 : Int32) (hF : f_Proof_add w a0 x1 x2 x3 x4 = some w') : qG X 5 0 [(0, .inr (some a0)), (1, .inl x1), (2, .inl x2), (3, .inl x3), (4, .inl x4)] [] w := by
  unfold f_Proof_add at hF
  refine s_aload_n (pc' := 1) hC d_Proof_add_0 rfl 0 rfl ?_
  refine s_cVi (pc' := 4) (As := []) (rs := []) (a := a0) (fr' := 0) (lo' := 0) hC qs_Proof_29 rfl rfl (Nat.le_of_ble_eq_true rfl) ⟨by decide, by decide⟩ d_Proof_add_1 rfl (fun l g sz r w' h => c_Proof_isFull l g sz w a0 r w' h) hF (fun v2 w1 hF => ?_)
  refine s_if_eq (tgt := 8) (pc' := 7) hC d_Proof_add_4 rfl rfl hF (fun hF => ?_) (fun hF => ?_)
  · refine s_aload_n (pc' := 9) hC d_Proof_add_8 rfl 0 rfl ?_
    refine s_getr (pc' := 12) hC qf_Proof_9 d_Proof_add_9 rfl hF (fun r3 hF => ?_)
    refine s_aload_n (pc' := 13) hC d_Proof_add_12 rfl 0 rfl ?_
    refine s_geti (pc' := 16) hC qf_Proof_25 d_Proof_add_13 rfl hF (fun v4 hF => ?_)
    refine s_iload_n (pc' := 17) hC d_Proof_add_16 rfl 1 rfl ?_
    refine s_iast (pc' := 18) hC d_Proof_add_17 rfl hF (fun w5 hF => ?_)
    refine s_aload_n (pc' := 19) hC d_Proof_add_18 rfl 0 rfl ?_
    refine s_getr (pc' := 22) hC qf_Proof_15 d_Proof_add_19 rfl hF (fun r6 hF => ?_)
    refine s_aload_n (pc' := 23) hC d_Proof_add_22 rfl 0 rfl ?_
    refine s_geti (pc' := 26) hC qf_Proof_25 d_Proof_add_23 rfl hF (fun v7 hF => ?_)
    refine s_iload_n (pc' := 27) hC d_Proof_add_26 rfl 2 rfl ?_
    refine s_iast (pc' := 28) hC d_Proof_add_27 rfl hF (fun w8 hF => ?_)
    refine s_aload_n (pc' := 29) hC d_Proof_add_28 rfl 0 rfl ?_
    refine s_getr (pc' := 32) hC qf_Proof_21 d_Proof_add_29 rfl hF (fun r9 hF => ?_)
    refine s_aload_n (pc' := 33) hC d_Proof_add_32 rfl 0 rfl ?_
    refine s_geti (pc' := 36) hC qf_Proof_25 d_Proof_add_33 rfl hF (fun v10 hF => ?_)
    refine s_iload_n (pc' := 37) hC d_Proof_add_36 rfl 3 rfl ?_
    refine s_zast (pc' := 38) hC d_Proof_add_37 rfl hF (fun w11 hF => ?_)
    refine s_aload_n (pc' := 39) hC d_Proof_add_38 rfl 0 rfl ?_
    refine s_getr (pc' := 42) hC qf_Proof_18 d_Proof_add_39 rfl hF (fun r12 hF => ?_)
    refine s_aload_n (pc' := 43) hC d_Proof_add_42 rfl 0 rfl ?_
    refine s_geti (pc' := 46) hC qf_Proof_25 d_Proof_add_43 rfl hF (fun v13 hF => ?_)
    refine s_iload (pc' := 48) hC d_Proof_add_46 rfl 4 rfl ?_
    refine s_iconst (v := 1) (pc' := 49) hC d_Proof_add_48 rfl (by decide) ?_
    refine s_aload_n (pc' := 50) hC d_Proof_add_49 rfl 0 rfl ?_
    refine s_geti (pc' := 53) hC qf_Proof_25 d_Proof_add_50 rfl hF (fun v14 hF => ?_)
    refine s_ishl (pc' := 54) hC d_Proof_add_53 rfl ?_
    refine s_ior (pc' := 55) hC d_Proof_add_54 rfl ?_
    refine s_iast (pc' := 56) hC d_Proof_add_55 rfl hF (fun w15 hF => ?_)
    refine s_aload_n (pc' := 57) hC d_Proof_add_56 rfl 0 rfl ?_
    refine s_dup (pc' := 58) hC d_Proof_add_57 rfl ?_
    refine s_geti (pc' := 61) hC qf_Proof_25 d_Proof_add_58 rfl hF (fun v16 hF => ?_)
    refine s_iconst (v := 1) (pc' := 62) hC d_Proof_add_61 rfl (by decide) ?_
    refine s_iadd (pc' := 63) hC d_Proof_add_62 rfl ?_
    refine s_puti (pc' := 66) hC qp_Proof_25 d_Proof_add_63 rfl hF (fun w17 hF => ?_)
    exact s_vret hC hR d_Proof_add_66 hF
  · exact s_vret hC hR d_Proof_add_7 hF
theorem c_Proof_add (l : Launch) (g : qk_G) (sz : Nat) (w : qw) (a0 : Nat) (x1 : Int32) (x2 : Int32) (x3 : Int32) (x4 : Int32) (w' : qw) (hF : f_Proof_add w a0 x1 x2 x3 x4 = some w') : qMv l g sz y_Proof_add b_Proof_add 5 none 1 20 [.inr (some a0), .inl x1, .inl x2, .inl x3, .inl x4] w w' := qk_met_v (by decide) (Nat.le_of_ble_eq_true rfl) (fun X hC hR => k_Proof_add w' hC hR w a0 x1 x2 x3 x4 hF)
theorem qf_FormulaReader_25 : qF R_FormulaReader 25 3 2 := ⟨R_FormulaReader, F_FormulaReader, 6, rfl, by decide, in_FormulaReader, Or.inl fl_FormulaReader_25⟩
theorem qf_FormulaReader_28 : qF R_FormulaReader 28 3 5 := ⟨R_FormulaReader, F_FormulaReader, 6, rfl, by decide, in_FormulaReader, Or.inl fl_FormulaReader_28⟩
def f_FormulaReader_mayEnd (w : qw) (a0 : Nat) : Option (Int32 × qw) :=
  q_b1 (q_gi w a0 3 2) fun v1 =>
  if v1 = 0 then
    q_b1 (q_gi w a0 3 5) fun v2 =>
    if v2 = 0 then
      q_ob (q_z 1) (some (1, w))
    else
      q_ob (q_z 0) (some (0, w))
  else
    q_ob (q_z 0) (some (0, w))
set_option maxHeartbeats 4000000 in
set_option maxRecDepth 100000 in
theorem k_FormulaReader_mayEnd {X : qX} (r : Int32) (w' : qw) (hC : qC X b_FormulaReader_mayEnd R_FormulaReader 1 0 0) (hR : qRz X b_FormulaReader_mayEnd r w') (w : qw) (a0 : Nat) (hF : f_FormulaReader_mayEnd w a0 = some (r, w')) : qG X 1 0 [(0, .inr (some a0))] [] w := by
  unfold f_FormulaReader_mayEnd at hF
  refine s_aload_n (pc' := 1) hC d_FormulaReader_mayEnd_0 rfl 0 rfl ?_
  refine s_geti (pc' := 4) hC qf_FormulaReader_25 d_FormulaReader_mayEnd_1 rfl hF (fun v1 hF => ?_)
  refine s_if_ne (tgt := 18) (pc' := 7) hC d_FormulaReader_mayEnd_4 rfl rfl hF (fun hF => ?_) (fun hF => ?_)
  · refine s_iconst (v := 0) (pc' := 19) hC d_FormulaReader_mayEnd_18 rfl (by decide) ?_
    exact s_zret hC hR d_FormulaReader_mayEnd_19 hF
  · refine s_aload_n (pc' := 8) hC d_FormulaReader_mayEnd_7 rfl 0 rfl ?_
    refine s_geti (pc' := 11) hC qf_FormulaReader_28 d_FormulaReader_mayEnd_8 rfl hF (fun v2 hF => ?_)
    refine s_if_ne (tgt := 18) (pc' := 14) hC d_FormulaReader_mayEnd_11 rfl rfl hF (fun hF => ?_) (fun hF => ?_)
    · refine s_iconst (v := 0) (pc' := 19) hC d_FormulaReader_mayEnd_18 rfl (by decide) ?_
      exact s_zret hC hR d_FormulaReader_mayEnd_19 hF
    · refine s_iconst (v := 1) (pc' := 15) hC d_FormulaReader_mayEnd_14 rfl (by decide) ?_
      refine s_goto (tgt := 19) hC d_FormulaReader_mayEnd_15 rfl ?_
      exact s_zret hC hR d_FormulaReader_mayEnd_19 hF
theorem c_FormulaReader_mayEnd (l : Launch) (g : qk_G) (sz : Nat) (w : qw) (a0 : Nat) (r : Int32) (w' : qw) (hF : f_FormulaReader_mayEnd w a0 = some (r, w')) : qMi l g sz y_FormulaReader_mayEnd b_FormulaReader_mayEnd 1 (some .boolean) 0 0 [.inr (some a0)] w r w' := qk_met_z (by decide) (Nat.le_of_ble_eq_true rfl) (fun X hC hR => k_FormulaReader_mayEnd r w' hC hR w a0 hF)
theorem qf_TraceReader_29 : qF R_TraceReader 29 5 3 := ⟨R_TraceReader, F_TraceReader, 8, rfl, by decide, in_TraceReader, Or.inl fl_TraceReader_29⟩
def f_TraceReader_mayEnd (w : qw) (a0 : Nat) : Option (Int32 × qw) :=
  q_b1 (q_gi w a0 5 3) fun v1 =>
  if v1 = 1 then
    q_ob (q_z 1) (some (1, w))
  else
    q_ob (q_z 0) (some (0, w))
set_option maxHeartbeats 4000000 in
set_option maxRecDepth 100000 in
theorem k_TraceReader_mayEnd {X : qX} (r : Int32) (w' : qw) (hC : qC X b_TraceReader_mayEnd R_TraceReader 1 0 0) (hR : qRz X b_TraceReader_mayEnd r w') (w : qw) (a0 : Nat) (hF : f_TraceReader_mayEnd w a0 = some (r, w')) : qG X 1 0 [(0, .inr (some a0))] [] w := by
  unfold f_TraceReader_mayEnd at hF
  refine s_aload_n (pc' := 1) hC d_TraceReader_mayEnd_0 rfl 0 rfl ?_
  refine s_geti (pc' := 4) hC qf_TraceReader_29 d_TraceReader_mayEnd_1 rfl hF (fun v1 hF => ?_)
  refine s_iconst (v := 1) (pc' := 5) hC d_TraceReader_mayEnd_4 rfl (by decide) ?_
  refine s_icmp_ne (tgt := 12) (pc' := 8) hC d_TraceReader_mayEnd_5 rfl rfl hF (fun hF => ?_) (fun hF => ?_)
  · refine s_iconst (v := 0) (pc' := 13) hC d_TraceReader_mayEnd_12 rfl (by decide) ?_
    exact s_zret hC hR d_TraceReader_mayEnd_13 hF
  · refine s_iconst (v := 1) (pc' := 9) hC d_TraceReader_mayEnd_8 rfl (by decide) ?_
    refine s_goto (tgt := 13) hC d_TraceReader_mayEnd_9 rfl ?_
    exact s_zret hC hR d_TraceReader_mayEnd_13 hF
theorem c_TraceReader_mayEnd (l : Launch) (g : qk_G) (sz : Nat) (w : qw) (a0 : Nat) (r : Int32) (w' : qw) (hF : f_TraceReader_mayEnd w a0 = some (r, w')) : qMi l g sz y_TraceReader_mayEnd b_TraceReader_mayEnd 1 (some .boolean) 0 0 [.inr (some a0)] w r w' := qk_met_z (by decide) (Nat.le_of_ble_eq_true rfl) (fun X hC hR => k_TraceReader_mayEnd r w' hC hR w a0 hF)
def f_Words_place (w : qw) (a0 : Nat) : Option (Int32 × qw) :=
  q_b1 (q_gi w a0 6 2) fun v1 =>
  some (v1, w)
set_option maxHeartbeats 4000000 in
set_option maxRecDepth 100000 in
theorem k_Words_place {X : qX} (r : Int32) (w' : qw) (hC : qC X b_Words_place R_Words 1 0 0) (hR : qRi X b_Words_place r w') (w : qw) (a0 : Nat) (hF : f_Words_place w a0 = some (r, w')) : qG X 1 0 [(0, .inr (some a0))] [] w := by
  unfold f_Words_place at hF
  refine s_aload_n (pc' := 1) hC d_Words_place_0 rfl 0 rfl ?_
  refine s_geti (pc' := 4) hC qf_Words_22 d_Words_place_1 rfl hF (fun v1 hF => ?_)
  exact s_iret hC hR d_Words_place_4 hF
theorem c_Words_place (l : Launch) (g : qk_G) (sz : Nat) (w : qw) (a0 : Nat) (r : Int32) (w' : qw) (hF : f_Words_place w a0 = some (r, w')) : qMi l g sz y_Words_place b_Words_place 1 (some .int) 0 0 [.inr (some a0)] w r w' := qk_met_i (by decide) (Nat.le_of_ble_eq_true rfl) (fun X hC hR => k_Words_place r w' hC hR w a0 hF)
def f_Words_forget (w : qw) (a0 : Nat) : Option (qw) :=
  q_b1 (q_pf w a0 6 1 (.inl 0)) fun w1 =>
  some w1
set_option maxHeartbeats 4000000 in
set_option maxRecDepth 100000 in
theorem k_Words_forget {X : qX} (w' : qw) (hC : qC X b_Words_forget R_Words 1 0 0) (hR : qRv X b_Words_forget w') (w : qw) (a0 : Nat) (hF : f_Words_forget w a0 = some w') : qG X 1 0 [(0, .inr (some a0))] [] w := by
  unfold f_Words_forget at hF
  refine s_aload_n (pc' := 1) hC d_Words_forget_0 rfl 0 rfl ?_
  refine s_iconst (v := 0) (pc' := 2) hC d_Words_forget_1 rfl (by decide) ?_
  refine s_puti (pc' := 5) hC qp_Words_15 d_Words_forget_2 rfl hF (fun w1 hF => ?_)
  exact s_vret hC hR d_Words_forget_5 hF
theorem c_Words_forget (l : Launch) (g : qk_G) (sz : Nat) (w : qw) (a0 : Nat) (w' : qw) (hF : f_Words_forget w a0 = some w') : qMv l g sz y_Words_forget b_Words_forget 1 none 0 0 [.inr (some a0)] w w' := qk_met_v (by decide) (Nat.le_of_ble_eq_true rfl) (fun X hC hR => k_Words_forget w' hC hR w a0 hF)
theorem qf_FormulaReader_12 : qF R_FormulaReader 12 3 0 := ⟨R_FormulaReader, F_FormulaReader, 6, rfl, by decide, in_FormulaReader, Or.inl fl_FormulaReader_12⟩
theorem qp_FormulaReader_12 : qP R_FormulaReader 12 3 0 (.object "QuantifierProofs$Formula") := ⟨R_FormulaReader, F_FormulaReader, 6, t_FormulaReader, rfl, by decide, in_FormulaReader, Or.inl fl_FormulaReader_12, t_FormulaReader_ok, n_FormulaReader, rfl, by decide +kernel⟩
def f_FormulaReader_exchange (w : qw) (a0 : Nat) (a1 : Nat) : Option (Nat × qw) :=
  q_b1 (q_gr w a0 3 0) fun r1 =>
  q_b1 (q_pf w a0 3 0 (.inr (some a1))) fun w2 =>
  some (r1, w2)
set_option maxHeartbeats 4000000 in
set_option maxRecDepth 100000 in
theorem k_FormulaReader_exchange {X : qX} (r : Nat) (w' : qw) (hC : qC X b_FormulaReader_exchange R_FormulaReader 3 0 0) (hR : qRr X b_FormulaReader_exchange r w') (w : qw) (a0 : Nat) (a1 : Nat) (hF : f_FormulaReader_exchange w a0 a1 = some (r, w')) : qG X 3 0 [(0, .inr (some a0)), (1, .inr (some a1))] [] w := by
  unfold f_FormulaReader_exchange at hF
  refine s_aload_n (pc' := 1) hC d_FormulaReader_exchange_0 rfl 0 rfl ?_
  refine s_getr (pc' := 4) hC qf_FormulaReader_12 d_FormulaReader_exchange_1 rfl hF (fun r1 hF => ?_)
  refine s_astore_n (pc' := 5) (lv' := [(2, .inr (some r1)), (0, .inr (some a0)), (1, .inr (some a1))]) hC d_FormulaReader_exchange_4 rfl (by decide) rfl ?_
  refine s_aload_n (pc' := 6) hC d_FormulaReader_exchange_5 rfl 1 rfl ?_
  refine s_aload_n (pc' := 7) hC d_FormulaReader_exchange_6 rfl 2 rfl ?_
  refine s_putr (pc' := 10) hC qp_FormulaReader_12 (fun _ => ⟨rfl, rfl⟩) d_FormulaReader_exchange_7 rfl hF (fun w2 hF => ?_)
  refine s_aload_n (pc' := 11) hC d_FormulaReader_exchange_10 rfl 0 rfl ?_
  exact s_aret hC hR d_FormulaReader_exchange_11 hF
theorem c_FormulaReader_exchange (l : Launch) (g : qk_G) (sz : Nat) (w : qw) (a0 : Nat) (a1 : Nat) (r : Nat) (w' : qw) (hF : f_FormulaReader_exchange w a0 a1 = some (r, w')) : qMr l g sz y_FormulaReader_exchange b_FormulaReader_exchange 3 (some (.object "QuantifierProofs$Formula")) 0 0 [.inr (some a0), .inr (some a1)] w r w' := qk_met_r (by decide) (Nat.le_of_ble_eq_true rfl) (Or.inl ⟨_, rfl⟩) (fun X hC hR => k_FormulaReader_exchange r w' hC hR w a0 a1 hF)
def f_Proof_forget (w : qw) (a0 : Nat) : Option (qw) :=
  q_b1 (q_pf w a0 4 4 (.inl 0)) fun w1 =>
  some w1
set_option maxHeartbeats 4000000 in
set_option maxRecDepth 100000 in
theorem k_Proof_forget {X : qX} (w' : qw) (hC : qC X b_Proof_forget R_Proof 1 0 0) (hR : qRv X b_Proof_forget w') (w : qw) (a0 : Nat) (hF : f_Proof_forget w a0 = some w') : qG X 1 0 [(0, .inr (some a0))] [] w := by
  unfold f_Proof_forget at hF
  refine s_aload_n (pc' := 1) hC d_Proof_forget_0 rfl 0 rfl ?_
  refine s_iconst (v := 0) (pc' := 2) hC d_Proof_forget_1 rfl (by decide) ?_
  refine s_puti (pc' := 5) hC qp_Proof_25 d_Proof_forget_2 rfl hF (fun w1 hF => ?_)
  exact s_vret hC hR d_Proof_forget_5 hF
theorem c_Proof_forget (l : Launch) (g : qk_G) (sz : Nat) (w : qw) (a0 : Nat) (w' : qw) (hF : f_Proof_forget w a0 = some w') : qMv l g sz y_Proof_forget b_Proof_forget 1 none 0 0 [.inr (some a0)] w w' := qk_met_v (by decide) (Nat.le_of_ble_eq_true rfl) (fun X hC hR => k_Proof_forget w' hC hR w a0 hF)
theorem qp_TraceReader_25 : qP R_TraceReader 25 5 2 (.object "QuantifierProofs$Formula") := ⟨R_TraceReader, F_TraceReader, 8, t_TraceReader, rfl, by decide, in_TraceReader, Or.inl fl_TraceReader_25, t_TraceReader_ok, n_TraceReader, rfl, by decide +kernel⟩
def f_TraceReader_begin (w : qw) (a0 : Nat) (a1 : Nat) : Option (qw) :=
  q_b1 (q_pf w a0 5 2 (.inr (some a1))) fun w1 =>
  q_b1 (q_pf w1 a0 5 3 (.inl 0)) fun w2 =>
  some w2
set_option maxHeartbeats 4000000 in
set_option maxRecDepth 100000 in
theorem k_TraceReader_begin {X : qX} (w' : qw) (hC : qC X b_TraceReader_begin R_TraceReader 2 0 0) (hR : qRv X b_TraceReader_begin w') (w : qw) (a0 : Nat) (a1 : Nat) (hF : f_TraceReader_begin w a0 a1 = some w') : qG X 2 0 [(0, .inr (some a0)), (1, .inr (some a1))] [] w := by
  unfold f_TraceReader_begin at hF
  refine s_aload_n (pc' := 1) hC d_TraceReader_begin_0 rfl 0 rfl ?_
  refine s_aload_n (pc' := 2) hC d_TraceReader_begin_1 rfl 1 rfl ?_
  refine s_putr (pc' := 5) hC qp_TraceReader_25 (fun _ => ⟨rfl, rfl⟩) d_TraceReader_begin_2 rfl hF (fun w1 hF => ?_)
  refine s_aload_n (pc' := 6) hC d_TraceReader_begin_5 rfl 0 rfl ?_
  refine s_iconst (v := 0) (pc' := 7) hC d_TraceReader_begin_6 rfl (by decide) ?_
  refine s_puti (pc' := 10) hC qp_TraceReader_29 d_TraceReader_begin_7 rfl hF (fun w2 hF => ?_)
  exact s_vret hC hR d_TraceReader_begin_10 hF
theorem c_TraceReader_begin (l : Launch) (g : qk_G) (sz : Nat) (w : qw) (a0 : Nat) (a1 : Nat) (w' : qw) (hF : f_TraceReader_begin w a0 a1 = some w') : qMv l g sz y_TraceReader_begin b_TraceReader_begin 2 none 0 0 [.inr (some a0), .inr (some a1)] w w' := qk_met_v (by decide) (Nat.le_of_ble_eq_true rfl) (fun X hC hR => k_TraceReader_begin w' hC hR w a0 a1 hF)
theorem qf_QP_39 : qF R_QP 39 0 4 := ⟨R_QP, F_QP, 5, rfl, by decide, in_QP, Or.inl fl_QP_39⟩
theorem qf_QP_69 : qF R_QP 69 2 2 := ⟨R_Formula, F_Formula, 6, rfl, by decide, in_Formula, Or.inr ⟨_, fn_QP_69⟩⟩
def f_QP_variables (w : qw) (a0 : Nat) : Option (Int32 × qw) :=
  q_b1 (q_gr w a0 0 4) fun r1 =>
  q_b1 (q_gi w r1 2 2) fun v2 =>
  some (v2, w)
set_option maxHeartbeats 4000000 in
set_option maxRecDepth 100000 in
theorem k_QP_variables {X : qX} (r : Int32) (w' : qw) (hC : qC X b_QP_variables R_QP 1 0 0) (hR : qRi X b_QP_variables r w') (w : qw) (a0 : Nat) (hF : f_QP_variables w a0 = some (r, w')) : qG X 1 0 [(0, .inr (some a0))] [] w := by
  unfold f_QP_variables at hF
  refine s_aload_n (pc' := 1) hC d_QP_variables_0 rfl 0 rfl ?_
  refine s_getr (pc' := 4) hC qf_QP_39 d_QP_variables_1 rfl hF (fun r1 hF => ?_)
  refine s_geti (pc' := 7) hC qf_QP_69 d_QP_variables_4 rfl hF (fun v2 hF => ?_)
  exact s_iret hC hR d_QP_variables_7 hF
theorem c_QP_variables (l : Launch) (g : qk_G) (sz : Nat) (w : qw) (a0 : Nat) (r : Int32) (w' : qw) (hF : f_QP_variables w a0 = some (r, w')) : qMi l g sz y_QP_variables b_QP_variables 1 (some .int) 0 0 [.inr (some a0)] w r w' := qk_met_i (by decide) (Nat.le_of_ble_eq_true rfl) (fun X hC hR => k_QP_variables r w' hC hR w a0 hF)
def f_Formula_isForAll (w : qw) (a0 : Nat) (x1 : Int32) : Option (Int32 × qw) :=
  q_b1 (q_gi w a0 2 4) fun v1 =>
  q_b2 (f_QP_setOf w x1) fun v3 w2 =>
  if (v1 &&& v3) = 0 then
    q_ob (q_z 0) (some (0, w2))
  else
    q_ob (q_z 1) (some (1, w2))
set_option maxHeartbeats 4000000 in
set_option maxRecDepth 100000 in
theorem k_Formula_isForAll {X : qX} (r : Int32) (w' : qw) (hC : qC X b_Formula_isForAll R_Formula 2 1 20) (hR : qRz X b_Formula_isForAll r w') (w : qw) (a0 : Nat) (x1 : Int32) (hF : f_Formula_isForAll w a0 x1 = some (r, w')) : qG X 2 0 [(0, .inr (some a0)), (1, .inl x1)] [] w := by
  unfold f_Formula_isForAll at hF
  refine s_aload_n (pc' := 1) hC d_Formula_isForAll_0 rfl 0 rfl ?_
  refine s_geti (pc' := 4) hC qf_Formula_25 d_Formula_isForAll_1 rfl hF (fun v1 hF => ?_)
  refine s_iload_n (pc' := 5) hC d_Formula_isForAll_4 rfl 1 rfl ?_
  refine s_cSi (pc' := 8) (As := [.inl x1]) (rs := [.inl v1]) (fr' := 0) (lo' := 0) hC qs_Formula_35 rfl rfl (Nat.le_of_ble_eq_true rfl) ⟨by decide, by decide⟩ d_Formula_isForAll_5 rfl (fun l g sz r w' h => c_QP_setOf l g sz w x1 r w' h) hF (fun v3 w2 hF => ?_)
  refine s_iand (pc' := 9) hC d_Formula_isForAll_8 rfl ?_
  refine s_if_eq (tgt := 16) (pc' := 12) hC d_Formula_isForAll_9 rfl rfl hF (fun hF => ?_) (fun hF => ?_)
  · refine s_iconst (v := 0) (pc' := 17) hC d_Formula_isForAll_16 rfl (by decide) ?_
    exact s_zret hC hR d_Formula_isForAll_17 hF
  · refine s_iconst (v := 1) (pc' := 13) hC d_Formula_isForAll_12 rfl (by decide) ?_
    refine s_goto (tgt := 17) hC d_Formula_isForAll_13 rfl ?_
    exact s_zret hC hR d_Formula_isForAll_17 hF
theorem c_Formula_isForAll (l : Launch) (g : qk_G) (sz : Nat) (w : qw) (a0 : Nat) (x1 : Int32) (r : Int32) (w' : qw) (hF : f_Formula_isForAll w a0 x1 = some (r, w')) : qMi l g sz y_Formula_isForAll b_Formula_isForAll 2 (some .boolean) 1 20 [.inr (some a0), .inl x1] w r w' := qk_met_z (by decide) (Nat.le_of_ble_eq_true rfl) (fun X hC hR => k_Formula_isForAll r w' hC hR w a0 x1 hF)
