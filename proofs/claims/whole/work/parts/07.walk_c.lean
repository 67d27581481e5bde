theorem qf_MO_53 : qF R_MO 53 1 1 := ⟨R_MO, F_MO, 28, rfl, by decide, in_MO, Or.inl fl_MO_53⟩
theorem qf_MO_7 : qF R_MO 7 1 0 := ⟨R_MO, F_MO, 28, rfl, by decide, in_MO, Or.inl fl_MO_7⟩
theorem qp_MO_53 : qP R_MO 53 1 1 .int := ⟨R_MO, F_MO, 28, t_MO, rfl, by decide, in_MO, Or.inl fl_MO_53, t_MO_ok, n_MO, rfl, by decide +kernel⟩
def f_MO_type (w : qw) (a0 : Nat) (x1 : Int32) : Option (Int32 × qw) :=
  if x1 < 32 then
    q_ob (q_z 0) (some (0, w))
  else
    if 126 < x1 then
      q_ob (q_z 0) (some (0, w))
    else
      q_b1 (q_gi w a0 1 1) fun v1 =>
      if v1 = 200 then
        q_ob (q_z 0) (some (0, w))
      else
        q_b1 (q_gr w a0 1 0) fun r2 =>
        q_b1 (q_gi w a0 1 1) fun v3 =>
        q_b1 (q_st w r2 0 v3 x1) fun w4 =>
        q_b1 (q_gi w4 a0 1 1) fun v5 =>
        q_b1 (q_pf w4 a0 1 1 (.inl (v5 + 1))) fun w6 =>
        q_ob (q_z 1) (some (1, w6))
set_option maxHeartbeats 4000000 in
set_option maxRecDepth 100000 in
theorem k_MO_type {X : qX} (r : Int32) (w' : qw) (hC : qC X b_MO_type R_MO 2 0 0) (hR : qRz X b_MO_type r w') (w : qw) (a0 : Nat) (x1 : Int32) (hF : f_MO_type w a0 x1 = some (r, w')) : qG X 2 0 [(0, .inr (some a0)), (1, .inl x1)] [] w := by
  unfold f_MO_type at hF
  refine s_iload_n (pc' := 1) hC d_MO_type_0 rfl 1 rfl ?_
  refine s_bipush (v := 32) (pc' := 3) hC d_MO_type_1 rfl (by decide) ?_
  refine s_icmp_lt (tgt := 22) (pc' := 6) hC d_MO_type_3 rfl rfl hF (fun hF => ?_) (fun hF => ?_)
  · refine s_iconst (v := 0) (pc' := 23) hC d_MO_type_22 rfl (by decide) ?_
    exact s_zret hC hR d_MO_type_23 hF
  · refine s_iload_n (pc' := 7) hC d_MO_type_6 rfl 1 rfl ?_
    refine s_bipush (v := 126) (pc' := 9) hC d_MO_type_7 rfl (by decide) ?_
    refine s_icmp_gt (tgt := 22) (pc' := 12) hC d_MO_type_9 rfl rfl hF (fun hF => ?_) (fun hF => ?_)
    · refine s_iconst (v := 0) (pc' := 23) hC d_MO_type_22 rfl (by decide) ?_
      exact s_zret hC hR d_MO_type_23 hF
    · refine s_aload_n (pc' := 13) hC d_MO_type_12 rfl 0 rfl ?_
      refine s_geti (pc' := 16) hC qf_MO_53 d_MO_type_13 rfl hF (fun v1 hF => ?_)
      refine s_sipush (v := 200) (pc' := 19) hC d_MO_type_16 rfl (by decide) ?_
      refine s_icmp_ne (tgt := 24) (pc' := 22) hC d_MO_type_19 rfl rfl hF (fun hF => ?_) (fun hF => ?_)
      · refine s_aload_n (pc' := 25) hC d_MO_type_24 rfl 0 rfl ?_
        refine s_getr (pc' := 28) hC qf_MO_7 d_MO_type_25 rfl hF (fun r2 hF => ?_)
        refine s_aload_n (pc' := 29) hC d_MO_type_28 rfl 0 rfl ?_
        refine s_geti (pc' := 32) hC qf_MO_53 d_MO_type_29 rfl hF (fun v3 hF => ?_)
        refine s_iload_n (pc' := 33) hC d_MO_type_32 rfl 1 rfl ?_
        refine s_iast (pc' := 34) hC d_MO_type_33 rfl hF (fun w4 hF => ?_)
        refine s_aload_n (pc' := 35) hC d_MO_type_34 rfl 0 rfl ?_
        refine s_dup (pc' := 36) hC d_MO_type_35 rfl ?_
        refine s_geti (pc' := 39) hC qf_MO_53 d_MO_type_36 rfl hF (fun v5 hF => ?_)
        refine s_iconst (v := 1) (pc' := 40) hC d_MO_type_39 rfl (by decide) ?_
        refine s_iadd (pc' := 41) hC d_MO_type_40 rfl ?_
        refine s_puti (pc' := 44) hC qp_MO_53 d_MO_type_41 rfl hF (fun w6 hF => ?_)
        refine s_iconst (v := 1) (pc' := 45) hC d_MO_type_44 rfl (by decide) ?_
        exact s_zret hC hR d_MO_type_45 hF
      · refine s_iconst (v := 0) (pc' := 23) hC d_MO_type_22 rfl (by decide) ?_
        exact s_zret hC hR d_MO_type_23 hF
theorem c_MO_type (l : Launch) (g : qk_G) (sz : Nat) (w : qw) (a0 : Nat) (x1 : Int32) (r : Int32) (w' : qw) (hF : f_MO_type w a0 x1 = some (r, w')) : qMi l g sz y_MO_type b_MO_type 2 (some .boolean) 0 0 [.inr (some a0), .inl x1] w r w' := qk_met_z (by decide) (Nat.le_of_ble_eq_true rfl) (fun X hC hR => k_MO_type r w' hC hR w a0 x1 hF)
def lb_MO_begin_2  (c2 : Nat → Int32 → qw → Option (Int32 × qw)) (a0 : Nat) (x2 : Int32) (w : qw) : Option (Int32 × qw) :=
  q_b1 (q_gi w a0 1 1) fun v1 =>
  if v1 ≤ x2 then
    some (x2, w)
  else
    q_b1 (q_gr w a0 1 0) fun r2 =>
    q_b1 (q_ld w r2 0 x2) fun v3 =>
    if v3 = 32 then
      c2 a0 (x2 + 1) w
    else
      some (x2, w)
def ll_MO_begin_2  : Nat → Nat → Int32 → qw → Option (Int32 × qw)
  | 0 => fun _ _ _ => none
  | n + 1 => lb_MO_begin_2  (ll_MO_begin_2  n)
def f_MO_begin (w : qw) (a0 : Nat) (x1 : Int32) : Option (Int32 × qw) :=
  ll_MO_begin_2 q_fu a0 x1 w
set_option maxHeartbeats 4000000 in
set_option maxRecDepth 100000 in
theorem k_MO_begin {X : qX} (r : Int32) (w' : qw) (hC : qC X b_MO_begin R_MO 3 0 0) (hR : qRi X b_MO_begin r w') (w : qw) (a0 : Nat) (x1 : Int32) (hF : f_MO_begin w a0 x1 = some (r, w')) : qG X 3 0 [(0, .inr (some a0)), (1, .inl x1)] [] w := by
  have L_2 : ∀ (n : Nat) (a0 : Nat) (x2 : Int32) (w : qw), ll_MO_begin_2  n a0 x2 w = some (r, w') → qG X 3 2 [(0, .inr (some a0)), (2, .inl x2)] [] w := by
    intro n_2
    induction n_2 with
    | zero => exact fun _ _ _ hF => q_nn (show (none : Option (Int32 × qw)) = some (r, w') from hF)
    | succ n_2 ih_2 =>
      intro a0 x2 w hF
      have hF : lb_MO_begin_2  (ll_MO_begin_2  n_2) a0 x2 w = some (r, w') := hF
      unfold lb_MO_begin_2 at hF
      refine s_iload_n (pc' := 3) hC d_MO_begin_2 rfl 1 rfl ?_
      refine s_aload_n (pc' := 4) hC d_MO_begin_3 rfl 0 rfl ?_
      refine s_geti (pc' := 7) hC qf_MO_53 d_MO_begin_4 rfl hF (fun v1 hF => ?_)
      refine s_icmp_ge (tgt := 27) (pc' := 10) hC d_MO_begin_7 rfl rfl hF (fun hF => ?_) (fun hF => ?_)
      · refine s_iload_n (pc' := 28) hC d_MO_begin_27 rfl 1 rfl ?_
        exact s_iret hC hR d_MO_begin_28 hF
      · refine s_aload_n (pc' := 11) hC d_MO_begin_10 rfl 0 rfl ?_
        refine s_getr (pc' := 14) hC qf_MO_7 d_MO_begin_11 rfl hF (fun r2 hF => ?_)
        refine s_iload_n (pc' := 15) hC d_MO_begin_14 rfl 1 rfl ?_
        refine s_iald (pc' := 16) hC d_MO_begin_15 rfl hF (fun v3 hF => ?_)
        refine s_bipush (v := 32) (pc' := 18) hC d_MO_begin_16 rfl (by decide) ?_
        refine s_icmp_ne (tgt := 27) (pc' := 21) hC d_MO_begin_18 rfl rfl hF (fun hF => ?_) (fun hF => ?_)
        · refine s_iload_n (pc' := 28) hC d_MO_begin_27 rfl 1 rfl ?_
          exact s_iret hC hR d_MO_begin_28 hF
        · refine s_iinc (pc' := 24) (n' := 1) (lv' := [(2, .inl (x2 + 1)), (0, .inr (some a0))]) hC d_MO_begin_21 rfl 1 rfl (by decide) (by decide) rfl ?_
          refine s_goto (tgt := 2) hC d_MO_begin_24 rfl ?_
          exact qG_sub [1, 0] rfl (ih_2 a0 (x2 + 1) w hF)
  unfold f_MO_begin at hF
  refine s_iload_n (pc' := 1) hC d_MO_begin_0 rfl 1 rfl ?_
  refine s_istore_n (pc' := 2) (lv' := [(2, .inl x1), (0, .inr (some a0)), (1, .inl x1)]) hC d_MO_begin_1 rfl (by decide) rfl ?_
  exact qG_sub [1, 0] rfl (L_2 q_fu a0 x1 w hF)
theorem c_MO_begin (l : Launch) (g : qk_G) (sz : Nat) (w : qw) (a0 : Nat) (x1 : Int32) (r : Int32) (w' : qw) (hF : f_MO_begin w a0 x1 = some (r, w')) : qMi l g sz y_MO_begin b_MO_begin 3 (some .int) 0 0 [.inr (some a0), .inl x1] w r w' := qk_met_i (by decide) (Nat.le_of_ble_eq_true rfl) (fun X hC hR => k_MO_begin r w' hC hR w a0 x1 hF)
def lb_MO_end_2  (c2 : Nat → Int32 → qw → Option (Int32 × qw)) (a0 : Nat) (x2 : Int32) (w : qw) : Option (Int32 × qw) :=
  q_b1 (q_gi w a0 1 1) fun v1 =>
  if v1 ≤ x2 then
    some (x2, w)
  else
    q_b1 (q_gr w a0 1 0) fun r2 =>
    q_b1 (q_ld w r2 0 x2) fun v3 =>
    if v3 = 32 then
      some (x2, w)
    else
      c2 a0 (x2 + 1) w
def ll_MO_end_2  : Nat → Nat → Int32 → qw → Option (Int32 × qw)
  | 0 => fun _ _ _ => none
  | n + 1 => lb_MO_end_2  (ll_MO_end_2  n)
def f_MO_end (w : qw) (a0 : Nat) (x1 : Int32) : Option (Int32 × qw) :=
  ll_MO_end_2 q_fu a0 x1 w
set_option maxHeartbeats 4000000 in
set_option maxRecDepth 100000 in
theorem k_MO_end {X : qX} (r : Int32) (w' : qw) (hC : qC X b_MO_end R_MO 3 0 0) (hR : qRi X b_MO_end r w') (w : qw) (a0 : Nat) (x1 : Int32) (hF : f_MO_end w a0 x1 = some (r, w')) : qG X 3 0 [(0, .inr (some a0)), (1, .inl x1)] [] w := by
  have L_2 : ∀ (n : Nat) (a0 : Nat) (x2 : Int32) (w : qw), ll_MO_end_2  n a0 x2 w = some (r, w') → qG X 3 2 [(0, .inr (some a0)), (2, .inl x2)] [] w := by
    intro n_2
    induction n_2 with
    | zero => exact fun _ _ _ hF => q_nn (show (none : Option (Int32 × qw)) = some (r, w') from hF)
    | succ n_2 ih_2 =>
      intro a0 x2 w hF
      have hF : lb_MO_end_2  (ll_MO_end_2  n_2) a0 x2 w = some (r, w') := hF
      unfold lb_MO_end_2 at hF
      refine s_iload_n (pc' := 3) hC d_MO_end_2 rfl 1 rfl ?_
      refine s_aload_n (pc' := 4) hC d_MO_end_3 rfl 0 rfl ?_
      refine s_geti (pc' := 7) hC qf_MO_53 d_MO_end_4 rfl hF (fun v1 hF => ?_)
      refine s_icmp_ge (tgt := 27) (pc' := 10) hC d_MO_end_7 rfl rfl hF (fun hF => ?_) (fun hF => ?_)
      · refine s_iload_n (pc' := 28) hC d_MO_end_27 rfl 1 rfl ?_
        exact s_iret hC hR d_MO_end_28 hF
      · refine s_aload_n (pc' := 11) hC d_MO_end_10 rfl 0 rfl ?_
        refine s_getr (pc' := 14) hC qf_MO_7 d_MO_end_11 rfl hF (fun r2 hF => ?_)
        refine s_iload_n (pc' := 15) hC d_MO_end_14 rfl 1 rfl ?_
        refine s_iald (pc' := 16) hC d_MO_end_15 rfl hF (fun v3 hF => ?_)
        refine s_bipush (v := 32) (pc' := 18) hC d_MO_end_16 rfl (by decide) ?_
        refine s_icmp_eq (tgt := 27) (pc' := 21) hC d_MO_end_18 rfl rfl hF (fun hF => ?_) (fun hF => ?_)
        · refine s_iload_n (pc' := 28) hC d_MO_end_27 rfl 1 rfl ?_
          exact s_iret hC hR d_MO_end_28 hF
        · refine s_iinc (pc' := 24) (n' := 1) (lv' := [(2, .inl (x2 + 1)), (0, .inr (some a0))]) hC d_MO_end_21 rfl 1 rfl (by decide) (by decide) rfl ?_
          refine s_goto (tgt := 2) hC d_MO_end_24 rfl ?_
          exact qG_sub [1, 0] rfl (ih_2 a0 (x2 + 1) w hF)
  unfold f_MO_end at hF
  refine s_iload_n (pc' := 1) hC d_MO_end_0 rfl 1 rfl ?_
  refine s_istore_n (pc' := 2) (lv' := [(2, .inl x1), (0, .inr (some a0)), (1, .inl x1)]) hC d_MO_end_1 rfl (by decide) rfl ?_
  exact qG_sub [1, 0] rfl (L_2 q_fu a0 x1 w hF)
theorem c_MO_end (l : Launch) (g : qk_G) (sz : Nat) (w : qw) (a0 : Nat) (x1 : Int32) (r : Int32) (w' : qw) (hF : f_MO_end w a0 x1 = some (r, w')) : qMi l g sz y_MO_end b_MO_end 3 (some .int) 0 0 [.inr (some a0), .inl x1] w r w' := qk_met_i (by decide) (Nat.le_of_ble_eq_true rfl) (fun X hC hR => k_MO_end r w' hC hR w a0 x1 hF)
def lb_MO_word_112  (c112 : Nat → Int32 → Int32 → Int32 → Int32 → Int32 → qw → Option (Int32 × qw)) (a0 : Nat) (x1 : Int32) (x2 : Int32) (x4 : Int32) (x6 : Int32) (x7 : Int32) (w : qw) : Option (Int32 × qw) :=
  if x2 ≤ x7 then
    if x4 ≤ x1 then
      some (x6, w)
    else
      some (-x6, w)
  else
    q_b1 (q_gr w a0 1 0) fun r1 =>
    q_b1 (q_ld w r1 0 x7) fun v2 =>
    if v2 < 48 then
      some (5000, w)
    else
      q_b1 (q_gr w a0 1 0) fun r3 =>
      q_b1 (q_ld w r3 0 x7) fun v4 =>
      if v4 ≤ 57 then
        q_b1 (q_gr w a0 1 0) fun r5 =>
        q_b1 (q_ld w r5 0 x7) fun v6 =>
        c112 a0 x1 x2 x4 ((((10 : Int32) * x6) + v6) - 48) (x7 + 1) w
      else
        some (5000, w)
def ll_MO_word_112  : Nat → Nat → Int32 → Int32 → Int32 → Int32 → Int32 → qw → Option (Int32 × qw)
  | 0 => fun _ _ _ _ _ _ _ => none
  | n + 1 => lb_MO_word_112  (ll_MO_word_112  n)
def lj_MO_word_57  (a0 : Nat) (x1 : Int32) (x2 : Int32) (s0 : Int32) (w : qw) : Option (Int32 × qw) :=
  if (x2 - s0) < 1 then
    some (5000, w)
  else
    if 3 < (x2 - s0) then
      some (5000, w)
    else
      q_b1 (q_gr w a0 1 0) fun r7 =>
      q_b1 (q_ld w r7 0 s0) fun v8 =>
      if v8 = 48 then
        if 1 < (x2 - s0) then
          some (5000, w)
        else
          if s0 ≤ x1 then
            ll_MO_word_112 q_fu a0 x1 x2 s0 0 s0 w
          else
            some (5000, w)
      else
        ll_MO_word_112 q_fu a0 x1 x2 s0 0 s0 w
def lj_MO_word_44  (a0 : Nat) (x1 : Int32) (x2 : Int32) (x3 : Int32) (w : qw) : Option (Int32 × qw) :=
  if x3 = 45 then
    lj_MO_word_57 a0 x1 x2 (x1 + 1) w
  else
    lj_MO_word_57 a0 x1 x2 x1 w
def f_MO_word (w : qw) (a0 : Nat) (x1 : Int32) (x2 : Int32) : Option (Int32 × qw) :=
  q_b1 (q_gr w a0 1 0) fun r9 =>
  q_b1 (q_ld w r9 0 x1) fun v10 =>
  if x2 = (x1 + 1) then
    if v10 = 97 then
      some ((4000 : Int32) + v10, w)
    else
      if v10 = 101 then
        some ((4000 : Int32) + v10, w)
      else
        if v10 = 114 then
          some ((4000 : Int32) + v10, w)
        else
          if v10 = 115 then
            some ((4000 : Int32) + v10, w)
          else
            lj_MO_word_44 a0 x1 x2 v10 w
  else
    lj_MO_word_44 a0 x1 x2 v10 w
set_option maxHeartbeats 4000000 in
set_option maxRecDepth 100000 in
theorem k_MO_word {X : qX} (r : Int32) (w' : qw) (hC : qC X b_MO_word R_MO 8 0 0) (hR : qRi X b_MO_word r w') (w : qw) (a0 : Nat) (x1 : Int32) (x2 : Int32) (hF : f_MO_word w a0 x1 x2 = some (r, w')) : qG X 8 0 [(0, .inr (some a0)), (1, .inl x1), (2, .inl x2)] [] w := by
  have L_112 : ∀ (n : Nat) (a0 : Nat) (x1 : Int32) (x2 : Int32) (x4 : Int32) (x6 : Int32) (x7 : Int32) (w : qw), ll_MO_word_112  n a0 x1 x2 x4 x6 x7 w = some (r, w') → qG X 8 112 [(0, .inr (some a0)), (1, .inl x1), (2, .inl x2), (4, .inl x4), (6, .inl x6), (7, .inl x7)] [] w := by
    intro n_112
    induction n_112 with
    | zero => exact fun _ _ _ _ _ _ _ hF => q_nn (show (none : Option (Int32 × qw)) = some (r, w') from hF)
    | succ n_112 ih_112 =>
      intro a0 x1 x2 x4 x6 x7 w hF
      have hF : lb_MO_word_112  (ll_MO_word_112  n_112) a0 x1 x2 x4 x6 x7 w = some (r, w') := hF
      unfold lb_MO_word_112 at hF
      refine s_iload (pc' := 114) hC d_MO_word_112 rfl 5 rfl ?_
      refine s_iload_n (pc' := 115) hC d_MO_word_114 rfl 2 rfl ?_
      refine s_icmp_ge (tgt := 170) (pc' := 118) hC d_MO_word_115 rfl rfl hF (fun hF => ?_) (fun hF => ?_)
      · refine s_iload (pc' := 172) hC d_MO_word_170 rfl 3 rfl ?_
        refine s_iload_n (pc' := 173) hC d_MO_word_172 rfl 1 rfl ?_
        refine s_icmp_le (tgt := 182) (pc' := 176) hC d_MO_word_173 rfl rfl hF (fun hF => ?_) (fun hF => ?_)
        · refine s_iload (pc' := 184) hC d_MO_word_182 rfl 4 rfl ?_
          exact s_iret hC hR d_MO_word_184 hF
        · refine s_iload (pc' := 178) hC d_MO_word_176 rfl 4 rfl ?_
          refine s_ineg (pc' := 179) hC d_MO_word_178 rfl ?_
          refine s_goto (tgt := 184) hC d_MO_word_179 rfl ?_
          exact s_iret hC hR d_MO_word_184 hF
      · refine s_aload_n (pc' := 119) hC d_MO_word_118 rfl 0 rfl ?_
        refine s_getr (pc' := 122) hC qf_MO_7 d_MO_word_119 rfl hF (fun r1 hF => ?_)
        refine s_iload (pc' := 124) hC d_MO_word_122 rfl 5 rfl ?_
        refine s_iald (pc' := 125) hC d_MO_word_124 rfl hF (fun v2 hF => ?_)
        refine s_bipush (v := 48) (pc' := 127) hC d_MO_word_125 rfl (by decide) ?_
        refine s_icmp_lt (tgt := 142) (pc' := 130) hC d_MO_word_127 rfl rfl hF (fun hF => ?_) (fun hF => ?_)
        · refine s_sipush (v := 5000) (pc' := 145) hC d_MO_word_142 rfl (by decide) ?_
          exact s_iret hC hR d_MO_word_145 hF
        · refine s_aload_n (pc' := 131) hC d_MO_word_130 rfl 0 rfl ?_
          refine s_getr (pc' := 134) hC qf_MO_7 d_MO_word_131 rfl hF (fun r3 hF => ?_)
          refine s_iload (pc' := 136) hC d_MO_word_134 rfl 5 rfl ?_
          refine s_iald (pc' := 137) hC d_MO_word_136 rfl hF (fun v4 hF => ?_)
          refine s_bipush (v := 57) (pc' := 139) hC d_MO_word_137 rfl (by decide) ?_
          refine s_icmp_le (tgt := 146) (pc' := 142) hC d_MO_word_139 rfl rfl hF (fun hF => ?_) (fun hF => ?_)
          · refine s_bipush (v := 10) (pc' := 148) hC d_MO_word_146 rfl (by decide) ?_
            refine s_iload (pc' := 150) hC d_MO_word_148 rfl 4 rfl ?_
            refine s_imul (pc' := 151) hC d_MO_word_150 rfl ?_
            refine s_aload_n (pc' := 152) hC d_MO_word_151 rfl 0 rfl ?_
            refine s_getr (pc' := 155) hC qf_MO_7 d_MO_word_152 rfl hF (fun r5 hF => ?_)
            refine s_iload (pc' := 157) hC d_MO_word_155 rfl 5 rfl ?_
            refine s_iald (pc' := 158) hC d_MO_word_157 rfl hF (fun v6 hF => ?_)
            refine s_iadd (pc' := 159) hC d_MO_word_158 rfl ?_
            refine s_bipush (v := 48) (pc' := 161) hC d_MO_word_159 rfl (by decide) ?_
            refine s_isub (pc' := 162) hC d_MO_word_161 rfl ?_
            refine s_istore (pc' := 164) (lv' := [(6, .inl ((((10 : Int32) * x6) + v6) - 48)), (0, .inr (some a0)), (1, .inl x1), (2, .inl x2), (4, .inl x4), (7, .inl x7)]) hC d_MO_word_162 rfl (by decide) rfl ?_
            refine s_iinc (pc' := 167) (n' := 1) (lv' := [(7, .inl (x7 + 1)), (6, .inl ((((10 : Int32) * x6) + v6) - 48)), (0, .inr (some a0)), (1, .inl x1), (2, .inl x2), (4, .inl x4)]) hC d_MO_word_164 rfl 5 rfl (by decide) (by decide) rfl ?_
            refine s_goto (tgt := 112) hC d_MO_word_167 rfl ?_
            exact qG_sub [2, 3, 4, 5, 1, 0] rfl (ih_112 a0 x1 x2 x4 ((((10 : Int32) * x6) + v6) - 48) (x7 + 1) w hF)
          · refine s_sipush (v := 5000) (pc' := 145) hC d_MO_word_142 rfl (by decide) ?_
            exact s_iret hC hR d_MO_word_145 hF
  have J_57 : ∀ (a0 : Nat) (x1 : Int32) (x2 : Int32) (s0 : Int32) (w : qw), lj_MO_word_57  a0 x1 x2 s0 w = some (r, w') → qG X 8 57 [(0, .inr (some a0)), (1, .inl x1), (2, .inl x2)] [.inl s0] w := by
    intro a0 x1 x2 s0 w hF
    unfold lj_MO_word_57 at hF
    refine s_istore (pc' := 59) (lv' := [(4, .inl s0), (0, .inr (some a0)), (1, .inl x1), (2, .inl x2)]) hC d_MO_word_57 rfl (by decide) rfl ?_
    refine s_iload_n (pc' := 60) hC d_MO_word_59 rfl 3 rfl ?_
    refine s_iload (pc' := 62) hC d_MO_word_60 rfl 0 rfl ?_
    refine s_isub (pc' := 63) hC d_MO_word_62 rfl ?_
    refine s_istore (pc' := 65) (lv' := [(5, .inl (x2 - s0)), (4, .inl s0), (0, .inr (some a0)), (1, .inl x1), (2, .inl x2)]) hC d_MO_word_63 rfl (by decide) rfl ?_
    refine s_iload (pc' := 67) hC d_MO_word_65 rfl 0 rfl ?_
    refine s_iconst (v := 1) (pc' := 68) hC d_MO_word_67 rfl (by decide) ?_
    refine s_icmp_lt (tgt := 101) (pc' := 71) hC d_MO_word_68 rfl rfl hF (fun hF => ?_) (fun hF => ?_)
    · refine s_sipush (v := 5000) (pc' := 104) hC d_MO_word_101 rfl (by decide) ?_
      exact s_iret hC hR d_MO_word_104 hF
    · refine s_iload (pc' := 73) hC d_MO_word_71 rfl 0 rfl ?_
      refine s_iconst (v := 3) (pc' := 74) hC d_MO_word_73 rfl (by decide) ?_
      refine s_icmp_gt (tgt := 101) (pc' := 77) hC d_MO_word_74 rfl rfl hF (fun hF => ?_) (fun hF => ?_)
      · refine s_sipush (v := 5000) (pc' := 104) hC d_MO_word_101 rfl (by decide) ?_
        exact s_iret hC hR d_MO_word_104 hF
      · refine s_aload_n (pc' := 78) hC d_MO_word_77 rfl 2 rfl ?_
        refine s_getr (pc' := 81) hC qf_MO_7 d_MO_word_78 rfl hF (fun r7 hF => ?_)
        refine s_iload (pc' := 83) hC d_MO_word_81 rfl 1 rfl ?_
        refine s_iald (pc' := 84) hC d_MO_word_83 rfl hF (fun v8 hF => ?_)
        refine s_bipush (v := 48) (pc' := 86) hC d_MO_word_84 rfl (by decide) ?_
        refine s_icmp_ne (tgt := 105) (pc' := 89) hC d_MO_word_86 rfl rfl hF (fun hF => ?_) (fun hF => ?_)
        · refine s_iconst (v := 0) (pc' := 106) hC d_MO_word_105 rfl (by decide) ?_
          refine s_istore (pc' := 108) (lv' := [(6, .inl 0), (5, .inl (x2 - s0)), (4, .inl s0), (0, .inr (some a0)), (1, .inl x1), (2, .inl x2)]) hC d_MO_word_106 rfl (by decide) rfl ?_
          refine s_iload (pc' := 110) hC d_MO_word_108 rfl 2 rfl ?_
          refine s_istore (pc' := 112) (lv' := [(7, .inl s0), (6, .inl 0), (5, .inl (x2 - s0)), (4, .inl s0), (0, .inr (some a0)), (1, .inl x1), (2, .inl x2)]) hC d_MO_word_110 rfl (by decide) rfl ?_
          exact qG_sub [4, 5, 6, 3, 1, 0] rfl (L_112 q_fu a0 x1 x2 s0 0 s0 w hF)
        · refine s_iload (pc' := 91) hC d_MO_word_89 rfl 0 rfl ?_
          refine s_iconst (v := 1) (pc' := 92) hC d_MO_word_91 rfl (by decide) ?_
          refine s_icmp_gt (tgt := 101) (pc' := 95) hC d_MO_word_92 rfl rfl hF (fun hF => ?_) (fun hF => ?_)
          · refine s_sipush (v := 5000) (pc' := 104) hC d_MO_word_101 rfl (by decide) ?_
            exact s_iret hC hR d_MO_word_104 hF
          · refine s_iload (pc' := 97) hC d_MO_word_95 rfl 1 rfl ?_
            refine s_iload_n (pc' := 98) hC d_MO_word_97 rfl 3 rfl ?_
            refine s_icmp_le (tgt := 105) (pc' := 101) hC d_MO_word_98 rfl rfl hF (fun hF => ?_) (fun hF => ?_)
            · refine s_iconst (v := 0) (pc' := 106) hC d_MO_word_105 rfl (by decide) ?_
              refine s_istore (pc' := 108) (lv' := [(6, .inl 0), (5, .inl (x2 - s0)), (4, .inl s0), (0, .inr (some a0)), (1, .inl x1), (2, .inl x2)]) hC d_MO_word_106 rfl (by decide) rfl ?_
              refine s_iload (pc' := 110) hC d_MO_word_108 rfl 2 rfl ?_
              refine s_istore (pc' := 112) (lv' := [(7, .inl s0), (6, .inl 0), (5, .inl (x2 - s0)), (4, .inl s0), (0, .inr (some a0)), (1, .inl x1), (2, .inl x2)]) hC d_MO_word_110 rfl (by decide) rfl ?_
              exact qG_sub [4, 5, 6, 3, 1, 0] rfl (L_112 q_fu a0 x1 x2 s0 0 s0 w hF)
            · refine s_sipush (v := 5000) (pc' := 104) hC d_MO_word_101 rfl (by decide) ?_
              exact s_iret hC hR d_MO_word_104 hF
  have J_44 : ∀ (a0 : Nat) (x1 : Int32) (x2 : Int32) (x3 : Int32) (w : qw), lj_MO_word_44  a0 x1 x2 x3 w = some (r, w') → qG X 8 44 [(0, .inr (some a0)), (1, .inl x1), (2, .inl x2), (3, .inl x3)] [] w := by
    intro a0 x1 x2 x3 w hF
    unfold lj_MO_word_44 at hF
    refine s_iload_n (pc' := 45) hC d_MO_word_44 rfl 3 rfl ?_
    refine s_bipush (v := 45) (pc' := 47) hC d_MO_word_45 rfl (by decide) ?_
    refine s_icmp_ne (tgt := 56) (pc' := 50) hC d_MO_word_47 rfl rfl hF (fun hF => ?_) (fun hF => ?_)
    · refine s_iload_n (pc' := 57) hC d_MO_word_56 rfl 1 rfl ?_
      exact qG_sub [0, 1, 2] rfl (J_57 a0 x1 x2 x1 w hF)
    · refine s_iload_n (pc' := 51) hC d_MO_word_50 rfl 1 rfl ?_
      refine s_iconst (v := 1) (pc' := 52) hC d_MO_word_51 rfl (by decide) ?_
      refine s_iadd (pc' := 53) hC d_MO_word_52 rfl ?_
      refine s_goto (tgt := 57) hC d_MO_word_53 rfl ?_
      exact qG_sub [0, 1, 2] rfl (J_57 a0 x1 x2 (x1 + 1) w hF)
  unfold f_MO_word at hF
  refine s_aload_n (pc' := 1) hC d_MO_word_0 rfl 0 rfl ?_
  refine s_getr (pc' := 4) hC qf_MO_7 d_MO_word_1 rfl hF (fun r9 hF => ?_)
  refine s_iload_n (pc' := 5) hC d_MO_word_4 rfl 1 rfl ?_
  refine s_iald (pc' := 6) hC d_MO_word_5 rfl hF (fun v10 hF => ?_)
  refine s_istore_n (pc' := 7) (lv' := [(3, .inl v10), (0, .inr (some a0)), (1, .inl x1), (2, .inl x2)]) hC d_MO_word_6 rfl (by decide) rfl ?_
  refine s_iload_n (pc' := 8) hC d_MO_word_7 rfl 3 rfl ?_
  refine s_iload_n (pc' := 9) hC d_MO_word_8 rfl 2 rfl ?_
  refine s_iconst (v := 1) (pc' := 10) hC d_MO_word_9 rfl (by decide) ?_
  refine s_iadd (pc' := 11) hC d_MO_word_10 rfl ?_
  refine s_icmp_ne (tgt := 44) (pc' := 14) hC d_MO_word_11 rfl rfl hF (fun hF => ?_) (fun hF => ?_)
  · exact qG_sub [1, 2, 3, 0] rfl (J_44 a0 x1 x2 v10 w hF)
  · refine s_iload_n (pc' := 15) hC d_MO_word_14 rfl 0 rfl ?_
    refine s_bipush (v := 97) (pc' := 17) hC d_MO_word_15 rfl (by decide) ?_
    refine s_icmp_eq (tgt := 38) (pc' := 20) hC d_MO_word_17 rfl rfl hF (fun hF => ?_) (fun hF => ?_)
    · refine s_sipush (v := 4000) (pc' := 41) hC d_MO_word_38 rfl (by decide) ?_
      refine s_iload_n (pc' := 42) hC d_MO_word_41 rfl 0 rfl ?_
      refine s_iadd (pc' := 43) hC d_MO_word_42 rfl ?_
      exact s_iret hC hR d_MO_word_43 hF
    · refine s_iload_n (pc' := 21) hC d_MO_word_20 rfl 0 rfl ?_
      refine s_bipush (v := 101) (pc' := 23) hC d_MO_word_21 rfl (by decide) ?_
      refine s_icmp_eq (tgt := 38) (pc' := 26) hC d_MO_word_23 rfl rfl hF (fun hF => ?_) (fun hF => ?_)
      · refine s_sipush (v := 4000) (pc' := 41) hC d_MO_word_38 rfl (by decide) ?_
        refine s_iload_n (pc' := 42) hC d_MO_word_41 rfl 0 rfl ?_
        refine s_iadd (pc' := 43) hC d_MO_word_42 rfl ?_
        exact s_iret hC hR d_MO_word_43 hF
      · refine s_iload_n (pc' := 27) hC d_MO_word_26 rfl 0 rfl ?_
        refine s_bipush (v := 114) (pc' := 29) hC d_MO_word_27 rfl (by decide) ?_
        refine s_icmp_eq (tgt := 38) (pc' := 32) hC d_MO_word_29 rfl rfl hF (fun hF => ?_) (fun hF => ?_)
        · refine s_sipush (v := 4000) (pc' := 41) hC d_MO_word_38 rfl (by decide) ?_
          refine s_iload_n (pc' := 42) hC d_MO_word_41 rfl 0 rfl ?_
          refine s_iadd (pc' := 43) hC d_MO_word_42 rfl ?_
          exact s_iret hC hR d_MO_word_43 hF
        · refine s_iload_n (pc' := 33) hC d_MO_word_32 rfl 0 rfl ?_
          refine s_bipush (v := 115) (pc' := 35) hC d_MO_word_33 rfl (by decide) ?_
          refine s_icmp_ne (tgt := 44) (pc' := 38) hC d_MO_word_35 rfl rfl hF (fun hF => ?_) (fun hF => ?_)
          · exact qG_sub [1, 2, 3, 0] rfl (J_44 a0 x1 x2 v10 w hF)
          · refine s_sipush (v := 4000) (pc' := 41) hC d_MO_word_38 rfl (by decide) ?_
            refine s_iload_n (pc' := 42) hC d_MO_word_41 rfl 0 rfl ?_
            refine s_iadd (pc' := 43) hC d_MO_word_42 rfl ?_
            exact s_iret hC hR d_MO_word_43 hF
theorem c_MO_word (l : Launch) (g : qk_G) (sz : Nat) (w : qw) (a0 : Nat) (x1 : Int32) (x2 : Int32) (r : Int32) (w' : qw) (hF : f_MO_word w a0 x1 x2 = some (r, w')) : qMi l g sz y_MO_word b_MO_word 8 (some .int) 0 0 [.inr (some a0), .inl x1, .inl x2] w r w' := qk_met_i (by decide) (Nat.le_of_ble_eq_true rfl) (fun X hC hR => k_MO_word r w' hC hR w a0 x1 x2 hF)
theorem qf_MO_32 : qF R_MO 32 1 11 := ⟨R_MO, F_MO, 28, rfl, by decide, in_MO, Or.inl fl_MO_32⟩
theorem qf_MO_83 : qF R_MO 83 1 8 := ⟨R_MO, F_MO, 28, rfl, by decide, in_MO, Or.inl fl_MO_83⟩
theorem qf_MO_26 : qF R_MO 26 1 9 := ⟨R_MO, F_MO, 28, rfl, by decide, in_MO, Or.inl fl_MO_26⟩
theorem qf_MO_29 : qF R_MO 29 1 10 := ⟨R_MO, F_MO, 28, rfl, by decide, in_MO, Or.inl fl_MO_29⟩
theorem qf_MO_60 : qF R_MO 60 1 20 := ⟨R_MO, F_MO, 28, rfl, by decide, in_MO, Or.inl fl_MO_60⟩
theorem qp_MO_83 : qP R_MO 83 1 8 .int := ⟨R_MO, F_MO, 28, t_MO, rfl, by decide, in_MO, Or.inl fl_MO_83, t_MO_ok, n_MO, rfl, by decide +kernel⟩
theorem qf_MO_64 : qF R_MO 64 1 21 := ⟨R_MO, F_MO, 28, rfl, by decide, in_MO, Or.inl fl_MO_64⟩
theorem qp_MO_64 : qP R_MO 64 1 21 .int := ⟨R_MO, F_MO, 28, t_MO, rfl, by decide, in_MO, Or.inl fl_MO_64, t_MO_ok, n_MO, rfl, by decide +kernel⟩
theorem qp_MO_57 : qP R_MO 57 1 19 .int := ⟨R_MO, F_MO, 28, t_MO, rfl, by decide, in_MO, Or.inl fl_MO_57, t_MO_ok, n_MO, rfl, by decide +kernel⟩
def lj_MO_readInBlock_17  (a0 : Nat) (x1 : Int32) (w : qw) : Option (Int32 × qw) :=
  if x1 = 0 then
    q_b1 (q_pf w a0 1 19 (.inl 0)) fun w17 =>
    some (0, w17)
  else
    if 8 < x1 then
      some (2, w)
    else
      q_b1 (q_gr w a0 1 11) fun r1 =>
      q_b1 (q_ld w r1 0 x1) fun v2 =>
      if v2 < 0 then
        q_b1 (q_gr w a0 1 11) fun r3 =>
        q_b1 (q_gi w a0 1 8) fun v4 =>
        q_b1 (q_st w r3 0 x1 v4) fun w5 =>
        q_b1 (q_gr w5 a0 1 9) fun r6 =>
        q_b1 (q_gi w5 a0 1 8) fun v7 =>
        q_b1 (q_st w5 r6 0 v7 x1) fun w8 =>
        q_b1 (q_gr w8 a0 1 10) fun r9 =>
        q_b1 (q_gi w8 a0 1 8) fun v10 =>
        q_b1 (q_gi w8 a0 1 20) fun v11 =>
        q_ob (q_z v11) <| q_b1 (q_st w8 r9 2 v10 v11) fun w12 =>
        q_b1 (q_gi w12 a0 1 8) fun v13 =>
        q_b1 (q_pf w12 a0 1 8 (.inl (v13 + 1))) fun w14 =>
        q_b1 (q_gi w14 a0 1 21) fun v15 =>
        q_b1 (q_pf w14 a0 1 21 (.inl (v15 + 1))) fun w16 =>
        some (0, w16)
      else
        some (2, w)
def f_MO_readInBlock (w : qw) (a0 : Nat) (x1 : Int32) : Option (Int32 × qw) :=
  if x1 < 0 then
    some (1, w)
  else
    if x1 = 0 then
      q_b1 (q_gi w a0 1 21) fun v18 =>
      if v18 = 0 then
        some (1, w)
      else
        lj_MO_readInBlock_17 a0 x1 w
    else
      lj_MO_readInBlock_17 a0 x1 w
set_option maxHeartbeats 4000000 in
set_option maxRecDepth 100000 in
theorem k_MO_readInBlock {X : qX} (r : Int32) (w' : qw) (hC : qC X b_MO_readInBlock R_MO 2 0 0) (hR : qRi X b_MO_readInBlock r w') (w : qw) (a0 : Nat) (x1 : Int32) (hF : f_MO_readInBlock w a0 x1 = some (r, w')) : qG X 2 0 [(0, .inr (some a0)), (1, .inl x1)] [] w := by
  have J_17 : ∀ (a0 : Nat) (x1 : Int32) (w : qw), lj_MO_readInBlock_17  a0 x1 w = some (r, w') → qG X 2 17 [(0, .inr (some a0)), (1, .inl x1)] [] w := by
    intro a0 x1 w hF
    unfold lj_MO_readInBlock_17 at hF
    refine s_iload_n (pc' := 18) hC d_MO_readInBlock_17 rfl 1 rfl ?_
    refine s_if_ne (tgt := 28) (pc' := 21) hC d_MO_readInBlock_18 rfl rfl hF (fun hF => ?_) (fun hF => ?_)
    · refine s_iload_n (pc' := 29) hC d_MO_readInBlock_28 rfl 1 rfl ?_
      refine s_bipush (v := 8) (pc' := 31) hC d_MO_readInBlock_29 rfl (by decide) ?_
      refine s_icmp_gt (tgt := 43) (pc' := 34) hC d_MO_readInBlock_31 rfl rfl hF (fun hF => ?_) (fun hF => ?_)
      · refine s_iconst (v := 2) (pc' := 44) hC d_MO_readInBlock_43 rfl (by decide) ?_
        exact s_iret hC hR d_MO_readInBlock_44 hF
      · refine s_aload_n (pc' := 35) hC d_MO_readInBlock_34 rfl 0 rfl ?_
        refine s_getr (pc' := 38) hC qf_MO_32 d_MO_readInBlock_35 rfl hF (fun r1 hF => ?_)
        refine s_iload_n (pc' := 39) hC d_MO_readInBlock_38 rfl 1 rfl ?_
        refine s_iald (pc' := 40) hC d_MO_readInBlock_39 rfl hF (fun v2 hF => ?_)
        refine s_if_lt (tgt := 45) (pc' := 43) hC d_MO_readInBlock_40 rfl rfl hF (fun hF => ?_) (fun hF => ?_)
        · refine s_aload_n (pc' := 46) hC d_MO_readInBlock_45 rfl 0 rfl ?_
          refine s_getr (pc' := 49) hC qf_MO_32 d_MO_readInBlock_46 rfl hF (fun r3 hF => ?_)
          refine s_iload_n (pc' := 50) hC d_MO_readInBlock_49 rfl 1 rfl ?_
          refine s_aload_n (pc' := 51) hC d_MO_readInBlock_50 rfl 0 rfl ?_
          refine s_geti (pc' := 54) hC qf_MO_83 d_MO_readInBlock_51 rfl hF (fun v4 hF => ?_)
          refine s_iast (pc' := 55) hC d_MO_readInBlock_54 rfl hF (fun w5 hF => ?_)
          refine s_aload_n (pc' := 56) hC d_MO_readInBlock_55 rfl 0 rfl ?_
          refine s_getr (pc' := 59) hC qf_MO_26 d_MO_readInBlock_56 rfl hF (fun r6 hF => ?_)
          refine s_aload_n (pc' := 60) hC d_MO_readInBlock_59 rfl 0 rfl ?_
          refine s_geti (pc' := 63) hC qf_MO_83 d_MO_readInBlock_60 rfl hF (fun v7 hF => ?_)
          refine s_iload_n (pc' := 64) hC d_MO_readInBlock_63 rfl 1 rfl ?_
          refine s_iast (pc' := 65) hC d_MO_readInBlock_64 rfl hF (fun w8 hF => ?_)
          refine s_aload_n (pc' := 66) hC d_MO_readInBlock_65 rfl 0 rfl ?_
          refine s_getr (pc' := 69) hC qf_MO_29 d_MO_readInBlock_66 rfl hF (fun r9 hF => ?_)
          refine s_aload_n (pc' := 70) hC d_MO_readInBlock_69 rfl 0 rfl ?_
          refine s_geti (pc' := 73) hC qf_MO_83 d_MO_readInBlock_70 rfl hF (fun v10 hF => ?_)
          refine s_aload_n (pc' := 74) hC d_MO_readInBlock_73 rfl 0 rfl ?_
          refine s_geti (pc' := 77) hC qf_MO_60 d_MO_readInBlock_74 rfl hF (fun v11 hF => ?_)
          refine s_zast (pc' := 78) hC d_MO_readInBlock_77 rfl hF (fun w12 hF => ?_)
          refine s_aload_n (pc' := 79) hC d_MO_readInBlock_78 rfl 0 rfl ?_
          refine s_dup (pc' := 80) hC d_MO_readInBlock_79 rfl ?_
          refine s_geti (pc' := 83) hC qf_MO_83 d_MO_readInBlock_80 rfl hF (fun v13 hF => ?_)
          refine s_iconst (v := 1) (pc' := 84) hC d_MO_readInBlock_83 rfl (by decide) ?_
          refine s_iadd (pc' := 85) hC d_MO_readInBlock_84 rfl ?_
          refine s_puti (pc' := 88) hC qp_MO_83 d_MO_readInBlock_85 rfl hF (fun w14 hF => ?_)
          refine s_aload_n (pc' := 89) hC d_MO_readInBlock_88 rfl 0 rfl ?_
          refine s_dup (pc' := 90) hC d_MO_readInBlock_89 rfl ?_
          refine s_geti (pc' := 93) hC qf_MO_64 d_MO_readInBlock_90 rfl hF (fun v15 hF => ?_)
          refine s_iconst (v := 1) (pc' := 94) hC d_MO_readInBlock_93 rfl (by decide) ?_
          refine s_iadd (pc' := 95) hC d_MO_readInBlock_94 rfl ?_
          refine s_puti (pc' := 98) hC qp_MO_64 d_MO_readInBlock_95 rfl hF (fun w16 hF => ?_)
          refine s_iconst (v := 0) (pc' := 99) hC d_MO_readInBlock_98 rfl (by decide) ?_
          exact s_iret hC hR d_MO_readInBlock_99 hF
        · refine s_iconst (v := 2) (pc' := 44) hC d_MO_readInBlock_43 rfl (by decide) ?_
          exact s_iret hC hR d_MO_readInBlock_44 hF
    · refine s_aload_n (pc' := 22) hC d_MO_readInBlock_21 rfl 0 rfl ?_
      refine s_iconst (v := 0) (pc' := 23) hC d_MO_readInBlock_22 rfl (by decide) ?_
      refine s_puti (pc' := 26) hC qp_MO_57 d_MO_readInBlock_23 rfl hF (fun w17 hF => ?_)
      refine s_iconst (v := 0) (pc' := 27) hC d_MO_readInBlock_26 rfl (by decide) ?_
      exact s_iret hC hR d_MO_readInBlock_27 hF
  unfold f_MO_readInBlock at hF
  refine s_iload_n (pc' := 1) hC d_MO_readInBlock_0 rfl 1 rfl ?_
  refine s_if_lt (tgt := 15) (pc' := 4) hC d_MO_readInBlock_1 rfl rfl hF (fun hF => ?_) (fun hF => ?_)
  · refine s_iconst (v := 1) (pc' := 16) hC d_MO_readInBlock_15 rfl (by decide) ?_
    exact s_iret hC hR d_MO_readInBlock_16 hF
  · refine s_iload_n (pc' := 5) hC d_MO_readInBlock_4 rfl 1 rfl ?_
    refine s_if_ne (tgt := 17) (pc' := 8) hC d_MO_readInBlock_5 rfl rfl hF (fun hF => ?_) (fun hF => ?_)
    · exact qG_sub [0, 1] rfl (J_17 a0 x1 w hF)
    · refine s_aload_n (pc' := 9) hC d_MO_readInBlock_8 rfl 0 rfl ?_
      refine s_geti (pc' := 12) hC qf_MO_64 d_MO_readInBlock_9 rfl hF (fun v18 hF => ?_)
      refine s_if_ne (tgt := 17) (pc' := 15) hC d_MO_readInBlock_12 rfl rfl hF (fun hF => ?_) (fun hF => ?_)
      · exact qG_sub [0, 1] rfl (J_17 a0 x1 w hF)
      · refine s_iconst (v := 1) (pc' := 16) hC d_MO_readInBlock_15 rfl (by decide) ?_
        exact s_iret hC hR d_MO_readInBlock_16 hF
theorem c_MO_readInBlock (l : Launch) (g : qk_G) (sz : Nat) (w : qw) (a0 : Nat) (x1 : Int32) (r : Int32) (w' : qw) (hF : f_MO_readInBlock w a0 x1 = some (r, w')) : qMi l g sz y_MO_readInBlock b_MO_readInBlock 2 (some .int) 0 0 [.inr (some a0), .inl x1] w r w' := qk_met_i (by decide) (Nat.le_of_ble_eq_true rfl) (fun X hC hR => k_MO_readInBlock r w' hC hR w a0 x1 hF)
def f_MO_other (w : qw) (x0 : Int32) : Option (Int32 × qw) :=
  some (((x0 >>> ((8 : Int32) &&& 31)) &&& 255) ||| ((x0 &&& 255) <<< ((8 : Int32) &&& 31)), w)
set_option maxHeartbeats 4000000 in
set_option maxRecDepth 100000 in
theorem k_MO_other {X : qX} (r : Int32) (w' : qw) (hC : qC X b_MO_other R_MO 1 0 0) (hR : qRi X b_MO_other r w') (w : qw) (x0 : Int32) (hF : f_MO_other w x0 = some (r, w')) : qG X 1 0 [(0, .inl x0)] [] w := by
  unfold f_MO_other at hF
  refine s_iload_n (pc' := 1) hC d_MO_other_0 rfl 0 rfl ?_
  refine s_bipush (v := 8) (pc' := 3) hC d_MO_other_1 rfl (by decide) ?_
  refine s_ishr (pc' := 4) hC d_MO_other_3 rfl ?_
  refine s_sipush (v := 255) (pc' := 7) hC d_MO_other_4 rfl (by decide) ?_
  refine s_iand (pc' := 8) hC d_MO_other_7 rfl ?_
  refine s_iload_n (pc' := 9) hC d_MO_other_8 rfl 0 rfl ?_
  refine s_sipush (v := 255) (pc' := 12) hC d_MO_other_9 rfl (by decide) ?_
  refine s_iand (pc' := 13) hC d_MO_other_12 rfl ?_
  refine s_bipush (v := 8) (pc' := 15) hC d_MO_other_13 rfl (by decide) ?_
  refine s_ishl (pc' := 16) hC d_MO_other_15 rfl ?_
  refine s_ior (pc' := 17) hC d_MO_other_16 rfl ?_
  exact s_iret hC hR d_MO_other_17 hF
theorem c_MO_other (l : Launch) (g : qk_G) (sz : Nat) (w : qw) (x0 : Int32) (r : Int32) (w' : qw) (hF : f_MO_other w x0 = some (r, w')) : qMi l g sz y_MO_other b_MO_other 1 (some .int) 0 0 [.inl x0] w r w' := qk_met_i (by decide) (Nat.le_of_ble_eq_true rfl) (fun X hC hR => k_MO_other r w' hC hR w x0 hF)
def f_MO_bit (w : qw) (x0 : Int32) : Option (Int32 × qw) :=
  if x0 ≤ 0 then
    some ((1 : Int32) <<< (((-x0) + 7) &&& 31), w)
  else
    some ((1 : Int32) <<< ((x0 - 1) &&& 31), w)
set_option maxHeartbeats 4000000 in
set_option maxRecDepth 100000 in
theorem k_MO_bit {X : qX} (r : Int32) (w' : qw) (hC : qC X b_MO_bit R_MO 1 0 0) (hR : qRi X b_MO_bit r w') (w : qw) (x0 : Int32) (hF : f_MO_bit w x0 = some (r, w')) : qG X 1 0 [(0, .inl x0)] [] w := by
  unfold f_MO_bit at hF
  refine s_iload_n (pc' := 1) hC d_MO_bit_0 rfl 0 rfl ?_
  refine s_if_le (tgt := 12) (pc' := 4) hC d_MO_bit_1 rfl rfl hF (fun hF => ?_) (fun hF => ?_)
  · refine s_iconst (v := 1) (pc' := 13) hC d_MO_bit_12 rfl (by decide) ?_
    refine s_iload_n (pc' := 14) hC d_MO_bit_13 rfl 0 rfl ?_
    refine s_ineg (pc' := 15) hC d_MO_bit_14 rfl ?_
    refine s_bipush (v := 7) (pc' := 17) hC d_MO_bit_15 rfl (by decide) ?_
    refine s_iadd (pc' := 18) hC d_MO_bit_17 rfl ?_
    refine s_ishl (pc' := 19) hC d_MO_bit_18 rfl ?_
    exact s_iret hC hR d_MO_bit_19 hF
  · refine s_iconst (v := 1) (pc' := 5) hC d_MO_bit_4 rfl (by decide) ?_
    refine s_iload_n (pc' := 6) hC d_MO_bit_5 rfl 0 rfl ?_
    refine s_iconst (v := 1) (pc' := 7) hC d_MO_bit_6 rfl (by decide) ?_
    refine s_isub (pc' := 8) hC d_MO_bit_7 rfl ?_
    refine s_ishl (pc' := 9) hC d_MO_bit_8 rfl ?_
    refine s_goto (tgt := 19) hC d_MO_bit_9 rfl ?_
    exact s_iret hC hR d_MO_bit_19 hF
theorem c_MO_bit (l : Launch) (g : qk_G) (sz : Nat) (w : qw) (x0 : Int32) (r : Int32) (w' : qw) (hF : f_MO_bit w x0 = some (r, w')) : qMi l g sz y_MO_bit b_MO_bit 1 (some .int) 0 0 [.inl x0] w r w' := qk_met_i (by decide) (Nat.le_of_ble_eq_true rfl) (fun X hC hR => k_MO_bit r w' hC hR w x0 hF)
theorem qf_MO_105 : qF R_MO 105 1 14 := ⟨R_MO, F_MO, 28, rfl, by decide, in_MO, Or.inl fl_MO_105⟩
theorem qf_MO_38 : qF R_MO 38 1 15 := ⟨R_MO, F_MO, 28, rfl, by decide, in_MO, Or.inl fl_MO_38⟩
def lb_MO_stepOf_4  (c4 : Nat → Int32 → Int32 → Int32 → qw → Option (Int32 × qw)) (a0 : Nat) (x1 : Int32) (x2 : Int32) (x3 : Int32) (w : qw) : Option (Int32 × qw) :=
  q_b1 (q_gi w a0 1 14) fun v1 =>
  if v1 ≤ x3 then
    some (x2, w)
  else
    q_b1 (q_gr w a0 1 15) fun r2 =>
    q_b1 (q_ld w r2 0 x3) fun v3 =>
    if v3 = x1 then
      c4 a0 x1 x3 (x3 + 1) w
    else
      c4 a0 x1 x2 (x3 + 1) w
def ll_MO_stepOf_4  : Nat → Nat → Int32 → Int32 → Int32 → qw → Option (Int32 × qw)
  | 0 => fun _ _ _ _ _ => none
  | n + 1 => lb_MO_stepOf_4  (ll_MO_stepOf_4  n)
def f_MO_stepOf (w : qw) (a0 : Nat) (x1 : Int32) : Option (Int32 × qw) :=
  ll_MO_stepOf_4 q_fu a0 x1 (-1) 0 w
set_option maxHeartbeats 4000000 in
set_option maxRecDepth 100000 in
theorem k_MO_stepOf {X : qX} (r : Int32) (w' : qw) (hC : qC X b_MO_stepOf R_MO 4 0 0) (hR : qRi X b_MO_stepOf r w') (w : qw) (a0 : Nat) (x1 : Int32) (hF : f_MO_stepOf w a0 x1 = some (r, w')) : qG X 4 0 [(0, .inr (some a0)), (1, .inl x1)] [] w := by
  have L_4 : ∀ (n : Nat) (a0 : Nat) (x1 : Int32) (x2 : Int32) (x3 : Int32) (w : qw), ll_MO_stepOf_4  n a0 x1 x2 x3 w = some (r, w') → qG X 4 4 [(0, .inr (some a0)), (1, .inl x1), (2, .inl x2), (3, .inl x3)] [] w := by
    intro n_4
    induction n_4 with
    | zero => exact fun _ _ _ _ _ hF => q_nn (show (none : Option (Int32 × qw)) = some (r, w') from hF)
    | succ n_4 ih_4 =>
      intro a0 x1 x2 x3 w hF
      have hF : lb_MO_stepOf_4  (ll_MO_stepOf_4  n_4) a0 x1 x2 x3 w = some (r, w') := hF
      unfold lb_MO_stepOf_4 at hF
      refine s_iload_n (pc' := 5) hC d_MO_stepOf_4 rfl 3 rfl ?_
      refine s_aload_n (pc' := 6) hC d_MO_stepOf_5 rfl 0 rfl ?_
      refine s_geti (pc' := 9) hC qf_MO_105 d_MO_stepOf_6 rfl hF (fun v1 hF => ?_)
      refine s_icmp_ge (tgt := 34) (pc' := 12) hC d_MO_stepOf_9 rfl rfl hF (fun hF => ?_) (fun hF => ?_)
      · refine s_iload_n (pc' := 35) hC d_MO_stepOf_34 rfl 2 rfl ?_
        exact s_iret hC hR d_MO_stepOf_35 hF
      · refine s_aload_n (pc' := 13) hC d_MO_stepOf_12 rfl 0 rfl ?_
        refine s_getr (pc' := 16) hC qf_MO_38 d_MO_stepOf_13 rfl hF (fun r2 hF => ?_)
        refine s_iload_n (pc' := 17) hC d_MO_stepOf_16 rfl 3 rfl ?_
        refine s_iald (pc' := 18) hC d_MO_stepOf_17 rfl hF (fun v3 hF => ?_)
        refine s_iload_n (pc' := 19) hC d_MO_stepOf_18 rfl 1 rfl ?_
        refine s_icmp_ne (tgt := 26) (pc' := 22) hC d_MO_stepOf_19 rfl rfl hF (fun hF => ?_) (fun hF => ?_)
        · refine s_iload_n (pc' := 27) hC d_MO_stepOf_26 rfl 2 rfl ?_
          refine s_istore_n (pc' := 28) (lv' := [(2, .inl x2), (0, .inr (some a0)), (1, .inl x1), (3, .inl x3)]) hC d_MO_stepOf_27 rfl (by decide) rfl ?_
          refine s_iinc (pc' := 31) (n' := 1) (lv' := [(3, .inl (x3 + 1)), (2, .inl x2), (0, .inr (some a0)), (1, .inl x1)]) hC d_MO_stepOf_28 rfl 3 rfl (by decide) (by decide) rfl ?_
          refine s_goto (tgt := 4) hC d_MO_stepOf_31 rfl ?_
          exact qG_sub [2, 3, 1, 0] rfl (ih_4 a0 x1 x2 (x3 + 1) w hF)
        · refine s_iload_n (pc' := 23) hC d_MO_stepOf_22 rfl 3 rfl ?_
          refine s_goto (tgt := 27) hC d_MO_stepOf_23 rfl ?_
          refine s_istore_n (pc' := 28) (lv' := [(2, .inl x3), (0, .inr (some a0)), (1, .inl x1), (3, .inl x3)]) hC d_MO_stepOf_27 rfl (by decide) rfl ?_
          refine s_iinc (pc' := 31) (n' := 1) (lv' := [(3, .inl (x3 + 1)), (2, .inl x3), (0, .inr (some a0)), (1, .inl x1)]) hC d_MO_stepOf_28 rfl 3 rfl (by decide) (by decide) rfl ?_
          refine s_goto (tgt := 4) hC d_MO_stepOf_31 rfl ?_
          exact qG_sub [2, 3, 1, 0] rfl (ih_4 a0 x1 x3 (x3 + 1) w hF)
  unfold f_MO_stepOf at hF
  refine s_iconst (v := (-1)) (pc' := 1) hC d_MO_stepOf_0 rfl (by decide) ?_
  refine s_istore_n (pc' := 2) (lv' := [(2, .inl (-1)), (0, .inr (some a0)), (1, .inl x1)]) hC d_MO_stepOf_1 rfl (by decide) rfl ?_
  refine s_iconst (v := 0) (pc' := 3) hC d_MO_stepOf_2 rfl (by decide) ?_
  refine s_istore_n (pc' := 4) (lv' := [(3, .inl 0), (2, .inl (-1)), (0, .inr (some a0)), (1, .inl x1)]) hC d_MO_stepOf_3 rfl (by decide) rfl ?_
  exact qG_sub [2, 3, 1, 0] rfl (L_4 q_fu a0 x1 (-1) 0 w hF)
theorem c_MO_stepOf (l : Launch) (g : qk_G) (sz : Nat) (w : qw) (a0 : Nat) (x1 : Int32) (r : Int32) (w' : qw) (hF : f_MO_stepOf w a0 x1 = some (r, w')) : qMi l g sz y_MO_stepOf b_MO_stepOf 4 (some .int) 0 0 [.inr (some a0), .inl x1] w r w' := qk_met_i (by decide) (Nat.le_of_ble_eq_true rfl) (fun X hC hR => k_MO_stepOf r w' hC hR w a0 x1 hF)
theorem qf_MO_20 : qF R_MO 20 1 5 := ⟨R_MO, F_MO, 28, rfl, by decide, in_MO, Or.inl fl_MO_20⟩
def f_MO_isVariable (w : qw) (a0 : Nat) (x1 : Int32) : Option (Int32 × qw) :=
  if x1 < (-8) then
    q_ob (q_z 0) (some (0, w))
  else
    if 8 < x1 then
      q_ob (q_z 0) (some (0, w))
    else
      q_b1 (q_gr w a0 1 5) fun r1 =>
      if 0 ≤ x1 then
        q_b1 (q_ld w r1 0 x1) fun v2 =>
        if v2 < 0 then
          q_ob (q_z 0) (some (0, w))
        else
          q_ob (q_z 1) (some (1, w))
      else
        q_b1 (q_ld w r1 0 (-x1)) fun v3 =>
        if v3 < 0 then
          q_ob (q_z 0) (some (0, w))
        else
          q_ob (q_z 1) (some (1, w))
set_option maxHeartbeats 4000000 in
set_option maxRecDepth 100000 in
theorem k_MO_isVariable {X : qX} (r : Int32) (w' : qw) (hC : qC X b_MO_isVariable R_MO 2 0 0) (hR : qRz X b_MO_isVariable r w') (w : qw) (a0 : Nat) (x1 : Int32) (hF : f_MO_isVariable w a0 x1 = some (r, w')) : qG X 2 0 [(0, .inr (some a0)), (1, .inl x1)] [] w := by
  unfold f_MO_isVariable at hF
  refine s_iload_n (pc' := 1) hC d_MO_isVariable_0 rfl 1 rfl ?_
  refine s_bipush (v := (-8)) (pc' := 3) hC d_MO_isVariable_1 rfl (by decide) ?_
  refine s_icmp_lt (tgt := 34) (pc' := 6) hC d_MO_isVariable_3 rfl rfl hF (fun hF => ?_) (fun hF => ?_)
  · refine s_iconst (v := 0) (pc' := 35) hC d_MO_isVariable_34 rfl (by decide) ?_
    exact s_zret hC hR d_MO_isVariable_35 hF
  · refine s_iload_n (pc' := 7) hC d_MO_isVariable_6 rfl 1 rfl ?_
    refine s_bipush (v := 8) (pc' := 9) hC d_MO_isVariable_7 rfl (by decide) ?_
    refine s_icmp_gt (tgt := 34) (pc' := 12) hC d_MO_isVariable_9 rfl rfl hF (fun hF => ?_) (fun hF => ?_)
    · refine s_iconst (v := 0) (pc' := 35) hC d_MO_isVariable_34 rfl (by decide) ?_
      exact s_zret hC hR d_MO_isVariable_35 hF
    · refine s_aload_n (pc' := 13) hC d_MO_isVariable_12 rfl 0 rfl ?_
      refine s_getr (pc' := 16) hC qf_MO_20 d_MO_isVariable_13 rfl hF (fun r1 hF => ?_)
      refine s_iload_n (pc' := 17) hC d_MO_isVariable_16 rfl 1 rfl ?_
      refine s_if_ge (tgt := 25) (pc' := 20) hC d_MO_isVariable_17 rfl rfl hF (fun hF => ?_) (fun hF => ?_)
      · refine s_iload_n (pc' := 26) hC d_MO_isVariable_25 rfl 1 rfl ?_
        refine s_iald (pc' := 27) hC d_MO_isVariable_26 rfl hF (fun v2 hF => ?_)
        refine s_if_lt (tgt := 34) (pc' := 30) hC d_MO_isVariable_27 rfl rfl hF (fun hF => ?_) (fun hF => ?_)
        · refine s_iconst (v := 0) (pc' := 35) hC d_MO_isVariable_34 rfl (by decide) ?_
          exact s_zret hC hR d_MO_isVariable_35 hF
        · refine s_iconst (v := 1) (pc' := 31) hC d_MO_isVariable_30 rfl (by decide) ?_
          refine s_goto (tgt := 35) hC d_MO_isVariable_31 rfl ?_
          exact s_zret hC hR d_MO_isVariable_35 hF
      · refine s_iload_n (pc' := 21) hC d_MO_isVariable_20 rfl 1 rfl ?_
        refine s_ineg (pc' := 22) hC d_MO_isVariable_21 rfl ?_
        refine s_goto (tgt := 26) hC d_MO_isVariable_22 rfl ?_
        refine s_iald (pc' := 27) hC d_MO_isVariable_26 rfl hF (fun v3 hF => ?_)
        refine s_if_lt (tgt := 34) (pc' := 30) hC d_MO_isVariable_27 rfl rfl hF (fun hF => ?_) (fun hF => ?_)
        · refine s_iconst (v := 0) (pc' := 35) hC d_MO_isVariable_34 rfl (by decide) ?_
          exact s_zret hC hR d_MO_isVariable_35 hF
        · refine s_iconst (v := 1) (pc' := 31) hC d_MO_isVariable_30 rfl (by decide) ?_
          refine s_goto (tgt := 35) hC d_MO_isVariable_31 rfl ?_
          exact s_zret hC hR d_MO_isVariable_35 hF
theorem c_MO_isVariable (l : Launch) (g : qk_G) (sz : Nat) (w : qw) (a0 : Nat) (x1 : Int32) (r : Int32) (w' : qw) (hF : f_MO_isVariable w a0 x1 = some (r, w')) : qMi l g sz y_MO_isVariable b_MO_isVariable 2 (some .boolean) 0 0 [.inr (some a0), .inl x1] w r w' := qk_met_z (by decide) (Nat.le_of_ble_eq_true rfl) (fun X hC hR => k_MO_isVariable r w' hC hR w a0 x1 hF)
theorem qf_MO_23 : qF R_MO 23 1 7 := ⟨R_MO, F_MO, 28, rfl, by decide, in_MO, Or.inl fl_MO_23⟩
theorem qf_MO_71 : qF R_MO 71 1 22 := ⟨R_MO, F_MO, 28, rfl, by decide, in_MO, Or.inl fl_MO_71⟩
theorem qf_MO_102 : qF R_MO 102 1 6 := ⟨R_MO, F_MO, 28, rfl, by decide, in_MO, Or.inl fl_MO_102⟩
theorem qf_MO_108 : qF R_MO 108 1 24 := ⟨R_MO, F_MO, 28, rfl, by decide, in_MO, Or.inl fl_MO_108⟩
theorem qs_MO_77 : qS R_MO 77 y_MO_other b_MO_other 1 (some .int) 1 := ⟨Or.inl ml_MO_77, ic_MO_other, is_MO_other, in_c_MO, by decide +kernel⟩
def lj_MO_isFirst_36  (c6 : Nat → Int32 → Int32 → Int32 → qw → Option (Int32 × qw)) (a0 : Nat) (x2 : Int32) (x3 : Int32) (s0 : Int32) (w : qw) : Option (Int32 × qw) :=
  if x2 = 0 then
    c6 a0 s0 0 (x3 + 1) w
  else
    q_b1 (q_gr w a0 1 7) fun r1 =>
    q_b1 (q_ld w r1 0 x3) fun v2 =>
    q_b1 (q_gi w a0 1 22) fun v3 =>
    if (v2 &&& v3) = 0 then
      c6 a0 s0 0 (x3 + 1) w
    else
      c6 a0 s0 1 (x3 + 1) w
def lb_MO_isFirst_6  (c6 : Nat → Int32 → Int32 → Int32 → qw → Option (Int32 × qw)) (a0 : Nat) (x1 : Int32) (x2 : Int32) (x3 : Int32) (w : qw) : Option (Int32 × qw) :=
  q_b1 (q_gi w a0 1 6) fun v4 =>
  if v4 ≤ x3 then
    q_b1 (q_gi w a0 1 24) fun v5 =>
    if v5 = 0 then
      q_ob (q_z x1) (some (x1, w))
    else
      if x2 = 0 then
        q_ob (q_z 0) (some (0, w))
      else
        q_b1 (q_gi w a0 1 22) fun v6 =>
        q_b1 (q_gi w a0 1 22) fun v7 =>
        q_b2 (f_MO_other w v7) fun v9 w8 =>
        if (v6 &&& v9) = 0 then
          q_ob (q_z 1) (some (1, w8))
        else
          q_ob (q_z 0) (some (0, w8))
  else
    if x1 = 0 then
      q_b1 (q_gr w a0 1 7) fun r10 =>
      q_b1 (q_ld w r10 0 x3) fun v11 =>
      q_b1 (q_gi w a0 1 22) fun v12 =>
      if v11 = v12 then
        lj_MO_isFirst_36 c6 a0 x2 x3 1 w
      else
        lj_MO_isFirst_36 c6 a0 x2 x3 0 w
    else
      lj_MO_isFirst_36 c6 a0 x2 x3 1 w
def ll_MO_isFirst_6  : Nat → Nat → Int32 → Int32 → Int32 → qw → Option (Int32 × qw)
  | 0 => fun _ _ _ _ _ => none
  | n + 1 => lb_MO_isFirst_6  (ll_MO_isFirst_6  n)
def f_MO_isFirst (w : qw) (a0 : Nat) : Option (Int32 × qw) :=
  ll_MO_isFirst_6 q_fu a0 0 1 0 w
set_option maxHeartbeats 4000000 in
set_option maxRecDepth 100000 in
theorem k_MO_isFirst {X : qX} (r : Int32) (w' : qw) (hC : qC X b_MO_isFirst R_MO 4 1 20) (hR : qRz X b_MO_isFirst r w') (w : qw) (a0 : Nat) (hF : f_MO_isFirst w a0 = some (r, w')) : qG X 4 0 [(0, .inr (some a0))] [] w := by
  have L_6 : ∀ (n : Nat) (a0 : Nat) (x1 : Int32) (x2 : Int32) (x3 : Int32) (w : qw), ll_MO_isFirst_6  n a0 x1 x2 x3 w = some (r, w') → qG X 4 6 [(0, .inr (some a0)), (1, .inl x1), (2, .inl x2), (3, .inl x3)] [] w := by
    intro n_6
    induction n_6 with
    | zero => exact fun _ _ _ _ _ hF => q_nn (show (none : Option (Int32 × qw)) = some (r, w') from hF)
    | succ n_6 ih_6 =>
      intro a0 x1 x2 x3 w hF
      have hF : lb_MO_isFirst_6  (ll_MO_isFirst_6  n_6) a0 x1 x2 x3 w = some (r, w') := hF
      unfold lb_MO_isFirst_6 at hF
      have J_36 : ∀ (a0 : Nat) (x2 : Int32) (x3 : Int32) (s0 : Int32) (w : qw), lj_MO_isFirst_36  (ll_MO_isFirst_6  n_6) a0 x2 x3 s0 w = some (r, w') → qG X 4 36 [(0, .inr (some a0)), (2, .inl x2), (3, .inl x3)] [.inl s0] w := by
        intro a0 x2 x3 s0 w hF
        unfold lj_MO_isFirst_36 at hF
        refine s_istore_n (pc' := 37) (lv' := [(1, .inl s0), (0, .inr (some a0)), (2, .inl x2), (3, .inl x3)]) hC d_MO_isFirst_36 rfl (by decide) rfl ?_
        refine s_iload_n (pc' := 38) hC d_MO_isFirst_37 rfl 2 rfl ?_
        refine s_if_eq (tgt := 59) (pc' := 41) hC d_MO_isFirst_38 rfl rfl hF (fun hF => ?_) (fun hF => ?_)
        · refine s_iconst (v := 0) (pc' := 60) hC d_MO_isFirst_59 rfl (by decide) ?_
          refine s_istore_n (pc' := 61) (lv' := [(2, .inl 0), (1, .inl s0), (0, .inr (some a0)), (3, .inl x3)]) hC d_MO_isFirst_60 rfl (by decide) rfl ?_
          refine s_iinc (pc' := 64) (n' := 1) (lv' := [(3, .inl (x3 + 1)), (2, .inl 0), (1, .inl s0), (0, .inr (some a0))]) hC d_MO_isFirst_61 rfl 3 rfl (by decide) (by decide) rfl ?_
          refine s_goto (tgt := 6) hC d_MO_isFirst_64 rfl ?_
          exact qG_sub [3, 2, 1, 0] rfl (ih_6 a0 s0 0 (x3 + 1) w hF)
        · refine s_aload_n (pc' := 42) hC d_MO_isFirst_41 rfl 1 rfl ?_
          refine s_getr (pc' := 45) hC qf_MO_23 d_MO_isFirst_42 rfl hF (fun r1 hF => ?_)
          refine s_iload_n (pc' := 46) hC d_MO_isFirst_45 rfl 3 rfl ?_
          refine s_iald (pc' := 47) hC d_MO_isFirst_46 rfl hF (fun v2 hF => ?_)
          refine s_aload_n (pc' := 48) hC d_MO_isFirst_47 rfl 1 rfl ?_
          refine s_geti (pc' := 51) hC qf_MO_71 d_MO_isFirst_48 rfl hF (fun v3 hF => ?_)
          refine s_iand (pc' := 52) hC d_MO_isFirst_51 rfl ?_
          refine s_if_eq (tgt := 59) (pc' := 55) hC d_MO_isFirst_52 rfl rfl hF (fun hF => ?_) (fun hF => ?_)
          · refine s_iconst (v := 0) (pc' := 60) hC d_MO_isFirst_59 rfl (by decide) ?_
            refine s_istore_n (pc' := 61) (lv' := [(2, .inl 0), (1, .inl s0), (0, .inr (some a0)), (3, .inl x3)]) hC d_MO_isFirst_60 rfl (by decide) rfl ?_
            refine s_iinc (pc' := 64) (n' := 1) (lv' := [(3, .inl (x3 + 1)), (2, .inl 0), (1, .inl s0), (0, .inr (some a0))]) hC d_MO_isFirst_61 rfl 3 rfl (by decide) (by decide) rfl ?_
            refine s_goto (tgt := 6) hC d_MO_isFirst_64 rfl ?_
            exact qG_sub [3, 2, 1, 0] rfl (ih_6 a0 s0 0 (x3 + 1) w hF)
          · refine s_iconst (v := 1) (pc' := 56) hC d_MO_isFirst_55 rfl (by decide) ?_
            refine s_goto (tgt := 60) hC d_MO_isFirst_56 rfl ?_
            refine s_istore_n (pc' := 61) (lv' := [(2, .inl 1), (1, .inl s0), (0, .inr (some a0)), (3, .inl x3)]) hC d_MO_isFirst_60 rfl (by decide) rfl ?_
            refine s_iinc (pc' := 64) (n' := 1) (lv' := [(3, .inl (x3 + 1)), (2, .inl 1), (1, .inl s0), (0, .inr (some a0))]) hC d_MO_isFirst_61 rfl 3 rfl (by decide) (by decide) rfl ?_
            refine s_goto (tgt := 6) hC d_MO_isFirst_64 rfl ?_
            exact qG_sub [3, 2, 1, 0] rfl (ih_6 a0 s0 1 (x3 + 1) w hF)
      refine s_iload_n (pc' := 7) hC d_MO_isFirst_6 rfl 3 rfl ?_
      refine s_aload_n (pc' := 8) hC d_MO_isFirst_7 rfl 0 rfl ?_
      refine s_geti (pc' := 11) hC qf_MO_102 d_MO_isFirst_8 rfl hF (fun v4 hF => ?_)
      refine s_icmp_ge (tgt := 67) (pc' := 14) hC d_MO_isFirst_11 rfl rfl hF (fun hF => ?_) (fun hF => ?_)
      · refine s_aload_n (pc' := 68) hC d_MO_isFirst_67 rfl 0 rfl ?_
        refine s_geti (pc' := 71) hC qf_MO_108 d_MO_isFirst_68 rfl hF (fun v5 hF => ?_)
        refine s_if_eq (tgt := 101) (pc' := 74) hC d_MO_isFirst_71 rfl rfl hF (fun hF => ?_) (fun hF => ?_)
        · refine s_iload_n (pc' := 102) hC d_MO_isFirst_101 rfl 1 rfl ?_
          exact s_zret hC hR d_MO_isFirst_102 hF
        · refine s_iload_n (pc' := 75) hC d_MO_isFirst_74 rfl 2 rfl ?_
          refine s_if_eq (tgt := 97) (pc' := 78) hC d_MO_isFirst_75 rfl rfl hF (fun hF => ?_) (fun hF => ?_)
          · refine s_iconst (v := 0) (pc' := 98) hC d_MO_isFirst_97 rfl (by decide) ?_
            refine s_goto (tgt := 102) hC d_MO_isFirst_98 rfl ?_
            exact s_zret hC hR d_MO_isFirst_102 hF
          · refine s_aload_n (pc' := 79) hC d_MO_isFirst_78 rfl 0 rfl ?_
            refine s_geti (pc' := 82) hC qf_MO_71 d_MO_isFirst_79 rfl hF (fun v6 hF => ?_)
            refine s_aload_n (pc' := 83) hC d_MO_isFirst_82 rfl 0 rfl ?_
            refine s_geti (pc' := 86) hC qf_MO_71 d_MO_isFirst_83 rfl hF (fun v7 hF => ?_)
            refine s_cSi (pc' := 89) (As := [.inl v7]) (rs := [.inl v6]) (fr' := 0) (lo' := 0) hC qs_MO_77 rfl rfl (Nat.le_of_ble_eq_true rfl) ⟨by decide, by decide⟩ d_MO_isFirst_86 rfl (fun l g sz r w' h => c_MO_other l g sz w v7 r w' h) hF (fun v9 w8 hF => ?_)
            refine s_iand (pc' := 90) hC d_MO_isFirst_89 rfl ?_
            refine s_if_ne (tgt := 97) (pc' := 93) hC d_MO_isFirst_90 rfl rfl hF (fun hF => ?_) (fun hF => ?_)
            · refine s_iconst (v := 0) (pc' := 98) hC d_MO_isFirst_97 rfl (by decide) ?_
              refine s_goto (tgt := 102) hC d_MO_isFirst_98 rfl ?_
              exact s_zret hC hR d_MO_isFirst_102 hF
            · refine s_iconst (v := 1) (pc' := 94) hC d_MO_isFirst_93 rfl (by decide) ?_
              refine s_goto (tgt := 102) hC d_MO_isFirst_94 rfl ?_
              exact s_zret hC hR d_MO_isFirst_102 hF
      · refine s_iload_n (pc' := 15) hC d_MO_isFirst_14 rfl 1 rfl ?_
        refine s_if_ne (tgt := 31) (pc' := 18) hC d_MO_isFirst_15 rfl rfl hF (fun hF => ?_) (fun hF => ?_)
        · refine s_iconst (v := 1) (pc' := 32) hC d_MO_isFirst_31 rfl (by decide) ?_
          refine s_goto (tgt := 36) hC d_MO_isFirst_32 rfl ?_
          exact qG_sub [0, 2, 3] rfl (J_36 a0 x2 x3 1 w hF)
        · refine s_aload_n (pc' := 19) hC d_MO_isFirst_18 rfl 0 rfl ?_
          refine s_getr (pc' := 22) hC qf_MO_23 d_MO_isFirst_19 rfl hF (fun r10 hF => ?_)
          refine s_iload_n (pc' := 23) hC d_MO_isFirst_22 rfl 3 rfl ?_
          refine s_iald (pc' := 24) hC d_MO_isFirst_23 rfl hF (fun v11 hF => ?_)
          refine s_aload_n (pc' := 25) hC d_MO_isFirst_24 rfl 0 rfl ?_
          refine s_geti (pc' := 28) hC qf_MO_71 d_MO_isFirst_25 rfl hF (fun v12 hF => ?_)
          refine s_icmp_ne (tgt := 35) (pc' := 31) hC d_MO_isFirst_28 rfl rfl hF (fun hF => ?_) (fun hF => ?_)
          · refine s_iconst (v := 0) (pc' := 36) hC d_MO_isFirst_35 rfl (by decide) ?_
            exact qG_sub [0, 2, 3] rfl (J_36 a0 x2 x3 0 w hF)
          · refine s_iconst (v := 1) (pc' := 32) hC d_MO_isFirst_31 rfl (by decide) ?_
            refine s_goto (tgt := 36) hC d_MO_isFirst_32 rfl ?_
            exact qG_sub [0, 2, 3] rfl (J_36 a0 x2 x3 1 w hF)
  unfold f_MO_isFirst at hF
  refine s_iconst (v := 0) (pc' := 1) hC d_MO_isFirst_0 rfl (by decide) ?_
  refine s_istore_n (pc' := 2) (lv' := [(1, .inl 0), (0, .inr (some a0))]) hC d_MO_isFirst_1 rfl (by decide) rfl ?_
  refine s_iconst (v := 1) (pc' := 3) hC d_MO_isFirst_2 rfl (by decide) ?_
  refine s_istore_n (pc' := 4) (lv' := [(2, .inl 1), (1, .inl 0), (0, .inr (some a0))]) hC d_MO_isFirst_3 rfl (by decide) rfl ?_
  refine s_iconst (v := 0) (pc' := 5) hC d_MO_isFirst_4 rfl (by decide) ?_
  refine s_istore_n (pc' := 6) (lv' := [(3, .inl 0), (2, .inl 1), (1, .inl 0), (0, .inr (some a0))]) hC d_MO_isFirst_5 rfl (by decide) rfl ?_
  exact qG_sub [3, 2, 1, 0] rfl (L_6 q_fu a0 0 1 0 w hF)
theorem c_MO_isFirst (l : Launch) (g : qk_G) (sz : Nat) (w : qw) (a0 : Nat) (r : Int32) (w' : qw) (hF : f_MO_isFirst w a0 = some (r, w')) : qMi l g sz y_MO_isFirst b_MO_isFirst 4 (some .boolean) 1 20 [.inr (some a0)] w r w' := qk_met_z (by decide) (Nat.le_of_ble_eq_true rfl) (fun X hC hR => k_MO_isFirst r w' hC hR w a0 hF)
def f_MO_hasWay (w : qw) (x0 : Int32) (x1 : Int32) : Option (Int32 × qw) :=
  if ((x0 >>> ((x1 - 1) &&& 31)) &&& 1) = 1 then
    q_ob (q_z 1) (some (1, w))
  else
    if ((x0 >>> ((x1 + 7) &&& 31)) &&& 1) = 1 then
      q_ob (q_z 1) (some (1, w))
    else
      q_ob (q_z 0) (some (0, w))
set_option maxHeartbeats 4000000 in
set_option maxRecDepth 100000 in
theorem k_MO_hasWay {X : qX} (r : Int32) (w' : qw) (hC : qC X b_MO_hasWay R_MO 2 0 0) (hR : qRz X b_MO_hasWay r w') (w : qw) (x0 : Int32) (x1 : Int32) (hF : f_MO_hasWay w x0 x1 = some (r, w')) : qG X 2 0 [(0, .inl x0), (1, .inl x1)] [] w := by
  unfold f_MO_hasWay at hF
  refine s_iload_n (pc' := 1) hC d_MO_hasWay_0 rfl 0 rfl ?_
  refine s_iload_n (pc' := 2) hC d_MO_hasWay_1 rfl 1 rfl ?_
  refine s_iconst (v := 1) (pc' := 3) hC d_MO_hasWay_2 rfl (by decide) ?_
  refine s_isub (pc' := 4) hC d_MO_hasWay_3 rfl ?_
  refine s_ishr (pc' := 5) hC d_MO_hasWay_4 rfl ?_
  refine s_iconst (v := 1) (pc' := 6) hC d_MO_hasWay_5 rfl (by decide) ?_
  refine s_iand (pc' := 7) hC d_MO_hasWay_6 rfl ?_
  refine s_iconst (v := 1) (pc' := 8) hC d_MO_hasWay_7 rfl (by decide) ?_
  refine s_icmp_eq (tgt := 23) (pc' := 11) hC d_MO_hasWay_8 rfl rfl hF (fun hF => ?_) (fun hF => ?_)
  · refine s_iconst (v := 1) (pc' := 24) hC d_MO_hasWay_23 rfl (by decide) ?_
    refine s_goto (tgt := 28) hC d_MO_hasWay_24 rfl ?_
    exact s_zret hC hR d_MO_hasWay_28 hF
  · refine s_iload_n (pc' := 12) hC d_MO_hasWay_11 rfl 0 rfl ?_
    refine s_iload_n (pc' := 13) hC d_MO_hasWay_12 rfl 1 rfl ?_
    refine s_bipush (v := 7) (pc' := 15) hC d_MO_hasWay_13 rfl (by decide) ?_
    refine s_iadd (pc' := 16) hC d_MO_hasWay_15 rfl ?_
    refine s_ishr (pc' := 17) hC d_MO_hasWay_16 rfl ?_
    refine s_iconst (v := 1) (pc' := 18) hC d_MO_hasWay_17 rfl (by decide) ?_
    refine s_iand (pc' := 19) hC d_MO_hasWay_18 rfl ?_
    refine s_iconst (v := 1) (pc' := 20) hC d_MO_hasWay_19 rfl (by decide) ?_
    refine s_icmp_ne (tgt := 27) (pc' := 23) hC d_MO_hasWay_20 rfl rfl hF (fun hF => ?_) (fun hF => ?_)
    · refine s_iconst (v := 0) (pc' := 28) hC d_MO_hasWay_27 rfl (by decide) ?_
      exact s_zret hC hR d_MO_hasWay_28 hF
    · refine s_iconst (v := 1) (pc' := 24) hC d_MO_hasWay_23 rfl (by decide) ?_
      refine s_goto (tgt := 28) hC d_MO_hasWay_24 rfl ?_
      exact s_zret hC hR d_MO_hasWay_28 hF
theorem c_MO_hasWay (l : Launch) (g : qk_G) (sz : Nat) (w : qw) (x0 : Int32) (x1 : Int32) (r : Int32) (w' : qw) (hF : f_MO_hasWay w x0 x1 = some (r, w')) : qMi l g sz y_MO_hasWay b_MO_hasWay 2 (some .boolean) 0 0 [.inl x0, .inl x1] w r w' := qk_met_z (by decide) (Nat.le_of_ble_eq_true rfl) (fun X hC hR => k_MO_hasWay r w' hC hR w x0 x1 hF)
theorem qf_MO_16 : qF R_MO 16 1 4 := ⟨R_MO, F_MO, 28, rfl, by decide, in_MO, Or.inl fl_MO_16⟩
def f_MO_isMain (w : qw) (a0 : Nat) (x1 : Int32) : Option (Int32 × qw) :=
  q_b1 (q_gr w a0 1 4) fun r1 =>
  q_b1 (q_gr w a0 1 5) fun r2 =>
  q_b1 (q_ld w r2 0 x1) fun v3 =>
  q_b1 (q_ld w r1 2 v3) fun v4 =>
  q_b1 (q_gi w a0 1 24) fun v5 =>
  if v4 = v5 then
    q_ob (q_z 1) (some (1, w))
  else
    q_ob (q_z 0) (some (0, w))
set_option maxHeartbeats 4000000 in
set_option maxRecDepth 100000 in
theorem k_MO_isMain {X : qX} (r : Int32) (w' : qw) (hC : qC X b_MO_isMain R_MO 2 0 0) (hR : qRz X b_MO_isMain r w') (w : qw) (a0 : Nat) (x1 : Int32) (hF : f_MO_isMain w a0 x1 = some (r, w')) : qG X 2 0 [(0, .inr (some a0)), (1, .inl x1)] [] w := by
  unfold f_MO_isMain at hF
  refine s_aload_n (pc' := 1) hC d_MO_isMain_0 rfl 0 rfl ?_
  refine s_getr (pc' := 4) hC qf_MO_16 d_MO_isMain_1 rfl hF (fun r1 hF => ?_)
  refine s_aload_n (pc' := 5) hC d_MO_isMain_4 rfl 0 rfl ?_
  refine s_getr (pc' := 8) hC qf_MO_20 d_MO_isMain_5 rfl hF (fun r2 hF => ?_)
  refine s_iload_n (pc' := 9) hC d_MO_isMain_8 rfl 1 rfl ?_
  refine s_iald (pc' := 10) hC d_MO_isMain_9 rfl hF (fun v3 hF => ?_)
  refine s_zald (pc' := 11) hC d_MO_isMain_10 rfl hF (fun v4 hF => ?_)
  refine s_aload_n (pc' := 12) hC d_MO_isMain_11 rfl 0 rfl ?_
  refine s_geti (pc' := 15) hC qf_MO_108 d_MO_isMain_12 rfl hF (fun v5 hF => ?_)
  refine s_icmp_ne (tgt := 22) (pc' := 18) hC d_MO_isMain_15 rfl rfl hF (fun hF => ?_) (fun hF => ?_)
  · refine s_iconst (v := 0) (pc' := 23) hC d_MO_isMain_22 rfl (by decide) ?_
    exact s_zret hC hR d_MO_isMain_23 hF
  · refine s_iconst (v := 1) (pc' := 19) hC d_MO_isMain_18 rfl (by decide) ?_
    refine s_goto (tgt := 23) hC d_MO_isMain_19 rfl ?_
    exact s_zret hC hR d_MO_isMain_23 hF
theorem c_MO_isMain (l : Launch) (g : qk_G) (sz : Nat) (w : qw) (a0 : Nat) (x1 : Int32) (r : Int32) (w' : qw) (hF : f_MO_isMain w a0 x1 = some (r, w')) : qMi l g sz y_MO_isMain b_MO_isMain 2 (some .boolean) 0 0 [.inr (some a0), .inl x1] w r w' := qk_met_z (by decide) (Nat.le_of_ble_eq_true rfl) (fun X hC hR => k_MO_isMain r w' hC hR w a0 x1 hF)
def f_MO_hasBoth (w : qw) (x0 : Int32) (x1 : Int32) : Option (Int32 × qw) :=
  if ((x0 >>> ((x1 - 1) &&& 31)) &&& 1) = 1 then
    if ((x0 >>> ((x1 + 7) &&& 31)) &&& 1) = 1 then
      q_ob (q_z 1) (some (1, w))
    else
      q_ob (q_z 0) (some (0, w))
  else
    q_ob (q_z 0) (some (0, w))
set_option maxHeartbeats 4000000 in
set_option maxRecDepth 100000 in
theorem k_MO_hasBoth {X : qX} (r : Int32) (w' : qw) (hC : qC X b_MO_hasBoth R_MO 2 0 0) (hR : qRz X b_MO_hasBoth r w') (w : qw) (x0 : Int32) (x1 : Int32) (hF : f_MO_hasBoth w x0 x1 = some (r, w')) : qG X 2 0 [(0, .inl x0), (1, .inl x1)] [] w := by
  unfold f_MO_hasBoth at hF
  refine s_iload_n (pc' := 1) hC d_MO_hasBoth_0 rfl 0 rfl ?_
  refine s_iload_n (pc' := 2) hC d_MO_hasBoth_1 rfl 1 rfl ?_
  refine s_iconst (v := 1) (pc' := 3) hC d_MO_hasBoth_2 rfl (by decide) ?_
  refine s_isub (pc' := 4) hC d_MO_hasBoth_3 rfl ?_
  refine s_ishr (pc' := 5) hC d_MO_hasBoth_4 rfl ?_
  refine s_iconst (v := 1) (pc' := 6) hC d_MO_hasBoth_5 rfl (by decide) ?_
  refine s_iand (pc' := 7) hC d_MO_hasBoth_6 rfl ?_
  refine s_iconst (v := 1) (pc' := 8) hC d_MO_hasBoth_7 rfl (by decide) ?_
  refine s_icmp_ne (tgt := 27) (pc' := 11) hC d_MO_hasBoth_8 rfl rfl hF (fun hF => ?_) (fun hF => ?_)
  · refine s_iconst (v := 0) (pc' := 28) hC d_MO_hasBoth_27 rfl (by decide) ?_
    exact s_zret hC hR d_MO_hasBoth_28 hF
  · refine s_iload_n (pc' := 12) hC d_MO_hasBoth_11 rfl 0 rfl ?_
    refine s_iload_n (pc' := 13) hC d_MO_hasBoth_12 rfl 1 rfl ?_
    refine s_bipush (v := 7) (pc' := 15) hC d_MO_hasBoth_13 rfl (by decide) ?_
    refine s_iadd (pc' := 16) hC d_MO_hasBoth_15 rfl ?_
    refine s_ishr (pc' := 17) hC d_MO_hasBoth_16 rfl ?_
    refine s_iconst (v := 1) (pc' := 18) hC d_MO_hasBoth_17 rfl (by decide) ?_
    refine s_iand (pc' := 19) hC d_MO_hasBoth_18 rfl ?_
    refine s_iconst (v := 1) (pc' := 20) hC d_MO_hasBoth_19 rfl (by decide) ?_
    refine s_icmp_ne (tgt := 27) (pc' := 23) hC d_MO_hasBoth_20 rfl rfl hF (fun hF => ?_) (fun hF => ?_)
    · refine s_iconst (v := 0) (pc' := 28) hC d_MO_hasBoth_27 rfl (by decide) ?_
      exact s_zret hC hR d_MO_hasBoth_28 hF
    · refine s_iconst (v := 1) (pc' := 24) hC d_MO_hasBoth_23 rfl (by decide) ?_
      refine s_goto (tgt := 28) hC d_MO_hasBoth_24 rfl ?_
      exact s_zret hC hR d_MO_hasBoth_28 hF
theorem c_MO_hasBoth (l : Launch) (g : qk_G) (sz : Nat) (w : qw) (x0 : Int32) (x1 : Int32) (r : Int32) (w' : qw) (hF : f_MO_hasBoth w x0 x1 = some (r, w')) : qMi l g sz y_MO_hasBoth b_MO_hasBoth 2 (some .boolean) 0 0 [.inl x0, .inl x1] w r w' := qk_met_z (by decide) (Nat.le_of_ble_eq_true rfl) (fun X hC hR => k_MO_hasBoth r w' hC hR w x0 x1 hF)
theorem qp_MO_120 : qP R_MO 120 1 26 .int := ⟨R_MO, F_MO, 28, t_MO, rfl, by decide, in_MO, Or.inl fl_MO_120, t_MO_ok, n_MO, rfl, by decide +kernel⟩
theorem qp_MO_117 : qP R_MO 117 1 25 .int := ⟨R_MO, F_MO, 28, t_MO, rfl, by decide, in_MO, Or.inl fl_MO_117, t_MO_ok, n_MO, rfl, by decide +kernel⟩
theorem qf_MO_120 : qF R_MO 120 1 26 := ⟨R_MO, F_MO, 28, rfl, by decide, in_MO, Or.inl fl_MO_120⟩
theorem qf_MO_44 : qF R_MO 44 1 17 := ⟨R_MO, F_MO, 28, rfl, by decide, in_MO, Or.inl fl_MO_44⟩
theorem qf_MO_117 : qF R_MO 117 1 25 := ⟨R_MO, F_MO, 28, rfl, by decide, in_MO, Or.inl fl_MO_117⟩
theorem qs_MO_111 : qV R_MO 111 y_MO_stepOf b_MO_stepOf 4 (some .int) 1 1 := ⟨Or.inl ml_MO_111, ic_MO_stepOf, ii_MO_stepOf, is_MO_stepOf, in_c_MO, ⟨_, _, rfl⟩, by decide +kernel⟩
def lj_MO_takeId_71  (a0 : Nat) (s0 : Int32) (b1 : Nat) (w : qw) : Option (Int32 × qw) :=
  q_b1 (q_pf w b1 1 26 (.inl s0)) fun w1 =>
  q_b1 (q_gi w1 a0 1 21) fun v2 =>
  q_b1 (q_pf w1 a0 1 21 (.inl (v2 + 1))) fun w3 =>
  some (0, w3)
def lj_MO_takeId_51  (a0 : Nat) (x2 : Int32) (s0 : Int32) (b1 : Nat) (w : qw) : Option (Int32 × qw) :=
  q_b1 (q_pf w b1 1 25 (.inl s0)) fun w4 =>
  q_b1 (q_gi w4 a0 1 21) fun v5 =>
  if v5 = 1 then
    lj_MO_takeId_71 a0 x2 a0 w4
  else
    q_b1 (q_gi w4 a0 1 26) fun v6 =>
    lj_MO_takeId_71 a0 v6 a0 w4
def f_MO_takeId (w : qw) (a0 : Nat) (x1 : Int32) : Option (Int32 × qw) :=
  q_ob (q_is w a0 1) <| q_b2 (f_MO_stepOf w a0 x1) fun v8 w7 =>
  if v8 < 0 then
    some (2, w7)
  else
    q_b1 (q_gr w7 a0 1 17) fun r9 =>
    q_b1 (q_ld w7 r9 2 v8) fun v10 =>
    q_b1 (q_gi w7 a0 1 24) fun v11 =>
    if v10 = v11 then
      q_b1 (q_gi w7 a0 1 21) fun v12 =>
      if v12 = 2 then
        some (4, w7)
      else
        q_b1 (q_gi w7 a0 1 21) fun v13 =>
        if v13 = 0 then
          lj_MO_takeId_51 a0 v8 v8 a0 w7
        else
          q_b1 (q_gi w7 a0 1 25) fun v14 =>
          lj_MO_takeId_51 a0 v8 v14 a0 w7
    else
      some (2, w7)
set_option maxHeartbeats 4000000 in
set_option maxRecDepth 100000 in
theorem k_MO_takeId {X : qX} (r : Int32) (w' : qw) (hC : qC X b_MO_takeId R_MO 3 1 23) (hR : qRi X b_MO_takeId r w') (w : qw) (a0 : Nat) (x1 : Int32) (hF : f_MO_takeId w a0 x1 = some (r, w')) : qG X 3 0 [(0, .inr (some a0)), (1, .inl x1)] [] w := by
  have J_71 : ∀ (a0 : Nat) (s0 : Int32) (b1 : Nat) (w : qw), lj_MO_takeId_71  a0 s0 b1 w = some (r, w') → qG X 3 71 [(0, .inr (some a0))] [.inl s0, .inr (some b1)] w := by
    intro a0 s0 b1 w hF
    unfold lj_MO_takeId_71 at hF
    refine s_puti (pc' := 74) hC qp_MO_120 d_MO_takeId_71 rfl hF (fun w1 hF => ?_)
    refine s_aload_n (pc' := 75) hC d_MO_takeId_74 rfl 0 rfl ?_
    refine s_dup (pc' := 76) hC d_MO_takeId_75 rfl ?_
    refine s_geti (pc' := 79) hC qf_MO_64 d_MO_takeId_76 rfl hF (fun v2 hF => ?_)
    refine s_iconst (v := 1) (pc' := 80) hC d_MO_takeId_79 rfl (by decide) ?_
    refine s_iadd (pc' := 81) hC d_MO_takeId_80 rfl ?_
    refine s_puti (pc' := 84) hC qp_MO_64 d_MO_takeId_81 rfl hF (fun w3 hF => ?_)
    refine s_iconst (v := 0) (pc' := 85) hC d_MO_takeId_84 rfl (by decide) ?_
    exact s_iret hC hR d_MO_takeId_85 hF
  have J_51 : ∀ (a0 : Nat) (x2 : Int32) (s0 : Int32) (b1 : Nat) (w : qw), lj_MO_takeId_51  a0 x2 s0 b1 w = some (r, w') → qG X 3 51 [(0, .inr (some a0)), (2, .inl x2)] [.inl s0, .inr (some b1)] w := by
    intro a0 x2 s0 b1 w hF
    unfold lj_MO_takeId_51 at hF
    refine s_puti (pc' := 54) hC qp_MO_117 d_MO_takeId_51 rfl hF (fun w4 hF => ?_)
    refine s_aload_n (pc' := 55) hC d_MO_takeId_54 rfl 0 rfl ?_
    refine s_aload_n (pc' := 56) hC d_MO_takeId_55 rfl 0 rfl ?_
    refine s_geti (pc' := 59) hC qf_MO_64 d_MO_takeId_56 rfl hF (fun v5 hF => ?_)
    refine s_iconst (v := 1) (pc' := 60) hC d_MO_takeId_59 rfl (by decide) ?_
    refine s_icmp_ne (tgt := 67) (pc' := 63) hC d_MO_takeId_60 rfl rfl hF (fun hF => ?_) (fun hF => ?_)
    · refine s_aload_n (pc' := 68) hC d_MO_takeId_67 rfl 0 rfl ?_
      refine s_geti (pc' := 71) hC qf_MO_120 d_MO_takeId_68 rfl hF (fun v6 hF => ?_)
      exact qG_sub [0] rfl (J_71 a0 v6 a0 w4 hF)
    · refine s_iload_n (pc' := 64) hC d_MO_takeId_63 rfl 1 rfl ?_
      refine s_goto (tgt := 71) hC d_MO_takeId_64 rfl ?_
      exact qG_sub [0] rfl (J_71 a0 x2 a0 w4 hF)
  unfold f_MO_takeId at hF
  refine s_aload_n (pc' := 1) hC d_MO_takeId_0 rfl 0 rfl ?_
  refine s_iload_n (pc' := 2) hC d_MO_takeId_1 rfl 1 rfl ?_
  refine s_cVi (pc' := 5) (As := [.inl x1]) (rs := []) (a := a0) (fr' := 0) (lo' := 0) hC qs_MO_111 rfl rfl (Nat.le_of_ble_eq_true rfl) ⟨by decide, by decide⟩ d_MO_takeId_2 rfl (fun l g sz r w' h => c_MO_stepOf l g sz w a0 x1 r w' h) hF (fun v8 w7 hF => ?_)
  refine s_istore_n (pc' := 6) (lv' := [(2, .inl v8), (0, .inr (some a0)), (1, .inl x1)]) hC d_MO_takeId_5 rfl (by decide) rfl ?_
  refine s_iload_n (pc' := 7) hC d_MO_takeId_6 rfl 0 rfl ?_
  refine s_if_lt (tgt := 23) (pc' := 10) hC d_MO_takeId_7 rfl rfl hF (fun hF => ?_) (fun hF => ?_)
  · refine s_iconst (v := 2) (pc' := 24) hC d_MO_takeId_23 rfl (by decide) ?_
    exact s_iret hC hR d_MO_takeId_24 hF
  · refine s_aload_n (pc' := 11) hC d_MO_takeId_10 rfl 1 rfl ?_
    refine s_getr (pc' := 14) hC qf_MO_44 d_MO_takeId_11 rfl hF (fun r9 hF => ?_)
    refine s_iload_n (pc' := 15) hC d_MO_takeId_14 rfl 0 rfl ?_
    refine s_zald (pc' := 16) hC d_MO_takeId_15 rfl hF (fun v10 hF => ?_)
    refine s_aload_n (pc' := 17) hC d_MO_takeId_16 rfl 1 rfl ?_
    refine s_geti (pc' := 20) hC qf_MO_108 d_MO_takeId_17 rfl hF (fun v11 hF => ?_)
    refine s_icmp_eq (tgt := 25) (pc' := 23) hC d_MO_takeId_20 rfl rfl hF (fun hF => ?_) (fun hF => ?_)
    · refine s_aload_n (pc' := 26) hC d_MO_takeId_25 rfl 1 rfl ?_
      refine s_geti (pc' := 29) hC qf_MO_64 d_MO_takeId_26 rfl hF (fun v12 hF => ?_)
      refine s_iconst (v := 2) (pc' := 30) hC d_MO_takeId_29 rfl (by decide) ?_
      refine s_icmp_ne (tgt := 35) (pc' := 33) hC d_MO_takeId_30 rfl rfl hF (fun hF => ?_) (fun hF => ?_)
      · refine s_aload_n (pc' := 36) hC d_MO_takeId_35 rfl 1 rfl ?_
        refine s_aload_n (pc' := 37) hC d_MO_takeId_36 rfl 1 rfl ?_
        refine s_geti (pc' := 40) hC qf_MO_64 d_MO_takeId_37 rfl hF (fun v13 hF => ?_)
        refine s_if_ne (tgt := 47) (pc' := 43) hC d_MO_takeId_40 rfl rfl hF (fun hF => ?_) (fun hF => ?_)
        · refine s_aload_n (pc' := 48) hC d_MO_takeId_47 rfl 1 rfl ?_
          refine s_geti (pc' := 51) hC qf_MO_117 d_MO_takeId_48 rfl hF (fun v14 hF => ?_)
          exact qG_sub [1, 0] rfl (J_51 a0 v8 v14 a0 w7 hF)
        · refine s_iload_n (pc' := 44) hC d_MO_takeId_43 rfl 0 rfl ?_
          refine s_goto (tgt := 51) hC d_MO_takeId_44 rfl ?_
          exact qG_sub [1, 0] rfl (J_51 a0 v8 v8 a0 w7 hF)
      · refine s_iconst (v := 4) (pc' := 34) hC d_MO_takeId_33 rfl (by decide) ?_
        exact s_iret hC hR d_MO_takeId_34 hF
    · refine s_iconst (v := 2) (pc' := 24) hC d_MO_takeId_23 rfl (by decide) ?_
      exact s_iret hC hR d_MO_takeId_24 hF
theorem c_MO_takeId (l : Launch) (g : qk_G) (sz : Nat) (w : qw) (a0 : Nat) (x1 : Int32) (r : Int32) (w' : qw) (hF : f_MO_takeId w a0 x1 = some (r, w')) : qMi l g sz y_MO_takeId b_MO_takeId 3 (some .int) 1 23 [.inr (some a0), .inl x1] w r w' := qk_met_i (by decide) (Nat.le_of_ble_eq_true rfl) (fun X hC hR => k_MO_takeId r w' hC hR w a0 x1 hF)
theorem qf_MO_99 : qF R_MO 99 1 2 := ⟨R_MO, F_MO, 28, rfl, by decide, in_MO, Or.inl fl_MO_99⟩
def f_MO_variables (w : qw) (a0 : Nat) : Option (Int32 × qw) :=
  q_b1 (q_gi w a0 1 2) fun v1 =>
  some (v1, w)
set_option maxHeartbeats 4000000 in
set_option maxRecDepth 100000 in
theorem k_MO_variables {X : qX} (r : Int32) (w' : qw) (hC : qC X b_MO_variables R_MO 1 0 0) (hR : qRi X b_MO_variables r w') (w : qw) (a0 : Nat) (hF : f_MO_variables w a0 = some (r, w')) : qG X 1 0 [(0, .inr (some a0))] [] w := by
  unfold f_MO_variables at hF
  refine s_aload_n (pc' := 1) hC d_MO_variables_0 rfl 0 rfl ?_
  refine s_geti (pc' := 4) hC qf_MO_99 d_MO_variables_1 rfl hF (fun v1 hF => ?_)
  exact s_iret hC hR d_MO_variables_4 hF
theorem c_MO_variables (l : Launch) (g : qk_G) (sz : Nat) (w : qw) (a0 : Nat) (r : Int32) (w' : qw) (hF : f_MO_variables w a0 = some (r, w')) : qMi l g sz y_MO_variables b_MO_variables 1 (some .int) 0 0 [.inr (some a0)] w r w' := qk_met_i (by decide) (Nat.le_of_ble_eq_true rfl) (fun X hC hR => k_MO_variables r w' hC hR w a0 hF)
theorem qf_MO_13 : qF R_MO 13 1 3 := ⟨R_MO, F_MO, 28, rfl, by decide, in_MO, Or.inl fl_MO_13⟩
def f_MO_variable (w : qw) (a0 : Nat) (x1 : Int32) : Option (Int32 × qw) :=
  if x1 < 0 then
    some ((-1), w)
  else
    q_b1 (q_gi w a0 1 2) fun v1 =>
    if v1 ≤ x1 then
      some ((-1), w)
    else
      q_b1 (q_gr w a0 1 3) fun r2 =>
      q_b1 (q_ld w r2 0 x1) fun v3 =>
      q_b1 (q_gr w a0 1 4) fun r4 =>
      q_b1 (q_ld w r4 2 x1) fun v5 =>
      if v5 = 0 then
        some (v3 + 0, w)
      else
        some (v3 + 10, w)
set_option maxHeartbeats 4000000 in
set_option maxRecDepth 100000 in
theorem k_MO_variable {X : qX} (r : Int32) (w' : qw) (hC : qC X b_MO_variable R_MO 2 0 0) (hR : qRi X b_MO_variable r w') (w : qw) (a0 : Nat) (x1 : Int32) (hF : f_MO_variable w a0 x1 = some (r, w')) : qG X 2 0 [(0, .inr (some a0)), (1, .inl x1)] [] w := by
  unfold f_MO_variable at hF
  refine s_iload_n (pc' := 1) hC d_MO_variable_0 rfl 1 rfl ?_
  refine s_if_lt (tgt := 37) (pc' := 4) hC d_MO_variable_1 rfl rfl hF (fun hF => ?_) (fun hF => ?_)
  · refine s_iconst (v := (-1)) (pc' := 38) hC d_MO_variable_37 rfl (by decide) ?_
    exact s_iret hC hR d_MO_variable_38 hF
  · refine s_iload_n (pc' := 5) hC d_MO_variable_4 rfl 1 rfl ?_
    refine s_aload_n (pc' := 6) hC d_MO_variable_5 rfl 0 rfl ?_
    refine s_geti (pc' := 9) hC qf_MO_99 d_MO_variable_6 rfl hF (fun v1 hF => ?_)
    refine s_icmp_ge (tgt := 37) (pc' := 12) hC d_MO_variable_9 rfl rfl hF (fun hF => ?_) (fun hF => ?_)
    · refine s_iconst (v := (-1)) (pc' := 38) hC d_MO_variable_37 rfl (by decide) ?_
      exact s_iret hC hR d_MO_variable_38 hF
    · refine s_aload_n (pc' := 13) hC d_MO_variable_12 rfl 0 rfl ?_
      refine s_getr (pc' := 16) hC qf_MO_13 d_MO_variable_13 rfl hF (fun r2 hF => ?_)
      refine s_iload_n (pc' := 17) hC d_MO_variable_16 rfl 1 rfl ?_
      refine s_iald (pc' := 18) hC d_MO_variable_17 rfl hF (fun v3 hF => ?_)
      refine s_aload_n (pc' := 19) hC d_MO_variable_18 rfl 0 rfl ?_
      refine s_getr (pc' := 22) hC qf_MO_16 d_MO_variable_19 rfl hF (fun r4 hF => ?_)
      refine s_iload_n (pc' := 23) hC d_MO_variable_22 rfl 1 rfl ?_
      refine s_zald (pc' := 24) hC d_MO_variable_23 rfl hF (fun v5 hF => ?_)
      refine s_if_eq (tgt := 32) (pc' := 27) hC d_MO_variable_24 rfl rfl hF (fun hF => ?_) (fun hF => ?_)
      · refine s_iconst (v := 0) (pc' := 33) hC d_MO_variable_32 rfl (by decide) ?_
        refine s_iadd (pc' := 34) hC d_MO_variable_33 rfl ?_
        refine s_goto (tgt := 38) hC d_MO_variable_34 rfl ?_
        exact s_iret hC hR d_MO_variable_38 hF
      · refine s_bipush (v := 10) (pc' := 29) hC d_MO_variable_27 rfl (by decide) ?_
        refine s_goto (tgt := 33) hC d_MO_variable_29 rfl ?_
        refine s_iadd (pc' := 34) hC d_MO_variable_33 rfl ?_
        refine s_goto (tgt := 38) hC d_MO_variable_34 rfl ?_
        exact s_iret hC hR d_MO_variable_38 hF
theorem c_MO_variable (l : Launch) (g : qk_G) (sz : Nat) (w : qw) (a0 : Nat) (x1 : Int32) (r : Int32) (w' : qw) (hF : f_MO_variable w a0 x1 = some (r, w')) : qMi l g sz y_MO_variable b_MO_variable 2 (some .int) 0 0 [.inr (some a0), .inl x1] w r w' := qk_met_i (by decide) (Nat.le_of_ble_eq_true rfl) (fun X hC hR => k_MO_variable r w' hC hR w a0 x1 hF)
