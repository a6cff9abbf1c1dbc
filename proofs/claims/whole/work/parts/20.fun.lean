noncomputable def fX6_add (p0 : Int32) (u : Um) : Option (Int32 × Um) :=
  if (u.1 1 1) < 0 then
    some (0, u)
  else
    if (u.1 1 1) < 130 then
      if inb (u.1 1 1) 130 = true then
      nm (sI u 2 (u.1 1 1).toNatClampNeg p0) fun u1 =>
      nm (sI u1 1 1 ((u1.1 1 1) + 1)) fun u2 =>
      some (1, u2)
      else none
    else
      some (0, u)
set_option maxHeartbeats 4000000 in
set_option maxRecDepth 100000 in
theorem mX6_add (w : Wc) {p0 : Int32}  {u : Um} {r : Int32} {u' : Um} (hf : fX6_add p0 u = some (r, u')) : MC w 1 qX6_add [.ref 1, .int p0] u (some (.int r)) u' := by
  unfold fX6_add at hf
  refine MC_intro pnX6 (Nat.le_of_ble_eq_true rfl) (fun X hX hR _ _ => ?_)
  have hX : OKc w X RX6 cX6_add 1 := hX
  have hR : RT w X (some .boolean) 0 0 Pst 133 false (some (.int r)) u' := hR
  refine G_eql (lv' := [some (.ref 1), some (.int p0)]) rfl ?_
  refine G_aload_n hX dX6_add_0 rfl ?_
  refine G_getI (i := 1) hX kK1 (Nat.le_of_ble_eq_true rfl) (Nat.le_of_ble_eq_true rfl) rfl flX6_15 dX6_add_1 ?_
  refine G_if_lt (tgt := 19) hX dX6_add_4 rfl hf (fun hf => ?_) (fun hf => ?_)
  · refine G_iconst (v := 0) hX dX6_add_19 rfl ?_
    obtain ⟨rfl, rfl⟩ := ret2 hf
    exact G_zret hX hR (by decide) dX6_add_20
  · refine G_aload_n hX dX6_add_7 rfl ?_
    refine G_getI (i := 1) hX kK1 (Nat.le_of_ble_eq_true rfl) (Nat.le_of_ble_eq_true rfl) rfl flX6_15 dX6_add_8 ?_
    refine G_aload_n hX dX6_add_11 rfl ?_
    refine G_getR (i := 0) (t := 2) hX kK1 (Nat.le_of_ble_eq_true rfl) (Nat.le_of_ble_eq_true rfl) rfl pK1_0 flX6_9 dX6_add_12 ?_
    refine G_alenI (n := 130) (v := 130) hX kK2 lK2 (Nat.le_of_ble_eq_true rfl) dX6_add_15 rfl ?_
    refine G_icmp_lt (tgt := 21) hX dX6_add_16 rfl hf (fun hf => ?_) (fun hf => ?_)
    · refine G_aload_n hX dX6_add_21 rfl ?_
      refine G_getR (i := 0) (t := 2) hX kK1 (Nat.le_of_ble_eq_true rfl) (Nat.le_of_ble_eq_true rfl) rfl pK1_0 flX6_9 dX6_add_22 ?_
      refine G_aload_n hX dX6_add_25 rfl ?_
      refine G_getI (i := 1) hX kK1 (Nat.le_of_ble_eq_true rfl) (Nat.le_of_ble_eq_true rfl) rfl flX6_15 dX6_add_26 ?_
      refine G_iload_n hX dX6_add_29 rfl ?_
      refine G_iast (n := 130) hX kK2 lK2 (Nat.le_of_ble_eq_true rfl) rfl dX6_add_30 hf (fun u1 hf => ?_)
      refine G_aload_n hX dX6_add_31 rfl ?_
      refine G_dup hX dX6_add_32 rfl ?_
      refine G_getI (i := 1) hX kK1 (Nat.le_of_ble_eq_true rfl) (Nat.le_of_ble_eq_true rfl) rfl flX6_15 dX6_add_33 ?_
      refine G_iconst (v := 1) hX dX6_add_36 rfl ?_
      refine G_iadd hX dX6_add_37 ?_
      refine G_putI (i := 1) hX kK1 (Nat.le_of_ble_eq_true rfl) (Nat.le_of_ble_eq_true rfl) rfl rfl flX6_15 fwX6_1 dX6_add_38 hf (fun u2 hf => ?_)
      refine G_iconst (v := 1) hX dX6_add_41 rfl ?_
      obtain ⟨rfl, rfl⟩ := ret2 hf
      exact G_zret hX hR (by decide) dX6_add_42
    · refine G_iconst (v := 0) hX dX6_add_19 rfl ?_
      obtain ⟨rfl, rfl⟩ := ret2 hf
      exact G_zret hX hR (by decide) dX6_add_20
noncomputable def fX6_length  (u : Um) : Option Int32 :=
  some (u.1 1 1)
set_option maxHeartbeats 4000000 in
set_option maxRecDepth 100000 in
theorem mX6_length (w : Wc)   {u : Um} {r : Int32} (hf : fX6_length  u = some r) : MC w 1 qX6_length [.ref 1] u (some (.int r)) u := by
  unfold fX6_length at hf
  refine MC_intro pnX6 (Nat.le_of_ble_eq_true rfl) (fun X hX hR _ _ => ?_)
  have hX : OKc w X RX6 cX6_length 1 := hX
  have hR : RT w X (some .int) 0 0 Pst 133 false (some (.int r)) u := hR
  refine G_eql (lv' := [some (.ref 1)]) rfl ?_
  refine G_aload_n hX dX6_length_0 rfl ?_
  refine G_getI (i := 1) hX kK1 (Nat.le_of_ble_eq_true rfl) (Nat.le_of_ble_eq_true rfl) rfl flX6_15 dX6_length_1 ?_
  obtain rfl := Option.some.inj hf
  exact G_iret hX hR dX6_length_4
noncomputable def fX7_feed (p0 : Int32) (u : Um) : Option (Int32 × Um) :=
  if p0 < 0 then
    some ((-1), u)
  else
    if p0 ≤ 255 then
      bd2 (fX6_add p0 u) fun v2 u3 =>
      if v2 = 0 then
        some ((-3), u3)
      else
        bd1 (fX6_length  u3) fun v5 =>
        some (v5, u3)
    else
      some ((-1), u)
set_option maxHeartbeats 4000000 in
set_option maxRecDepth 100000 in
theorem mX7_feed (w : Wc) {p0 : Int32}  {u : Um} {r : Int32} {u' : Um} (hf : fX7_feed p0 u = some (r, u')) : MC w 2 qX7_feed [.ref 0, .int p0] u (some (.int r)) u' := by
  unfold fX7_feed at hf
  refine MC_intro pnX7 (Nat.le_of_ble_eq_true rfl) (fun X hX hR _ _ => ?_)
  have hX : OKc w X RX7 cX7_feed 2 := hX
  have hR : RT w X (some .int) 0 0 Pst 133 false (some (.int r)) u' := hR
  refine G_eql (lv' := [some (.ref 0), some (.int p0)]) rfl ?_
  refine G_iload_n hX dX7_feed_0 rfl ?_
  refine G_if_lt (tgt := 11) hX dX7_feed_1 rfl hf (fun hf => ?_) (fun hf => ?_)
  · refine G_iconst (v := (-1)) hX dX7_feed_11 rfl ?_
    obtain ⟨rfl, rfl⟩ := ret2 hf
    exact G_iret hX hR dX7_feed_12
  · refine G_iload_n hX dX7_feed_4 rfl ?_
    refine G_sipush (v := 255) hX dX7_feed_5 rfl ?_
    refine G_icmp_le (tgt := 13) hX dX7_feed_8 rfl hf (fun hf => ?_) (fun hf => ?_)
    · refine G_aload_n hX dX7_feed_13 rfl ?_
      refine G_getR (i := 0) (t := 1) hX kK0 (Nat.le_of_ble_eq_true rfl) (Nat.le_of_ble_eq_true rfl) rfl pK0_0 flX7_10 dX7_feed_14 ?_
      refine G_iload_n hX dX7_feed_17 rfl ?_
      obtain ⟨v2, u3, h1, hf⟩ := bd2_some hf
      refine G_cV (as := [.int p0]) (rest := []) hX cvX7_65 (mX6_add w h1) (Nat.le_of_ble_eq_true rfl) kK1 (Nat.le_of_ble_eq_true rfl) (Nat.le_of_ble_eq_true rfl) rfl rfl (Nat.le_of_ble_eq_true rfl) dX7_feed_18 (st' := [.int v2]) rfl ?_
      refine G_if_eq (tgt := 34) hX dX7_feed_21 rfl hf (fun hf => ?_) (fun hf => ?_)
      · refine G_bipush (v := (-3)) hX dX7_feed_34 rfl ?_
        obtain ⟨rfl, rfl⟩ := ret2 hf
        exact G_iret hX hR dX7_feed_36
      · refine G_aload_n hX dX7_feed_24 rfl ?_
        refine G_getR (i := 0) (t := 1) hX kK0 (Nat.le_of_ble_eq_true rfl) (Nat.le_of_ble_eq_true rfl) rfl pK0_0 flX7_10 dX7_feed_25 ?_
        obtain ⟨v5, h4, hf⟩ := bd1_some hf
        refine G_cV (as := []) (rest := []) hX cvX7_69 (mX6_length w h4) (Nat.le_of_ble_eq_true rfl) kK1 (Nat.le_of_ble_eq_true rfl) (Nat.le_of_ble_eq_true rfl) rfl rfl (Nat.le_of_ble_eq_true rfl) dX7_feed_28 (st' := [.int v5]) rfl ?_
        refine G_goto (tgt := 36) hX dX7_feed_31 rfl ?_
        obtain ⟨rfl, rfl⟩ := ret2 hf
        exact G_iret hX hR dX7_feed_36
    · refine G_iconst (v := (-1)) hX dX7_feed_11 rfl ?_
      obtain ⟨rfl, rfl⟩ := ret2 hf
      exact G_iret hX hR dX7_feed_12
noncomputable def fX0_clear (a : Nat) (u : Um) : Option Um :=
  nm (sI u a 2 0) fun u1 =>
  nm (sI u1 a 3 0) fun u2 =>
  nm (sI u2 a 4 0) fun u3 =>
  some u3
set_option maxHeartbeats 4000000 in
set_option maxRecDepth 100000 in
theorem mX0_clear (w : Wc) {a : Nat} (ha : kd a = 0) {u : Um} {u' : Um} (hf : fX0_clear a u = some u') : MC w 1 qX0_clear [.ref a] u none u' := by
  unfold fX0_clear at hf
  refine MC_intro pnX0 (Nat.le_of_ble_eq_true rfl) (fun X hX hR _ _ => ?_)
  have hX : OKc w X RX0 cX0_clear 1 := hX
  have hR : RT w X none 0 0 Pst 133 false none u' := hR
  refine G_eql (lv' := [some (.ref a)]) rfl ?_
  refine G_aload_n hX dX0_clear_0 rfl ?_
  refine G_iconst (v := 0) hX dX0_clear_1 rfl ?_
  refine G_putI (i := 2) hX ha (Nat.le_of_ble_eq_true rfl) (kd_lt ha (Nat.le_of_ble_eq_true rfl)) rfl rfl flX0_18 fwX0_2 dX0_clear_2 hf (fun u1 hf => ?_)
  refine G_aload_n hX dX0_clear_5 rfl ?_
  refine G_iconst (v := 0) hX dX0_clear_6 rfl ?_
  refine G_putI (i := 3) hX ha (Nat.le_of_ble_eq_true rfl) (kd_lt ha (Nat.le_of_ble_eq_true rfl)) rfl rfl flX0_22 fwX0_3 dX0_clear_7 hf (fun u2 hf => ?_)
  refine G_aload_n hX dX0_clear_10 rfl ?_
  refine G_iconst (v := 0) hX dX0_clear_11 rfl ?_
  refine G_putI (i := 4) hX ha (Nat.le_of_ble_eq_true rfl) (kd_lt ha (Nat.le_of_ble_eq_true rfl)) rfl rfl flX0_25 fwX0_4 dX0_clear_12 hf (fun u3 hf => ?_)
  obtain rfl := Option.some.inj hf
  exact G_vret hX hR dX0_clear_15
noncomputable def fX6_peek  (u : Um) : Option Int32 :=
  if (u.1 1 2) < 0 then
    some (-1)
  else
    if (u.1 1 1) ≤ (u.1 1 2) then
      some (-1)
    else
      if 130 ≤ (u.1 1 2) then
        some (-1)
      else
        if inb (u.1 1 2) 130 = true then
        some (u.1 2 ((u.1 1 2)).toNatClampNeg)
        else none
set_option maxHeartbeats 4000000 in
set_option maxRecDepth 100000 in
theorem mX6_peek (w : Wc)   {u : Um} {r : Int32} (hf : fX6_peek  u = some r) : MC w 1 qX6_peek [.ref 1] u (some (.int r)) u := by
  unfold fX6_peek at hf
  refine MC_intro pnX6 (Nat.le_of_ble_eq_true rfl) (fun X hX hR _ _ => ?_)
  have hX : OKc w X RX6 cX6_peek 1 := hX
  have hR : RT w X (some .int) 0 0 Pst 133 false (some (.int r)) u := hR
  refine G_eql (lv' := [some (.ref 1)]) rfl ?_
  refine G_aload_n hX dX6_peek_0 rfl ?_
  refine G_getI (i := 2) hX kK1 (Nat.le_of_ble_eq_true rfl) (Nat.le_of_ble_eq_true rfl) rfl flX6_19 dX6_peek_1 ?_
  refine G_if_lt (tgt := 42) hX dX6_peek_4 rfl hf (fun hf => ?_) (fun hf => ?_)
  · refine G_iconst (v := (-1)) hX dX6_peek_42 rfl ?_
    obtain rfl := Option.some.inj hf
    exact G_iret hX hR dX6_peek_43
  · refine G_aload_n hX dX6_peek_7 rfl ?_
    refine G_getI (i := 2) hX kK1 (Nat.le_of_ble_eq_true rfl) (Nat.le_of_ble_eq_true rfl) rfl flX6_19 dX6_peek_8 ?_
    refine G_aload_n hX dX6_peek_11 rfl ?_
    refine G_getI (i := 1) hX kK1 (Nat.le_of_ble_eq_true rfl) (Nat.le_of_ble_eq_true rfl) rfl flX6_15 dX6_peek_12 ?_
    refine G_icmp_ge (tgt := 42) hX dX6_peek_15 rfl hf (fun hf => ?_) (fun hf => ?_)
    · refine G_iconst (v := (-1)) hX dX6_peek_42 rfl ?_
      obtain rfl := Option.some.inj hf
      exact G_iret hX hR dX6_peek_43
    · refine G_aload_n hX dX6_peek_18 rfl ?_
      refine G_getI (i := 2) hX kK1 (Nat.le_of_ble_eq_true rfl) (Nat.le_of_ble_eq_true rfl) rfl flX6_19 dX6_peek_19 ?_
      refine G_aload_n hX dX6_peek_22 rfl ?_
      refine G_getR (i := 0) (t := 2) hX kK1 (Nat.le_of_ble_eq_true rfl) (Nat.le_of_ble_eq_true rfl) rfl pK1_0 flX6_9 dX6_peek_23 ?_
      refine G_alenI (n := 130) (v := 130) hX kK2 lK2 (Nat.le_of_ble_eq_true rfl) dX6_peek_26 rfl ?_
      refine G_icmp_ge (tgt := 42) hX dX6_peek_27 rfl hf (fun hf => ?_) (fun hf => ?_)
      · refine G_iconst (v := (-1)) hX dX6_peek_42 rfl ?_
        obtain rfl := Option.some.inj hf
        exact G_iret hX hR dX6_peek_43
      · refine G_aload_n hX dX6_peek_30 rfl ?_
        refine G_getR (i := 0) (t := 2) hX kK1 (Nat.le_of_ble_eq_true rfl) (Nat.le_of_ble_eq_true rfl) rfl pK1_0 flX6_9 dX6_peek_31 ?_
        refine G_aload_n hX dX6_peek_34 rfl ?_
        refine G_getI (i := 2) hX kK1 (Nat.le_of_ble_eq_true rfl) (Nat.le_of_ble_eq_true rfl) rfl flX6_19 dX6_peek_35 ?_
        refine G_iald (n := 130) hX kK2 lK2 (Nat.le_of_ble_eq_true rfl) dX6_peek_38 hf (fun hf => ?_)
        refine G_goto (tgt := 43) hX dX6_peek_39 rfl ?_
        obtain rfl := Option.some.inj hf
        exact G_iret hX hR dX6_peek_43
noncomputable def fX6_takeSign (p0 : Int32) (u : Um) : Option (Int32 × Um) :=
  bd1 (fX6_peek  u) fun v2 =>
  if v2 = p0 then
    nm (sI u 1 2 ((u.1 1 2) + 1)) fun u3 =>
    some (1, u3)
  else
    some (0, u)
set_option maxHeartbeats 4000000 in
set_option maxRecDepth 100000 in
theorem mX6_takeSign (w : Wc) {p0 : Int32}  {u : Um} {r : Int32} {u' : Um} (hf : fX6_takeSign p0 u = some (r, u')) : MC w 2 qX6_takeSign [.ref 1, .int p0] u (some (.int r)) u' := by
  unfold fX6_takeSign at hf
  refine MC_intro pnX6 (Nat.le_of_ble_eq_true rfl) (fun X hX hR _ _ => ?_)
  have hX : OKc w X RX6 cX6_takeSign 2 := hX
  have hR : RT w X (some .boolean) 0 0 Pst 133 false (some (.int r)) u' := hR
  refine G_eql (lv' := [some (.ref 1), some (.int p0)]) rfl ?_
  refine G_aload_n hX dX6_takeSign_0 rfl ?_
  obtain ⟨v2, h1, hf⟩ := bd1_some hf
  refine G_cV (as := []) (rest := []) hX cvX6_41 (mX6_peek w h1) (Nat.le_of_ble_eq_true rfl) kK1 (Nat.le_of_ble_eq_true rfl) (Nat.le_of_ble_eq_true rfl) rfl rfl (Nat.le_of_ble_eq_true rfl) dX6_takeSign_1 (st' := [.int v2]) rfl ?_
  refine G_iload_n hX dX6_takeSign_4 rfl ?_
  refine G_icmp_eq (tgt := 10) hX dX6_takeSign_5 rfl hf (fun hf => ?_) (fun hf => ?_)
  · refine G_aload_n hX dX6_takeSign_10 rfl ?_
    refine G_dup hX dX6_takeSign_11 rfl ?_
    refine G_getI (i := 2) hX kK1 (Nat.le_of_ble_eq_true rfl) (Nat.le_of_ble_eq_true rfl) rfl flX6_19 dX6_takeSign_12 ?_
    refine G_iconst (v := 1) hX dX6_takeSign_15 rfl ?_
    refine G_iadd hX dX6_takeSign_16 ?_
    refine G_putI (i := 2) hX kK1 (Nat.le_of_ble_eq_true rfl) (Nat.le_of_ble_eq_true rfl) rfl rfl flX6_19 fwX6_2 dX6_takeSign_17 hf (fun u3 hf => ?_)
    refine G_iconst (v := 1) hX dX6_takeSign_20 rfl ?_
    obtain ⟨rfl, rfl⟩ := ret2 hf
    exact G_zret hX hR (by decide) dX6_takeSign_21
  · refine G_iconst (v := 0) hX dX6_takeSign_8 rfl ?_
    obtain ⟨rfl, rfl⟩ := ret2 hf
    exact G_zret hX hR (by decide) dX6_takeSign_9
noncomputable def fX6_takeFigure (p0 : Int32) (p1 : Int32) (u : Um) : Option (Int32 × Um) :=
  bd1 (fX6_peek  u) fun v2 =>
  nm (v2 - 48) fun v3 =>
  if v3 < p0 then
    some ((-1), u)
  else
    if v3 ≤ p1 then
      nm (sI u 1 2 ((u.1 1 2) + 1)) fun u4 =>
      some (v3, u4)
    else
      some ((-1), u)
set_option maxHeartbeats 4000000 in
set_option maxRecDepth 100000 in
theorem mX6_takeFigure (w : Wc) {p0 : Int32} {p1 : Int32}  {u : Um} {r : Int32} {u' : Um} (hf : fX6_takeFigure p0 p1 u = some (r, u')) : MC w 2 qX6_takeFigure [.ref 1, .int p0, .int p1] u (some (.int r)) u' := by
  unfold fX6_takeFigure at hf
  refine MC_intro pnX6 (Nat.le_of_ble_eq_true rfl) (fun X hX hR _ _ => ?_)
  have hX : OKc w X RX6 cX6_takeFigure 2 := hX
  have hR : RT w X (some .int) 0 0 Pst 133 false (some (.int r)) u' := hR
  refine G_eql (lv' := [some (.ref 1), some (.int p0), some (.int p1), none]) rfl ?_
  refine G_aload_n hX dX6_takeFigure_0 rfl ?_
  obtain ⟨v2, h1, hf⟩ := bd1_some hf
  refine G_cV (as := []) (rest := []) hX cvX6_41 (mX6_peek w h1) (Nat.le_of_ble_eq_true rfl) kK1 (Nat.le_of_ble_eq_true rfl) (Nat.le_of_ble_eq_true rfl) rfl rfl (Nat.le_of_ble_eq_true rfl) dX6_takeFigure_1 (st' := [.int v2]) rfl ?_
  refine G_bipush (v := 48) hX dX6_takeFigure_4 rfl ?_
  refine G_isub hX dX6_takeFigure_6 ?_
  refine G_istore_nF (lvf := fun v3 => [some (.ref 1), some (.int p0), some (.int p1), some (.int v3)]) hX dX6_takeFigure_7 rfl (Nat.le_of_ble_eq_true rfl) (fun _ => rfl) hf (fun v3 hf => ?_)
  refine G_iload_n hX dX6_takeFigure_8 rfl ?_
  refine G_iload_n hX dX6_takeFigure_9 rfl ?_
  refine G_icmp_lt (tgt := 18) hX dX6_takeFigure_10 rfl hf (fun hf => ?_) (fun hf => ?_)
  · refine G_iconst (v := (-1)) hX dX6_takeFigure_18 rfl ?_
    obtain ⟨rfl, rfl⟩ := ret2 hf
    exact G_iret hX hR dX6_takeFigure_19
  · refine G_iload_n hX dX6_takeFigure_13 rfl ?_
    refine G_iload_n hX dX6_takeFigure_14 rfl ?_
    refine G_icmp_le (tgt := 20) hX dX6_takeFigure_15 rfl hf (fun hf => ?_) (fun hf => ?_)
    · refine G_aload_n hX dX6_takeFigure_20 rfl ?_
      refine G_dup hX dX6_takeFigure_21 rfl ?_
      refine G_getI (i := 2) hX kK1 (Nat.le_of_ble_eq_true rfl) (Nat.le_of_ble_eq_true rfl) rfl flX6_19 dX6_takeFigure_22 ?_
      refine G_iconst (v := 1) hX dX6_takeFigure_25 rfl ?_
      refine G_iadd hX dX6_takeFigure_26 ?_
      refine G_putI (i := 2) hX kK1 (Nat.le_of_ble_eq_true rfl) (Nat.le_of_ble_eq_true rfl) rfl rfl flX6_19 fwX6_2 dX6_takeFigure_27 hf (fun u4 hf => ?_)
      refine G_iload_n hX dX6_takeFigure_30 rfl ?_
      obtain ⟨rfl, rfl⟩ := ret2 hf
      exact G_iret hX hR dX6_takeFigure_31
    · refine G_iconst (v := (-1)) hX dX6_takeFigure_18 rfl ?_
      obtain ⟨rfl, rfl⟩ := ret2 hf
      exact G_iret hX hR dX6_takeFigure_19
noncomputable def fX6_kindOf (p0 : Int32) (u : Um) : Option Int32 :=
  if p0 = 97 then
    some 2
  else if p0 = 98 then
    some 4
  else if p0 = 99 then
    some 1
  else if p0 = 102 then
    some 3
  else if p0 = 114 then
    some 5
  else 
  some (-1)
set_option maxHeartbeats 4000000 in
set_option maxRecDepth 100000 in
theorem mX6_kindOf (w : Wc) {p0 : Int32}  {u : Um} {r : Int32} (hf : fX6_kindOf p0 u = some r) : MC w 1 qX6_kindOf [.int p0] u (some (.int r)) u := by
  unfold fX6_kindOf at hf
  refine MC_intro pnX6 (Nat.le_of_ble_eq_true rfl) (fun X hX hR _ _ => ?_)
  have hX : OKc w X RX6 cX6_kindOf 1 := hX
  have hR : RT w X (some .int) 0 0 Pst 133 false (some (.int r)) u := hR
  refine G_eql (lv' := [some (.int p0)]) rfl ?_
  refine G_iload_n hX dX6_kindOf_0 rfl ?_
  by_cases c1_0 : p0 = 97
  · rw [if_pos c1_0] at hf
    refine G_lsw (tgt := 54) (off := 53) hX dX6_kindOf_1 (by decide) (by rw [c1_0]; decide) rfl ?_
    refine G_iconst (v := 2) hX dX6_kindOf_54 rfl ?_
    obtain rfl := Option.some.inj hf
    exact G_iret hX hR dX6_kindOf_55
  rw [if_neg c1_0] at hf
  by_cases c1_1 : p0 = 98
  · rw [if_pos c1_1] at hf
    refine G_lsw (tgt := 58) (off := 57) hX dX6_kindOf_1 (by decide) (by rw [c1_1]; decide) rfl ?_
    refine G_iconst (v := 4) hX dX6_kindOf_58 rfl ?_
    obtain rfl := Option.some.inj hf
    exact G_iret hX hR dX6_kindOf_59
  rw [if_neg c1_1] at hf
  by_cases c1_2 : p0 = 99
  · rw [if_pos c1_2] at hf
    refine G_lsw (tgt := 52) (off := 51) hX dX6_kindOf_1 (by decide) (by rw [c1_2]; decide) rfl ?_
    refine G_iconst (v := 1) hX dX6_kindOf_52 rfl ?_
    obtain rfl := Option.some.inj hf
    exact G_iret hX hR dX6_kindOf_53
  rw [if_neg c1_2] at hf
  by_cases c1_3 : p0 = 102
  · rw [if_pos c1_3] at hf
    refine G_lsw (tgt := 56) (off := 55) hX dX6_kindOf_1 (by decide) (by rw [c1_3]; decide) rfl ?_
    refine G_iconst (v := 3) hX dX6_kindOf_56 rfl ?_
    obtain rfl := Option.some.inj hf
    exact G_iret hX hR dX6_kindOf_57
  rw [if_neg c1_3] at hf
  by_cases c1_4 : p0 = 114
  · rw [if_pos c1_4] at hf
    refine G_lsw (tgt := 60) (off := 59) hX dX6_kindOf_1 (by decide) (by rw [c1_4]; decide) rfl ?_
    refine G_iconst (v := 5) hX dX6_kindOf_60 rfl ?_
    obtain rfl := Option.some.inj hf
    exact G_iret hX hR dX6_kindOf_61
  rw [if_neg c1_4] at hf
  refine G_lsw (tgt := 62) (off := 61) hX dX6_kindOf_1 (by decide) (by show Op.lookupswitch.offset [(97, 53), (98, 57), (99, 51), (102, 55), (114, 59)] _ _ = _; rw [lv_osw (a := 97) c1_0 rfl, lv_osw (a := 98) c1_1 rfl, lv_osw (a := 99) c1_2 rfl, lv_osw (a := 102) c1_3 rfl, lv_osw (a := 114) c1_4 rfl]; rfl) rfl ?_
  refine G_iconst (v := (-1)) hX dX6_kindOf_62 rfl ?_
  obtain rfl := Option.some.inj hf
  exact G_iret hX hR dX6_kindOf_63
noncomputable def fX6_takeKind  (u : Um) : Option (Int32 × Um) :=
  bd1 (fX6_peek  u) fun v2 =>
  bd1 (fX6_kindOf v2 u) fun v4 =>
  if v4 = (-1) then
    some (v4, u)
  else
    nm (sI u 1 2 ((u.1 1 2) + 1)) fun u5 =>
    some (v4, u5)
set_option maxHeartbeats 4000000 in
set_option maxRecDepth 100000 in
theorem mX6_takeKind (w : Wc)   {u : Um} {r : Int32} {u' : Um} (hf : fX6_takeKind  u = some (r, u')) : MC w 2 qX6_takeKind [.ref 1] u (some (.int r)) u' := by
  unfold fX6_takeKind at hf
  refine MC_intro pnX6 (Nat.le_of_ble_eq_true rfl) (fun X hX hR _ _ => ?_)
  have hX : OKc w X RX6 cX6_takeKind 2 := hX
  have hR : RT w X (some .int) 0 0 Pst 133 false (some (.int r)) u' := hR
  refine G_eql (lv' := [some (.ref 1), none]) rfl ?_
  refine G_aload_n hX dX6_takeKind_0 rfl ?_
  obtain ⟨v2, h1, hf⟩ := bd1_some hf
  refine G_cV (as := []) (rest := []) hX cvX6_41 (mX6_peek w h1) (Nat.le_of_ble_eq_true rfl) kK1 (Nat.le_of_ble_eq_true rfl) (Nat.le_of_ble_eq_true rfl) rfl rfl (Nat.le_of_ble_eq_true rfl) dX6_takeKind_1 (st' := [.int v2]) rfl ?_
  obtain ⟨v4, h3, hf⟩ := bd1_some hf
  refine G_cS (as := [.int v2]) (rest := []) hX csX6_63 (mX6_kindOf w h3) (Nat.le_of_ble_eq_true rfl) rfl rfl (Nat.le_of_ble_eq_true rfl) dX6_takeKind_4 (st' := [.int v4]) rfl ?_
  refine G_istore_n (lv' := [some (.ref 1), some (.int v4)]) hX dX6_takeKind_7 rfl (Nat.le_of_ble_eq_true rfl) rfl ?_
  refine G_iload_n hX dX6_takeKind_8 rfl ?_
  refine G_iconst (v := (-1)) hX dX6_takeKind_9 rfl ?_
  refine G_icmp_eq (tgt := 23) hX dX6_takeKind_10 rfl hf (fun hf => ?_) (fun hf => ?_)
  · refine G_iload_n hX dX6_takeKind_23 rfl ?_
    obtain ⟨rfl, rfl⟩ := ret2 hf
    exact G_iret hX hR dX6_takeKind_24
  · refine G_aload_n hX dX6_takeKind_13 rfl ?_
    refine G_dup hX dX6_takeKind_14 rfl ?_
    refine G_getI (i := 2) hX kK1 (Nat.le_of_ble_eq_true rfl) (Nat.le_of_ble_eq_true rfl) rfl flX6_19 dX6_takeKind_15 ?_
    refine G_iconst (v := 1) hX dX6_takeKind_18 rfl ?_
    refine G_iadd hX dX6_takeKind_19 ?_
    refine G_putI (i := 2) hX kK1 (Nat.le_of_ble_eq_true rfl) (Nat.le_of_ble_eq_true rfl) rfl rfl flX6_19 fwX6_2 dX6_takeKind_20 hf (fun u5 hf => ?_)
    refine G_iload_n hX dX6_takeKind_23 rfl ?_
    obtain ⟨rfl, rfl⟩ := ret2 hf
    exact G_iret hX hR dX6_takeKind_24
noncomputable def fX6_takeOther (p0 : Int32) (p1 : Int32) (u : Um) : Option (Int32 × Um) :=
  bd1 (fX6_peek  u) fun v2 =>
  if (v2 - 48) = p0 then
    some ((-1), u)
  else
    bd2 (fX6_takeFigure 0 (p1 - 1) u) fun v4 u5 =>
    some (v4, u5)
set_option maxHeartbeats 4000000 in
set_option maxRecDepth 100000 in
theorem mX6_takeOther (w : Wc) {p0 : Int32} {p1 : Int32}  {u : Um} {r : Int32} {u' : Um} (hf : fX6_takeOther p0 p1 u = some (r, u')) : MC w 3 qX6_takeOther [.ref 1, .int p0, .int p1] u (some (.int r)) u' := by
  unfold fX6_takeOther at hf
  refine MC_intro pnX6 (Nat.le_of_ble_eq_true rfl) (fun X hX hR _ _ => ?_)
  have hX : OKc w X RX6 cX6_takeOther 3 := hX
  have hR : RT w X (some .int) 0 0 Pst 133 false (some (.int r)) u' := hR
  refine G_eql (lv' := [some (.ref 1), some (.int p0), some (.int p1)]) rfl ?_
  refine G_aload_n hX dX6_takeOther_0 rfl ?_
  obtain ⟨v2, h1, hf⟩ := bd1_some hf
  refine G_cV (as := []) (rest := []) hX cvX6_41 (mX6_peek w h1) (Nat.le_of_ble_eq_true rfl) kK1 (Nat.le_of_ble_eq_true rfl) (Nat.le_of_ble_eq_true rfl) rfl rfl (Nat.le_of_ble_eq_true rfl) dX6_takeOther_1 (st' := [.int v2]) rfl ?_
  refine G_bipush (v := 48) hX dX6_takeOther_4 rfl ?_
  refine G_isub hX dX6_takeOther_6 ?_
  refine G_iload_n hX dX6_takeOther_7 rfl ?_
  refine G_icmp_ne (tgt := 15) hX dX6_takeOther_8 rfl hf (fun hf => ?_) (fun hf => ?_)
  · refine G_aload_n hX dX6_takeOther_15 rfl ?_
    refine G_iconst (v := 0) hX dX6_takeOther_16 rfl ?_
    refine G_iload_n hX dX6_takeOther_17 rfl ?_
    refine G_iconst (v := 1) hX dX6_takeOther_18 rfl ?_
    refine G_isub hX dX6_takeOther_19 ?_
    obtain ⟨v4, u5, h3, hf⟩ := bd2_some hf
    refine G_cV (as := [.int 0, .int (p1 - 1)]) (rest := []) hX cvX6_45 (mX6_takeFigure w h3) (Nat.le_of_ble_eq_true rfl) kK1 (Nat.le_of_ble_eq_true rfl) (Nat.le_of_ble_eq_true rfl) rfl rfl (Nat.le_of_ble_eq_true rfl) dX6_takeOther_20 (st' := [.int v4]) rfl ?_
    obtain ⟨rfl, rfl⟩ := ret2 hf
    exact G_iret hX hR dX6_takeOther_23
  · refine G_iconst (v := (-1)) hX dX6_takeOther_11 rfl ?_
    refine G_goto (tgt := 23) hX dX6_takeOther_12 rfl ?_
    obtain ⟨rfl, rfl⟩ := ret2 hf
    exact G_iret hX hR dX6_takeOther_23
noncomputable def fX0_setTrait (a : Nat) (p0 : Int32) (p1 : Int32) (p2 : Int32) (u : Um) : Option Um :=
  nm ((p0 * 8) + p1) fun v1 =>
  if v1 < 0 then
    some u
  else
    if 48 ≤ v1 then
      some u
    else
      if inb v1 48 = true then
      nm (sI u (a + 1) v1.toNatClampNeg p2) fun u2 =>
      some u2
      else none
set_option maxHeartbeats 4000000 in
set_option maxRecDepth 100000 in
theorem mX0_setTrait (w : Wc) {a : Nat} {p0 : Int32} {p1 : Int32} {p2 : Int32} (ha : kd a = 0) {u : Um} {u' : Um} (hf : fX0_setTrait a p0 p1 p2 u = some u') : MC w 1 qX0_setTrait [.ref a, .int p0, .int p1, .int p2] u none u' := by
  unfold fX0_setTrait at hf
  refine MC_intro pnX0 (Nat.le_of_ble_eq_true rfl) (fun X hX hR _ _ => ?_)
  have hX : OKc w X RX0 cX0_setTrait 1 := hX
  have hR : RT w X none 0 0 Pst 133 false none u' := hR
  refine G_eql (lv' := [some (.ref a), some (.int p0), some (.int p1), some (.int p2), none]) rfl ?_
  refine G_iload_n hX dX0_setTrait_0 rfl ?_
  refine G_bipush (v := 8) hX dX0_setTrait_1 rfl ?_
  refine G_imul hX dX0_setTrait_3 ?_
  refine G_iload_n hX dX0_setTrait_4 rfl ?_
  refine G_iadd hX dX0_setTrait_5 ?_
  refine G_istoreF (lvf := fun v1 => [some (.ref a), some (.int p0), some (.int p1), some (.int p2), some (.int v1)]) hX dX0_setTrait_6 rfl (Nat.le_of_ble_eq_true rfl) (fun _ => rfl) hf (fun v1 hf => ?_)
  refine G_iload hX dX0_setTrait_8 rfl ?_
  refine G_if_lt (tgt := 31) hX dX0_setTrait_10 rfl hf (fun hf => ?_) (fun hf => ?_)
  · obtain rfl := Option.some.inj hf
    exact G_vret hX hR dX0_setTrait_31
  · refine G_iload hX dX0_setTrait_13 rfl ?_
    refine G_aload_n hX dX0_setTrait_15 rfl ?_
    refine G_getR (i := 0) (t := (a + 1)) hX ha (Nat.le_of_ble_eq_true rfl) (kd_lt ha (Nat.le_of_ble_eq_true rfl)) rfl (PC1 ha) flX0_9 dX0_setTrait_16 ?_
    refine G_alenI (n := 48) (v := 48) hX (kC1 ha) (lC1 ha) (xC1 ha) dX0_setTrait_19 rfl ?_
    refine G_icmp_ge (tgt := 31) hX dX0_setTrait_20 rfl hf (fun hf => ?_) (fun hf => ?_)
    · obtain rfl := Option.some.inj hf
      exact G_vret hX hR dX0_setTrait_31
    · refine G_aload_n hX dX0_setTrait_23 rfl ?_
      refine G_getR (i := 0) (t := (a + 1)) hX ha (Nat.le_of_ble_eq_true rfl) (kd_lt ha (Nat.le_of_ble_eq_true rfl)) rfl (PC1 ha) flX0_9 dX0_setTrait_24 ?_
      refine G_iload hX dX0_setTrait_27 rfl ?_
      refine G_iload_n hX dX0_setTrait_29 rfl ?_
      refine G_iast (n := 48) hX (kC1 ha) (lC1 ha) (xC1 ha) rfl dX0_setTrait_30 hf (fun u2 hf => ?_)
      obtain rfl := Option.some.inj hf
      exact G_vret hX hR dX0_setTrait_31
noncomputable def fX0_addPerson (a : Nat) (p0 : Int32) (p1 : Int32) (p2 : Int32) (p3 : Int32) (p4 : Int32) (u : Um) : Option Um :=
  if (u.1 a 2) < 6 then
    bd1 (fX0_setTrait a (u.1 a 2) 0 p0 u) fun u2 =>
    bd1 (fX0_setTrait a (u2.1 a 2) 1 p1 u2) fun u4 =>
    bd1 (fX0_setTrait a (u4.1 a 2) 2 p2 u4) fun u6 =>
    bd1 (fX0_setTrait a (u6.1 a 2) 3 p3 u6) fun u8 =>
    bd1 (fX0_setTrait a (u8.1 a 2) 4 p3 u8) fun u10 =>
    bd1 (fX0_setTrait a (u10.1 a 2) 5 p4 u10) fun u12 =>
    bd1 (fX0_setTrait a (u12.1 a 2) 6 0 u12) fun u14 =>
    bd1 (fX0_setTrait a (u14.1 a 2) 7 (-4) u14) fun u16 =>
    nm (sI u16 a 2 ((u16.1 a 2) + 1)) fun u17 =>
    some u17
  else
    some u
set_option maxHeartbeats 4000000 in
set_option maxRecDepth 100000 in
theorem mX0_addPerson (w : Wc) {a : Nat} {p0 : Int32} {p1 : Int32} {p2 : Int32} {p3 : Int32} {p4 : Int32} (ha : kd a = 0) {u : Um} {u' : Um} (hf : fX0_addPerson a p0 p1 p2 p3 p4 u = some u') : MC w 2 qX0_addPerson [.ref a, .int p0, .int p1, .int p2, .int p3, .int p4] u none u' := by
  unfold fX0_addPerson at hf
  refine MC_intro pnX0 (Nat.le_of_ble_eq_true rfl) (fun X hX hR _ _ => ?_)
  have hX : OKc w X RX0 cX0_addPerson 2 := hX
  have hR : RT w X none 0 0 Pst 133 false none u' := hR
  refine G_eql (lv' := [some (.ref a), some (.int p0), some (.int p1), some (.int p2), some (.int p3), some (.int p4)]) rfl ?_
  refine G_aload_n hX dX0_addPerson_0 rfl ?_
  refine G_getI (i := 2) hX ha (Nat.le_of_ble_eq_true rfl) (kd_lt ha (Nat.le_of_ble_eq_true rfl)) rfl flX0_18 dX0_addPerson_1 ?_
  refine G_bipush (v := 6) hX dX0_addPerson_4 rfl ?_
  refine G_icmp_lt (tgt := 10) hX dX0_addPerson_6 rfl hf (fun hf => ?_) (fun hf => ?_)
  · refine G_aload_n hX dX0_addPerson_10 rfl ?_
    refine G_aload_n hX dX0_addPerson_11 rfl ?_
    refine G_getI (i := 2) hX ha (Nat.le_of_ble_eq_true rfl) (kd_lt ha (Nat.le_of_ble_eq_true rfl)) rfl flX0_18 dX0_addPerson_12 ?_
    refine G_iconst (v := 0) hX dX0_addPerson_15 rfl ?_
    refine G_iload_n hX dX0_addPerson_16 rfl ?_
    obtain ⟨u2, h1, hf⟩ := bd1_some hf
    refine G_cV (as := [.int (u.1 a 2), .int 0, .int p0]) (rest := []) hX cvX0_34 (mX0_setTrait w ha h1) (Nat.le_of_ble_eq_true rfl) ha (Nat.le_of_ble_eq_true rfl) (kd_lt ha (Nat.le_of_ble_eq_true rfl)) rfl rfl (Nat.le_of_ble_eq_true rfl) dX0_addPerson_17 (st' := []) rfl ?_
    refine G_aload_n hX dX0_addPerson_20 rfl ?_
    refine G_aload_n hX dX0_addPerson_21 rfl ?_
    refine G_getI (i := 2) hX ha (Nat.le_of_ble_eq_true rfl) (kd_lt ha (Nat.le_of_ble_eq_true rfl)) rfl flX0_18 dX0_addPerson_22 ?_
    refine G_iconst (v := 1) hX dX0_addPerson_25 rfl ?_
    refine G_iload_n hX dX0_addPerson_26 rfl ?_
    obtain ⟨u4, h3, hf⟩ := bd1_some hf
    refine G_cV (as := [.int (u2.1 a 2), .int 1, .int p1]) (rest := []) hX cvX0_34 (mX0_setTrait w ha h3) (Nat.le_of_ble_eq_true rfl) ha (Nat.le_of_ble_eq_true rfl) (kd_lt ha (Nat.le_of_ble_eq_true rfl)) rfl rfl (Nat.le_of_ble_eq_true rfl) dX0_addPerson_27 (st' := []) rfl ?_
    refine G_aload_n hX dX0_addPerson_30 rfl ?_
    refine G_aload_n hX dX0_addPerson_31 rfl ?_
    refine G_getI (i := 2) hX ha (Nat.le_of_ble_eq_true rfl) (kd_lt ha (Nat.le_of_ble_eq_true rfl)) rfl flX0_18 dX0_addPerson_32 ?_
    refine G_iconst (v := 2) hX dX0_addPerson_35 rfl ?_
    refine G_iload_n hX dX0_addPerson_36 rfl ?_
    obtain ⟨u6, h5, hf⟩ := bd1_some hf
    refine G_cV (as := [.int (u4.1 a 2), .int 2, .int p2]) (rest := []) hX cvX0_34 (mX0_setTrait w ha h5) (Nat.le_of_ble_eq_true rfl) ha (Nat.le_of_ble_eq_true rfl) (kd_lt ha (Nat.le_of_ble_eq_true rfl)) rfl rfl (Nat.le_of_ble_eq_true rfl) dX0_addPerson_37 (st' := []) rfl ?_
    refine G_aload_n hX dX0_addPerson_40 rfl ?_
    refine G_aload_n hX dX0_addPerson_41 rfl ?_
    refine G_getI (i := 2) hX ha (Nat.le_of_ble_eq_true rfl) (kd_lt ha (Nat.le_of_ble_eq_true rfl)) rfl flX0_18 dX0_addPerson_42 ?_
    refine G_iconst (v := 3) hX dX0_addPerson_45 rfl ?_
    refine G_iload hX dX0_addPerson_46 rfl ?_
    obtain ⟨u8, h7, hf⟩ := bd1_some hf
    refine G_cV (as := [.int (u6.1 a 2), .int 3, .int p3]) (rest := []) hX cvX0_34 (mX0_setTrait w ha h7) (Nat.le_of_ble_eq_true rfl) ha (Nat.le_of_ble_eq_true rfl) (kd_lt ha (Nat.le_of_ble_eq_true rfl)) rfl rfl (Nat.le_of_ble_eq_true rfl) dX0_addPerson_48 (st' := []) rfl ?_
    refine G_aload_n hX dX0_addPerson_51 rfl ?_
    refine G_aload_n hX dX0_addPerson_52 rfl ?_
    refine G_getI (i := 2) hX ha (Nat.le_of_ble_eq_true rfl) (kd_lt ha (Nat.le_of_ble_eq_true rfl)) rfl flX0_18 dX0_addPerson_53 ?_
    refine G_iconst (v := 4) hX dX0_addPerson_56 rfl ?_
    refine G_iload hX dX0_addPerson_57 rfl ?_
    obtain ⟨u10, h9, hf⟩ := bd1_some hf
    refine G_cV (as := [.int (u8.1 a 2), .int 4, .int p3]) (rest := []) hX cvX0_34 (mX0_setTrait w ha h9) (Nat.le_of_ble_eq_true rfl) ha (Nat.le_of_ble_eq_true rfl) (kd_lt ha (Nat.le_of_ble_eq_true rfl)) rfl rfl (Nat.le_of_ble_eq_true rfl) dX0_addPerson_59 (st' := []) rfl ?_
    refine G_aload_n hX dX0_addPerson_62 rfl ?_
    refine G_aload_n hX dX0_addPerson_63 rfl ?_
    refine G_getI (i := 2) hX ha (Nat.le_of_ble_eq_true rfl) (kd_lt ha (Nat.le_of_ble_eq_true rfl)) rfl flX0_18 dX0_addPerson_64 ?_
    refine G_iconst (v := 5) hX dX0_addPerson_67 rfl ?_
    refine G_iload hX dX0_addPerson_68 rfl ?_
    obtain ⟨u12, h11, hf⟩ := bd1_some hf
    refine G_cV (as := [.int (u10.1 a 2), .int 5, .int p4]) (rest := []) hX cvX0_34 (mX0_setTrait w ha h11) (Nat.le_of_ble_eq_true rfl) ha (Nat.le_of_ble_eq_true rfl) (kd_lt ha (Nat.le_of_ble_eq_true rfl)) rfl rfl (Nat.le_of_ble_eq_true rfl) dX0_addPerson_70 (st' := []) rfl ?_
    refine G_aload_n hX dX0_addPerson_73 rfl ?_
    refine G_aload_n hX dX0_addPerson_74 rfl ?_
    refine G_getI (i := 2) hX ha (Nat.le_of_ble_eq_true rfl) (kd_lt ha (Nat.le_of_ble_eq_true rfl)) rfl flX0_18 dX0_addPerson_75 ?_
    refine G_bipush (v := 6) hX dX0_addPerson_78 rfl ?_
    refine G_iconst (v := 0) hX dX0_addPerson_80 rfl ?_
    obtain ⟨u14, h13, hf⟩ := bd1_some hf
    refine G_cV (as := [.int (u12.1 a 2), .int 6, .int 0]) (rest := []) hX cvX0_34 (mX0_setTrait w ha h13) (Nat.le_of_ble_eq_true rfl) ha (Nat.le_of_ble_eq_true rfl) (kd_lt ha (Nat.le_of_ble_eq_true rfl)) rfl rfl (Nat.le_of_ble_eq_true rfl) dX0_addPerson_81 (st' := []) rfl ?_
    refine G_aload_n hX dX0_addPerson_84 rfl ?_
    refine G_aload_n hX dX0_addPerson_85 rfl ?_
    refine G_getI (i := 2) hX ha (Nat.le_of_ble_eq_true rfl) (kd_lt ha (Nat.le_of_ble_eq_true rfl)) rfl flX0_18 dX0_addPerson_86 ?_
    refine G_bipush (v := 7) hX dX0_addPerson_89 rfl ?_
    refine G_bipush (v := (-4)) hX dX0_addPerson_91 rfl ?_
    obtain ⟨u16, h15, hf⟩ := bd1_some hf
    refine G_cV (as := [.int (u14.1 a 2), .int 7, .int (-4)]) (rest := []) hX cvX0_34 (mX0_setTrait w ha h15) (Nat.le_of_ble_eq_true rfl) ha (Nat.le_of_ble_eq_true rfl) (kd_lt ha (Nat.le_of_ble_eq_true rfl)) rfl rfl (Nat.le_of_ble_eq_true rfl) dX0_addPerson_93 (st' := []) rfl ?_
    refine G_aload_n hX dX0_addPerson_96 rfl ?_
    refine G_dup hX dX0_addPerson_97 rfl ?_
    refine G_getI (i := 2) hX ha (Nat.le_of_ble_eq_true rfl) (kd_lt ha (Nat.le_of_ble_eq_true rfl)) rfl flX0_18 dX0_addPerson_98 ?_
    refine G_iconst (v := 1) hX dX0_addPerson_101 rfl ?_
    refine G_iadd hX dX0_addPerson_102 ?_
    refine G_putI (i := 2) hX ha (Nat.le_of_ble_eq_true rfl) (kd_lt ha (Nat.le_of_ble_eq_true rfl)) rfl rfl flX0_18 fwX0_2 dX0_addPerson_103 hf (fun u17 hf => ?_)
    obtain rfl := Option.some.inj hf
    exact G_vret hX hR dX0_addPerson_106
  · obtain rfl := Option.some.inj hf
    exact G_vret hX hR dX0_addPerson_9
noncomputable def fX6_takePerson_j85 (p0 : Nat) (p1 : Int32) (p2 : Int32) (j4 : Int32) (j5 : Int32) (j6 : Int32) (j7 : Int32) (z0 : Int32) (u : Um) : Option (Int32 × Um) :=
  if z0 = (-1) then
    some (0, u)
  else
    bd1 (fX0_addPerson p0 j4 j5 j6 j7 z0 u) fun u20 =>
    some (1, u20)
set_option maxHeartbeats 4000000 in
set_option maxRecDepth 100000 in
theorem tX6_takePerson_j85 {w : Wc} {X : MX} (hX : OKc w X RX6 cX6_takePerson 4) {p0 : Nat} {p1 : Int32} {p2 : Int32} {j4 : Int32} {j5 : Int32} {j6 : Int32} {j7 : Int32} {z0 : Int32} (hp0 : kd p0 = 0) {u : Um} {r : Int32} {u' : Um} (hR : RT w X (some .boolean) 0 0 Pst 133 false (some (.int r)) u') (hf : fX6_takePerson_j85 p0 p1 p2 j4 j5 j6 j7 z0 u = some (r, u')) : G w X Zm 85 [none, some (.ref p0), none, none, some (.int j4), some (.int j5), some (.int j6), some (.int j7), none] [.int z0] u := by
  unfold fX6_takePerson_j85 at hf
  refine G_istore (lv' := [none, some (.ref p0), none, none, some (.int j4), some (.int j5), some (.int j6), some (.int j7), some (.int z0)]) hX dX6_takePerson_85 rfl (Nat.le_of_ble_eq_true rfl) rfl ?_
  refine G_iload hX dX6_takePerson_87 rfl ?_
  refine G_iconst (v := (-1)) hX dX6_takePerson_89 rfl ?_
  refine G_icmp_ne (tgt := 95) hX dX6_takePerson_90 rfl hf (fun hf => ?_) (fun hf => ?_)
  · refine G_aload_n hX dX6_takePerson_95 rfl ?_
    refine G_iload hX dX6_takePerson_96 rfl ?_
    refine G_iload hX dX6_takePerson_98 rfl ?_
    refine G_iload hX dX6_takePerson_100 rfl ?_
    refine G_iload hX dX6_takePerson_102 rfl ?_
    refine G_iload hX dX6_takePerson_104 rfl ?_
    obtain ⟨u20, h19, hf⟩ := bd1_some hf
    refine G_cV (as := [.int j4, .int j5, .int j6, .int j7, .int z0]) (rest := []) hX cvX6_59 (mX0_addPerson w hp0 h19) (Nat.le_of_ble_eq_true rfl) hp0 (Nat.le_of_ble_eq_true rfl) (kd_lt hp0 (Nat.le_of_ble_eq_true rfl)) rfl rfl (Nat.le_of_ble_eq_true rfl) dX6_takePerson_106 (st' := []) rfl ?_
    refine G_iconst (v := 1) hX dX6_takePerson_109 rfl ?_
    obtain ⟨rfl, rfl⟩ := ret2 hf
    exact G_zret hX hR (by decide) dX6_takePerson_110
  · refine G_iconst (v := 0) hX dX6_takePerson_93 rfl ?_
    obtain ⟨rfl, rfl⟩ := ret2 hf
    exact G_zret hX hR (by decide) dX6_takePerson_94
noncomputable def fX6_takePerson (p0 : Nat) (p1 : Int32) (p2 : Int32) (u : Um) : Option (Int32 × Um) :=
  bd2 (fX6_takeKind  u) fun v2 u3 =>
  if v2 = (-1) then
    some (0, u3)
  else
    bd2 (fX6_takeFigure 0 9 u3) fun v5 u6 =>
    if v5 = (-1) then
      some (0, u6)
    else
      bd2 (fX6_takeFigure 0 9 u6) fun v8 u9 =>
      if v8 = (-1) then
        some (0, u9)
      else
        bd2 (fX6_takeFigure 0 9 u9) fun v11 u12 =>
        if v11 = (-1) then
          some (0, u12)
        else
          bd2 (fX6_takeSign 45 u12) fun v14 u15 =>
          if v14 = 0 then
            bd2 (fX6_takeOther p1 p2 u15) fun v17 u18 =>
            fX6_takePerson_j85 p0 p1 p2 v2 v5 v8 v11 v17 u18
          else
            fX6_takePerson_j85 p0 p1 p2 v2 v5 v8 v11 (-4) u15
set_option maxHeartbeats 4000000 in
set_option maxRecDepth 100000 in
theorem mX6_takePerson (w : Wc) {p0 : Nat} {p1 : Int32} {p2 : Int32} (hp0 : kd p0 = 0) {u : Um} {r : Int32} {u' : Um} (hf : fX6_takePerson p0 p1 p2 u = some (r, u')) : MC w 4 qX6_takePerson [.ref 1, .ref p0, .int p1, .int p2] u (some (.int r)) u' := by
  unfold fX6_takePerson at hf
  refine MC_intro pnX6 (Nat.le_of_ble_eq_true rfl) (fun X hX hR _ _ => ?_)
  have hX : OKc w X RX6 cX6_takePerson 4 := hX
  have hR : RT w X (some .boolean) 0 0 Pst 133 false (some (.int r)) u' := hR
  refine G_eql (lv' := [some (.ref 1), some (.ref p0), some (.int p1), some (.int p2), none, none, none, none, none]) rfl ?_
  refine G_aload_n hX dX6_takePerson_0 rfl ?_
  obtain ⟨v2, u3, h1, hf⟩ := bd2_some hf
  refine G_cV (as := []) (rest := []) hX cvX6_53 (mX6_takeKind w h1) (Nat.le_of_ble_eq_true rfl) kK1 (Nat.le_of_ble_eq_true rfl) (Nat.le_of_ble_eq_true rfl) rfl rfl (Nat.le_of_ble_eq_true rfl) dX6_takePerson_1 (st' := [.int v2]) rfl ?_
  refine G_istore (lv' := [some (.ref 1), some (.ref p0), some (.int p1), some (.int p2), some (.int v2), none, none, none, none]) hX dX6_takePerson_4 rfl (Nat.le_of_ble_eq_true rfl) rfl ?_
  refine G_iload hX dX6_takePerson_6 rfl ?_
  refine G_iconst (v := (-1)) hX dX6_takePerson_8 rfl ?_
  refine G_icmp_ne (tgt := 14) hX dX6_takePerson_9 rfl hf (fun hf => ?_) (fun hf => ?_)
  · refine G_aload_n hX dX6_takePerson_14 rfl ?_
    refine G_iconst (v := 0) hX dX6_takePerson_15 rfl ?_
    refine G_bipush (v := 9) hX dX6_takePerson_16 rfl ?_
    obtain ⟨v5, u6, h4, hf⟩ := bd2_some hf
    refine G_cV (as := [.int 0, .int 9]) (rest := []) hX cvX6_45 (mX6_takeFigure w h4) (Nat.le_of_ble_eq_true rfl) kK1 (Nat.le_of_ble_eq_true rfl) (Nat.le_of_ble_eq_true rfl) rfl rfl (Nat.le_of_ble_eq_true rfl) dX6_takePerson_18 (st' := [.int v5]) rfl ?_
    refine G_istore (lv' := [some (.ref 1), some (.ref p0), some (.int p1), some (.int p2), some (.int v2), some (.int v5), none, none, none]) hX dX6_takePerson_21 rfl (Nat.le_of_ble_eq_true rfl) rfl ?_
    refine G_iload hX dX6_takePerson_23 rfl ?_
    refine G_iconst (v := (-1)) hX dX6_takePerson_25 rfl ?_
    refine G_icmp_ne (tgt := 31) hX dX6_takePerson_26 rfl hf (fun hf => ?_) (fun hf => ?_)
    · refine G_aload_n hX dX6_takePerson_31 rfl ?_
      refine G_iconst (v := 0) hX dX6_takePerson_32 rfl ?_
      refine G_bipush (v := 9) hX dX6_takePerson_33 rfl ?_
      obtain ⟨v8, u9, h7, hf⟩ := bd2_some hf
      refine G_cV (as := [.int 0, .int 9]) (rest := []) hX cvX6_45 (mX6_takeFigure w h7) (Nat.le_of_ble_eq_true rfl) kK1 (Nat.le_of_ble_eq_true rfl) (Nat.le_of_ble_eq_true rfl) rfl rfl (Nat.le_of_ble_eq_true rfl) dX6_takePerson_35 (st' := [.int v8]) rfl ?_
      refine G_istore (lv' := [some (.ref 1), some (.ref p0), some (.int p1), some (.int p2), some (.int v2), some (.int v5), some (.int v8), none, none]) hX dX6_takePerson_38 rfl (Nat.le_of_ble_eq_true rfl) rfl ?_
      refine G_iload hX dX6_takePerson_40 rfl ?_
      refine G_iconst (v := (-1)) hX dX6_takePerson_42 rfl ?_
      refine G_icmp_ne (tgt := 48) hX dX6_takePerson_43 rfl hf (fun hf => ?_) (fun hf => ?_)
      · refine G_aload_n hX dX6_takePerson_48 rfl ?_
        refine G_iconst (v := 0) hX dX6_takePerson_49 rfl ?_
        refine G_bipush (v := 9) hX dX6_takePerson_50 rfl ?_
        obtain ⟨v11, u12, h10, hf⟩ := bd2_some hf
        refine G_cV (as := [.int 0, .int 9]) (rest := []) hX cvX6_45 (mX6_takeFigure w h10) (Nat.le_of_ble_eq_true rfl) kK1 (Nat.le_of_ble_eq_true rfl) (Nat.le_of_ble_eq_true rfl) rfl rfl (Nat.le_of_ble_eq_true rfl) dX6_takePerson_52 (st' := [.int v11]) rfl ?_
        refine G_istore (lv' := [some (.ref 1), some (.ref p0), some (.int p1), some (.int p2), some (.int v2), some (.int v5), some (.int v8), some (.int v11), none]) hX dX6_takePerson_55 rfl (Nat.le_of_ble_eq_true rfl) rfl ?_
        refine G_iload hX dX6_takePerson_57 rfl ?_
        refine G_iconst (v := (-1)) hX dX6_takePerson_59 rfl ?_
        refine G_icmp_ne (tgt := 65) hX dX6_takePerson_60 rfl hf (fun hf => ?_) (fun hf => ?_)
        · refine G_aload_n hX dX6_takePerson_65 rfl ?_
          refine G_bipush (v := 45) hX dX6_takePerson_66 rfl ?_
          obtain ⟨v14, u15, h13, hf⟩ := bd2_some hf
          refine G_cV (as := [.int 45]) (rest := []) hX cvX6_27 (mX6_takeSign w h13) (Nat.le_of_ble_eq_true rfl) kK1 (Nat.le_of_ble_eq_true rfl) (Nat.le_of_ble_eq_true rfl) rfl rfl (Nat.le_of_ble_eq_true rfl) dX6_takePerson_68 (st' := [.int v14]) rfl ?_
          refine G_if_eq (tgt := 79) hX dX6_takePerson_71 rfl hf (fun hf => ?_) (fun hf => ?_)
          · refine G_aload_n hX dX6_takePerson_79 rfl ?_
            refine G_iload_n hX dX6_takePerson_80 rfl ?_
            refine G_iload_n hX dX6_takePerson_81 rfl ?_
            obtain ⟨v17, u18, h16, hf⟩ := bd2_some hf
            refine G_cV (as := [.int p1, .int p2]) (rest := []) hX cvX6_56 (mX6_takeOther w h16) (Nat.le_of_ble_eq_true rfl) kK1 (Nat.le_of_ble_eq_true rfl) (Nat.le_of_ble_eq_true rfl) rfl rfl (Nat.le_of_ble_eq_true rfl) dX6_takePerson_82 (st' := [.int v17]) rfl ?_
            refine G_mask (lv' := [none, some (.ref p0), none, none, some (.int v2), some (.int v5), some (.int v8), some (.int v11), none]) [false, true, false, false, true, true, true, true, false] rfl rfl ?_
            exact tX6_takePerson_j85 hX hp0 hR hf
          · refine G_bipush (v := (-4)) hX dX6_takePerson_74 rfl ?_
            refine G_goto (tgt := 85) hX dX6_takePerson_76 rfl ?_
            refine G_mask (lv' := [none, some (.ref p0), none, none, some (.int v2), some (.int v5), some (.int v8), some (.int v11), none]) [false, true, false, false, true, true, true, true, false] rfl rfl ?_
            exact tX6_takePerson_j85 hX hp0 hR hf
        · refine G_iconst (v := 0) hX dX6_takePerson_63 rfl ?_
          obtain ⟨rfl, rfl⟩ := ret2 hf
          exact G_zret hX hR (by decide) dX6_takePerson_64
      · refine G_iconst (v := 0) hX dX6_takePerson_46 rfl ?_
        obtain ⟨rfl, rfl⟩ := ret2 hf
        exact G_zret hX hR (by decide) dX6_takePerson_47
    · refine G_iconst (v := 0) hX dX6_takePerson_29 rfl ?_
      obtain ⟨rfl, rfl⟩ := ret2 hf
      exact G_zret hX hR (by decide) dX6_takePerson_30
  · refine G_iconst (v := 0) hX dX6_takePerson_12 rfl ?_
    obtain ⟨rfl, rfl⟩ := ret2 hf
    exact G_zret hX hR (by decide) dX6_takePerson_13
noncomputable def fX6_takePeople_j35 (p0 : Nat) (i2 : Int32) (j3 : Int32) (u : Um) : Option (Nat × Int32 × Um) :=
  bd2 (fX6_takePerson p0 j3 i2 u) fun v5 u6 =>
  if v5 = 0 then
    some (2, j3, u6)
  else
    nm (j3 + 1) fun v7 =>
    some (0, v7, u6)
set_option maxHeartbeats 4000000 in
set_option maxRecDepth 100000 in
theorem tX6_takePeople_j35 {w : Wc} {X : MX} (hX : OKc w X RX6 cX6_takePeople 5) {p0 : Nat} {i2 : Int32} {j3 : Int32} (hp0 : kd p0 = 0)  {u : Um} {e : Nat} {s' : Int32 × Um} (K0 : e = 0 → G w X Zm 17 [some (.ref 1), some (.ref p0), some (.int i2), some (.int s'.1)] [] s'.2) (K1 : e ≠ 0 → if e = 1 then G w X Zm 53 [none, none, none, none] [] s'.2 else G w X Zm 45 [none, none, none, none] [] s'.2) (hf : fX6_takePeople_j35 p0 i2 j3 u = some (e, s')) : G w X Zm 35 [some (.ref 1), some (.ref p0), some (.int i2), some (.int j3)] [] u := by
  unfold fX6_takePeople_j35 at hf
  refine G_aload_n hX dX6_takePeople_35 rfl ?_
  refine G_aload_n hX dX6_takePeople_36 rfl ?_
  refine G_iload_n hX dX6_takePeople_37 rfl ?_
  refine G_iload_n hX dX6_takePeople_38 rfl ?_
  obtain ⟨v5, u6, h4, hf⟩ := bd2_some hf
  refine G_cV (as := [.ref p0, .int j3, .int i2]) (rest := []) hX cvX6_49 (mX6_takePerson w hp0 h4) (Nat.le_of_ble_eq_true rfl) kK1 (Nat.le_of_ble_eq_true rfl) (Nat.le_of_ble_eq_true rfl) rfl rfl (Nat.le_of_ble_eq_true rfl) dX6_takePeople_39 (st' := [.int v5]) rfl ?_
  refine G_if_ne (tgt := 47) hX dX6_takePeople_42 rfl hf (fun hf => ?_) (fun hf => ?_)
  · refine G_iincF (lvf := fun v7 => [some (.ref 1), some (.ref p0), some (.int i2), some (.int v7)]) hX dX6_takePeople_47 rfl rfl rfl (Nat.le_of_ble_eq_true rfl) (fun _ => rfl) hf (fun v7 hf => ?_)
    refine G_goto (tgt := 17) hX dX6_takePeople_50 rfl ?_
    obtain ⟨rfl, rfl⟩ := ret2 hf
    refine G_mask (lv' := [some (.ref 1), some (.ref p0), some (.int i2), some (.int v7)]) [true, true, true, true] rfl rfl ?_
    exact K0 rfl
  · obtain ⟨rfl, rfl⟩ := ret2 hf
    refine G_mask (lv' := [none, none, none, none]) [false, false, false, false] rfl rfl ?_
    exact gx_miss (by decide) (K1 (by decide))
noncomputable def fX6_takePeople_b17 (p0 : Nat) (i2 : Int32) (s3 : Int32) (u : Um) : Option (Nat × Int32 × Um) :=
  if i2 ≤ s3 then
    some (1, s3, u)
  else
    if s3 ≤ 0 then
      fX6_takePeople_j35 p0 i2 s3 u
    else
      bd2 (fX6_takeSign 44 u) fun v9 u10 =>
      if v9 = 0 then
        some (2, s3, u10)
      else
        fX6_takePeople_j35 p0 i2 s3 u10
set_option maxHeartbeats 4000000 in
set_option maxRecDepth 100000 in
theorem tX6_takePeople_b17 {w : Wc} {X : MX} (hX : OKc w X RX6 cX6_takePeople 5) {p0 : Nat} {i2 : Int32} (hp0 : kd p0 = 0) {s : Int32 × Um} {e : Nat} {s' : Int32 × Um} (hf : fX6_takePeople_b17 p0 i2 s.1 s.2 = some (e, s')) (K0 : e = 0 → G w X Zm 17 [some (.ref 1), some (.ref p0), some (.int i2), some (.int s'.1)] [] s'.2) (K1 : e ≠ 0 → if e = 1 then G w X Zm 53 [none, none, none, none] [] s'.2 else G w X Zm 45 [none, none, none, none] [] s'.2) : G w X Zm 17 [some (.ref 1), some (.ref p0), some (.int i2), some (.int s.1)] [] s.2 := by
  obtain ⟨s3, u⟩ := s
  unfold fX6_takePeople_b17 at hf
  try dsimp only at hf ⊢
  refine G_iload_n hX dX6_takePeople_17 rfl ?_
  refine G_iload_n hX dX6_takePeople_18 rfl ?_
  refine G_icmp_ge (tgt := 53) hX dX6_takePeople_19 rfl hf (fun hf => ?_) (fun hf => ?_)
  · obtain ⟨rfl, rfl⟩ := ret2 hf
    refine G_mask (lv' := [none, none, none, none]) [false, false, false, false] rfl rfl ?_
    exact gx_hit (K1 (by decide))
  · refine G_iload_n hX dX6_takePeople_22 rfl ?_
    refine G_if_le (tgt := 35) hX dX6_takePeople_23 rfl hf (fun hf => ?_) (fun hf => ?_)
    · refine G_mask (lv' := [some (.ref 1), some (.ref p0), some (.int i2), some (.int s3)]) [true, true, true, true] rfl rfl ?_
      exact tX6_takePeople_j35 hX hp0 K0 K1 hf
    · refine G_aload_n hX dX6_takePeople_26 rfl ?_
      refine G_bipush (v := 44) hX dX6_takePeople_27 rfl ?_
      obtain ⟨v9, u10, h8, hf⟩ := bd2_some hf
      refine G_cV (as := [.int 44]) (rest := []) hX cvX6_27 (mX6_takeSign w h8) (Nat.le_of_ble_eq_true rfl) kK1 (Nat.le_of_ble_eq_true rfl) (Nat.le_of_ble_eq_true rfl) rfl rfl (Nat.le_of_ble_eq_true rfl) dX6_takePeople_29 (st' := [.int v9]) rfl ?_
      refine G_if_eq (tgt := 45) hX dX6_takePeople_32 rfl hf (fun hf => ?_) (fun hf => ?_)
      · obtain ⟨rfl, rfl⟩ := ret2 hf
        refine G_mask (lv' := [none, none, none, none]) [false, false, false, false] rfl rfl ?_
        exact gx_miss (by decide) (K1 (by decide))
      · refine G_mask (lv' := [some (.ref 1), some (.ref p0), some (.int i2), some (.int s3)]) [true, true, true, true] rfl rfl ?_
        exact tX6_takePeople_j35 hX hp0 K0 K1 hf
noncomputable def fX6_takePeople (p0 : Nat) (u : Um) : Option (Int32 × Um) :=
  bd2 (fX6_takeFigure 2 6 u) fun v2 u3 =>
  if v2 = (-1) then
    some (0, u3)
  else
    bd3 (lp (fun s => fX6_takePeople_b17 p0 v2 s.1 s.2) fuel ((0 : Int32), u3)) fun e13 v11 u12 =>
    if e13 = 1 then
      some (1, u12)
    else
    some (0, u12)
set_option maxHeartbeats 4000000 in
set_option maxRecDepth 100000 in
theorem mX6_takePeople (w : Wc) {p0 : Nat} (hp0 : kd p0 = 0) {u : Um} {r : Int32} {u' : Um} (hf : fX6_takePeople p0 u = some (r, u')) : MC w 5 qX6_takePeople [.ref 1, .ref p0] u (some (.int r)) u' := by
  unfold fX6_takePeople at hf
  refine MC_intro pnX6 (Nat.le_of_ble_eq_true rfl) (fun X hX hR _ _ => ?_)
  have hX : OKc w X RX6 cX6_takePeople 5 := hX
  have hR : RT w X (some .boolean) 0 0 Pst 133 false (some (.int r)) u' := hR
  refine G_eql (lv' := [some (.ref 1), some (.ref p0), none, none]) rfl ?_
  refine G_aload_n hX dX6_takePeople_0 rfl ?_
  refine G_iconst (v := 2) hX dX6_takePeople_1 rfl ?_
  refine G_bipush (v := 6) hX dX6_takePeople_2 rfl ?_
  obtain ⟨v2, u3, h1, hf⟩ := bd2_some hf
  refine G_cV (as := [.int 2, .int 6]) (rest := []) hX cvX6_45 (mX6_takeFigure w h1) (Nat.le_of_ble_eq_true rfl) kK1 (Nat.le_of_ble_eq_true rfl) (Nat.le_of_ble_eq_true rfl) rfl rfl (Nat.le_of_ble_eq_true rfl) dX6_takePeople_4 (st' := [.int v2]) rfl ?_
  refine G_istore_n (lv' := [some (.ref 1), some (.ref p0), some (.int v2), none]) hX dX6_takePeople_7 rfl (Nat.le_of_ble_eq_true rfl) rfl ?_
  refine G_iload_n hX dX6_takePeople_8 rfl ?_
  refine G_iconst (v := (-1)) hX dX6_takePeople_9 rfl ?_
  refine G_icmp_ne (tgt := 15) hX dX6_takePeople_10 rfl hf (fun hf => ?_) (fun hf => ?_)
  · refine G_iconst (v := 0) hX dX6_takePeople_15 rfl ?_
    refine G_istore_n (lv' := [some (.ref 1), some (.ref p0), some (.int v2), some (.int 0)]) hX dX6_takePeople_16 rfl (Nat.le_of_ble_eq_true rfl) rfl ?_
    obtain ⟨e13, v11, u12, h14, hf⟩ := bd3_some hf
    refine G_mask (lv' := [some (.ref 1), some (.ref p0), some (.int v2), some (.int 0)]) [true, true, true, true] rfl rfl ?_
    refine lp_G (body := (fun s => fX6_takePeople_b17 p0 v2 s.1 s.2)) (Gh := fun s => G w X Zm 17 [some (.ref 1), some (.ref p0), some (.int v2), some (.int s.1)] [] s.2) (Gx := fun e s => if e = 1 then G w X Zm 53 [none, none, none, none] [] s.2 else G w X Zm 45 [none, none, none, none] [] s.2) (fun s e s' hb K0 K1 => tX6_takePeople_b17 (s := s) (e := e) (s' := s') hX hp0  hb K0 K1) fuel ((0 : Int32), u3) (e13, v11, u12) h14 ?_
    refine gx2 hf (fun hf => ?_) (fun hf => ?_)
    · refine G_iconst (v := 1) hX dX6_takePeople_53 rfl ?_
      obtain ⟨rfl, rfl⟩ := ret2 hf
      exact G_zret hX hR (by decide) dX6_takePeople_54
    refine G_iconst (v := 0) hX dX6_takePeople_45 rfl ?_
    obtain ⟨rfl, rfl⟩ := ret2 hf
    exact G_zret hX hR (by decide) dX6_takePeople_46
  · refine G_iconst (v := 0) hX dX6_takePeople_13 rfl ?_
    obtain ⟨rfl, rfl⟩ := ret2 hf
    exact G_zret hX hR (by decide) dX6_takePeople_14
noncomputable def fX0_people (a : Nat) (u : Um) : Option Int32 :=
  some (u.1 a 2)
set_option maxHeartbeats 4000000 in
set_option maxRecDepth 100000 in
theorem mX0_people (w : Wc) {a : Nat} (ha : kd a = 0) {u : Um} {r : Int32} (hf : fX0_people a u = some r) : MC w 1 qX0_people [.ref a] u (some (.int r)) u := by
  unfold fX0_people at hf
  refine MC_intro pnX0 (Nat.le_of_ble_eq_true rfl) (fun X hX hR _ _ => ?_)
  have hX : OKc w X RX0 cX0_people 1 := hX
  have hR : RT w X (some .int) 0 0 Pst 133 false (some (.int r)) u := hR
  refine G_eql (lv' := [some (.ref a)]) rfl ?_
  refine G_aload_n hX dX0_people_0 rfl ?_
  refine G_getI (i := 2) hX ha (Nat.le_of_ble_eq_true rfl) (kd_lt ha (Nat.le_of_ble_eq_true rfl)) rfl flX0_18 dX0_people_1 ?_
  obtain rfl := Option.some.inj hf
  exact G_iret hX hR dX0_people_4
noncomputable def fX0_setPart (a : Nat) (p0 : Int32) (p1 : Int32) (p2 : Int32) (u : Um) : Option Um :=
  nm ((p0 * 4) + p1) fun v1 =>
  if v1 < 0 then
    some u
  else
    if 32 ≤ v1 then
      some u
    else
      if inb v1 32 = true then
      nm (sI u (a + 2) v1.toNatClampNeg p2) fun u2 =>
      some u2
      else none
set_option maxHeartbeats 4000000 in
set_option maxRecDepth 100000 in
theorem mX0_setPart (w : Wc) {a : Nat} {p0 : Int32} {p1 : Int32} {p2 : Int32} (ha : kd a = 0) {u : Um} {u' : Um} (hf : fX0_setPart a p0 p1 p2 u = some u') : MC w 1 qX0_setPart [.ref a, .int p0, .int p1, .int p2] u none u' := by
  unfold fX0_setPart at hf
  refine MC_intro pnX0 (Nat.le_of_ble_eq_true rfl) (fun X hX hR _ _ => ?_)
  have hX : OKc w X RX0 cX0_setPart 1 := hX
  have hR : RT w X none 0 0 Pst 133 false none u' := hR
  refine G_eql (lv' := [some (.ref a), some (.int p0), some (.int p1), some (.int p2), none]) rfl ?_
  refine G_iload_n hX dX0_setPart_0 rfl ?_
  refine G_iconst (v := 4) hX dX0_setPart_1 rfl ?_
  refine G_imul hX dX0_setPart_2 ?_
  refine G_iload_n hX dX0_setPart_3 rfl ?_
  refine G_iadd hX dX0_setPart_4 ?_
  refine G_istoreF (lvf := fun v1 => [some (.ref a), some (.int p0), some (.int p1), some (.int p2), some (.int v1)]) hX dX0_setPart_5 rfl (Nat.le_of_ble_eq_true rfl) (fun _ => rfl) hf (fun v1 hf => ?_)
  refine G_iload hX dX0_setPart_7 rfl ?_
  refine G_if_lt (tgt := 30) hX dX0_setPart_9 rfl hf (fun hf => ?_) (fun hf => ?_)
  · obtain rfl := Option.some.inj hf
    exact G_vret hX hR dX0_setPart_30
  · refine G_iload hX dX0_setPart_12 rfl ?_
    refine G_aload_n hX dX0_setPart_14 rfl ?_
    refine G_getR (i := 1) (t := (a + 2)) hX ha (Nat.le_of_ble_eq_true rfl) (kd_lt ha (Nat.le_of_ble_eq_true rfl)) rfl (PC2 ha) flX0_15 dX0_setPart_15 ?_
    refine G_alenI (n := 32) (v := 32) hX (kC2 ha) (lC2 ha) (xC2 ha) dX0_setPart_18 rfl ?_
    refine G_icmp_ge (tgt := 30) hX dX0_setPart_19 rfl hf (fun hf => ?_) (fun hf => ?_)
    · obtain rfl := Option.some.inj hf
      exact G_vret hX hR dX0_setPart_30
    · refine G_aload_n hX dX0_setPart_22 rfl ?_
      refine G_getR (i := 1) (t := (a + 2)) hX ha (Nat.le_of_ble_eq_true rfl) (kd_lt ha (Nat.le_of_ble_eq_true rfl)) rfl (PC2 ha) flX0_15 dX0_setPart_23 ?_
      refine G_iload hX dX0_setPart_26 rfl ?_
      refine G_iload_n hX dX0_setPart_28 rfl ?_
      refine G_iast (n := 32) hX (kC2 ha) (lC2 ha) (xC2 ha) rfl dX0_setPart_29 hf (fun u2 hf => ?_)
      obtain rfl := Option.some.inj hf
      exact G_vret hX hR dX0_setPart_30
noncomputable def fX0_addWrong (a : Nat) (p0 : Int32) (p1 : Int32) (p2 : Int32) (u : Um) : Option Um :=
  if (u.1 a 3) < 8 then
    bd1 (fX0_setPart a (u.1 a 3) 0 p0 u) fun u2 =>
    bd1 (fX0_setPart a (u2.1 a 3) 1 p1 u2) fun u4 =>
    bd1 (fX0_setPart a (u4.1 a 3) 2 p2 u4) fun u6 =>
    bd1 (fX0_setPart a (u6.1 a 3) 3 (-4) u6) fun u8 =>
    nm (sI u8 a 3 ((u8.1 a 3) + 1)) fun u9 =>
    some u9
  else
    some u
set_option maxHeartbeats 4000000 in
set_option maxRecDepth 100000 in
theorem mX0_addWrong (w : Wc) {a : Nat} {p0 : Int32} {p1 : Int32} {p2 : Int32} (ha : kd a = 0) {u : Um} {u' : Um} (hf : fX0_addWrong a p0 p1 p2 u = some u') : MC w 2 qX0_addWrong [.ref a, .int p0, .int p1, .int p2] u none u' := by
  unfold fX0_addWrong at hf
  refine MC_intro pnX0 (Nat.le_of_ble_eq_true rfl) (fun X hX hR _ _ => ?_)
  have hX : OKc w X RX0 cX0_addWrong 2 := hX
  have hR : RT w X none 0 0 Pst 133 false none u' := hR
  refine G_eql (lv' := [some (.ref a), some (.int p0), some (.int p1), some (.int p2)]) rfl ?_
  refine G_aload_n hX dX0_addWrong_0 rfl ?_
  refine G_getI (i := 3) hX ha (Nat.le_of_ble_eq_true rfl) (kd_lt ha (Nat.le_of_ble_eq_true rfl)) rfl flX0_22 dX0_addWrong_1 ?_
  refine G_bipush (v := 8) hX dX0_addWrong_4 rfl ?_
  refine G_icmp_lt (tgt := 10) hX dX0_addWrong_6 rfl hf (fun hf => ?_) (fun hf => ?_)
  · refine G_aload_n hX dX0_addWrong_10 rfl ?_
    refine G_aload_n hX dX0_addWrong_11 rfl ?_
    refine G_getI (i := 3) hX ha (Nat.le_of_ble_eq_true rfl) (kd_lt ha (Nat.le_of_ble_eq_true rfl)) rfl flX0_22 dX0_addWrong_12 ?_
    refine G_iconst (v := 0) hX dX0_addWrong_15 rfl ?_
    refine G_iload_n hX dX0_addWrong_16 rfl ?_
    obtain ⟨u2, h1, hf⟩ := bd1_some hf
    refine G_cV (as := [.int (u.1 a 3), .int 0, .int p0]) (rest := []) hX cvX0_38 (mX0_setPart w ha h1) (Nat.le_of_ble_eq_true rfl) ha (Nat.le_of_ble_eq_true rfl) (kd_lt ha (Nat.le_of_ble_eq_true rfl)) rfl rfl (Nat.le_of_ble_eq_true rfl) dX0_addWrong_17 (st' := []) rfl ?_
    refine G_aload_n hX dX0_addWrong_20 rfl ?_
    refine G_aload_n hX dX0_addWrong_21 rfl ?_
    refine G_getI (i := 3) hX ha (Nat.le_of_ble_eq_true rfl) (kd_lt ha (Nat.le_of_ble_eq_true rfl)) rfl flX0_22 dX0_addWrong_22 ?_
    refine G_iconst (v := 1) hX dX0_addWrong_25 rfl ?_
    refine G_iload_n hX dX0_addWrong_26 rfl ?_
    obtain ⟨u4, h3, hf⟩ := bd1_some hf
    refine G_cV (as := [.int (u2.1 a 3), .int 1, .int p1]) (rest := []) hX cvX0_38 (mX0_setPart w ha h3) (Nat.le_of_ble_eq_true rfl) ha (Nat.le_of_ble_eq_true rfl) (kd_lt ha (Nat.le_of_ble_eq_true rfl)) rfl rfl (Nat.le_of_ble_eq_true rfl) dX0_addWrong_27 (st' := []) rfl ?_
    refine G_aload_n hX dX0_addWrong_30 rfl ?_
    refine G_aload_n hX dX0_addWrong_31 rfl ?_
    refine G_getI (i := 3) hX ha (Nat.le_of_ble_eq_true rfl) (kd_lt ha (Nat.le_of_ble_eq_true rfl)) rfl flX0_22 dX0_addWrong_32 ?_
    refine G_iconst (v := 2) hX dX0_addWrong_35 rfl ?_
    refine G_iload_n hX dX0_addWrong_36 rfl ?_
    obtain ⟨u6, h5, hf⟩ := bd1_some hf
    refine G_cV (as := [.int (u4.1 a 3), .int 2, .int p2]) (rest := []) hX cvX0_38 (mX0_setPart w ha h5) (Nat.le_of_ble_eq_true rfl) ha (Nat.le_of_ble_eq_true rfl) (kd_lt ha (Nat.le_of_ble_eq_true rfl)) rfl rfl (Nat.le_of_ble_eq_true rfl) dX0_addWrong_37 (st' := []) rfl ?_
    refine G_aload_n hX dX0_addWrong_40 rfl ?_
    refine G_aload_n hX dX0_addWrong_41 rfl ?_
    refine G_getI (i := 3) hX ha (Nat.le_of_ble_eq_true rfl) (kd_lt ha (Nat.le_of_ble_eq_true rfl)) rfl flX0_22 dX0_addWrong_42 ?_
    refine G_iconst (v := 3) hX dX0_addWrong_45 rfl ?_
    refine G_bipush (v := (-4)) hX dX0_addWrong_46 rfl ?_
    obtain ⟨u8, h7, hf⟩ := bd1_some hf
    refine G_cV (as := [.int (u6.1 a 3), .int 3, .int (-4)]) (rest := []) hX cvX0_38 (mX0_setPart w ha h7) (Nat.le_of_ble_eq_true rfl) ha (Nat.le_of_ble_eq_true rfl) (kd_lt ha (Nat.le_of_ble_eq_true rfl)) rfl rfl (Nat.le_of_ble_eq_true rfl) dX0_addWrong_48 (st' := []) rfl ?_
    refine G_aload_n hX dX0_addWrong_51 rfl ?_
    refine G_dup hX dX0_addWrong_52 rfl ?_
    refine G_getI (i := 3) hX ha (Nat.le_of_ble_eq_true rfl) (kd_lt ha (Nat.le_of_ble_eq_true rfl)) rfl flX0_22 dX0_addWrong_53 ?_
    refine G_iconst (v := 1) hX dX0_addWrong_56 rfl ?_
    refine G_iadd hX dX0_addWrong_57 ?_
    refine G_putI (i := 3) hX ha (Nat.le_of_ble_eq_true rfl) (kd_lt ha (Nat.le_of_ble_eq_true rfl)) rfl rfl flX0_22 fwX0_3 dX0_addWrong_58 hf (fun u9 hf => ?_)
    obtain rfl := Option.some.inj hf
    exact G_vret hX hR dX0_addWrong_61
  · obtain rfl := Option.some.inj hf
    exact G_vret hX hR dX0_addWrong_9
noncomputable def fX6_takeWrong (p0 : Nat) (u : Um) : Option (Int32 × Um) :=
  bd1 (fX0_people p0 u) fun v2 =>
  bd2 (fX6_takeFigure 0 (v2 - 1) u) fun v4 u5 =>
  if v4 = (-1) then
    some (0, u5)
  else
    bd1 (fX0_people p0 u5) fun v7 =>
    bd2 (fX6_takeOther v4 v7 u5) fun v9 u10 =>
    if v9 = (-1) then
      some (0, u10)
    else
      bd2 (fX6_takeFigure 1 9 u10) fun v12 u13 =>
      if v12 = (-1) then
        some (0, u13)
      else
        bd1 (fX0_addWrong p0 v4 v9 v12 u13) fun u15 =>
        some (1, u15)
set_option maxHeartbeats 4000000 in
set_option maxRecDepth 100000 in
theorem mX6_takeWrong (w : Wc) {p0 : Nat} (hp0 : kd p0 = 0) {u : Um} {r : Int32} {u' : Um} (hf : fX6_takeWrong p0 u = some (r, u')) : MC w 4 qX6_takeWrong [.ref 1, .ref p0] u (some (.int r)) u' := by
  unfold fX6_takeWrong at hf
  refine MC_intro pnX6 (Nat.le_of_ble_eq_true rfl) (fun X hX hR _ _ => ?_)
  have hX : OKc w X RX6 cX6_takeWrong 4 := hX
  have hR : RT w X (some .boolean) 0 0 Pst 133 false (some (.int r)) u' := hR
  refine G_eql (lv' := [some (.ref 1), some (.ref p0), none, none, none]) rfl ?_
  refine G_aload_n hX dX6_takeWrong_0 rfl ?_
  refine G_iconst (v := 0) hX dX6_takeWrong_1 rfl ?_
  refine G_aload_n hX dX6_takeWrong_2 rfl ?_
  obtain ⟨v2, h1, hf⟩ := bd1_some hf
  refine G_cV (as := []) (rest := [.int 0, .ref 1]) hX cvX6_70 (mX0_people w hp0 h1) (Nat.le_of_ble_eq_true rfl) hp0 (Nat.le_of_ble_eq_true rfl) (kd_lt hp0 (Nat.le_of_ble_eq_true rfl)) rfl rfl (Nat.le_of_ble_eq_true rfl) dX6_takeWrong_3 (st' := [.int v2, .int 0, .ref 1]) rfl ?_
  refine G_iconst (v := 1) hX dX6_takeWrong_6 rfl ?_
  refine G_isub hX dX6_takeWrong_7 ?_
  obtain ⟨v4, u5, h3, hf⟩ := bd2_some hf
  refine G_cV (as := [.int 0, .int (v2 - 1)]) (rest := []) hX cvX6_45 (mX6_takeFigure w h3) (Nat.le_of_ble_eq_true rfl) kK1 (Nat.le_of_ble_eq_true rfl) (Nat.le_of_ble_eq_true rfl) rfl rfl (Nat.le_of_ble_eq_true rfl) dX6_takeWrong_8 (st' := [.int v4]) rfl ?_
  refine G_istore_n (lv' := [some (.ref 1), some (.ref p0), some (.int v4), none, none]) hX dX6_takeWrong_11 rfl (Nat.le_of_ble_eq_true rfl) rfl ?_
  refine G_iload_n hX dX6_takeWrong_12 rfl ?_
  refine G_iconst (v := (-1)) hX dX6_takeWrong_13 rfl ?_
  refine G_icmp_ne (tgt := 19) hX dX6_takeWrong_14 rfl hf (fun hf => ?_) (fun hf => ?_)
  · refine G_aload_n hX dX6_takeWrong_19 rfl ?_
    refine G_iload_n hX dX6_takeWrong_20 rfl ?_
    refine G_aload_n hX dX6_takeWrong_21 rfl ?_
    obtain ⟨v7, h6, hf⟩ := bd1_some hf
    refine G_cV (as := []) (rest := [.int v4, .ref 1]) hX cvX6_70 (mX0_people w hp0 h6) (Nat.le_of_ble_eq_true rfl) hp0 (Nat.le_of_ble_eq_true rfl) (kd_lt hp0 (Nat.le_of_ble_eq_true rfl)) rfl rfl (Nat.le_of_ble_eq_true rfl) dX6_takeWrong_22 (st' := [.int v7, .int v4, .ref 1]) rfl ?_
    obtain ⟨v9, u10, h8, hf⟩ := bd2_some hf
    refine G_cV (as := [.int v4, .int v7]) (rest := []) hX cvX6_56 (mX6_takeOther w h8) (Nat.le_of_ble_eq_true rfl) kK1 (Nat.le_of_ble_eq_true rfl) (Nat.le_of_ble_eq_true rfl) rfl rfl (Nat.le_of_ble_eq_true rfl) dX6_takeWrong_25 (st' := [.int v9]) rfl ?_
    refine G_istore_n (lv' := [some (.ref 1), some (.ref p0), some (.int v4), some (.int v9), none]) hX dX6_takeWrong_28 rfl (Nat.le_of_ble_eq_true rfl) rfl ?_
    refine G_iload_n hX dX6_takeWrong_29 rfl ?_
    refine G_iconst (v := (-1)) hX dX6_takeWrong_30 rfl ?_
    refine G_icmp_ne (tgt := 36) hX dX6_takeWrong_31 rfl hf (fun hf => ?_) (fun hf => ?_)
    · refine G_aload_n hX dX6_takeWrong_36 rfl ?_
      refine G_iconst (v := 1) hX dX6_takeWrong_37 rfl ?_
      refine G_bipush (v := 9) hX dX6_takeWrong_38 rfl ?_
      obtain ⟨v12, u13, h11, hf⟩ := bd2_some hf
      refine G_cV (as := [.int 1, .int 9]) (rest := []) hX cvX6_45 (mX6_takeFigure w h11) (Nat.le_of_ble_eq_true rfl) kK1 (Nat.le_of_ble_eq_true rfl) (Nat.le_of_ble_eq_true rfl) rfl rfl (Nat.le_of_ble_eq_true rfl) dX6_takeWrong_40 (st' := [.int v12]) rfl ?_
      refine G_istore (lv' := [some (.ref 1), some (.ref p0), some (.int v4), some (.int v9), some (.int v12)]) hX dX6_takeWrong_43 rfl (Nat.le_of_ble_eq_true rfl) rfl ?_
      refine G_iload hX dX6_takeWrong_45 rfl ?_
      refine G_iconst (v := (-1)) hX dX6_takeWrong_47 rfl ?_
      refine G_icmp_ne (tgt := 53) hX dX6_takeWrong_48 rfl hf (fun hf => ?_) (fun hf => ?_)
      · refine G_aload_n hX dX6_takeWrong_53 rfl ?_
        refine G_iload_n hX dX6_takeWrong_54 rfl ?_
        refine G_iload_n hX dX6_takeWrong_55 rfl ?_
        refine G_iload hX dX6_takeWrong_56 rfl ?_
        obtain ⟨u15, h14, hf⟩ := bd1_some hf
        refine G_cV (as := [.int v4, .int v9, .int v12]) (rest := []) hX cvX6_73 (mX0_addWrong w hp0 h14) (Nat.le_of_ble_eq_true rfl) hp0 (Nat.le_of_ble_eq_true rfl) (kd_lt hp0 (Nat.le_of_ble_eq_true rfl)) rfl rfl (Nat.le_of_ble_eq_true rfl) dX6_takeWrong_58 (st' := []) rfl ?_
        refine G_iconst (v := 1) hX dX6_takeWrong_61 rfl ?_
        obtain ⟨rfl, rfl⟩ := ret2 hf
        exact G_zret hX hR (by decide) dX6_takeWrong_62
      · refine G_iconst (v := 0) hX dX6_takeWrong_51 rfl ?_
        obtain ⟨rfl, rfl⟩ := ret2 hf
        exact G_zret hX hR (by decide) dX6_takeWrong_52
    · refine G_iconst (v := 0) hX dX6_takeWrong_34 rfl ?_
      obtain ⟨rfl, rfl⟩ := ret2 hf
      exact G_zret hX hR (by decide) dX6_takeWrong_35
  · refine G_iconst (v := 0) hX dX6_takeWrong_17 rfl ?_
    obtain ⟨rfl, rfl⟩ := ret2 hf
    exact G_zret hX hR (by decide) dX6_takeWrong_18
noncomputable def fX6_takeWrongs_b8 (p0 : Nat) (s2 : Int32) (s3 : Int32) (u : Um) : Option (Nat × Int32 × Int32 × Um) :=
  if s2 = 0 then
    some (1, s2, s3, u)
  else
    if 8 ≤ s3 then
      some (1, s2, s3, u)
    else
      bd2 (fX6_takeSign 44 u) fun v5 u6 =>
      if v5 = 0 then
        some (1, s2, s3, u6)
      else
        bd2 (fX6_takeWrong p0 u6) fun v8 u9 =>
        nm (s3 + 1) fun v10 =>
        some (0, v8, v10, u9)
set_option maxHeartbeats 4000000 in
set_option maxRecDepth 100000 in
theorem tX6_takeWrongs_b8 {w : Wc} {X : MX} (hX : OKc w X RX6 cX6_takeWrongs 5) {p0 : Nat} (hp0 : kd p0 = 0) {s : Int32 × Int32 × Um} {e : Nat} {s' : Int32 × Int32 × Um} (hf : fX6_takeWrongs_b8 p0 s.1 s.2.1 s.2.2 = some (e, s')) (K0 : e = 0 → G w X Zm 8 [some (.ref 1), some (.ref p0), some (.int s'.1), some (.int s'.2.1)] [] s'.2.2) (K1 : e ≠ 0 → G w X Zm 39 [none, none, some (.int s'.1), none] [] s'.2.2) : G w X Zm 8 [some (.ref 1), some (.ref p0), some (.int s.1), some (.int s.2.1)] [] s.2.2 := by
  obtain ⟨s2, s3, u⟩ := s
  unfold fX6_takeWrongs_b8 at hf
  try dsimp only at hf ⊢
  refine G_iload_n hX dX6_takeWrongs_8 rfl ?_
  refine G_if_eq (tgt := 39) hX dX6_takeWrongs_9 rfl hf (fun hf => ?_) (fun hf => ?_)
  · obtain ⟨rfl, rfl⟩ := ret2 hf
    refine G_mask (lv' := [none, none, some (.int s2), none]) [false, false, true, false] rfl rfl ?_
    exact K1 (by decide)
  · refine G_iload_n hX dX6_takeWrongs_12 rfl ?_
    refine G_bipush (v := 8) hX dX6_takeWrongs_13 rfl ?_
    refine G_icmp_ge (tgt := 39) hX dX6_takeWrongs_15 rfl hf (fun hf => ?_) (fun hf => ?_)
    · obtain ⟨rfl, rfl⟩ := ret2 hf
      refine G_mask (lv' := [none, none, some (.int s2), none]) [false, false, true, false] rfl rfl ?_
      exact K1 (by decide)
    · refine G_aload_n hX dX6_takeWrongs_18 rfl ?_
      refine G_bipush (v := 44) hX dX6_takeWrongs_19 rfl ?_
      obtain ⟨v5, u6, h4, hf⟩ := bd2_some hf
      refine G_cV (as := [.int 44]) (rest := []) hX cvX6_27 (mX6_takeSign w h4) (Nat.le_of_ble_eq_true rfl) kK1 (Nat.le_of_ble_eq_true rfl) (Nat.le_of_ble_eq_true rfl) rfl rfl (Nat.le_of_ble_eq_true rfl) dX6_takeWrongs_21 (st' := [.int v5]) rfl ?_
      refine G_if_eq (tgt := 39) hX dX6_takeWrongs_24 rfl hf (fun hf => ?_) (fun hf => ?_)
      · obtain ⟨rfl, rfl⟩ := ret2 hf
        refine G_mask (lv' := [none, none, some (.int s2), none]) [false, false, true, false] rfl rfl ?_
        exact K1 (by decide)
      · refine G_aload_n hX dX6_takeWrongs_27 rfl ?_
        refine G_aload_n hX dX6_takeWrongs_28 rfl ?_
        obtain ⟨v8, u9, h7, hf⟩ := bd2_some hf
        refine G_cV (as := [.ref p0]) (rest := []) hX cvX6_67 (mX6_takeWrong w hp0 h7) (Nat.le_of_ble_eq_true rfl) kK1 (Nat.le_of_ble_eq_true rfl) (Nat.le_of_ble_eq_true rfl) rfl rfl (Nat.le_of_ble_eq_true rfl) dX6_takeWrongs_29 (st' := [.int v8]) rfl ?_
        refine G_istore_n (lv' := [some (.ref 1), some (.ref p0), some (.int v8), some (.int s3)]) hX dX6_takeWrongs_32 rfl (Nat.le_of_ble_eq_true rfl) rfl ?_
        refine G_iincF (lvf := fun v10 => [some (.ref 1), some (.ref p0), some (.int v8), some (.int v10)]) hX dX6_takeWrongs_33 rfl rfl rfl (Nat.le_of_ble_eq_true rfl) (fun _ => rfl) hf (fun v10 hf => ?_)
        refine G_goto (tgt := 8) hX dX6_takeWrongs_36 rfl ?_
        obtain ⟨rfl, rfl⟩ := ret2 hf
        refine G_mask (lv' := [some (.ref 1), some (.ref p0), some (.int v8), some (.int v10)]) [true, true, true, true] rfl rfl ?_
        exact K0 rfl
noncomputable def fX6_takeWrongs (p0 : Nat) (u : Um) : Option (Int32 × Um) :=
  bd2 (fX6_takeWrong p0 u) fun v2 u3 =>
  bd4 (lp (fun s => fX6_takeWrongs_b8 p0 s.1 s.2.1 s.2.2) fuel (v2, (1 : Int32), u3)) fun e14 v11 v12 u13 =>
  if v11 = 0 ∨ v11 = 1 then some (v11, u13) else none
set_option maxHeartbeats 4000000 in
set_option maxRecDepth 100000 in
theorem mX6_takeWrongs (w : Wc) {p0 : Nat} (hp0 : kd p0 = 0) {u : Um} {r : Int32} {u' : Um} (hf : fX6_takeWrongs p0 u = some (r, u')) : MC w 5 qX6_takeWrongs [.ref 1, .ref p0] u (some (.int r)) u' := by
  unfold fX6_takeWrongs at hf
  refine MC_intro pnX6 (Nat.le_of_ble_eq_true rfl) (fun X hX hR _ _ => ?_)
  have hX : OKc w X RX6 cX6_takeWrongs 5 := hX
  have hR : RT w X (some .boolean) 0 0 Pst 133 false (some (.int r)) u' := hR
  refine G_eql (lv' := [some (.ref 1), some (.ref p0), none, none]) rfl ?_
  refine G_aload_n hX dX6_takeWrongs_0 rfl ?_
  refine G_aload_n hX dX6_takeWrongs_1 rfl ?_
  obtain ⟨v2, u3, h1, hf⟩ := bd2_some hf
  refine G_cV (as := [.ref p0]) (rest := []) hX cvX6_67 (mX6_takeWrong w hp0 h1) (Nat.le_of_ble_eq_true rfl) kK1 (Nat.le_of_ble_eq_true rfl) (Nat.le_of_ble_eq_true rfl) rfl rfl (Nat.le_of_ble_eq_true rfl) dX6_takeWrongs_2 (st' := [.int v2]) rfl ?_
  refine G_istore_n (lv' := [some (.ref 1), some (.ref p0), some (.int v2), none]) hX dX6_takeWrongs_5 rfl (Nat.le_of_ble_eq_true rfl) rfl ?_
  refine G_iconst (v := 1) hX dX6_takeWrongs_6 rfl ?_
  refine G_istore_n (lv' := [some (.ref 1), some (.ref p0), some (.int v2), some (.int 1)]) hX dX6_takeWrongs_7 rfl (Nat.le_of_ble_eq_true rfl) rfl ?_
  obtain ⟨e14, v11, v12, u13, h15, hf⟩ := bd4_some hf
  refine G_mask (lv' := [some (.ref 1), some (.ref p0), some (.int v2), some (.int 1)]) [true, true, true, true] rfl rfl ?_
  refine lp_G (body := (fun s => fX6_takeWrongs_b8 p0 s.1 s.2.1 s.2.2)) (Gh := fun s => G w X Zm 8 [some (.ref 1), some (.ref p0), some (.int s.1), some (.int s.2.1)] [] s.2.2) (Gx := fun e s => G w X Zm 39 [none, none, some (.int s.1), none] [] s.2.2) (fun s e s' hb K0 K1 => tX6_takeWrongs_b8 (s := s) (e := e) (s' := s') hX hp0  hb K0 K1) fuel (v2, (1 : Int32), u3) (e14, v11, v12, u13) h15 ?_
  refine G_iload_n hX dX6_takeWrongs_39 rfl ?_
  obtain ⟨hz, hf⟩ := gz_some hf
  obtain ⟨rfl, rfl⟩ := ret2 hf
  exact G_zret hX hR hz dX6_takeWrongs_40
noncomputable def fX0_setDay (a : Nat) (p0 : Int32) (u : Um) : Option Um :=
  nm (sI u a 4 p0) fun u1 =>
  some u1
set_option maxHeartbeats 4000000 in
set_option maxRecDepth 100000 in
theorem mX0_setDay (w : Wc) {a : Nat} {p0 : Int32} (ha : kd a = 0) {u : Um} {u' : Um} (hf : fX0_setDay a p0 u = some u') : MC w 1 qX0_setDay [.ref a, .int p0] u none u' := by
  unfold fX0_setDay at hf
  refine MC_intro pnX0 (Nat.le_of_ble_eq_true rfl) (fun X hX hR _ _ => ?_)
  have hX : OKc w X RX0 cX0_setDay 1 := hX
  have hR : RT w X none 0 0 Pst 133 false none u' := hR
  refine G_eql (lv' := [some (.ref a), some (.int p0)]) rfl ?_
  refine G_aload_n hX dX0_setDay_0 rfl ?_
  refine G_iload_n hX dX0_setDay_1 rfl ?_
  refine G_putI (i := 4) hX ha (Nat.le_of_ble_eq_true rfl) (kd_lt ha (Nat.le_of_ble_eq_true rfl)) rfl rfl flX0_25 fwX0_4 dX0_setDay_2 hf (fun u1 hf => ?_)
  obtain rfl := Option.some.inj hf
  exact G_vret hX hR dX0_setDay_5
noncomputable def fX6_takeDay (p0 : Nat) (u : Um) : Option (Int32 × Um) :=
  bd2 (fX6_takeFigure 0 1 u) fun v2 u3 =>
  if v2 = (-1) then
    some (0, u3)
  else
    bd1 (fX0_setDay p0 v2 u3) fun u5 =>
    some (1, u5)
set_option maxHeartbeats 4000000 in
set_option maxRecDepth 100000 in
theorem mX6_takeDay (w : Wc) {p0 : Nat} (hp0 : kd p0 = 0) {u : Um} {r : Int32} {u' : Um} (hf : fX6_takeDay p0 u = some (r, u')) : MC w 3 qX6_takeDay [.ref 1, .ref p0] u (some (.int r)) u' := by
  unfold fX6_takeDay at hf
  refine MC_intro pnX6 (Nat.le_of_ble_eq_true rfl) (fun X hX hR _ _ => ?_)
  have hX : OKc w X RX6 cX6_takeDay 3 := hX
  have hR : RT w X (some .boolean) 0 0 Pst 133 false (some (.int r)) u' := hR
  refine G_eql (lv' := [some (.ref 1), some (.ref p0), none]) rfl ?_
  refine G_aload_n hX dX6_takeDay_0 rfl ?_
  refine G_iconst (v := 0) hX dX6_takeDay_1 rfl ?_
  refine G_iconst (v := 1) hX dX6_takeDay_2 rfl ?_
  obtain ⟨v2, u3, h1, hf⟩ := bd2_some hf
  refine G_cV (as := [.int 0, .int 1]) (rest := []) hX cvX6_45 (mX6_takeFigure w h1) (Nat.le_of_ble_eq_true rfl) kK1 (Nat.le_of_ble_eq_true rfl) (Nat.le_of_ble_eq_true rfl) rfl rfl (Nat.le_of_ble_eq_true rfl) dX6_takeDay_3 (st' := [.int v2]) rfl ?_
  refine G_istore_n (lv' := [some (.ref 1), some (.ref p0), some (.int v2)]) hX dX6_takeDay_6 rfl (Nat.le_of_ble_eq_true rfl) rfl ?_
  refine G_iload_n hX dX6_takeDay_7 rfl ?_
  refine G_iconst (v := (-1)) hX dX6_takeDay_8 rfl ?_
  refine G_icmp_ne (tgt := 14) hX dX6_takeDay_9 rfl hf (fun hf => ?_) (fun hf => ?_)
  · refine G_aload_n hX dX6_takeDay_14 rfl ?_
    refine G_iload_n hX dX6_takeDay_15 rfl ?_
    obtain ⟨u5, h4, hf⟩ := bd1_some hf
    refine G_cV (as := [.int v2]) (rest := []) hX cvX6_77 (mX0_setDay w hp0 h4) (Nat.le_of_ble_eq_true rfl) hp0 (Nat.le_of_ble_eq_true rfl) (kd_lt hp0 (Nat.le_of_ble_eq_true rfl)) rfl rfl (Nat.le_of_ble_eq_true rfl) dX6_takeDay_16 (st' := []) rfl ?_
    refine G_iconst (v := 1) hX dX6_takeDay_19 rfl ?_
    obtain ⟨rfl, rfl⟩ := ret2 hf
    exact G_zret hX hR (by decide) dX6_takeDay_20
  · refine G_iconst (v := 0) hX dX6_takeDay_12 rfl ?_
    obtain ⟨rfl, rfl⟩ := ret2 hf
    exact G_zret hX hR (by decide) dX6_takeDay_13
noncomputable def fX6_readInto_j76 (p0 : Nat) (z0 : Int32) (u : Um) : Option (Int32 × Um) :=
  if z0 = 0 then
    some ((u.1 1 2), u)
  else
    some ((-1), u)
set_option maxHeartbeats 4000000 in
set_option maxRecDepth 100000 in
theorem tX6_readInto_j76 {w : Wc} {X : MX} (hX : OKc w X RX6 cX6_readInto 6) {p0 : Nat} {z0 : Int32} (hp0 : kd p0 = 0) {u : Um} {r : Int32} {u' : Um} (hR : RT w X (some .int) 0 0 Pst 133 false (some (.int r)) u') (hf : fX6_readInto_j76 p0 z0 u = some (r, u')) : G w X Zm 76 [some (.ref 1), none, none] [.int z0] u := by
  unfold fX6_readInto_j76 at hf
  refine G_istore_n (lv' := [some (.ref 1), none, some (.int z0)]) hX dX6_readInto_76 rfl (Nat.le_of_ble_eq_true rfl) rfl ?_
  refine G_iload_n hX dX6_readInto_77 rfl ?_
  refine G_if_eq (tgt := 85) hX dX6_readInto_78 rfl hf (fun hf => ?_) (fun hf => ?_)
  · refine G_aload_n hX dX6_readInto_85 rfl ?_
    refine G_getI (i := 2) hX kK1 (Nat.le_of_ble_eq_true rfl) (Nat.le_of_ble_eq_true rfl) rfl flX6_19 dX6_readInto_86 ?_
    obtain ⟨rfl, rfl⟩ := ret2 hf
    exact G_iret hX hR dX6_readInto_89
  · refine G_iconst (v := (-1)) hX dX6_readInto_81 rfl ?_
    refine G_goto (tgt := 89) hX dX6_readInto_82 rfl ?_
    obtain ⟨rfl, rfl⟩ := ret2 hf
    exact G_iret hX hR dX6_readInto_89
noncomputable def fX6_readInto_j75 (p0 : Nat) (u : Um) : Option (Int32 × Um) :=
  fX6_readInto_j76 p0 0 u
set_option maxHeartbeats 4000000 in
set_option maxRecDepth 100000 in
theorem tX6_readInto_j75 {w : Wc} {X : MX} (hX : OKc w X RX6 cX6_readInto 6) {p0 : Nat} (hp0 : kd p0 = 0) {u : Um} {r : Int32} {u' : Um} (hR : RT w X (some .int) 0 0 Pst 133 false (some (.int r)) u') (hf : fX6_readInto_j75 p0 u = some (r, u')) : G w X Zm 75 [some (.ref 1), none, none] [] u := by
  unfold fX6_readInto_j75 at hf
  refine G_iconst (v := 0) hX dX6_readInto_75 rfl ?_
  refine G_mask (lv' := [some (.ref 1), none, none]) [true, false, false] rfl rfl ?_
  exact tX6_readInto_j76 hX hp0 hR hf
noncomputable def fX6_readInto (p0 : Nat) (u : Um) : Option (Int32 × Um) :=
  nm (sI u 1 2 0) fun u1 =>
  bd1 (fX0_clear p0 u1) fun u3 =>
  bd2 (fX6_takeSign 114 u3) fun v5 u6 =>
  if v5 = 0 then
    fX6_readInto_j75 p0 u6
  else
    bd2 (fX6_takePeople p0 u6) fun v8 u9 =>
    if v8 = 0 then
      fX6_readInto_j75 p0 u9
    else
      bd2 (fX6_takeSign 59 u9) fun v11 u12 =>
      if v11 = 0 then
        fX6_readInto_j75 p0 u12
      else
        bd2 (fX6_takeWrongs p0 u12) fun v14 u15 =>
        if v14 = 0 then
          fX6_readInto_j75 p0 u15
        else
          bd2 (fX6_takeSign 59 u15) fun v17 u18 =>
          if v17 = 0 then
            fX6_readInto_j75 p0 u18
          else
            bd2 (fX6_takeDay p0 u18) fun v20 u21 =>
            if v20 = 0 then
              fX6_readInto_j75 p0 u21
            else
              if (u21.1 1 2) = (u21.1 1 1) then
                fX6_readInto_j76 p0 1 u21
              else
                fX6_readInto_j75 p0 u21
set_option maxHeartbeats 4000000 in
set_option maxRecDepth 100000 in
theorem mX6_readInto (w : Wc) {p0 : Nat} (hp0 : kd p0 = 0) {u : Um} {r : Int32} {u' : Um} (hf : fX6_readInto p0 u = some (r, u')) : MC w 6 qX6_readInto [.ref 1, .ref p0] u (some (.int r)) u' := by
  unfold fX6_readInto at hf
  refine MC_intro pnX6 (Nat.le_of_ble_eq_true rfl) (fun X hX hR _ _ => ?_)
  have hX : OKc w X RX6 cX6_readInto 6 := hX
  have hR : RT w X (some .int) 0 0 Pst 133 false (some (.int r)) u' := hR
  refine G_eql (lv' := [some (.ref 1), some (.ref p0), none]) rfl ?_
  refine G_aload_n hX dX6_readInto_0 rfl ?_
  refine G_iconst (v := 0) hX dX6_readInto_1 rfl ?_
  refine G_putI (i := 2) hX kK1 (Nat.le_of_ble_eq_true rfl) (Nat.le_of_ble_eq_true rfl) rfl rfl flX6_19 fwX6_2 dX6_readInto_2 hf (fun u1 hf => ?_)
  refine G_aload_n hX dX6_readInto_5 rfl ?_
  obtain ⟨u3, h2, hf⟩ := bd1_some hf
  refine G_cV (as := []) (rest := []) hX cvX6_22 (mX0_clear w hp0 h2) (Nat.le_of_ble_eq_true rfl) hp0 (Nat.le_of_ble_eq_true rfl) (kd_lt hp0 (Nat.le_of_ble_eq_true rfl)) rfl rfl (Nat.le_of_ble_eq_true rfl) dX6_readInto_6 (st' := []) rfl ?_
  refine G_aload_n hX dX6_readInto_9 rfl ?_
  refine G_bipush (v := 114) hX dX6_readInto_10 rfl ?_
  obtain ⟨v5, u6, h4, hf⟩ := bd2_some hf
  refine G_cV (as := [.int 114]) (rest := []) hX cvX6_27 (mX6_takeSign w h4) (Nat.le_of_ble_eq_true rfl) kK1 (Nat.le_of_ble_eq_true rfl) (Nat.le_of_ble_eq_true rfl) rfl rfl (Nat.le_of_ble_eq_true rfl) dX6_readInto_12 (st' := [.int v5]) rfl ?_
  refine G_if_eq (tgt := 75) hX dX6_readInto_15 rfl hf (fun hf => ?_) (fun hf => ?_)
  · refine G_mask (lv' := [some (.ref 1), none, none]) [true, false, false] rfl rfl ?_
    exact tX6_readInto_j75 hX hp0 hR hf
  · refine G_aload_n hX dX6_readInto_18 rfl ?_
    refine G_aload_n hX dX6_readInto_19 rfl ?_
    obtain ⟨v8, u9, h7, hf⟩ := bd2_some hf
    refine G_cV (as := [.ref p0]) (rest := []) hX cvX6_31 (mX6_takePeople w hp0 h7) (Nat.le_of_ble_eq_true rfl) kK1 (Nat.le_of_ble_eq_true rfl) (Nat.le_of_ble_eq_true rfl) rfl rfl (Nat.le_of_ble_eq_true rfl) dX6_readInto_20 (st' := [.int v8]) rfl ?_
    refine G_if_eq (tgt := 75) hX dX6_readInto_23 rfl hf (fun hf => ?_) (fun hf => ?_)
    · refine G_mask (lv' := [some (.ref 1), none, none]) [true, false, false] rfl rfl ?_
      exact tX6_readInto_j75 hX hp0 hR hf
    · refine G_aload_n hX dX6_readInto_26 rfl ?_
      refine G_bipush (v := 59) hX dX6_readInto_27 rfl ?_
      obtain ⟨v11, u12, h10, hf⟩ := bd2_some hf
      refine G_cV (as := [.int 59]) (rest := []) hX cvX6_27 (mX6_takeSign w h10) (Nat.le_of_ble_eq_true rfl) kK1 (Nat.le_of_ble_eq_true rfl) (Nat.le_of_ble_eq_true rfl) rfl rfl (Nat.le_of_ble_eq_true rfl) dX6_readInto_29 (st' := [.int v11]) rfl ?_
      refine G_if_eq (tgt := 75) hX dX6_readInto_32 rfl hf (fun hf => ?_) (fun hf => ?_)
      · refine G_mask (lv' := [some (.ref 1), none, none]) [true, false, false] rfl rfl ?_
        exact tX6_readInto_j75 hX hp0 hR hf
      · refine G_aload_n hX dX6_readInto_35 rfl ?_
        refine G_aload_n hX dX6_readInto_36 rfl ?_
        obtain ⟨v14, u15, h13, hf⟩ := bd2_some hf
        refine G_cV (as := [.ref p0]) (rest := []) hX cvX6_35 (mX6_takeWrongs w hp0 h13) (Nat.le_of_ble_eq_true rfl) kK1 (Nat.le_of_ble_eq_true rfl) (Nat.le_of_ble_eq_true rfl) rfl rfl (Nat.le_of_ble_eq_true rfl) dX6_readInto_37 (st' := [.int v14]) rfl ?_
        refine G_if_eq (tgt := 75) hX dX6_readInto_40 rfl hf (fun hf => ?_) (fun hf => ?_)
        · refine G_mask (lv' := [some (.ref 1), none, none]) [true, false, false] rfl rfl ?_
          exact tX6_readInto_j75 hX hp0 hR hf
        · refine G_aload_n hX dX6_readInto_43 rfl ?_
          refine G_bipush (v := 59) hX dX6_readInto_44 rfl ?_
          obtain ⟨v17, u18, h16, hf⟩ := bd2_some hf
          refine G_cV (as := [.int 59]) (rest := []) hX cvX6_27 (mX6_takeSign w h16) (Nat.le_of_ble_eq_true rfl) kK1 (Nat.le_of_ble_eq_true rfl) (Nat.le_of_ble_eq_true rfl) rfl rfl (Nat.le_of_ble_eq_true rfl) dX6_readInto_46 (st' := [.int v17]) rfl ?_
          refine G_if_eq (tgt := 75) hX dX6_readInto_49 rfl hf (fun hf => ?_) (fun hf => ?_)
          · refine G_mask (lv' := [some (.ref 1), none, none]) [true, false, false] rfl rfl ?_
            exact tX6_readInto_j75 hX hp0 hR hf
          · refine G_aload_n hX dX6_readInto_52 rfl ?_
            refine G_aload_n hX dX6_readInto_53 rfl ?_
            obtain ⟨v20, u21, h19, hf⟩ := bd2_some hf
            refine G_cV (as := [.ref p0]) (rest := []) hX cvX6_38 (mX6_takeDay w hp0 h19) (Nat.le_of_ble_eq_true rfl) kK1 (Nat.le_of_ble_eq_true rfl) (Nat.le_of_ble_eq_true rfl) rfl rfl (Nat.le_of_ble_eq_true rfl) dX6_readInto_54 (st' := [.int v20]) rfl ?_
            refine G_if_eq (tgt := 75) hX dX6_readInto_57 rfl hf (fun hf => ?_) (fun hf => ?_)
            · refine G_mask (lv' := [some (.ref 1), none, none]) [true, false, false] rfl rfl ?_
              exact tX6_readInto_j75 hX hp0 hR hf
            · refine G_aload_n hX dX6_readInto_60 rfl ?_
              refine G_getI (i := 2) hX kK1 (Nat.le_of_ble_eq_true rfl) (Nat.le_of_ble_eq_true rfl) rfl flX6_19 dX6_readInto_61 ?_
              refine G_aload_n hX dX6_readInto_64 rfl ?_
              refine G_getI (i := 1) hX kK1 (Nat.le_of_ble_eq_true rfl) (Nat.le_of_ble_eq_true rfl) rfl flX6_15 dX6_readInto_65 ?_
              refine G_icmp_ne (tgt := 75) hX dX6_readInto_68 rfl hf (fun hf => ?_) (fun hf => ?_)
              · refine G_mask (lv' := [some (.ref 1), none, none]) [true, false, false] rfl rfl ?_
                exact tX6_readInto_j75 hX hp0 hR hf
              · refine G_iconst (v := 1) hX dX6_readInto_71 rfl ?_
                refine G_goto (tgt := 76) hX dX6_readInto_72 rfl ?_
                refine G_mask (lv' := [some (.ref 1), none, none]) [true, false, false] rfl rfl ?_
                exact tX6_readInto_j76 hX hp0 hR hf
noncomputable def fX6_clear  (u : Um) : Option Um :=
  nm (sI u 1 1 0) fun u1 =>
  some u1
set_option maxHeartbeats 4000000 in
set_option maxRecDepth 100000 in
theorem mX6_clear (w : Wc)   {u : Um} {u' : Um} (hf : fX6_clear  u = some u') : MC w 1 qX6_clear [.ref 1] u none u' := by
  unfold fX6_clear at hf
  refine MC_intro pnX6 (Nat.le_of_ble_eq_true rfl) (fun X hX hR _ _ => ?_)
  have hX : OKc w X RX6 cX6_clear 1 := hX
  have hR : RT w X none 0 0 Pst 133 false none u' := hR
  refine G_eql (lv' := [some (.ref 1)]) rfl ?_
  refine G_aload_n hX dX6_clear_0 rfl ?_
  refine G_iconst (v := 0) hX dX6_clear_1 rfl ?_
  refine G_putI (i := 1) hX kK1 (Nat.le_of_ble_eq_true rfl) (Nat.le_of_ble_eq_true rfl) rfl rfl flX6_15 fwX6_1 dX6_clear_2 hf (fun u1 hf => ?_)
  obtain rfl := Option.some.inj hf
  exact G_vret hX hR dX6_clear_5
noncomputable def fX0_copyFrom (a : Nat) (p0 : Nat) (u : Um) : Option Um :=
  if cpOk 0 0 48 48 48 = true then
  nm (sIr u (a + 1) (va_cpy (u.1 (p0 + 1)) (u.1 (a + 1)) (0 : Int32).toNatClampNeg (0 : Int32).toNatClampNeg (48 : Int32).toNatClampNeg)) fun u1 =>
  if cpOk 0 0 32 32 32 = true then
  nm (sIr u1 (a + 2) (va_cpy (u1.1 (p0 + 2)) (u1.1 (a + 2)) (0 : Int32).toNatClampNeg (0 : Int32).toNatClampNeg (32 : Int32).toNatClampNeg)) fun u2 =>
  nm (sI u2 a 2 (u2.1 p0 2)) fun u3 =>
  nm (sI u3 a 3 (u3.1 p0 3)) fun u4 =>
  nm (sI u4 a 4 (u4.1 p0 4)) fun u5 =>
  some u5
  else none
  else none
set_option maxHeartbeats 4000000 in
set_option maxRecDepth 100000 in
theorem mX0_copyFrom (w : Wc) {a : Nat} {p0 : Nat} (ha : kd a = 0) (hp0 : kd p0 = 0) {u : Um} {u' : Um} (hf : fX0_copyFrom a p0 u = some u') : MC w 1 qX0_copyFrom [.ref a, .ref p0] u none u' := by
  unfold fX0_copyFrom at hf
  refine MC_intro pnX0 (Nat.le_of_ble_eq_true rfl) (fun X hX hR _ _ => ?_)
  have hX : OKc w X RX0 cX0_copyFrom 1 := hX
  have hR : RT w X none 0 0 Pst 133 false none u' := hR
  refine G_eql (lv' := [some (.ref a), some (.ref p0)]) rfl ?_
  refine G_aload_n hX dX0_copyFrom_0 rfl ?_
  refine G_getR (i := 0) (t := (p0 + 1)) hX hp0 (Nat.le_of_ble_eq_true rfl) (kd_lt hp0 (Nat.le_of_ble_eq_true rfl)) rfl (PC1 hp0) flX0_9 dX0_copyFrom_1 ?_
  refine G_iconst (v := 0) hX dX0_copyFrom_4 rfl ?_
  refine G_aload_n hX dX0_copyFrom_5 rfl ?_
  refine G_getR (i := 0) (t := (a + 1)) hX ha (Nat.le_of_ble_eq_true rfl) (kd_lt ha (Nat.le_of_ble_eq_true rfl)) rfl (PC1 ha) flX0_9 dX0_copyFrom_6 ?_
  refine G_iconst (v := 0) hX dX0_copyFrom_9 rfl ?_
  refine G_aload_n hX dX0_copyFrom_10 rfl ?_
  refine G_getR (i := 0) (t := (a + 1)) hX ha (Nat.le_of_ble_eq_true rfl) (kd_lt ha (Nat.le_of_ble_eq_true rfl)) rfl (PC1 ha) flX0_9 dX0_copyFrom_11 ?_
  refine G_alenI (n := 48) (v := 48) hX (kC1 ha) (lC1 ha) (xC1 ha) dX0_copyFrom_14 rfl ?_
  refine G_copyI (n0 := 48) (n1 := 48) hX caX0_28 (kC1 hp0) (lC1 hp0) (xC1 hp0) (kC1 ha) (lC1 ha) (xC1 ha) rfl (Nat.le_of_ble_eq_true rfl) (Nat.le_of_ble_eq_true rfl) dX0_copyFrom_15 hf (fun u1 hf => ?_)
  refine G_aload_n hX dX0_copyFrom_18 rfl ?_
  refine G_getR (i := 1) (t := (p0 + 2)) hX hp0 (Nat.le_of_ble_eq_true rfl) (kd_lt hp0 (Nat.le_of_ble_eq_true rfl)) rfl (PC2 hp0) flX0_15 dX0_copyFrom_19 ?_
  refine G_iconst (v := 0) hX dX0_copyFrom_22 rfl ?_
  refine G_aload_n hX dX0_copyFrom_23 rfl ?_
  refine G_getR (i := 1) (t := (a + 2)) hX ha (Nat.le_of_ble_eq_true rfl) (kd_lt ha (Nat.le_of_ble_eq_true rfl)) rfl (PC2 ha) flX0_15 dX0_copyFrom_24 ?_
  refine G_iconst (v := 0) hX dX0_copyFrom_27 rfl ?_
  refine G_aload_n hX dX0_copyFrom_28 rfl ?_
  refine G_getR (i := 1) (t := (a + 2)) hX ha (Nat.le_of_ble_eq_true rfl) (kd_lt ha (Nat.le_of_ble_eq_true rfl)) rfl (PC2 ha) flX0_15 dX0_copyFrom_29 ?_
  refine G_alenI (n := 32) (v := 32) hX (kC2 ha) (lC2 ha) (xC2 ha) dX0_copyFrom_32 rfl ?_
  refine G_copyI (n0 := 32) (n1 := 32) hX caX0_28 (kC2 hp0) (lC2 hp0) (xC2 hp0) (kC2 ha) (lC2 ha) (xC2 ha) rfl (Nat.le_of_ble_eq_true rfl) (Nat.le_of_ble_eq_true rfl) dX0_copyFrom_33 hf (fun u2 hf => ?_)
  refine G_aload_n hX dX0_copyFrom_36 rfl ?_
  refine G_aload_n hX dX0_copyFrom_37 rfl ?_
  refine G_getI (i := 2) hX hp0 (Nat.le_of_ble_eq_true rfl) (kd_lt hp0 (Nat.le_of_ble_eq_true rfl)) rfl flX0_18 dX0_copyFrom_38 ?_
  refine G_putI (i := 2) hX ha (Nat.le_of_ble_eq_true rfl) (kd_lt ha (Nat.le_of_ble_eq_true rfl)) rfl rfl flX0_18 fwX0_2 dX0_copyFrom_41 hf (fun u3 hf => ?_)
  refine G_aload_n hX dX0_copyFrom_44 rfl ?_
  refine G_aload_n hX dX0_copyFrom_45 rfl ?_
  refine G_getI (i := 3) hX hp0 (Nat.le_of_ble_eq_true rfl) (kd_lt hp0 (Nat.le_of_ble_eq_true rfl)) rfl flX0_22 dX0_copyFrom_46 ?_
  refine G_putI (i := 3) hX ha (Nat.le_of_ble_eq_true rfl) (kd_lt ha (Nat.le_of_ble_eq_true rfl)) rfl rfl flX0_22 fwX0_3 dX0_copyFrom_49 hf (fun u4 hf => ?_)
  refine G_aload_n hX dX0_copyFrom_52 rfl ?_
  refine G_aload_n hX dX0_copyFrom_53 rfl ?_
  refine G_getI (i := 4) hX hp0 (Nat.le_of_ble_eq_true rfl) (kd_lt hp0 (Nat.le_of_ble_eq_true rfl)) rfl flX0_25 dX0_copyFrom_54 ?_
  refine G_putI (i := 4) hX ha (Nat.le_of_ble_eq_true rfl) (kd_lt ha (Nat.le_of_ble_eq_true rfl)) rfl rfl flX0_25 fwX0_4 dX0_copyFrom_57 hf (fun u5 hf => ?_)
  obtain rfl := Option.some.inj hf
  exact G_vret hX hR dX0_copyFrom_60
noncomputable def fX3_forget  (u : Um) : Option Um :=
  nm (sI u 9 2 0) fun u1 =>
  some u1
set_option maxHeartbeats 4000000 in
set_option maxRecDepth 100000 in
theorem mX3_forget (w : Wc)   {u : Um} {u' : Um} (hf : fX3_forget  u = some u') : MC w 1 qX3_forget [.ref 9] u none u' := by
  unfold fX3_forget at hf
  refine MC_intro pnX3 (Nat.le_of_ble_eq_true rfl) (fun X hX hR _ _ => ?_)
  have hX : OKc w X RX3 cX3_forget 1 := hX
  have hR : RT w X none 0 0 Pst 133 false none u' := hR
  refine G_eql (lv' := [some (.ref 9)]) rfl ?_
  refine G_aload_n hX dX3_forget_0 rfl ?_
  refine G_iconst (v := 0) hX dX3_forget_1 rfl ?_
  refine G_putI (i := 2) hX kK9 (Nat.le_of_ble_eq_true rfl) (Nat.le_of_ble_eq_true rfl) rfl rfl flX3_18 fwX3_2 dX3_forget_2 hf (fun u1 hf => ?_)
  obtain rfl := Option.some.inj hf
  exact G_vret hX hR dX3_forget_5
noncomputable def fX0_wrongs (a : Nat) (u : Um) : Option Int32 :=
  some (u.1 a 3)
set_option maxHeartbeats 4000000 in
set_option maxRecDepth 100000 in
theorem mX0_wrongs (w : Wc) {a : Nat} (ha : kd a = 0) {u : Um} {r : Int32} (hf : fX0_wrongs a u = some r) : MC w 1 qX0_wrongs [.ref a] u (some (.int r)) u := by
  unfold fX0_wrongs at hf
  refine MC_intro pnX0 (Nat.le_of_ble_eq_true rfl) (fun X hX hR _ _ => ?_)
  have hX : OKc w X RX0 cX0_wrongs 1 := hX
  have hR : RT w X (some .int) 0 0 Pst 133 false (some (.int r)) u := hR
  refine G_eql (lv' := [some (.ref a)]) rfl ?_
  refine G_aload_n hX dX0_wrongs_0 rfl ?_
  refine G_getI (i := 3) hX ha (Nat.le_of_ble_eq_true rfl) (kd_lt ha (Nat.le_of_ble_eq_true rfl)) rfl flX0_22 dX0_wrongs_1 ?_
  obtain rfl := Option.some.inj hf
  exact G_iret hX hR dX0_wrongs_4
noncomputable def fX7_coast  (u : Um) : Option (Int32 × Um) :=
  bd2 (fX6_readInto 6 u) fun v2 u3 =>
  bd1 (fX6_clear  u3) fun u5 =>
  if v2 = (-1) then
    bd1 (fX0_copyFrom 3 6 u5) fun u7 =>
    bd1 (fX3_forget  u7) fun u9 =>
    bd1 (fX0_wrongs 3 u9) fun v11 =>
    some (v11, u9)
  else
    some (((-100) - v2), u5)
set_option maxHeartbeats 4000000 in
set_option maxRecDepth 100000 in
theorem mX7_coast (w : Wc)   {u : Um} {r : Int32} {u' : Um} (hf : fX7_coast  u = some (r, u')) : MC w 7 qX7_coast [.ref 0] u (some (.int r)) u' := by
  unfold fX7_coast at hf
  refine MC_intro pnX7 (Nat.le_of_ble_eq_true rfl) (fun X hX hR _ _ => ?_)
  have hX : OKc w X RX7 cX7_coast 7 := hX
  have hR : RT w X (some .int) 0 0 Pst 133 false (some (.int r)) u' := hR
  refine G_eql (lv' := [some (.ref 0), none]) rfl ?_
  refine G_aload_n hX dX7_coast_0 rfl ?_
  refine G_getR (i := 0) (t := 1) hX kK0 (Nat.le_of_ble_eq_true rfl) (Nat.le_of_ble_eq_true rfl) rfl pK0_0 flX7_10 dX7_coast_1 ?_
  refine G_aload_n hX dX7_coast_4 rfl ?_
  refine G_getR (i := 2) (t := 6) hX kK0 (Nat.le_of_ble_eq_true rfl) (Nat.le_of_ble_eq_true rfl) rfl pK0_2 flX7_23 dX7_coast_5 ?_
  obtain ⟨v2, u3, h1, hf⟩ := bd2_some hf
  refine G_cV (as := [.ref 6]) (rest := []) hX cvX7_73 (mX6_readInto w kK6 h1) (Nat.le_of_ble_eq_true rfl) kK1 (Nat.le_of_ble_eq_true rfl) (Nat.le_of_ble_eq_true rfl) rfl rfl (Nat.le_of_ble_eq_true rfl) dX7_coast_8 (st' := [.int v2]) rfl ?_
  refine G_istore_n (lv' := [some (.ref 0), some (.int v2)]) hX dX7_coast_11 rfl (Nat.le_of_ble_eq_true rfl) rfl ?_
  refine G_aload_n hX dX7_coast_12 rfl ?_
  refine G_getR (i := 0) (t := 1) hX kK0 (Nat.le_of_ble_eq_true rfl) (Nat.le_of_ble_eq_true rfl) rfl pK0_0 flX7_10 dX7_coast_13 ?_
  obtain ⟨u5, h4, hf⟩ := bd1_some hf
  refine G_cV (as := []) (rest := []) hX cvX7_77 (mX6_clear w h4) (Nat.le_of_ble_eq_true rfl) kK1 (Nat.le_of_ble_eq_true rfl) (Nat.le_of_ble_eq_true rfl) rfl rfl (Nat.le_of_ble_eq_true rfl) dX7_coast_16 (st' := []) rfl ?_
  refine G_iload_n hX dX7_coast_19 rfl ?_
  refine G_iconst (v := (-1)) hX dX7_coast_20 rfl ?_
  refine G_icmp_eq (tgt := 29) hX dX7_coast_21 rfl hf (fun hf => ?_) (fun hf => ?_)
  · refine G_aload_n hX dX7_coast_29 rfl ?_
    refine G_getR (i := 1) (t := 3) hX kK0 (Nat.le_of_ble_eq_true rfl) (Nat.le_of_ble_eq_true rfl) rfl pK0_1 flX7_19 dX7_coast_30 ?_
    refine G_aload_n hX dX7_coast_33 rfl ?_
    refine G_getR (i := 2) (t := 6) hX kK0 (Nat.le_of_ble_eq_true rfl) (Nat.le_of_ble_eq_true rfl) rfl pK0_2 flX7_23 dX7_coast_34 ?_
    obtain ⟨u7, h6, hf⟩ := bd1_some hf
    refine G_cV (as := [.ref 6]) (rest := []) hX cvX7_80 (mX0_copyFrom w kK3 kK6 h6) (Nat.le_of_ble_eq_true rfl) kK3 (Nat.le_of_ble_eq_true rfl) (Nat.le_of_ble_eq_true rfl) rfl rfl (Nat.le_of_ble_eq_true rfl) dX7_coast_37 (st' := []) rfl ?_
    refine G_aload_n hX dX7_coast_40 rfl ?_
    refine G_getR (i := 3) (t := 9) hX kK0 (Nat.le_of_ble_eq_true rfl) (Nat.le_of_ble_eq_true rfl) rfl pK0_3 flX7_29 dX7_coast_41 ?_
    obtain ⟨u9, h8, hf⟩ := bd1_some hf
    refine G_cV (as := []) (rest := []) hX cvX7_84 (mX3_forget w h8) (Nat.le_of_ble_eq_true rfl) kK9 (Nat.le_of_ble_eq_true rfl) (Nat.le_of_ble_eq_true rfl) rfl rfl (Nat.le_of_ble_eq_true rfl) dX7_coast_44 (st' := []) rfl ?_
    refine G_aload_n hX dX7_coast_47 rfl ?_
    refine G_getR (i := 1) (t := 3) hX kK0 (Nat.le_of_ble_eq_true rfl) (Nat.le_of_ble_eq_true rfl) rfl pK0_1 flX7_19 dX7_coast_48 ?_
    obtain ⟨v11, h10, hf⟩ := bd1_some hf
    refine G_cV (as := []) (rest := []) hX cvX7_87 (mX0_wrongs w kK3 h10) (Nat.le_of_ble_eq_true rfl) kK3 (Nat.le_of_ble_eq_true rfl) (Nat.le_of_ble_eq_true rfl) rfl rfl (Nat.le_of_ble_eq_true rfl) dX7_coast_51 (st' := [.int v11]) rfl ?_
    obtain ⟨rfl, rfl⟩ := ret2 hf
    exact G_iret hX hR dX7_coast_54
  · refine G_bipush (v := (-100)) hX dX7_coast_24 rfl ?_
    refine G_iload_n hX dX7_coast_26 rfl ?_
    refine G_isub hX dX7_coast_27 ?_
    obtain ⟨rfl, rfl⟩ := ret2 hf
    exact G_iret hX hR dX7_coast_28
noncomputable def fX0_hasPerson (a : Nat) (p0 : Int32) (u : Um) : Option Int32 :=
  if p0 < 0 then
    some 0
  else
    if (u.1 a 2) ≤ p0 then
      some 0
    else
      some 1
set_option maxHeartbeats 4000000 in
set_option maxRecDepth 100000 in
theorem mX0_hasPerson (w : Wc) {a : Nat} {p0 : Int32} (ha : kd a = 0) {u : Um} {r : Int32} (hf : fX0_hasPerson a p0 u = some r) : MC w 1 qX0_hasPerson [.ref a, .int p0] u (some (.int r)) u := by
  unfold fX0_hasPerson at hf
  refine MC_intro pnX0 (Nat.le_of_ble_eq_true rfl) (fun X hX hR _ _ => ?_)
  have hX : OKc w X RX0 cX0_hasPerson 1 := hX
  have hR : RT w X (some .boolean) 0 0 Pst 133 false (some (.int r)) u := hR
  refine G_eql (lv' := [some (.ref a), some (.int p0)]) rfl ?_
  refine G_iload_n hX dX0_hasPerson_0 rfl ?_
  refine G_if_lt (tgt := 16) hX dX0_hasPerson_1 rfl hf (fun hf => ?_) (fun hf => ?_)
  · refine G_iconst (v := 0) hX dX0_hasPerson_16 rfl ?_
    obtain rfl := Option.some.inj hf
    exact G_zret hX hR (by decide) dX0_hasPerson_17
  · refine G_iload_n hX dX0_hasPerson_4 rfl ?_
    refine G_aload_n hX dX0_hasPerson_5 rfl ?_
    refine G_getI (i := 2) hX ha (Nat.le_of_ble_eq_true rfl) (kd_lt ha (Nat.le_of_ble_eq_true rfl)) rfl flX0_18 dX0_hasPerson_6 ?_
    refine G_icmp_ge (tgt := 16) hX dX0_hasPerson_9 rfl hf (fun hf => ?_) (fun hf => ?_)
    · refine G_iconst (v := 0) hX dX0_hasPerson_16 rfl ?_
      obtain rfl := Option.some.inj hf
      exact G_zret hX hR (by decide) dX0_hasPerson_17
    · refine G_iconst (v := 1) hX dX0_hasPerson_12 rfl ?_
      refine G_goto (tgt := 17) hX dX0_hasPerson_13 rfl ?_
      obtain rfl := Option.some.inj hf
      exact G_zret hX hR (by decide) dX0_hasPerson_17
noncomputable def fX0_trait (a : Nat) (p0 : Int32) (p1 : Int32) (u : Um) : Option Int32 :=
  nm ((p0 * 8) + p1) fun v1 =>
  if v1 < 0 then
    some (-4)
  else
    if v1 < 48 then
      if inb v1 48 = true then
      some (u.1 (a + 1) v1.toNatClampNeg)
      else none
    else
      some (-4)
set_option maxHeartbeats 4000000 in
set_option maxRecDepth 100000 in
theorem mX0_trait (w : Wc) {a : Nat} {p0 : Int32} {p1 : Int32} (ha : kd a = 0) {u : Um} {r : Int32} (hf : fX0_trait a p0 p1 u = some r) : MC w 1 qX0_trait [.ref a, .int p0, .int p1] u (some (.int r)) u := by
  unfold fX0_trait at hf
  refine MC_intro pnX0 (Nat.le_of_ble_eq_true rfl) (fun X hX hR _ _ => ?_)
  have hX : OKc w X RX0 cX0_trait 1 := hX
  have hR : RT w X (some .int) 0 0 Pst 133 false (some (.int r)) u := hR
  refine G_eql (lv' := [some (.ref a), some (.int p0), some (.int p1), none]) rfl ?_
  refine G_iload_n hX dX0_trait_0 rfl ?_
  refine G_bipush (v := 8) hX dX0_trait_1 rfl ?_
  refine G_imul hX dX0_trait_3 ?_
  refine G_iload_n hX dX0_trait_4 rfl ?_
  refine G_iadd hX dX0_trait_5 ?_
  refine G_istore_nF (lvf := fun v1 => [some (.ref a), some (.int p0), some (.int p1), some (.int v1)]) hX dX0_trait_6 rfl (Nat.le_of_ble_eq_true rfl) (fun _ => rfl) hf (fun v1 hf => ?_)
  refine G_iload_n hX dX0_trait_7 rfl ?_
  refine G_if_lt (tgt := 20) hX dX0_trait_8 rfl hf (fun hf => ?_) (fun hf => ?_)
  · refine G_bipush (v := (-4)) hX dX0_trait_20 rfl ?_
    refine G_goto (tgt := 31) hX dX0_trait_22 rfl ?_
    obtain rfl := Option.some.inj hf
    exact G_iret hX hR dX0_trait_31
  · refine G_iload_n hX dX0_trait_11 rfl ?_
    refine G_aload_n hX dX0_trait_12 rfl ?_
    refine G_getR (i := 0) (t := (a + 1)) hX ha (Nat.le_of_ble_eq_true rfl) (kd_lt ha (Nat.le_of_ble_eq_true rfl)) rfl (PC1 ha) flX0_9 dX0_trait_13 ?_
    refine G_alenI (n := 48) (v := 48) hX (kC1 ha) (lC1 ha) (xC1 ha) dX0_trait_16 rfl ?_
    refine G_icmp_lt (tgt := 25) hX dX0_trait_17 rfl hf (fun hf => ?_) (fun hf => ?_)
    · refine G_aload_n hX dX0_trait_25 rfl ?_
      refine G_getR (i := 0) (t := (a + 1)) hX ha (Nat.le_of_ble_eq_true rfl) (kd_lt ha (Nat.le_of_ble_eq_true rfl)) rfl (PC1 ha) flX0_9 dX0_trait_26 ?_
      refine G_iload_n hX dX0_trait_29 rfl ?_
      refine G_iald (n := 48) hX (kC1 ha) (lC1 ha) (xC1 ha) dX0_trait_30 hf (fun hf => ?_)
      obtain rfl := Option.some.inj hf
      exact G_iret hX hR dX0_trait_31
    · refine G_bipush (v := (-4)) hX dX0_trait_20 rfl ?_
      refine G_goto (tgt := 31) hX dX0_trait_22 rfl ?_
      obtain rfl := Option.some.inj hf
      exact G_iret hX hR dX0_trait_31
noncomputable def fX7_person (p0 : Int32) (p1 : Int32) (u : Um) : Option Int32 :=
  bd1 (fX0_hasPerson 3 p0 u) fun v2 =>
  if v2 = 0 then
    some (-1)
  else
    if p1 < 0 then
      some (-1)
    else
      if p1 < 8 then
        bd1 (fX0_trait 3 p0 p1 u) fun v4 =>
        some v4
      else
        some (-1)
set_option maxHeartbeats 4000000 in
set_option maxRecDepth 100000 in
theorem mX7_person (w : Wc) {p0 : Int32} {p1 : Int32}  {u : Um} {r : Int32} (hf : fX7_person p0 p1 u = some r) : MC w 2 qX7_person [.ref 0, .int p0, .int p1] u (some (.int r)) u := by
  unfold fX7_person at hf
  refine MC_intro pnX7 (Nat.le_of_ble_eq_true rfl) (fun X hX hR _ _ => ?_)
  have hX : OKc w X RX7 cX7_person 2 := hX
  have hR : RT w X (some .int) 0 0 Pst 133 false (some (.int r)) u := hR
  refine G_eql (lv' := [some (.ref 0), some (.int p0), some (.int p1)]) rfl ?_
  refine G_aload_n hX dX7_person_0 rfl ?_
  refine G_getR (i := 1) (t := 3) hX kK0 (Nat.le_of_ble_eq_true rfl) (Nat.le_of_ble_eq_true rfl) rfl pK0_1 flX7_19 dX7_person_1 ?_
  refine G_iload_n hX dX7_person_4 rfl ?_
  obtain ⟨v2, h1, hf⟩ := bd1_some hf
  refine G_cV (as := [.int p0]) (rest := []) hX cvX7_90 (mX0_hasPerson w kK3 h1) (Nat.le_of_ble_eq_true rfl) kK3 (Nat.le_of_ble_eq_true rfl) (Nat.le_of_ble_eq_true rfl) rfl rfl (Nat.le_of_ble_eq_true rfl) dX7_person_5 (st' := [.int v2]) rfl ?_
  refine G_if_eq (tgt := 21) hX dX7_person_8 rfl hf (fun hf => ?_) (fun hf => ?_)
  · refine G_iconst (v := (-1)) hX dX7_person_21 rfl ?_
    obtain rfl := Option.some.inj hf
    exact G_iret hX hR dX7_person_22
  · refine G_iload_n hX dX7_person_11 rfl ?_
    refine G_if_lt (tgt := 21) hX dX7_person_12 rfl hf (fun hf => ?_) (fun hf => ?_)
    · refine G_iconst (v := (-1)) hX dX7_person_21 rfl ?_
      obtain rfl := Option.some.inj hf
      exact G_iret hX hR dX7_person_22
    · refine G_iload_n hX dX7_person_15 rfl ?_
      refine G_bipush (v := 8) hX dX7_person_16 rfl ?_
      refine G_icmp_lt (tgt := 23) hX dX7_person_18 rfl hf (fun hf => ?_) (fun hf => ?_)
      · refine G_aload_n hX dX7_person_23 rfl ?_
        refine G_getR (i := 1) (t := 3) hX kK0 (Nat.le_of_ble_eq_true rfl) (Nat.le_of_ble_eq_true rfl) rfl pK0_1 flX7_19 dX7_person_24 ?_
        refine G_iload_n hX dX7_person_27 rfl ?_
        refine G_iload_n hX dX7_person_28 rfl ?_
        obtain ⟨v4, h3, hf⟩ := bd1_some hf
        refine G_cV (as := [.int p0, .int p1]) (rest := []) hX cvX7_93 (mX0_trait w kK3 h3) (Nat.le_of_ble_eq_true rfl) kK3 (Nat.le_of_ble_eq_true rfl) (Nat.le_of_ble_eq_true rfl) rfl rfl (Nat.le_of_ble_eq_true rfl) dX7_person_29 (st' := [.int v4]) rfl ?_
        obtain rfl := Option.some.inj hf
        exact G_iret hX hR dX7_person_32
      · refine G_iconst (v := (-1)) hX dX7_person_21 rfl ?_
        obtain rfl := Option.some.inj hf
        exact G_iret hX hR dX7_person_22
