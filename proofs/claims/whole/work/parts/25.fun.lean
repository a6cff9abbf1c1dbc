noncomputable def fX7_sheet (p0 : Int32) (p1 : Int32) (p2 : Int32) (u : Um) : Option (Int32 × Um) :=
  bd1 (fX7_sheetAt p0 u) fun o2 =>
  spl o2 5
    (some ((-1), u))
  (fun x3 =>
    bd1 (fX7_isLane p1 u) fun v6 =>
    if v6 = 0 then
      some ((-1), u)
    else
      if p2 ≤ 24 then
        if 0 ≤ p2 then
          bd1 (fX5_lay x3 p1 p2 u) fun u8 =>
          some (p2, u8)
        else
          some ((-14), u)
      else
        some ((-1), u))
set_option maxHeartbeats 4000000 in
set_option maxRecDepth 100000 in
theorem mX7_sheet (w : Wc) {p0 : Int32} {p1 : Int32} {p2 : Int32}  {u : Um} {r : Int32} {u' : Um} (hf : fX7_sheet p0 p1 p2 u = some (r, u')) : MC w 3 qX7_sheet [.ref 0, .int p0, .int p1, .int p2] u (some (.int r)) u' := by
  unfold fX7_sheet at hf
  refine MC_intro pnX7 (Nat.le_of_ble_eq_true rfl) (fun X hX hR _ _ => ?_)
  have hX : OKc w X RX7 cX7_sheet 3 := hX
  have hR : RT w X (some .int) 0 0 Pst 133 false (some (.int r)) u' := hR
  refine G_eql (lv' := [some (.ref 0), some (.int p0), some (.int p1), some (.int p2), none]) rfl ?_
  refine G_aload_n hX dX7_sheet_0 rfl ?_
  refine G_iload_n hX dX7_sheet_1 rfl ?_
  obtain ⟨o2, h1, hf⟩ := bd1_some hf
  refine G_cV (as := [.int p0]) (rest := []) hX cvX7_202 (mX7_sheetAt w h1) (Nat.le_of_ble_eq_true rfl) kK0 (Nat.le_of_ble_eq_true rfl) (Nat.le_of_ble_eq_true rfl) rfl rfl (Nat.le_of_ble_eq_true rfl) dX7_sheet_2 (st' := va_rf o2 :: []) rfl ?_
  cases o2 with
  | none =>
    replace hf := spl_none hf
    refine G_eqs (st2 := .null :: []) rfl ?_
    refine G_astoreN (lv' := [some (.ref 0), some (.int p0), some (.int p1), some (.int p2), some (.null)]) hX dX7_sheet_5 rfl (Nat.le_of_ble_eq_true rfl) rfl ?_
    refine G_aloadN hX dX7_sheet_7 rfl ?_
    refine G_ifnullN (tgt := 25) hX dX7_sheet_9 rfl ?_
    refine G_iconst (v := (-1)) hX dX7_sheet_25 rfl ?_
    obtain ⟨rfl, rfl⟩ := ret2 hf
    exact G_iret hX hR dX7_sheet_26
  | some x3 =>
    obtain ⟨h4, hf⟩ := spl_some hf
    refine G_eqs (st2 := .ref x3 :: []) rfl ?_
    refine G_astore (lv' := [some (.ref 0), some (.int p0), some (.int p1), some (.int p2), some (.ref x3)]) hX dX7_sheet_5 rfl (Nat.le_of_ble_eq_true rfl) rfl ?_
    refine G_aload hX dX7_sheet_7 rfl ?_
    refine G_ifnull hX dX7_sheet_9 ?_
    refine G_iload_n hX dX7_sheet_12 rfl ?_
    obtain ⟨v6, h5, hf⟩ := bd1_some hf
    refine G_cS (as := [.int p1]) (rest := []) hX csX7_206 (mX7_isLane w h5) (Nat.le_of_ble_eq_true rfl) rfl rfl (Nat.le_of_ble_eq_true rfl) dX7_sheet_13 (st' := [.int v6]) rfl ?_
    refine G_if_eq (tgt := 25) hX dX7_sheet_16 rfl hf (fun hf => ?_) (fun hf => ?_)
    · refine G_iconst (v := (-1)) hX dX7_sheet_25 rfl ?_
      obtain ⟨rfl, rfl⟩ := ret2 hf
      exact G_iret hX hR dX7_sheet_26
    · refine G_iload_n hX dX7_sheet_19 rfl ?_
      refine G_bipush (v := 24) hX dX7_sheet_20 rfl ?_
      refine G_icmp_le (tgt := 27) hX dX7_sheet_22 rfl hf (fun hf => ?_) (fun hf => ?_)
      · refine G_iload_n hX dX7_sheet_27 rfl ?_
        refine G_if_ge (tgt := 34) hX dX7_sheet_28 rfl hf (fun hf => ?_) (fun hf => ?_)
        · refine G_aload hX dX7_sheet_34 rfl ?_
          refine G_iload_n hX dX7_sheet_36 rfl ?_
          refine G_iload_n hX dX7_sheet_37 rfl ?_
          obtain ⟨u8, h7, hf⟩ := bd1_some hf
          refine G_cV (as := [.int p1, .int p2]) (rest := []) hX cvX7_209 (mX5_lay w h4 h7) (Nat.le_of_ble_eq_true rfl) h4 (Nat.le_of_ble_eq_true rfl) (kd_lt h4 (Nat.le_of_ble_eq_true rfl)) rfl rfl (Nat.le_of_ble_eq_true rfl) dX7_sheet_38 (st' := []) rfl ?_
          refine G_iload_n hX dX7_sheet_41 rfl ?_
          obtain ⟨rfl, rfl⟩ := ret2 hf
          exact G_iret hX hR dX7_sheet_42
        · refine G_bipush (v := (-14)) hX dX7_sheet_31 rfl ?_
          obtain ⟨rfl, rfl⟩ := ret2 hf
          exact G_iret hX hR dX7_sheet_33
      · refine G_iconst (v := (-1)) hX dX7_sheet_25 rfl ?_
        obtain ⟨rfl, rfl⟩ := ret2 hf
        exact G_iret hX hR dX7_sheet_26
noncomputable def fX5_isNothing (a : Nat) (u : Um) : Option Int32 :=
  if (u.1 a 1) = (-1) then
    some 1
  else
    some 0
set_option maxHeartbeats 4000000 in
set_option maxRecDepth 100000 in
theorem mX5_isNothing (w : Wc) {a : Nat} (ha : kd a = 5) {u : Um} {r : Int32} (hf : fX5_isNothing a u = some r) : MC w 1 qX5_isNothing [.ref a] u (some (.int r)) u := by
  unfold fX5_isNothing at hf
  refine MC_intro pnX5 (Nat.le_of_ble_eq_true rfl) (fun X hX hR _ _ => ?_)
  have hX : OKc w X RX5 cX5_isNothing 1 := hX
  have hR : RT w X (some .boolean) 0 0 Pst 133 false (some (.int r)) u := hR
  refine G_eql (lv' := [some (.ref a)]) rfl ?_
  refine G_aload_n hX dX5_isNothing_0 rfl ?_
  refine G_getI (i := 1) hX ha (Nat.le_of_ble_eq_true rfl) (kd_lt ha (Nat.le_of_ble_eq_true rfl)) rfl flX5_15 dX5_isNothing_1 ?_
  refine G_iconst (v := (-1)) hX dX5_isNothing_4 rfl ?_
  refine G_icmp_ne (tgt := 12) hX dX5_isNothing_5 rfl hf (fun hf => ?_) (fun hf => ?_)
  · refine G_iconst (v := 0) hX dX5_isNothing_12 rfl ?_
    obtain rfl := Option.some.inj hf
    exact G_zret hX hR (by decide) dX5_isNothing_13
  · refine G_iconst (v := 1) hX dX5_isNothing_8 rfl ?_
    refine G_goto (tgt := 13) hX dX5_isNothing_9 rfl ?_
    obtain rfl := Option.some.inj hf
    exact G_zret hX hR (by decide) dX5_isNothing_13
noncomputable def fX5_clear (a : Nat) (u : Um) : Option (Int32 × Um) :=
  nm (u.1 a 2) fun v1 =>
  bd1 (fX5_lay a (-1) 0 u) fun u3 =>
  some (v1, u3)
set_option maxHeartbeats 4000000 in
set_option maxRecDepth 100000 in
theorem mX5_clear (w : Wc) {a : Nat} (ha : kd a = 5) {u : Um} {r : Int32} {u' : Um} (hf : fX5_clear a u = some (r, u')) : MC w 3 qX5_clear [.ref a] u (some (.int r)) u' := by
  unfold fX5_clear at hf
  refine MC_intro pnX5 (Nat.le_of_ble_eq_true rfl) (fun X hX hR _ _ => ?_)
  have hX : OKc w X RX5 cX5_clear 3 := hX
  have hR : RT w X (some .int) 0 0 Pst 133 false (some (.int r)) u' := hR
  refine G_eql (lv' := [some (.ref a), none]) rfl ?_
  refine G_aload_n hX dX5_clear_0 rfl ?_
  refine G_getI (i := 2) hX ha (Nat.le_of_ble_eq_true rfl) (kd_lt ha (Nat.le_of_ble_eq_true rfl)) rfl flX5_25 dX5_clear_1 ?_
  refine G_istore_nF (lvf := fun v1 => [some (.ref a), some (.int v1)]) hX dX5_clear_4 rfl (Nat.le_of_ble_eq_true rfl) (fun _ => rfl) hf (fun v1 hf => ?_)
  refine G_aload_n hX dX5_clear_5 rfl ?_
  refine G_iconst (v := (-1)) hX dX5_clear_6 rfl ?_
  refine G_iconst (v := 0) hX dX5_clear_7 rfl ?_
  obtain ⟨u3, h2, hf⟩ := bd1_some hf
  refine G_cV (as := [.int (-1), .int 0]) (rest := []) hX cvX5_28 (mX5_lay w ha h2) (Nat.le_of_ble_eq_true rfl) ha (Nat.le_of_ble_eq_true rfl) (kd_lt ha (Nat.le_of_ble_eq_true rfl)) rfl rfl (Nat.le_of_ble_eq_true rfl) dX5_clear_8 (st' := []) rfl ?_
  refine G_iload_n hX dX5_clear_11 rfl ?_
  obtain ⟨rfl, rfl⟩ := ret2 hf
  exact G_iret hX hR dX5_clear_12
noncomputable def fX7_drop (p0 : Int32) (u : Um) : Option (Int32 × Um) :=
  bd1 (fX7_sheetAt p0 u) fun o2 =>
  spl o2 5
    (some ((-1), u))
  (fun x3 =>
    bd1 (fX5_isNothing x3 u) fun v6 =>
    if v6 = 0 then
      bd2 (fX5_clear x3 u) fun v8 u9 =>
      some (v8, u9)
    else
      some ((-11), u))
set_option maxHeartbeats 4000000 in
set_option maxRecDepth 100000 in
theorem mX7_drop (w : Wc) {p0 : Int32}  {u : Um} {r : Int32} {u' : Um} (hf : fX7_drop p0 u = some (r, u')) : MC w 4 qX7_drop [.ref 0, .int p0] u (some (.int r)) u' := by
  unfold fX7_drop at hf
  refine MC_intro pnX7 (Nat.le_of_ble_eq_true rfl) (fun X hX hR _ _ => ?_)
  have hX : OKc w X RX7 cX7_drop 4 := hX
  have hR : RT w X (some .int) 0 0 Pst 133 false (some (.int r)) u' := hR
  refine G_eql (lv' := [some (.ref 0), some (.int p0), none]) rfl ?_
  refine G_aload_n hX dX7_drop_0 rfl ?_
  refine G_iload_n hX dX7_drop_1 rfl ?_
  obtain ⟨o2, h1, hf⟩ := bd1_some hf
  refine G_cV (as := [.int p0]) (rest := []) hX cvX7_202 (mX7_sheetAt w h1) (Nat.le_of_ble_eq_true rfl) kK0 (Nat.le_of_ble_eq_true rfl) (Nat.le_of_ble_eq_true rfl) rfl rfl (Nat.le_of_ble_eq_true rfl) dX7_drop_2 (st' := va_rf o2 :: []) rfl ?_
  cases o2 with
  | none =>
    replace hf := spl_none hf
    refine G_eqs (st2 := .null :: []) rfl ?_
    refine G_astore_nN (lv' := [some (.ref 0), some (.int p0), some (.null)]) hX dX7_drop_5 rfl (Nat.le_of_ble_eq_true rfl) rfl ?_
    refine G_aload_nN hX dX7_drop_6 rfl ?_
    refine G_ifnonnullN hX dX7_drop_7 ?_
    refine G_iconst (v := (-1)) hX dX7_drop_10 rfl ?_
    obtain ⟨rfl, rfl⟩ := ret2 hf
    exact G_iret hX hR dX7_drop_11
  | some x3 =>
    obtain ⟨h4, hf⟩ := spl_some hf
    refine G_eqs (st2 := .ref x3 :: []) rfl ?_
    refine G_astore_n (lv' := [some (.ref 0), some (.int p0), some (.ref x3)]) hX dX7_drop_5 rfl (Nat.le_of_ble_eq_true rfl) rfl ?_
    refine G_aload_n hX dX7_drop_6 rfl ?_
    refine G_ifnonnull (tgt := 12) hX dX7_drop_7 rfl ?_
    refine G_aload_n hX dX7_drop_12 rfl ?_
    obtain ⟨v6, h5, hf⟩ := bd1_some hf
    refine G_cV (as := []) (rest := []) hX cvX7_213 (mX5_isNothing w h4 h5) (Nat.le_of_ble_eq_true rfl) h4 (Nat.le_of_ble_eq_true rfl) (kd_lt h4 (Nat.le_of_ble_eq_true rfl)) rfl rfl (Nat.le_of_ble_eq_true rfl) dX7_drop_13 (st' := [.int v6]) rfl ?_
    refine G_if_eq (tgt := 24) hX dX7_drop_16 rfl hf (fun hf => ?_) (fun hf => ?_)
    · refine G_aload_n hX dX7_drop_24 rfl ?_
      obtain ⟨v8, u9, h7, hf⟩ := bd2_some hf
      refine G_cV (as := []) (rest := []) hX cvX7_216 (mX5_clear w h4 h7) (Nat.le_of_ble_eq_true rfl) h4 (Nat.le_of_ble_eq_true rfl) (kd_lt h4 (Nat.le_of_ble_eq_true rfl)) rfl rfl (Nat.le_of_ble_eq_true rfl) dX7_drop_25 (st' := [.int v8]) rfl ?_
      obtain ⟨rfl, rfl⟩ := ret2 hf
      exact G_iret hX hR dX7_drop_28
    · refine G_bipush (v := (-11)) hX dX7_drop_19 rfl ?_
      refine G_goto (tgt := 28) hX dX7_drop_21 rfl ?_
      obtain ⟨rfl, rfl⟩ := ret2 hf
      exact G_iret hX hR dX7_drop_28
noncomputable def fX5_lane (a : Nat) (u : Um) : Option Int32 :=
  some (u.1 a 1)
set_option maxHeartbeats 4000000 in
set_option maxRecDepth 100000 in
theorem mX5_lane (w : Wc) {a : Nat} (ha : kd a = 5) {u : Um} {r : Int32} (hf : fX5_lane a u = some r) : MC w 1 qX5_lane [.ref a] u (some (.int r)) u := by
  unfold fX5_lane at hf
  refine MC_intro pnX5 (Nat.le_of_ble_eq_true rfl) (fun X hX hR _ _ => ?_)
  have hX : OKc w X RX5 cX5_lane 1 := hX
  have hR : RT w X (some .int) 0 0 Pst 133 false (some (.int r)) u := hR
  refine G_eql (lv' := [some (.ref a)]) rfl ?_
  refine G_aload_n hX dX5_lane_0 rfl ?_
  refine G_getI (i := 1) hX ha (Nat.le_of_ble_eq_true rfl) (kd_lt ha (Nat.le_of_ble_eq_true rfl)) rfl flX5_15 dX5_lane_1 ?_
  obtain rfl := Option.some.inj hf
  exact G_iret hX hR dX5_lane_4
noncomputable def fX7_refuseRow (p0 : Option Nat) (p1 : Int32) (u : Um) : Option Int32 :=
  spl p0 5
    (some (-1))
  (fun x0 =>
    bd1 (fX7_isLane p1 u) fun v2 =>
    if v2 = 0 then
      some (-1)
    else
      bd1 (fX5_isNothing x0 u) fun v4 =>
      if v4 = 0 then
        bd1 (fX5_lane x0 u) fun v6 =>
        if v6 = p1 then
          some 0
        else
          some (-12)
      else
        some (-11))
set_option maxHeartbeats 4000000 in
set_option maxRecDepth 100000 in
theorem mX7_refuseRow (w : Wc) {p0 : Option Nat} {p1 : Int32}  {u : Um} {r : Int32} (hf : fX7_refuseRow p0 p1 u = some r) : MC w 2 qX7_refuseRow [va_rf p0, .int p1] u (some (.int r)) u := by
  unfold fX7_refuseRow at hf
  cases p0 with
  | none =>
    replace hf := spl_none hf
    refine MC_intro pnX7 (Nat.le_of_ble_eq_true rfl) (fun X hX hR _ _ => ?_)
    have hX : OKc w X RX7 cX7_refuseRow 2 := hX
    have hR : RT w X (some .int) 0 0 Pst 133 false (some (.int r)) u := hR
    refine G_eql (lv' := [some (.null), some (.int p1)]) rfl ?_
    refine G_aload_nN hX dX7_refuseRow_0 rfl ?_
    refine G_ifnullN (tgt := 11) hX dX7_refuseRow_1 rfl ?_
    refine G_iconst (v := (-1)) hX dX7_refuseRow_11 rfl ?_
    obtain rfl := Option.some.inj hf
    exact G_iret hX hR dX7_refuseRow_12
  | some x0 =>
    obtain ⟨hx0, hf⟩ := spl_some hf
    refine MC_intro pnX7 (Nat.le_of_ble_eq_true rfl) (fun X hX hR _ _ => ?_)
    have hX : OKc w X RX7 cX7_refuseRow 2 := hX
    have hR : RT w X (some .int) 0 0 Pst 133 false (some (.int r)) u := hR
    refine G_eql (lv' := [some (.ref x0), some (.int p1)]) rfl ?_
    refine G_aload_n hX dX7_refuseRow_0 rfl ?_
    refine G_ifnull hX dX7_refuseRow_1 ?_
    refine G_iload_n hX dX7_refuseRow_4 rfl ?_
    obtain ⟨v2, h1, hf⟩ := bd1_some hf
    refine G_cS (as := [.int p1]) (rest := []) hX csX7_206 (mX7_isLane w h1) (Nat.le_of_ble_eq_true rfl) rfl rfl (Nat.le_of_ble_eq_true rfl) dX7_refuseRow_5 (st' := [.int v2]) rfl ?_
    refine G_if_ne (tgt := 13) hX dX7_refuseRow_8 rfl hf (fun hf => ?_) (fun hf => ?_)
    · refine G_aload_n hX dX7_refuseRow_13 rfl ?_
      obtain ⟨v4, h3, hf⟩ := bd1_some hf
      refine G_cV (as := []) (rest := []) hX cvX7_213 (mX5_isNothing w hx0 h3) (Nat.le_of_ble_eq_true rfl) hx0 (Nat.le_of_ble_eq_true rfl) (kd_lt hx0 (Nat.le_of_ble_eq_true rfl)) rfl rfl (Nat.le_of_ble_eq_true rfl) dX7_refuseRow_14 (st' := [.int v4]) rfl ?_
      refine G_if_eq (tgt := 23) hX dX7_refuseRow_17 rfl hf (fun hf => ?_) (fun hf => ?_)
      · refine G_aload_n hX dX7_refuseRow_23 rfl ?_
        obtain ⟨v6, h5, hf⟩ := bd1_some hf
        refine G_cV (as := []) (rest := []) hX cvX7_235 (mX5_lane w hx0 h5) (Nat.le_of_ble_eq_true rfl) hx0 (Nat.le_of_ble_eq_true rfl) (kd_lt hx0 (Nat.le_of_ble_eq_true rfl)) rfl rfl (Nat.le_of_ble_eq_true rfl) dX7_refuseRow_24 (st' := [.int v6]) rfl ?_
        refine G_iload_n hX dX7_refuseRow_27 rfl ?_
        refine G_icmp_ne (tgt := 35) hX dX7_refuseRow_28 rfl hf (fun hf => ?_) (fun hf => ?_)
        · refine G_bipush (v := (-12)) hX dX7_refuseRow_35 rfl ?_
          obtain rfl := Option.some.inj hf
          exact G_iret hX hR dX7_refuseRow_37
        · refine G_iconst (v := 0) hX dX7_refuseRow_31 rfl ?_
          refine G_goto (tgt := 37) hX dX7_refuseRow_32 rfl ?_
          obtain rfl := Option.some.inj hf
          exact G_iret hX hR dX7_refuseRow_37
      · refine G_bipush (v := (-11)) hX dX7_refuseRow_20 rfl ?_
        obtain rfl := Option.some.inj hf
        exact G_iret hX hR dX7_refuseRow_22
    · refine G_iconst (v := (-1)) hX dX7_refuseRow_11 rfl ?_
      obtain rfl := Option.some.inj hf
      exact G_iret hX hR dX7_refuseRow_12
noncomputable def fX5_holds (a : Nat) (p0 : Int32) (p1 : Int32) (u : Um) : Option Int32 :=
  if p0 < 0 then
    some 0
  else
    if p1 < 0 then
      some 0
    else
      if (u.1 a 2) < p1 then
        some 0
      else
        if ((u.1 a 2) - p1) < p0 then
          some 0
        else
          some 1
set_option maxHeartbeats 4000000 in
set_option maxRecDepth 100000 in
theorem mX5_holds (w : Wc) {a : Nat} {p0 : Int32} {p1 : Int32} (ha : kd a = 5) {u : Um} {r : Int32} (hf : fX5_holds a p0 p1 u = some r) : MC w 1 qX5_holds [.ref a, .int p0, .int p1] u (some (.int r)) u := by
  unfold fX5_holds at hf
  refine MC_intro pnX5 (Nat.le_of_ble_eq_true rfl) (fun X hX hR _ _ => ?_)
  have hX : OKc w X RX5 cX5_holds 1 := hX
  have hR : RT w X (some .boolean) 0 0 Pst 133 false (some (.int r)) u := hR
  refine G_eql (lv' := [some (.ref a), some (.int p0), some (.int p1)]) rfl ?_
  refine G_iload_n hX dX5_holds_0 rfl ?_
  refine G_if_lt (tgt := 30) hX dX5_holds_1 rfl hf (fun hf => ?_) (fun hf => ?_)
  · refine G_iconst (v := 0) hX dX5_holds_30 rfl ?_
    obtain rfl := Option.some.inj hf
    exact G_zret hX hR (by decide) dX5_holds_31
  · refine G_iload_n hX dX5_holds_4 rfl ?_
    refine G_if_lt (tgt := 30) hX dX5_holds_5 rfl hf (fun hf => ?_) (fun hf => ?_)
    · refine G_iconst (v := 0) hX dX5_holds_30 rfl ?_
      obtain rfl := Option.some.inj hf
      exact G_zret hX hR (by decide) dX5_holds_31
    · refine G_iload_n hX dX5_holds_8 rfl ?_
      refine G_aload_n hX dX5_holds_9 rfl ?_
      refine G_getI (i := 2) hX ha (Nat.le_of_ble_eq_true rfl) (kd_lt ha (Nat.le_of_ble_eq_true rfl)) rfl flX5_25 dX5_holds_10 ?_
      refine G_icmp_gt (tgt := 30) hX dX5_holds_13 rfl hf (fun hf => ?_) (fun hf => ?_)
      · refine G_iconst (v := 0) hX dX5_holds_30 rfl ?_
        obtain rfl := Option.some.inj hf
        exact G_zret hX hR (by decide) dX5_holds_31
      · refine G_iload_n hX dX5_holds_16 rfl ?_
        refine G_aload_n hX dX5_holds_17 rfl ?_
        refine G_getI (i := 2) hX ha (Nat.le_of_ble_eq_true rfl) (kd_lt ha (Nat.le_of_ble_eq_true rfl)) rfl flX5_25 dX5_holds_18 ?_
        refine G_iload_n hX dX5_holds_21 rfl ?_
        refine G_isub hX dX5_holds_22 ?_
        refine G_icmp_gt (tgt := 30) hX dX5_holds_23 rfl hf (fun hf => ?_) (fun hf => ?_)
        · refine G_iconst (v := 0) hX dX5_holds_30 rfl ?_
          obtain rfl := Option.some.inj hf
          exact G_zret hX hR (by decide) dX5_holds_31
        · refine G_iconst (v := 1) hX dX5_holds_26 rfl ?_
          refine G_goto (tgt := 31) hX dX5_holds_27 rfl ?_
          obtain rfl := Option.some.inj hf
          exact G_zret hX hR (by decide) dX5_holds_31
noncomputable def fX5_lowestBits (a : Nat) (p0 : Int64) (u : Um) : Option Int64 :=
  if (u.1 a 1) = 0 then
    some ((((((p0 : Int64).toInt32) : Int32).toInt8.toInt32) : Int32).toInt64)
  else if (u.1 a 1) = 1 then
    some ((((((p0 : Int64).toInt32) : Int32).toInt16.toInt32) : Int32).toInt64)
  else if (u.1 a 1) = 2 then
    some ((((p0 : Int64).toInt32) : Int32).toInt64)
  else 
  some p0
set_option maxHeartbeats 4000000 in
set_option maxRecDepth 100000 in
theorem mX5_lowestBits (w : Wc) {a : Nat} {p0 : Int64} (ha : kd a = 5) {u : Um} {r : Int64} (hf : fX5_lowestBits a p0 u = some r) : MC w 1 qX5_lowestBits [.ref a, .long p0] u (some (.long r)) u := by
  unfold fX5_lowestBits at hf
  refine MC_intro pnX5 (Nat.le_of_ble_eq_true rfl) (fun X hX hR _ _ => ?_)
  have hX : OKc w X RX5 cX5_lowestBits 1 := hX
  have hR : RT w X (some .long) 0 0 Pst 133 false (some (.long r)) u := hR
  refine G_eql (lv' := [some (.ref a), some (.long p0), none]) rfl ?_
  refine G_aload_n hX dX5_lowestBits_0 rfl ?_
  refine G_getI (i := 1) hX ha (Nat.le_of_ble_eq_true rfl) (kd_lt ha (Nat.le_of_ble_eq_true rfl)) rfl flX5_15 dX5_lowestBits_1 ?_
  by_cases c4_0 : (u.1 a 1) = 0
  · rw [if_pos c4_0] at hf
    refine G_tswIn (tgt := 32) hX dX5_lowestBits_4 (by rw [c4_0]; decide) (by rw [c4_0]; decide) (by rw [c4_0]; rfl) rfl ?_
    refine G_lload_n hX dX5_lowestBits_32 rfl ?_
    refine G_l2i hX dX5_lowestBits_33 ?_
    refine G_i2b hX dX5_lowestBits_34 ?_
    refine G_i2l hX dX5_lowestBits_35 ?_
    obtain rfl := Option.some.inj hf
    exact G_lret hX hR dX5_lowestBits_36
  rw [if_neg c4_0] at hf
  by_cases c4_1 : (u.1 a 1) = 1
  · rw [if_pos c4_1] at hf
    refine G_tswIn (tgt := 37) hX dX5_lowestBits_4 (by rw [c4_1]; decide) (by rw [c4_1]; decide) (by rw [c4_1]; rfl) rfl ?_
    refine G_lload_n hX dX5_lowestBits_37 rfl ?_
    refine G_l2i hX dX5_lowestBits_38 ?_
    refine G_i2s hX dX5_lowestBits_39 ?_
    refine G_i2l hX dX5_lowestBits_40 ?_
    obtain rfl := Option.some.inj hf
    exact G_lret hX hR dX5_lowestBits_41
  rw [if_neg c4_1] at hf
  by_cases c4_2 : (u.1 a 1) = 2
  · rw [if_pos c4_2] at hf
    refine G_tswIn (tgt := 42) hX dX5_lowestBits_4 (by rw [c4_2]; decide) (by rw [c4_2]; decide) (by rw [c4_2]; rfl) rfl ?_
    refine G_lload_n hX dX5_lowestBits_42 rfl ?_
    refine G_l2i hX dX5_lowestBits_43 ?_
    refine G_i2l hX dX5_lowestBits_44 ?_
    obtain rfl := Option.some.inj hf
    exact G_lret hX hR dX5_lowestBits_45
  rw [if_neg c4_2] at hf
  have n4_0 := lv_neT (a := 0) c4_0 rfl
  have n4_1 := lv_neT (a := 1) c4_1 rfl
  have n4_2 := lv_neT (a := 2) c4_2 rfl
  refine G_tswOut (tgt := 46) hX dX5_lowestBits_4 (by omega) rfl ?_
  refine G_lload_n hX dX5_lowestBits_46 rfl ?_
  obtain rfl := Option.some.inj hf
  exact G_lret hX hR dX5_lowestBits_47
noncomputable def fX5_put (a : Nat) (p0 : Int32) (p1 : Int64) (u : Um) : Option Um :=
  if p0 < 0 then
    some u
  else
    if 24 ≤ p0 then
      some u
    else
      bd1 (fX5_lowestBits a p1 u) fun v2 =>
      if inb p0 24 = true then
      nm (sJ u (a + 1) p0.toNatClampNeg v2) fun u3 =>
      some u3
      else none
set_option maxHeartbeats 4000000 in
set_option maxRecDepth 100000 in
theorem mX5_put (w : Wc) {a : Nat} {p0 : Int32} {p1 : Int64} (ha : kd a = 5) {u : Um} {u' : Um} (hf : fX5_put a p0 p1 u = some u') : MC w 2 qX5_put [.ref a, .int p0, .long p1] u none u' := by
  unfold fX5_put at hf
  refine MC_intro pnX5 (Nat.le_of_ble_eq_true rfl) (fun X hX hR _ _ => ?_)
  have hX : OKc w X RX5 cX5_put 2 := hX
  have hR : RT w X none 0 0 Pst 133 false none u' := hR
  refine G_eql (lv' := [some (.ref a), some (.int p0), some (.long p1), none]) rfl ?_
  refine G_iload_n hX dX5_put_0 rfl ?_
  refine G_if_lt (tgt := 24) hX dX5_put_1 rfl hf (fun hf => ?_) (fun hf => ?_)
  · obtain rfl := Option.some.inj hf
    exact G_vret hX hR dX5_put_24
  · refine G_iload_n hX dX5_put_4 rfl ?_
    refine G_aload_n hX dX5_put_5 rfl ?_
    refine G_getR (i := 0) (t := (a + 1)) hX ha (Nat.le_of_ble_eq_true rfl) (kd_lt ha (Nat.le_of_ble_eq_true rfl)) rfl (PS1 ha) flX5_9 dX5_put_6 ?_
    refine G_alenJ (n := 24) (v := 24) hX (kS1 ha) (lS1 ha) (xS1 ha) dX5_put_9 rfl ?_
    refine G_icmp_ge (tgt := 24) hX dX5_put_10 rfl hf (fun hf => ?_) (fun hf => ?_)
    · obtain rfl := Option.some.inj hf
      exact G_vret hX hR dX5_put_24
    · refine G_aload_n hX dX5_put_13 rfl ?_
      refine G_getR (i := 0) (t := (a + 1)) hX ha (Nat.le_of_ble_eq_true rfl) (kd_lt ha (Nat.le_of_ble_eq_true rfl)) rfl (PS1 ha) flX5_9 dX5_put_14 ?_
      refine G_iload_n hX dX5_put_17 rfl ?_
      refine G_aload_n hX dX5_put_18 rfl ?_
      refine G_lload_n hX dX5_put_19 rfl ?_
      obtain ⟨v2, h1, hf⟩ := bd1_some hf
      refine G_cV (as := [.long p1]) (rest := [.int p0, .ref (a + 1)]) hX cvX5_32 (mX5_lowestBits w ha h1) (Nat.le_of_ble_eq_true rfl) ha (Nat.le_of_ble_eq_true rfl) (kd_lt ha (Nat.le_of_ble_eq_true rfl)) rfl rfl (Nat.le_of_ble_eq_true rfl) dX5_put_20 (st' := [.long v2, .int p0, .ref (a + 1)]) rfl ?_
      refine G_last (n := 24) hX (kS1 ha) (lS1 ha) (xS1 ha) rfl dX5_put_23 hf (fun u3 hf => ?_)
      obtain rfl := Option.some.inj hf
      exact G_vret hX hR dX5_put_24
noncomputable def fX5_get (a : Nat) (p0 : Int32) (u : Um) : Option Int64 :=
  if p0 < 0 then
    some 0
  else
    if p0 < 24 then
      if inb p0 24 = true then
      some (u.2 (a + 1) p0.toNatClampNeg)
      else none
    else
      some 0
set_option maxHeartbeats 4000000 in
set_option maxRecDepth 100000 in
theorem mX5_get (w : Wc) {a : Nat} {p0 : Int32} (ha : kd a = 5) {u : Um} {r : Int64} (hf : fX5_get a p0 u = some r) : MC w 1 qX5_get [.ref a, .int p0] u (some (.long r)) u := by
  unfold fX5_get at hf
  refine MC_intro pnX5 (Nat.le_of_ble_eq_true rfl) (fun X hX hR _ _ => ?_)
  have hX : OKc w X RX5 cX5_get 1 := hX
  have hR : RT w X (some .long) 0 0 Pst 133 false (some (.long r)) u := hR
  refine G_eql (lv' := [some (.ref a), some (.int p0)]) rfl ?_
  refine G_iload_n hX dX5_get_0 rfl ?_
  refine G_if_lt (tgt := 13) hX dX5_get_1 rfl hf (fun hf => ?_) (fun hf => ?_)
  · refine G_lconst (v := 0) hX dX5_get_13 rfl ?_
    refine G_goto (tgt := 23) hX dX5_get_14 rfl ?_
    obtain rfl := Option.some.inj hf
    exact G_lret hX hR dX5_get_23
  · refine G_iload_n hX dX5_get_4 rfl ?_
    refine G_aload_n hX dX5_get_5 rfl ?_
    refine G_getR (i := 0) (t := (a + 1)) hX ha (Nat.le_of_ble_eq_true rfl) (kd_lt ha (Nat.le_of_ble_eq_true rfl)) rfl (PS1 ha) flX5_9 dX5_get_6 ?_
    refine G_alenJ (n := 24) (v := 24) hX (kS1 ha) (lS1 ha) (xS1 ha) dX5_get_9 rfl ?_
    refine G_icmp_lt (tgt := 17) hX dX5_get_10 rfl hf (fun hf => ?_) (fun hf => ?_)
    · refine G_aload_n hX dX5_get_17 rfl ?_
      refine G_getR (i := 0) (t := (a + 1)) hX ha (Nat.le_of_ble_eq_true rfl) (kd_lt ha (Nat.le_of_ble_eq_true rfl)) rfl (PS1 ha) flX5_9 dX5_get_18 ?_
      refine G_iload_n hX dX5_get_21 rfl ?_
      refine G_lald (n := 24) hX (kS1 ha) (lS1 ha) (xS1 ha) dX5_get_22 hf (fun hf => ?_)
      obtain rfl := Option.some.inj hf
      exact G_lret hX hR dX5_get_23
    · refine G_lconst (v := 0) hX dX5_get_13 rfl ?_
      refine G_goto (tgt := 23) hX dX5_get_14 rfl ?_
      obtain rfl := Option.some.inj hf
      exact G_lret hX hR dX5_get_23
noncomputable def fX7_item (p0 : Int32) (p1 : Int32) (p2 : Int32) (p3 : Int64) (u : Um) : Option (Int64 × Um) :=
  bd1 (fX7_sheetAt p0 u) fun o2 =>
  spl o2 5
    (bd1 (fX7_refuseRow none p1 u) fun v6 =>
    if v6 = 0 then
      some (((v6 : Int32).toInt64), u)
    else
      some (((v6 : Int32).toInt64), u))
  (fun x3 =>
    bd1 (fX7_refuseRow (some x3) p1 u) fun v8 =>
    if v8 = 0 then
      bd1 (fX5_holds x3 p2 1 u) fun v10 =>
      if v10 = 0 then
        some ((-13), u)
      else
        bd1 (fX5_put x3 p2 p3 u) fun u12 =>
        bd1 (fX5_get x3 p2 u12) fun v14 =>
        some (v14, u12)
    else
      some (((v8 : Int32).toInt64), u))
set_option maxHeartbeats 4000000 in
set_option maxRecDepth 100000 in
theorem mX7_item (w : Wc) {p0 : Int32} {p1 : Int32} {p2 : Int32} {p3 : Int64}  {u : Um} {r : Int64} {u' : Um} (hf : fX7_item p0 p1 p2 p3 u = some (r, u')) : MC w 3 qX7_item [.ref 0, .int p0, .int p1, .int p2, .long p3] u (some (.long r)) u' := by
  unfold fX7_item at hf
  refine MC_intro pnX7 (Nat.le_of_ble_eq_true rfl) (fun X hX hR _ _ => ?_)
  have hX : OKc w X RX7 cX7_item 3 := hX
  have hR : RT w X (some .long) 0 0 Pst 133 false (some (.long r)) u' := hR
  refine G_eql (lv' := [some (.ref 0), some (.int p0), some (.int p1), some (.int p2), some (.long p3), none, none, none]) rfl ?_
  refine G_aload_n hX dX7_item_0 rfl ?_
  refine G_iload_n hX dX7_item_1 rfl ?_
  obtain ⟨o2, h1, hf⟩ := bd1_some hf
  refine G_cV (as := [.int p0]) (rest := []) hX cvX7_202 (mX7_sheetAt w h1) (Nat.le_of_ble_eq_true rfl) kK0 (Nat.le_of_ble_eq_true rfl) (Nat.le_of_ble_eq_true rfl) rfl rfl (Nat.le_of_ble_eq_true rfl) dX7_item_2 (st' := va_rf o2 :: []) rfl ?_
  cases o2 with
  | none =>
    replace hf := spl_none hf
    refine G_eqs (st2 := .null :: []) rfl ?_
    refine G_astoreN (lv' := [some (.ref 0), some (.int p0), some (.int p1), some (.int p2), some (.long p3), none, some (.null), none]) hX dX7_item_5 rfl (Nat.le_of_ble_eq_true rfl) rfl ?_
    refine G_aloadN hX dX7_item_7 rfl ?_
    refine G_iload_n hX dX7_item_9 rfl ?_
    obtain ⟨v6, h5, hf⟩ := bd1_some hf
    refine G_cS (as := [.null, .int p1]) (rest := []) hX csX7_218 (mX7_refuseRow w h5) (Nat.le_of_ble_eq_true rfl) rfl rfl (Nat.le_of_ble_eq_true rfl) dX7_item_10 (st' := [.int v6]) rfl ?_
    refine G_istore (lv' := [some (.ref 0), some (.int p0), some (.int p1), some (.int p2), some (.long p3), none, some (.null), some (.int v6)]) hX dX7_item_13 rfl (Nat.le_of_ble_eq_true rfl) rfl ?_
    refine G_iload hX dX7_item_15 rfl ?_
    refine G_if_ne (tgt := 25) hX dX7_item_17 rfl hf (fun hf => ?_) (fun hf => ?_)
    · refine G_iload hX dX7_item_25 rfl ?_
      refine G_i2l hX dX7_item_27 ?_
      obtain ⟨rfl, rfl⟩ := ret2 hf
      exact G_lret hX hR dX7_item_28
    · refine G_aloadN hX dX7_item_20 rfl ?_
      refine G_ifnonnullN hX dX7_item_22 ?_
      refine G_iload hX dX7_item_25 rfl ?_
      refine G_i2l hX dX7_item_27 ?_
      obtain ⟨rfl, rfl⟩ := ret2 hf
      exact G_lret hX hR dX7_item_28
  | some x3 =>
    obtain ⟨h4, hf⟩ := spl_some hf
    refine G_eqs (st2 := .ref x3 :: []) rfl ?_
    refine G_astore (lv' := [some (.ref 0), some (.int p0), some (.int p1), some (.int p2), some (.long p3), none, some (.ref x3), none]) hX dX7_item_5 rfl (Nat.le_of_ble_eq_true rfl) rfl ?_
    refine G_aload hX dX7_item_7 rfl ?_
    refine G_iload_n hX dX7_item_9 rfl ?_
    obtain ⟨v8, h7, hf⟩ := bd1_some hf
    refine G_cS (as := [.ref x3, .int p1]) (rest := []) hX csX7_218 (mX7_refuseRow w h7) (Nat.le_of_ble_eq_true rfl) rfl rfl (Nat.le_of_ble_eq_true rfl) dX7_item_10 (st' := [.int v8]) rfl ?_
    refine G_istore (lv' := [some (.ref 0), some (.int p0), some (.int p1), some (.int p2), some (.long p3), none, some (.ref x3), some (.int v8)]) hX dX7_item_13 rfl (Nat.le_of_ble_eq_true rfl) rfl ?_
    refine G_iload hX dX7_item_15 rfl ?_
    refine G_if_ne (tgt := 25) hX dX7_item_17 rfl hf (fun hf => ?_) (fun hf => ?_)
    · refine G_iload hX dX7_item_25 rfl ?_
      refine G_i2l hX dX7_item_27 ?_
      obtain ⟨rfl, rfl⟩ := ret2 hf
      exact G_lret hX hR dX7_item_28
    · refine G_aload hX dX7_item_20 rfl ?_
      refine G_ifnonnull (tgt := 29) hX dX7_item_22 rfl ?_
      refine G_aload hX dX7_item_29 rfl ?_
      refine G_iload_n hX dX7_item_31 rfl ?_
      refine G_iconst (v := 1) hX dX7_item_32 rfl ?_
      obtain ⟨v10, h9, hf⟩ := bd1_some hf
      refine G_cV (as := [.int p2, .int 1]) (rest := []) hX cvX7_222 (mX5_holds w h4 h9) (Nat.le_of_ble_eq_true rfl) h4 (Nat.le_of_ble_eq_true rfl) (kd_lt h4 (Nat.le_of_ble_eq_true rfl)) rfl rfl (Nat.le_of_ble_eq_true rfl) dX7_item_33 (st' := [.int v10]) rfl ?_
      refine G_if_ne (tgt := 43) hX dX7_item_36 rfl hf (fun hf => ?_) (fun hf => ?_)
      · refine G_aload hX dX7_item_43 rfl ?_
        refine G_iload_n hX dX7_item_45 rfl ?_
        refine G_lload hX dX7_item_46 rfl ?_
        obtain ⟨u12, h11, hf⟩ := bd1_some hf
        refine G_cV (as := [.int p2, .long p3]) (rest := []) hX cvX7_227 (mX5_put w h4 h11) (Nat.le_of_ble_eq_true rfl) h4 (Nat.le_of_ble_eq_true rfl) (kd_lt h4 (Nat.le_of_ble_eq_true rfl)) rfl rfl (Nat.le_of_ble_eq_true rfl) dX7_item_48 (st' := []) rfl ?_
        refine G_aload hX dX7_item_51 rfl ?_
        refine G_iload_n hX dX7_item_53 rfl ?_
        obtain ⟨v14, h13, hf⟩ := bd1_some hf
        refine G_cV (as := [.int p2]) (rest := []) hX cvX7_231 (mX5_get w h4 h13) (Nat.le_of_ble_eq_true rfl) h4 (Nat.le_of_ble_eq_true rfl) (kd_lt h4 (Nat.le_of_ble_eq_true rfl)) rfl rfl (Nat.le_of_ble_eq_true rfl) dX7_item_54 (st' := [.long v14]) rfl ?_
        obtain ⟨rfl, rfl⟩ := ret2 hf
        exact G_lret hX hR dX7_item_57
      · refine G_ldc2 (v := (-13)) hX dX7_item_39 wJ_X7_225 ?_
        obtain ⟨rfl, rfl⟩ := ret2 hf
        exact G_lret hX hR dX7_item_42
noncomputable def fX5_take (a : Nat) (p0 : Nat) (p1 : Int32) (p2 : Int32) (p3 : Int32) (u : Um) : Option Um :=
  bd1 (fX5_holds p0 p1 p3 u) fun v2 =>
  if v2 = 0 then
    some u
  else
    bd1 (fX5_holds a p2 p3 u) fun v4 =>
    if v4 = 0 then
      some u
    else
      if cpOk p1 p2 p3 24 24 = true then
      nm (sJr u (a + 1) (va_cpy (u.2 (p0 + 1)) (u.2 (a + 1)) p1.toNatClampNeg p2.toNatClampNeg p3.toNatClampNeg)) fun u5 =>
      some u5
      else none
set_option maxHeartbeats 4000000 in
set_option maxRecDepth 100000 in
theorem mX5_take (w : Wc) {a : Nat} {p0 : Nat} {p1 : Int32} {p2 : Int32} {p3 : Int32} (ha : kd a = 5) (hp0 : kd p0 = 5) {u : Um} {u' : Um} (hf : fX5_take a p0 p1 p2 p3 u = some u') : MC w 2 qX5_take [.ref a, .ref p0, .int p1, .int p2, .int p3] u none u' := by
  unfold fX5_take at hf
  refine MC_intro pnX5 (Nat.le_of_ble_eq_true rfl) (fun X hX hR _ _ => ?_)
  have hX : OKc w X RX5 cX5_take 2 := hX
  have hR : RT w X none 0 0 Pst 133 false none u' := hR
  refine G_eql (lv' := [some (.ref a), some (.ref p0), some (.int p1), some (.int p2), some (.int p3)]) rfl ?_
  refine G_aload_n hX dX5_take_0 rfl ?_
  refine G_iload_n hX dX5_take_1 rfl ?_
  refine G_iload hX dX5_take_2 rfl ?_
  obtain ⟨v2, h1, hf⟩ := bd1_some hf
  refine G_cV (as := [.int p1, .int p3]) (rest := []) hX cvX5_36 (mX5_holds w hp0 h1) (Nat.le_of_ble_eq_true rfl) hp0 (Nat.le_of_ble_eq_true rfl) (kd_lt hp0 (Nat.le_of_ble_eq_true rfl)) rfl rfl (Nat.le_of_ble_eq_true rfl) dX5_take_4 (st' := [.int v2]) rfl ?_
  refine G_if_eq (tgt := 35) hX dX5_take_7 rfl hf (fun hf => ?_) (fun hf => ?_)
  · obtain rfl := Option.some.inj hf
    exact G_vret hX hR dX5_take_35
  · refine G_aload_n hX dX5_take_10 rfl ?_
    refine G_iload_n hX dX5_take_11 rfl ?_
    refine G_iload hX dX5_take_12 rfl ?_
    obtain ⟨v4, h3, hf⟩ := bd1_some hf
    refine G_cV (as := [.int p2, .int p3]) (rest := []) hX cvX5_36 (mX5_holds w ha h3) (Nat.le_of_ble_eq_true rfl) ha (Nat.le_of_ble_eq_true rfl) (kd_lt ha (Nat.le_of_ble_eq_true rfl)) rfl rfl (Nat.le_of_ble_eq_true rfl) dX5_take_14 (st' := [.int v4]) rfl ?_
    refine G_if_eq (tgt := 35) hX dX5_take_17 rfl hf (fun hf => ?_) (fun hf => ?_)
    · obtain rfl := Option.some.inj hf
      exact G_vret hX hR dX5_take_35
    · refine G_aload_n hX dX5_take_20 rfl ?_
      refine G_getR (i := 0) (t := (p0 + 1)) hX hp0 (Nat.le_of_ble_eq_true rfl) (kd_lt hp0 (Nat.le_of_ble_eq_true rfl)) rfl (PS1 hp0) flX5_9 dX5_take_21 ?_
      refine G_iload_n hX dX5_take_24 rfl ?_
      refine G_aload_n hX dX5_take_25 rfl ?_
      refine G_getR (i := 0) (t := (a + 1)) hX ha (Nat.le_of_ble_eq_true rfl) (kd_lt ha (Nat.le_of_ble_eq_true rfl)) rfl (PS1 ha) flX5_9 dX5_take_26 ?_
      refine G_iload_n hX dX5_take_29 rfl ?_
      refine G_iload hX dX5_take_30 rfl ?_
      refine G_copyJ (n0 := 24) (n1 := 24) hX caX5_40 (kS1 hp0) (lS1 hp0) (xS1 hp0) (kS1 ha) (lS1 ha) (xS1 ha) rfl (Nat.le_of_ble_eq_true rfl) (Nat.le_of_ble_eq_true rfl) dX5_take_32 hf (fun u5 hf => ?_)
      obtain rfl := Option.some.inj hf
      exact G_vret hX hR dX5_take_35
noncomputable def fX7_copy (p0 : Int32) (p1 : Int32) (p2 : Int32) (p3 : Int32) (p4 : Int32) (u : Um) : Option (Int32 × Um) :=
  bd1 (fX7_sheetAt p0 u) fun o2 =>
  spl o2 5
    (bd1 (fX7_sheetAt p2 u) fun o6 =>
    spl o6 5
      (some ((-1), u))
    (fun x7 =>
      some ((-1), u)))
  (fun x3 =>
    bd1 (fX7_sheetAt p2 u) fun o10 =>
    spl o10 5
      (some ((-1), u))
    (fun x11 =>
      bd1 (fX5_isNothing x3 u) fun v14 =>
      if v14 = 0 then
        bd1 (fX5_isNothing x11 u) fun v16 =>
        if v16 = 0 then
          bd1 (fX5_lane x3 u) fun v18 =>
          bd1 (fX5_lane x11 u) fun v20 =>
          if v18 = v20 then
            bd1 (fX5_holds x3 p1 p4 u) fun v22 =>
            if v22 = 0 then
              some ((-13), u)
            else
              bd1 (fX5_holds x11 p3 p4 u) fun v24 =>
              if v24 = 0 then
                some ((-13), u)
              else
                bd1 (fX5_take x11 x3 p1 p3 p4 u) fun u26 =>
                some (p4, u26)
          else
            some ((-12), u)
        else
          some ((-11), u)
      else
        some ((-11), u)))
set_option maxHeartbeats 4000000 in
set_option maxRecDepth 100000 in
theorem mX7_copy (w : Wc) {p0 : Int32} {p1 : Int32} {p2 : Int32} {p3 : Int32} {p4 : Int32}  {u : Um} {r : Int32} {u' : Um} (hf : fX7_copy p0 p1 p2 p3 p4 u = some (r, u')) : MC w 3 qX7_copy [.ref 0, .int p0, .int p1, .int p2, .int p3, .int p4] u (some (.int r)) u' := by
  unfold fX7_copy at hf
  refine MC_intro pnX7 (Nat.le_of_ble_eq_true rfl) (fun X hX hR _ _ => ?_)
  have hX : OKc w X RX7 cX7_copy 3 := hX
  have hR : RT w X (some .int) 0 0 Pst 133 false (some (.int r)) u' := hR
  refine G_eql (lv' := [some (.ref 0), some (.int p0), some (.int p1), some (.int p2), some (.int p3), some (.int p4), none, none]) rfl ?_
  refine G_aload_n hX dX7_copy_0 rfl ?_
  refine G_iload_n hX dX7_copy_1 rfl ?_
  obtain ⟨o2, h1, hf⟩ := bd1_some hf
  refine G_cV (as := [.int p0]) (rest := []) hX cvX7_202 (mX7_sheetAt w h1) (Nat.le_of_ble_eq_true rfl) kK0 (Nat.le_of_ble_eq_true rfl) (Nat.le_of_ble_eq_true rfl) rfl rfl (Nat.le_of_ble_eq_true rfl) dX7_copy_2 (st' := va_rf o2 :: []) rfl ?_
  cases o2 with
  | none =>
    replace hf := spl_none hf
    refine G_eqs (st2 := .null :: []) rfl ?_
    refine G_astoreN (lv' := [some (.ref 0), some (.int p0), some (.int p1), some (.int p2), some (.int p3), some (.int p4), some (.null), none]) hX dX7_copy_5 rfl (Nat.le_of_ble_eq_true rfl) rfl ?_
    refine G_aload_n hX dX7_copy_7 rfl ?_
    refine G_iload_n hX dX7_copy_8 rfl ?_
    obtain ⟨o6, h5, hf⟩ := bd1_some hf
    refine G_cV (as := [.int p2]) (rest := []) hX cvX7_202 (mX7_sheetAt w h5) (Nat.le_of_ble_eq_true rfl) kK0 (Nat.le_of_ble_eq_true rfl) (Nat.le_of_ble_eq_true rfl) rfl rfl (Nat.le_of_ble_eq_true rfl) dX7_copy_9 (st' := va_rf o6 :: []) rfl ?_
    cases o6 with
    | none =>
      replace hf := spl_none hf
      refine G_eqs (st2 := .null :: []) rfl ?_
      refine G_astoreN (lv' := [some (.ref 0), some (.int p0), some (.int p1), some (.int p2), some (.int p3), some (.int p4), some (.null), some (.null)]) hX dX7_copy_12 rfl (Nat.le_of_ble_eq_true rfl) rfl ?_
      refine G_aloadN hX dX7_copy_14 rfl ?_
      refine G_ifnullN (tgt := 24) hX dX7_copy_16 rfl ?_
      refine G_iconst (v := (-1)) hX dX7_copy_24 rfl ?_
      obtain ⟨rfl, rfl⟩ := ret2 hf
      exact G_iret hX hR dX7_copy_25
    | some x7 =>
      obtain ⟨h8, hf⟩ := spl_some hf
      refine G_eqs (st2 := .ref x7 :: []) rfl ?_
      refine G_astore (lv' := [some (.ref 0), some (.int p0), some (.int p1), some (.int p2), some (.int p3), some (.int p4), some (.null), some (.ref x7)]) hX dX7_copy_12 rfl (Nat.le_of_ble_eq_true rfl) rfl ?_
      refine G_aloadN hX dX7_copy_14 rfl ?_
      refine G_ifnullN (tgt := 24) hX dX7_copy_16 rfl ?_
      refine G_iconst (v := (-1)) hX dX7_copy_24 rfl ?_
      obtain ⟨rfl, rfl⟩ := ret2 hf
      exact G_iret hX hR dX7_copy_25
  | some x3 =>
    obtain ⟨h4, hf⟩ := spl_some hf
    refine G_eqs (st2 := .ref x3 :: []) rfl ?_
    refine G_astore (lv' := [some (.ref 0), some (.int p0), some (.int p1), some (.int p2), some (.int p3), some (.int p4), some (.ref x3), none]) hX dX7_copy_5 rfl (Nat.le_of_ble_eq_true rfl) rfl ?_
    refine G_aload_n hX dX7_copy_7 rfl ?_
    refine G_iload_n hX dX7_copy_8 rfl ?_
    obtain ⟨o10, h9, hf⟩ := bd1_some hf
    refine G_cV (as := [.int p2]) (rest := []) hX cvX7_202 (mX7_sheetAt w h9) (Nat.le_of_ble_eq_true rfl) kK0 (Nat.le_of_ble_eq_true rfl) (Nat.le_of_ble_eq_true rfl) rfl rfl (Nat.le_of_ble_eq_true rfl) dX7_copy_9 (st' := va_rf o10 :: []) rfl ?_
    cases o10 with
    | none =>
      replace hf := spl_none hf
      refine G_eqs (st2 := .null :: []) rfl ?_
      refine G_astoreN (lv' := [some (.ref 0), some (.int p0), some (.int p1), some (.int p2), some (.int p3), some (.int p4), some (.ref x3), some (.null)]) hX dX7_copy_12 rfl (Nat.le_of_ble_eq_true rfl) rfl ?_
      refine G_aload hX dX7_copy_14 rfl ?_
      refine G_ifnull hX dX7_copy_16 ?_
      refine G_aloadN hX dX7_copy_19 rfl ?_
      refine G_ifnonnullN hX dX7_copy_21 ?_
      refine G_iconst (v := (-1)) hX dX7_copy_24 rfl ?_
      obtain ⟨rfl, rfl⟩ := ret2 hf
      exact G_iret hX hR dX7_copy_25
    | some x11 =>
      obtain ⟨h12, hf⟩ := spl_some hf
      refine G_eqs (st2 := .ref x11 :: []) rfl ?_
      refine G_astore (lv' := [some (.ref 0), some (.int p0), some (.int p1), some (.int p2), some (.int p3), some (.int p4), some (.ref x3), some (.ref x11)]) hX dX7_copy_12 rfl (Nat.le_of_ble_eq_true rfl) rfl ?_
      refine G_aload hX dX7_copy_14 rfl ?_
      refine G_ifnull hX dX7_copy_16 ?_
      refine G_aload hX dX7_copy_19 rfl ?_
      refine G_ifnonnull (tgt := 26) hX dX7_copy_21 rfl ?_
      refine G_aload hX dX7_copy_26 rfl ?_
      obtain ⟨v14, h13, hf⟩ := bd1_some hf
      refine G_cV (as := []) (rest := []) hX cvX7_213 (mX5_isNothing w h4 h13) (Nat.le_of_ble_eq_true rfl) h4 (Nat.le_of_ble_eq_true rfl) (kd_lt h4 (Nat.le_of_ble_eq_true rfl)) rfl rfl (Nat.le_of_ble_eq_true rfl) dX7_copy_28 (st' := [.int v14]) rfl ?_
      refine G_if_ne (tgt := 42) hX dX7_copy_31 rfl hf (fun hf => ?_) (fun hf => ?_)
      · refine G_bipush (v := (-11)) hX dX7_copy_42 rfl ?_
        obtain ⟨rfl, rfl⟩ := ret2 hf
        exact G_iret hX hR dX7_copy_44
      · refine G_aload hX dX7_copy_34 rfl ?_
        obtain ⟨v16, h15, hf⟩ := bd1_some hf
        refine G_cV (as := []) (rest := []) hX cvX7_213 (mX5_isNothing w h12 h15) (Nat.le_of_ble_eq_true rfl) h12 (Nat.le_of_ble_eq_true rfl) (kd_lt h12 (Nat.le_of_ble_eq_true rfl)) rfl rfl (Nat.le_of_ble_eq_true rfl) dX7_copy_36 (st' := [.int v16]) rfl ?_
        refine G_if_eq (tgt := 45) hX dX7_copy_39 rfl hf (fun hf => ?_) (fun hf => ?_)
        · refine G_aload hX dX7_copy_45 rfl ?_
          obtain ⟨v18, h17, hf⟩ := bd1_some hf
          refine G_cV (as := []) (rest := []) hX cvX7_235 (mX5_lane w h4 h17) (Nat.le_of_ble_eq_true rfl) h4 (Nat.le_of_ble_eq_true rfl) (kd_lt h4 (Nat.le_of_ble_eq_true rfl)) rfl rfl (Nat.le_of_ble_eq_true rfl) dX7_copy_47 (st' := [.int v18]) rfl ?_
          refine G_aload hX dX7_copy_50 rfl ?_
          obtain ⟨v20, h19, hf⟩ := bd1_some hf
          refine G_cV (as := []) (rest := [.int v18]) hX cvX7_235 (mX5_lane w h12 h19) (Nat.le_of_ble_eq_true rfl) h12 (Nat.le_of_ble_eq_true rfl) (kd_lt h12 (Nat.le_of_ble_eq_true rfl)) rfl rfl (Nat.le_of_ble_eq_true rfl) dX7_copy_52 (st' := [.int v20, .int v18]) rfl ?_
          refine G_icmp_eq (tgt := 61) hX dX7_copy_55 rfl hf (fun hf => ?_) (fun hf => ?_)
          · refine G_aload hX dX7_copy_61 rfl ?_
            refine G_iload_n hX dX7_copy_63 rfl ?_
            refine G_iload hX dX7_copy_64 rfl ?_
            obtain ⟨v22, h21, hf⟩ := bd1_some hf
            refine G_cV (as := [.int p1, .int p4]) (rest := []) hX cvX7_222 (mX5_holds w h4 h21) (Nat.le_of_ble_eq_true rfl) h4 (Nat.le_of_ble_eq_true rfl) (kd_lt h4 (Nat.le_of_ble_eq_true rfl)) rfl rfl (Nat.le_of_ble_eq_true rfl) dX7_copy_66 (st' := [.int v22]) rfl ?_
            refine G_if_eq (tgt := 84) hX dX7_copy_69 rfl hf (fun hf => ?_) (fun hf => ?_)
            · refine G_bipush (v := (-13)) hX dX7_copy_84 rfl ?_
              obtain ⟨rfl, rfl⟩ := ret2 hf
              exact G_iret hX hR dX7_copy_86
            · refine G_aload hX dX7_copy_72 rfl ?_
              refine G_iload hX dX7_copy_74 rfl ?_
              refine G_iload hX dX7_copy_76 rfl ?_
              obtain ⟨v24, h23, hf⟩ := bd1_some hf
              refine G_cV (as := [.int p3, .int p4]) (rest := []) hX cvX7_222 (mX5_holds w h12 h23) (Nat.le_of_ble_eq_true rfl) h12 (Nat.le_of_ble_eq_true rfl) (kd_lt h12 (Nat.le_of_ble_eq_true rfl)) rfl rfl (Nat.le_of_ble_eq_true rfl) dX7_copy_78 (st' := [.int v24]) rfl ?_
              refine G_if_ne (tgt := 87) hX dX7_copy_81 rfl hf (fun hf => ?_) (fun hf => ?_)
              · refine G_aload hX dX7_copy_87 rfl ?_
                refine G_aload hX dX7_copy_89 rfl ?_
                refine G_iload_n hX dX7_copy_91 rfl ?_
                refine G_iload hX dX7_copy_92 rfl ?_
                refine G_iload hX dX7_copy_94 rfl ?_
                obtain ⟨u26, h25, hf⟩ := bd1_some hf
                refine G_cV (as := [.ref x3, .int p1, .int p3, .int p4]) (rest := []) hX cvX7_238 (mX5_take w h12 h4 h25) (Nat.le_of_ble_eq_true rfl) h12 (Nat.le_of_ble_eq_true rfl) (kd_lt h12 (Nat.le_of_ble_eq_true rfl)) rfl rfl (Nat.le_of_ble_eq_true rfl) dX7_copy_96 (st' := []) rfl ?_
                refine G_iload hX dX7_copy_99 rfl ?_
                obtain ⟨rfl, rfl⟩ := ret2 hf
                exact G_iret hX hR dX7_copy_101
              · refine G_bipush (v := (-13)) hX dX7_copy_84 rfl ?_
                obtain ⟨rfl, rfl⟩ := ret2 hf
                exact G_iret hX hR dX7_copy_86
          · refine G_bipush (v := (-12)) hX dX7_copy_58 rfl ?_
            obtain ⟨rfl, rfl⟩ := ret2 hf
            exact G_iret hX hR dX7_copy_60
        · refine G_bipush (v := (-11)) hX dX7_copy_42 rfl ?_
          obtain ⟨rfl, rfl⟩ := ret2 hf
          exact G_iret hX hR dX7_copy_44
noncomputable def fX7_log_b64 (p0 : Int32) (p1 : Int32) (p2 : Int32) (p3 : Int32) (i5 : Nat) (s7 : Int32) (u : Um) : Option (Nat × Int32 × Um) :=
  bd1 (fX0_wrongs 3 u) fun v16 =>
  if v16 ≤ s7 then
    some (1, s7, u)
  else
    bd1 (fX0_saying 3 s7 p0 u) fun v18 =>
    bd1 (fX5_put i5 (p3 + s7) ((v18 : Int32).toInt64) u) fun u20 =>
    nm (s7 + 1) fun v21 =>
    some (0, v21, u20)
set_option maxHeartbeats 4000000 in
set_option maxRecDepth 100000 in
theorem tX7_log_b64 {w : Wc} {X : MX} (hX : OKc w X RX7 cX7_log 4) {p0 : Int32} {p1 : Int32} {p2 : Int32} {p3 : Int32} {i5 : Nat} (hi5 : kd i5 = 5) {s : Int32 × Um} {e : Nat} {s' : Int32 × Um} (hf : fX7_log_b64 p0 p1 p2 p3 i5 s.1 s.2 = some (e, s')) (K0 : e = 0 → G w X Zm 64 [some (.ref 0), some (.int p0), none, none, some (.int p3), some (.ref i5), none, some (.int s'.1)] [] s'.2) (K1 : e ≠ 0 → G w X Zm 103 [some (.ref 0), none, none, none, none, none, none, none] [] s'.2) : G w X Zm 64 [some (.ref 0), some (.int p0), none, none, some (.int p3), some (.ref i5), none, some (.int s.1)] [] s.2 := by
  obtain ⟨s7, u⟩ := s
  unfold fX7_log_b64 at hf
  try dsimp only at hf ⊢
  refine G_iload hX dX7_log_64 rfl ?_
  refine G_aload_n hX dX7_log_66 rfl ?_
  refine G_getR (i := 1) (t := 3) hX kK0 (Nat.le_of_ble_eq_true rfl) (Nat.le_of_ble_eq_true rfl) rfl pK0_1 flX7_19 dX7_log_67 ?_
  obtain ⟨v16, h15, hf⟩ := bd1_some hf
  refine G_cV (as := []) (rest := [.int s7]) hX cvX7_87 (mX0_wrongs w kK3 h15) (Nat.le_of_ble_eq_true rfl) kK3 (Nat.le_of_ble_eq_true rfl) (Nat.le_of_ble_eq_true rfl) rfl rfl (Nat.le_of_ble_eq_true rfl) dX7_log_70 (st' := [.int v16, .int s7]) rfl ?_
  refine G_icmp_ge (tgt := 103) hX dX7_log_73 rfl hf (fun hf => ?_) (fun hf => ?_)
  · obtain ⟨rfl, rfl⟩ := ret2 hf
    refine G_mask (lv' := [some (.ref 0), none, none, none, none, none, none, none]) [true, false, false, false, false, false, false, false] rfl rfl ?_
    exact K1 (by decide)
  · refine G_aload hX dX7_log_76 rfl ?_
    refine G_iload hX dX7_log_78 rfl ?_
    refine G_iload hX dX7_log_80 rfl ?_
    refine G_iadd hX dX7_log_82 ?_
    refine G_aload_n hX dX7_log_83 rfl ?_
    refine G_getR (i := 1) (t := 3) hX kK0 (Nat.le_of_ble_eq_true rfl) (Nat.le_of_ble_eq_true rfl) rfl pK0_1 flX7_19 dX7_log_84 ?_
    refine G_iload hX dX7_log_87 rfl ?_
    refine G_iload_n hX dX7_log_89 rfl ?_
    obtain ⟨v18, h17, hf⟩ := bd1_some hf
    refine G_cV (as := [.int s7, .int p0]) (rest := [.int (p3 + s7), .ref i5]) hX cvX7_153 (mX0_saying w kK3 h17) (Nat.le_of_ble_eq_true rfl) kK3 (Nat.le_of_ble_eq_true rfl) (Nat.le_of_ble_eq_true rfl) rfl rfl (Nat.le_of_ble_eq_true rfl) dX7_log_90 (st' := [.int v18, .int (p3 + s7), .ref i5]) rfl ?_
    refine G_i2l hX dX7_log_93 ?_
    obtain ⟨u20, h19, hf⟩ := bd1_some hf
    refine G_cV (as := [.int (p3 + s7), .long ((v18 : Int32).toInt64)]) (rest := []) hX cvX7_227 (mX5_put w hi5 h19) (Nat.le_of_ble_eq_true rfl) hi5 (Nat.le_of_ble_eq_true rfl) (kd_lt hi5 (Nat.le_of_ble_eq_true rfl)) rfl rfl (Nat.le_of_ble_eq_true rfl) dX7_log_94 (st' := []) rfl ?_
    refine G_iincF (lvf := fun v21 => [some (.ref 0), some (.int p0), none, none, some (.int p3), some (.ref i5), none, some (.int v21)]) hX dX7_log_97 rfl rfl rfl (Nat.le_of_ble_eq_true rfl) (fun _ => rfl) hf (fun v21 hf => ?_)
    refine G_goto (tgt := 64) hX dX7_log_100 rfl ?_
    obtain ⟨rfl, rfl⟩ := ret2 hf
    refine G_mask (lv' := [some (.ref 0), some (.int p0), none, none, some (.int p3), some (.ref i5), none, some (.int v21)]) [true, true, false, false, true, true, false, true] rfl rfl ?_
    exact K0 rfl
noncomputable def fX7_log (p0 : Int32) (p1 : Int32) (p2 : Int32) (p3 : Int32) (u : Um) : Option (Int32 × Um) :=
  bd1 (fX0_hasPerson 3 p0 u) fun v2 =>
  if v2 = 0 then
    some ((-1), u)
  else
    bd1 (fX7_sheetAt p1 u) fun o4 =>
    spl o4 5
      (bd1 (fX7_refuseRow none p2 u) fun v8 =>
      if v8 = 0 then
        some (v8, u)
      else
        some (v8, u))
    (fun x5 =>
      bd1 (fX7_refuseRow (some x5) p2 u) fun v10 =>
      if v10 = 0 then
        bd1 (fX0_wrongs 3 u) fun v12 =>
        bd1 (fX5_holds x5 p3 v12 u) fun v14 =>
        if v14 = 0 then
          some ((-13), u)
        else
          bd3 (lp (fun s => fX7_log_b64 p0 p1 p2 p3 x5 s.1 s.2) fuel ((0 : Int32), u)) fun e24 v22 u23 =>
          bd1 (fX0_wrongs 3 u23) fun v27 =>
          some (v27, u23)
      else
        some (v10, u))
set_option maxHeartbeats 4000000 in
set_option maxRecDepth 100000 in
theorem mX7_log (w : Wc) {p0 : Int32} {p1 : Int32} {p2 : Int32} {p3 : Int32}  {u : Um} {r : Int32} {u' : Um} (hf : fX7_log p0 p1 p2 p3 u = some (r, u')) : MC w 4 qX7_log [.ref 0, .int p0, .int p1, .int p2, .int p3] u (some (.int r)) u' := by
  unfold fX7_log at hf
  refine MC_intro pnX7 (Nat.le_of_ble_eq_true rfl) (fun X hX hR _ _ => ?_)
  have hX : OKc w X RX7 cX7_log 4 := hX
  have hR : RT w X (some .int) 0 0 Pst 133 false (some (.int r)) u' := hR
  refine G_eql (lv' := [some (.ref 0), some (.int p0), some (.int p1), some (.int p2), some (.int p3), none, none, none]) rfl ?_
  refine G_aload_n hX dX7_log_0 rfl ?_
  refine G_getR (i := 1) (t := 3) hX kK0 (Nat.le_of_ble_eq_true rfl) (Nat.le_of_ble_eq_true rfl) rfl pK0_1 flX7_19 dX7_log_1 ?_
  refine G_iload_n hX dX7_log_4 rfl ?_
  obtain ⟨v2, h1, hf⟩ := bd1_some hf
  refine G_cV (as := [.int p0]) (rest := []) hX cvX7_90 (mX0_hasPerson w kK3 h1) (Nat.le_of_ble_eq_true rfl) kK3 (Nat.le_of_ble_eq_true rfl) (Nat.le_of_ble_eq_true rfl) rfl rfl (Nat.le_of_ble_eq_true rfl) dX7_log_5 (st' := [.int v2]) rfl ?_
  refine G_if_ne (tgt := 13) hX dX7_log_8 rfl hf (fun hf => ?_) (fun hf => ?_)
  · refine G_aload_n hX dX7_log_13 rfl ?_
    refine G_iload_n hX dX7_log_14 rfl ?_
    obtain ⟨o4, h3, hf⟩ := bd1_some hf
    refine G_cV (as := [.int p1]) (rest := []) hX cvX7_202 (mX7_sheetAt w h3) (Nat.le_of_ble_eq_true rfl) kK0 (Nat.le_of_ble_eq_true rfl) (Nat.le_of_ble_eq_true rfl) rfl rfl (Nat.le_of_ble_eq_true rfl) dX7_log_15 (st' := va_rf o4 :: []) rfl ?_
    cases o4 with
    | none =>
      replace hf := spl_none hf
      refine G_eqs (st2 := .null :: []) rfl ?_
      refine G_astoreN (lv' := [some (.ref 0), some (.int p0), some (.int p1), some (.int p2), some (.int p3), some (.null), none, none]) hX dX7_log_18 rfl (Nat.le_of_ble_eq_true rfl) rfl ?_
      refine G_aloadN hX dX7_log_20 rfl ?_
      refine G_iload_n hX dX7_log_22 rfl ?_
      obtain ⟨v8, h7, hf⟩ := bd1_some hf
      refine G_cS (as := [.null, .int p2]) (rest := []) hX csX7_218 (mX7_refuseRow w h7) (Nat.le_of_ble_eq_true rfl) rfl rfl (Nat.le_of_ble_eq_true rfl) dX7_log_23 (st' := [.int v8]) rfl ?_
      refine G_istore (lv' := [some (.ref 0), some (.int p0), some (.int p1), some (.int p2), some (.int p3), some (.null), some (.int v8), none]) hX dX7_log_26 rfl (Nat.le_of_ble_eq_true rfl) rfl ?_
      refine G_iload hX dX7_log_28 rfl ?_
      refine G_if_ne (tgt := 38) hX dX7_log_30 rfl hf (fun hf => ?_) (fun hf => ?_)
      · refine G_iload hX dX7_log_38 rfl ?_
        obtain ⟨rfl, rfl⟩ := ret2 hf
        exact G_iret hX hR dX7_log_40
      · refine G_aloadN hX dX7_log_33 rfl ?_
        refine G_ifnonnullN hX dX7_log_35 ?_
        refine G_iload hX dX7_log_38 rfl ?_
        obtain ⟨rfl, rfl⟩ := ret2 hf
        exact G_iret hX hR dX7_log_40
    | some x5 =>
      obtain ⟨h6, hf⟩ := spl_some hf
      refine G_eqs (st2 := .ref x5 :: []) rfl ?_
      refine G_astore (lv' := [some (.ref 0), some (.int p0), some (.int p1), some (.int p2), some (.int p3), some (.ref x5), none, none]) hX dX7_log_18 rfl (Nat.le_of_ble_eq_true rfl) rfl ?_
      refine G_aload hX dX7_log_20 rfl ?_
      refine G_iload_n hX dX7_log_22 rfl ?_
      obtain ⟨v10, h9, hf⟩ := bd1_some hf
      refine G_cS (as := [.ref x5, .int p2]) (rest := []) hX csX7_218 (mX7_refuseRow w h9) (Nat.le_of_ble_eq_true rfl) rfl rfl (Nat.le_of_ble_eq_true rfl) dX7_log_23 (st' := [.int v10]) rfl ?_
      refine G_istore (lv' := [some (.ref 0), some (.int p0), some (.int p1), some (.int p2), some (.int p3), some (.ref x5), some (.int v10), none]) hX dX7_log_26 rfl (Nat.le_of_ble_eq_true rfl) rfl ?_
      refine G_iload hX dX7_log_28 rfl ?_
      refine G_if_ne (tgt := 38) hX dX7_log_30 rfl hf (fun hf => ?_) (fun hf => ?_)
      · refine G_iload hX dX7_log_38 rfl ?_
        obtain ⟨rfl, rfl⟩ := ret2 hf
        exact G_iret hX hR dX7_log_40
      · refine G_aload hX dX7_log_33 rfl ?_
        refine G_ifnonnull (tgt := 41) hX dX7_log_35 rfl ?_
        refine G_aload hX dX7_log_41 rfl ?_
        refine G_iload hX dX7_log_43 rfl ?_
        refine G_aload_n hX dX7_log_45 rfl ?_
        refine G_getR (i := 1) (t := 3) hX kK0 (Nat.le_of_ble_eq_true rfl) (Nat.le_of_ble_eq_true rfl) rfl pK0_1 flX7_19 dX7_log_46 ?_
        obtain ⟨v12, h11, hf⟩ := bd1_some hf
        refine G_cV (as := []) (rest := [.int p3, .ref x5]) hX cvX7_87 (mX0_wrongs w kK3 h11) (Nat.le_of_ble_eq_true rfl) kK3 (Nat.le_of_ble_eq_true rfl) (Nat.le_of_ble_eq_true rfl) rfl rfl (Nat.le_of_ble_eq_true rfl) dX7_log_49 (st' := [.int v12, .int p3, .ref x5]) rfl ?_
        obtain ⟨v14, h13, hf⟩ := bd1_some hf
        refine G_cV (as := [.int p3, .int v12]) (rest := []) hX cvX7_222 (mX5_holds w h6 h13) (Nat.le_of_ble_eq_true rfl) h6 (Nat.le_of_ble_eq_true rfl) (kd_lt h6 (Nat.le_of_ble_eq_true rfl)) rfl rfl (Nat.le_of_ble_eq_true rfl) dX7_log_52 (st' := [.int v14]) rfl ?_
        refine G_if_ne (tgt := 61) hX dX7_log_55 rfl hf (fun hf => ?_) (fun hf => ?_)
        · refine G_iconst (v := 0) hX dX7_log_61 rfl ?_
          refine G_istore (lv' := [some (.ref 0), some (.int p0), some (.int p1), some (.int p2), some (.int p3), some (.ref x5), some (.int v10), some (.int 0)]) hX dX7_log_62 rfl (Nat.le_of_ble_eq_true rfl) rfl ?_
          obtain ⟨e24, v22, u23, h25, hf⟩ := bd3_some hf
          refine G_mask (lv' := [some (.ref 0), some (.int p0), none, none, some (.int p3), some (.ref x5), none, some (.int 0)]) [true, true, false, false, true, true, false, true] rfl rfl ?_
          refine lp_G (body := (fun s => fX7_log_b64 p0 p1 p2 p3 x5 s.1 s.2)) (Gh := fun s => G w X Zm 64 [some (.ref 0), some (.int p0), none, none, some (.int p3), some (.ref x5), none, some (.int s.1)] [] s.2) (Gx := fun e s => G w X Zm 103 [some (.ref 0), none, none, none, none, none, none, none] [] s.2) (fun s e s' hb K0 K1 => tX7_log_b64 (s := s) (e := e) (s' := s') hX  h6 hb K0 K1) fuel ((0 : Int32), u) (e24, v22, u23) h25 ?_
          refine G_aload_n hX dX7_log_103 rfl ?_
          refine G_getR (i := 1) (t := 3) hX kK0 (Nat.le_of_ble_eq_true rfl) (Nat.le_of_ble_eq_true rfl) rfl pK0_1 flX7_19 dX7_log_104 ?_
          obtain ⟨v27, h26, hf⟩ := bd1_some hf
          refine G_cV (as := []) (rest := []) hX cvX7_87 (mX0_wrongs w kK3 h26) (Nat.le_of_ble_eq_true rfl) kK3 (Nat.le_of_ble_eq_true rfl) (Nat.le_of_ble_eq_true rfl) rfl rfl (Nat.le_of_ble_eq_true rfl) dX7_log_107 (st' := [.int v27]) rfl ?_
          obtain ⟨rfl, rfl⟩ := ret2 hf
          exact G_iret hX hR dX7_log_110
        · refine G_bipush (v := (-13)) hX dX7_log_58 rfl ?_
          obtain ⟨rfl, rfl⟩ := ret2 hf
          exact G_iret hX hR dX7_log_60
  · refine G_iconst (v := (-1)) hX dX7_log_11 rfl ?_
    obtain ⟨rfl, rfl⟩ := ret2 hf
    exact G_iret hX hR dX7_log_12
noncomputable def fX7_refusePairs_b85 (p0 : Int32) (p1 : Int32) (p2 : Int32) (p3 : Int32) (p4 : Int32) (p5 : Int32) (i7 : Nat) (s9 : Int32) (u : Um) : Option (Nat × Int32) :=
  if p4 ≤ s9 then
    some (1, s9)
  else
    bd1 (fX5_get i7 (p3 + (2 * s9)) u) fun v14 =>
    if (lg_cmp v14 0) < 0 then
      some (2, s9)
    else
      if (lg_cmp v14 9) ≤ 0 then
        nm (s9 + 1) fun v15 =>
        some (0, v15)
      else
        some (2, s9)
set_option maxHeartbeats 4000000 in
set_option maxRecDepth 100000 in
theorem tX7_refusePairs_b85 {w : Wc} {X : MX} (hX : OKc w X RX7 cX7_refusePairs 3) {p0 : Int32} {p1 : Int32} {p2 : Int32} {p3 : Int32} {p4 : Int32} {p5 : Int32} {i7 : Nat} (hi7 : kd i7 = 5) {s : Int32} {e : Nat} {s' : Int32} {u : Um} (hf : fX7_refusePairs_b85 p0 p1 p2 p3 p4 p5 i7 s u = some (e, s')) (K0 : e = 0 → G w X Zm 85 [none, none, none, none, some (.int p3), some (.int p4), none, some (.ref i7), none, some (.int s'), none, none] [] u) (K1 : e ≠ 0 → if e = 1 then G w X Zm 131 [none, none, none, none, none, none, none, none, none, none, none, none] [] u else G w X Zm 122 [none, none, none, none, none, none, none, none, none, none, none, none] [] u) : G w X Zm 85 [none, none, none, none, some (.int p3), some (.int p4), none, some (.ref i7), none, some (.int s), none, none] [] u := by
  obtain ⟨s9, rfl⟩ : ∃ z, z = s := ⟨_, rfl⟩
  unfold fX7_refusePairs_b85 at hf
  try dsimp only at hf ⊢
  refine G_iload hX dX7_refusePairs_85 rfl ?_
  refine G_iload hX dX7_refusePairs_87 rfl ?_
  refine G_icmp_ge (tgt := 131) hX dX7_refusePairs_89 rfl hf (fun hf => ?_) (fun hf => ?_)
  · obtain ⟨rfl, rfl⟩ := ret2 hf
    refine G_mask (lv' := [none, none, none, none, none, none, none, none, none, none, none, none]) [false, false, false, false, false, false, false, false, false, false, false, false] rfl rfl ?_
    exact gx_hit (K1 (by decide))
  · refine G_aload hX dX7_refusePairs_92 rfl ?_
    refine G_iload hX dX7_refusePairs_94 rfl ?_
    refine G_iconst (v := 2) hX dX7_refusePairs_96 rfl ?_
    refine G_iload hX dX7_refusePairs_97 rfl ?_
    refine G_imul hX dX7_refusePairs_99 ?_
    refine G_iadd hX dX7_refusePairs_100 ?_
    obtain ⟨v14, h13, hf⟩ := bd1_some hf
    refine G_cV (as := [.int (p3 + (2 * s9))]) (rest := []) hX cvX7_231 (mX5_get w hi7 h13) (Nat.le_of_ble_eq_true rfl) hi7 (Nat.le_of_ble_eq_true rfl) (kd_lt hi7 (Nat.le_of_ble_eq_true rfl)) rfl rfl (Nat.le_of_ble_eq_true rfl) dX7_refusePairs_101 (st' := [.long v14]) rfl ?_
    refine G_lstore (lv' := [none, none, none, none, some (.int p3), some (.int p4), none, some (.ref i7), none, some (.int s9), some (.long v14), none]) hX dX7_refusePairs_104 rfl (Nat.le_of_ble_eq_true rfl) rfl ?_
    refine G_lload hX dX7_refusePairs_106 rfl ?_
    refine G_lconst (v := 0) hX dX7_refusePairs_108 rfl ?_
    refine G_lcmp hX dX7_refusePairs_109 ?_
    refine G_if_lt (tgt := 122) hX dX7_refusePairs_110 rfl hf (fun hf => ?_) (fun hf => ?_)
    · obtain ⟨rfl, rfl⟩ := ret2 hf
      refine G_mask (lv' := [none, none, none, none, none, none, none, none, none, none, none, none]) [false, false, false, false, false, false, false, false, false, false, false, false] rfl rfl ?_
      exact gx_miss (by decide) (K1 (by decide))
    · refine G_lload hX dX7_refusePairs_113 rfl ?_
      refine G_ldc2 (v := 9) hX dX7_refusePairs_115 wJ_X7_275 ?_
      refine G_lcmp hX dX7_refusePairs_118 ?_
      refine G_if_le (tgt := 125) hX dX7_refusePairs_119 rfl hf (fun hf => ?_) (fun hf => ?_)
      · refine G_iincF (lvf := fun v15 => [none, none, none, none, some (.int p3), some (.int p4), none, some (.ref i7), none, some (.int v15), some (.long v14), none]) hX dX7_refusePairs_125 rfl rfl rfl (Nat.le_of_ble_eq_true rfl) (fun _ => rfl) hf (fun v15 hf => ?_)
        refine G_goto (tgt := 85) hX dX7_refusePairs_128 rfl ?_
        obtain ⟨rfl, rfl⟩ := ret2 hf
        refine G_mask (lv' := [none, none, none, none, some (.int p3), some (.int p4), none, some (.ref i7), none, some (.int v15), none, none]) [false, false, false, false, true, true, false, true, false, true, false, false] rfl rfl ?_
        exact K0 rfl
      · obtain ⟨rfl, rfl⟩ := ret2 hf
        refine G_mask (lv' := [none, none, none, none, none, none, none, none, none, none, none, none]) [false, false, false, false, false, false, false, false, false, false, false, false] rfl rfl ?_
        exact gx_miss (by decide) (K1 (by decide))
noncomputable def fX7_refusePairs (p0 : Int32) (p1 : Int32) (p2 : Int32) (p3 : Int32) (p4 : Int32) (p5 : Int32) (u : Um) : Option Int32 :=
  bd1 (fX0_hasPerson 3 p0 u) fun v2 =>
  if v2 = 0 then
    some (-1)
  else
    if p4 < 1 then
      some (-1)
    else
      if 10 < p4 then
        some (-1)
      else
        if p5 < 0 then
          some (-1)
        else
          if p5 ≤ 1 then
            bd1 (fX7_sheetAt p1 u) fun o4 =>
            spl o4 5
              (bd1 (fX7_refuseRow none p2 u) fun v8 =>
              if v8 = 0 then
                some v8
              else
                some v8)
            (fun x5 =>
              bd1 (fX7_refuseRow (some x5) p2 u) fun v10 =>
              if v10 = 0 then
                bd1 (fX5_holds x5 p3 (2 * p4) u) fun v12 =>
                if v12 = 0 then
                  some (-13)
                else
                  bd2 (lp (fun s => fX7_refusePairs_b85 p0 p1 p2 p3 p4 p5 x5 s u) fuel (0 : Int32)) fun e17 v16 =>
                  if e17 = 1 then
                    some 0
                  else
                  some (-2)
              else
                some v10)
          else
            some (-1)
set_option maxHeartbeats 4000000 in
set_option maxRecDepth 100000 in
theorem mX7_refusePairs (w : Wc) {p0 : Int32} {p1 : Int32} {p2 : Int32} {p3 : Int32} {p4 : Int32} {p5 : Int32}  {u : Um} {r : Int32} (hf : fX7_refusePairs p0 p1 p2 p3 p4 p5 u = some r) : MC w 3 qX7_refusePairs [.ref 0, .int p0, .int p1, .int p2, .int p3, .int p4, .int p5] u (some (.int r)) u := by
  unfold fX7_refusePairs at hf
  refine MC_intro pnX7 (Nat.le_of_ble_eq_true rfl) (fun X hX hR _ _ => ?_)
  have hX : OKc w X RX7 cX7_refusePairs 3 := hX
  have hR : RT w X (some .int) 0 0 Pst 133 false (some (.int r)) u := hR
  refine G_eql (lv' := [some (.ref 0), some (.int p0), some (.int p1), some (.int p2), some (.int p3), some (.int p4), some (.int p5), none, none, none, none, none]) rfl ?_
  refine G_aload_n hX dX7_refusePairs_0 rfl ?_
  refine G_getR (i := 1) (t := 3) hX kK0 (Nat.le_of_ble_eq_true rfl) (Nat.le_of_ble_eq_true rfl) rfl pK0_1 flX7_19 dX7_refusePairs_1 ?_
  refine G_iload_n hX dX7_refusePairs_4 rfl ?_
  obtain ⟨v2, h1, hf⟩ := bd1_some hf
  refine G_cV (as := [.int p0]) (rest := []) hX cvX7_90 (mX0_hasPerson w kK3 h1) (Nat.le_of_ble_eq_true rfl) kK3 (Nat.le_of_ble_eq_true rfl) (Nat.le_of_ble_eq_true rfl) rfl rfl (Nat.le_of_ble_eq_true rfl) dX7_refusePairs_5 (st' := [.int v2]) rfl ?_
  refine G_if_eq (tgt := 35) hX dX7_refusePairs_8 rfl hf (fun hf => ?_) (fun hf => ?_)
  · refine G_iconst (v := (-1)) hX dX7_refusePairs_35 rfl ?_
    obtain rfl := Option.some.inj hf
    exact G_iret hX hR dX7_refusePairs_36
  · refine G_iload hX dX7_refusePairs_11 rfl ?_
    refine G_iconst (v := 1) hX dX7_refusePairs_13 rfl ?_
    refine G_icmp_lt (tgt := 35) hX dX7_refusePairs_14 rfl hf (fun hf => ?_) (fun hf => ?_)
    · refine G_iconst (v := (-1)) hX dX7_refusePairs_35 rfl ?_
      obtain rfl := Option.some.inj hf
      exact G_iret hX hR dX7_refusePairs_36
    · refine G_iload hX dX7_refusePairs_17 rfl ?_
      refine G_bipush (v := 10) hX dX7_refusePairs_19 rfl ?_
      refine G_icmp_gt (tgt := 35) hX dX7_refusePairs_21 rfl hf (fun hf => ?_) (fun hf => ?_)
      · refine G_iconst (v := (-1)) hX dX7_refusePairs_35 rfl ?_
        obtain rfl := Option.some.inj hf
        exact G_iret hX hR dX7_refusePairs_36
      · refine G_iload hX dX7_refusePairs_24 rfl ?_
        refine G_if_lt (tgt := 35) hX dX7_refusePairs_26 rfl hf (fun hf => ?_) (fun hf => ?_)
        · refine G_iconst (v := (-1)) hX dX7_refusePairs_35 rfl ?_
          obtain rfl := Option.some.inj hf
          exact G_iret hX hR dX7_refusePairs_36
        · refine G_iload hX dX7_refusePairs_29 rfl ?_
          refine G_iconst (v := 1) hX dX7_refusePairs_31 rfl ?_
          refine G_icmp_le (tgt := 37) hX dX7_refusePairs_32 rfl hf (fun hf => ?_) (fun hf => ?_)
          · refine G_aload_n hX dX7_refusePairs_37 rfl ?_
            refine G_iload_n hX dX7_refusePairs_38 rfl ?_
            obtain ⟨o4, h3, hf⟩ := bd1_some hf
            refine G_cV (as := [.int p1]) (rest := []) hX cvX7_202 (mX7_sheetAt w h3) (Nat.le_of_ble_eq_true rfl) kK0 (Nat.le_of_ble_eq_true rfl) (Nat.le_of_ble_eq_true rfl) rfl rfl (Nat.le_of_ble_eq_true rfl) dX7_refusePairs_39 (st' := va_rf o4 :: []) rfl ?_
            cases o4 with
            | none =>
              replace hf := spl_none hf
              refine G_eqs (st2 := .null :: []) rfl ?_
              refine G_astoreN (lv' := [some (.ref 0), some (.int p0), some (.int p1), some (.int p2), some (.int p3), some (.int p4), some (.int p5), some (.null), none, none, none, none]) hX dX7_refusePairs_42 rfl (Nat.le_of_ble_eq_true rfl) rfl ?_
              refine G_aloadN hX dX7_refusePairs_44 rfl ?_
              refine G_iload_n hX dX7_refusePairs_46 rfl ?_
              obtain ⟨v8, h7, hf⟩ := bd1_some hf
              refine G_cS (as := [.null, .int p2]) (rest := []) hX csX7_218 (mX7_refuseRow w h7) (Nat.le_of_ble_eq_true rfl) rfl rfl (Nat.le_of_ble_eq_true rfl) dX7_refusePairs_47 (st' := [.int v8]) rfl ?_
              refine G_istore (lv' := [some (.ref 0), some (.int p0), some (.int p1), some (.int p2), some (.int p3), some (.int p4), some (.int p5), some (.null), some (.int v8), none, none, none]) hX dX7_refusePairs_50 rfl (Nat.le_of_ble_eq_true rfl) rfl ?_
              refine G_iload hX dX7_refusePairs_52 rfl ?_
              refine G_if_ne (tgt := 62) hX dX7_refusePairs_54 rfl hf (fun hf => ?_) (fun hf => ?_)
              · refine G_iload hX dX7_refusePairs_62 rfl ?_
                obtain rfl := Option.some.inj hf
                exact G_iret hX hR dX7_refusePairs_64
              · refine G_aloadN hX dX7_refusePairs_57 rfl ?_
                refine G_ifnonnullN hX dX7_refusePairs_59 ?_
                refine G_iload hX dX7_refusePairs_62 rfl ?_
                obtain rfl := Option.some.inj hf
                exact G_iret hX hR dX7_refusePairs_64
            | some x5 =>
              obtain ⟨h6, hf⟩ := spl_some hf
              refine G_eqs (st2 := .ref x5 :: []) rfl ?_
              refine G_astore (lv' := [some (.ref 0), some (.int p0), some (.int p1), some (.int p2), some (.int p3), some (.int p4), some (.int p5), some (.ref x5), none, none, none, none]) hX dX7_refusePairs_42 rfl (Nat.le_of_ble_eq_true rfl) rfl ?_
              refine G_aload hX dX7_refusePairs_44 rfl ?_
              refine G_iload_n hX dX7_refusePairs_46 rfl ?_
              obtain ⟨v10, h9, hf⟩ := bd1_some hf
              refine G_cS (as := [.ref x5, .int p2]) (rest := []) hX csX7_218 (mX7_refuseRow w h9) (Nat.le_of_ble_eq_true rfl) rfl rfl (Nat.le_of_ble_eq_true rfl) dX7_refusePairs_47 (st' := [.int v10]) rfl ?_
              refine G_istore (lv' := [some (.ref 0), some (.int p0), some (.int p1), some (.int p2), some (.int p3), some (.int p4), some (.int p5), some (.ref x5), some (.int v10), none, none, none]) hX dX7_refusePairs_50 rfl (Nat.le_of_ble_eq_true rfl) rfl ?_
              refine G_iload hX dX7_refusePairs_52 rfl ?_
              refine G_if_ne (tgt := 62) hX dX7_refusePairs_54 rfl hf (fun hf => ?_) (fun hf => ?_)
              · refine G_iload hX dX7_refusePairs_62 rfl ?_
                obtain rfl := Option.some.inj hf
                exact G_iret hX hR dX7_refusePairs_64
              · refine G_aload hX dX7_refusePairs_57 rfl ?_
                refine G_ifnonnull (tgt := 65) hX dX7_refusePairs_59 rfl ?_
                refine G_aload hX dX7_refusePairs_65 rfl ?_
                refine G_iload hX dX7_refusePairs_67 rfl ?_
                refine G_iconst (v := 2) hX dX7_refusePairs_69 rfl ?_
                refine G_iload hX dX7_refusePairs_70 rfl ?_
                refine G_imul hX dX7_refusePairs_72 ?_
                obtain ⟨v12, h11, hf⟩ := bd1_some hf
                refine G_cV (as := [.int p3, .int (2 * p4)]) (rest := []) hX cvX7_222 (mX5_holds w h6 h11) (Nat.le_of_ble_eq_true rfl) h6 (Nat.le_of_ble_eq_true rfl) (kd_lt h6 (Nat.le_of_ble_eq_true rfl)) rfl rfl (Nat.le_of_ble_eq_true rfl) dX7_refusePairs_73 (st' := [.int v12]) rfl ?_
                refine G_if_ne (tgt := 82) hX dX7_refusePairs_76 rfl hf (fun hf => ?_) (fun hf => ?_)
                · refine G_iconst (v := 0) hX dX7_refusePairs_82 rfl ?_
                  refine G_istore (lv' := [some (.ref 0), some (.int p0), some (.int p1), some (.int p2), some (.int p3), some (.int p4), some (.int p5), some (.ref x5), some (.int v10), some (.int 0), none, none]) hX dX7_refusePairs_83 rfl (Nat.le_of_ble_eq_true rfl) rfl ?_
                  obtain ⟨e17, v16, h18, hf⟩ := bd2_some hf
                  refine G_mask (lv' := [none, none, none, none, some (.int p3), some (.int p4), none, some (.ref x5), none, some (.int 0), none, none]) [false, false, false, false, true, true, false, true, false, true, false, false] rfl rfl ?_
                  refine lp_G (body := (fun s => fX7_refusePairs_b85 p0 p1 p2 p3 p4 p5 x5 s u)) (Gh := fun s => G w X Zm 85 [none, none, none, none, some (.int p3), some (.int p4), none, some (.ref x5), none, some (.int s), none, none] [] u) (Gx := fun e s => if e = 1 then G w X Zm 131 [none, none, none, none, none, none, none, none, none, none, none, none] [] u else G w X Zm 122 [none, none, none, none, none, none, none, none, none, none, none, none] [] u) (fun s e s' hb K0 K1 => tX7_refusePairs_b85 (s := s) (e := e) (s' := s') hX  h6 hb K0 K1) fuel (0 : Int32) (e17, v16) h18 ?_
                  refine gx2 hf (fun hf => ?_) (fun hf => ?_)
                  · refine G_iconst (v := 0) hX dX7_refusePairs_131 rfl ?_
                    obtain rfl := Option.some.inj hf
                    exact G_iret hX hR dX7_refusePairs_132
                  refine G_bipush (v := (-2)) hX dX7_refusePairs_122 rfl ?_
                  obtain rfl := Option.some.inj hf
                  exact G_iret hX hR dX7_refusePairs_124
                · refine G_bipush (v := (-13)) hX dX7_refusePairs_79 rfl ?_
                  obtain rfl := Option.some.inj hf
                  exact G_iret hX hR dX7_refusePairs_81
          · refine G_iconst (v := (-1)) hX dX7_refusePairs_35 rfl ?_
            obtain rfl := Option.some.inj hf
            exact G_iret hX hR dX7_refusePairs_36
noncomputable def fX1_amongSkills_b13 (p0 : Nat) (p1 : Int32) (s3 : Int32) (u : Um) : Option (Nat × Int32 × Um) :=
  if 100 ≤ s3 then
    some (1, s3, u)
  else
    bd1 (fX0_trait p0 p1 0 u) fun v4 =>
    bd1 (fX0_trait p0 p1 6 u) fun v6 =>
    bd1 (fX7_sayingOf v4 (s3 / 10) v6 (irm s3 10) u) fun v8 =>
    if inb s3 100 = true then
    nm (sI u 116 s3.toNatClampNeg v8) fun u9 =>
    nm (s3 + 1) fun v10 =>
    some (0, v10, u9)
    else none
set_option maxHeartbeats 4000000 in
set_option maxRecDepth 100000 in
theorem tX1_amongSkills_b13 {w : Wc} {X : MX} (hX : OKc w X RX1 cX1_amongSkills 2) {p0 : Nat} {p1 : Int32} (hp0 : kd p0 = 0) {s : Int32 × Um} {e : Nat} {s' : Int32 × Um} (hf : fX1_amongSkills_b13 p0 p1 s.1 s.2 = some (e, s')) (K0 : e = 0 → G w X Zm 13 [some (.ref 115), some (.ref p0), some (.int p1), some (.int s'.1)] [] s'.2) (K1 : e ≠ 0 → G w X Zm 58 [none, none, none, none] [] s'.2) : G w X Zm 13 [some (.ref 115), some (.ref p0), some (.int p1), some (.int s.1)] [] s.2 := by
  obtain ⟨s3, u⟩ := s
  unfold fX1_amongSkills_b13 at hf
  try dsimp only at hf ⊢
  refine G_iload_n hX dX1_amongSkills_13 rfl ?_
  refine G_aload_n hX dX1_amongSkills_14 rfl ?_
  refine G_getR (i := 0) (t := 116) hX kK115 (Nat.le_of_ble_eq_true rfl) (Nat.le_of_ble_eq_true rfl) rfl pK115_0 flX1_11 dX1_amongSkills_15 ?_
  refine G_alenI (n := 100) (v := 100) hX kK116 lK116 (Nat.le_of_ble_eq_true rfl) dX1_amongSkills_18 rfl ?_
  refine G_icmp_ge (tgt := 58) hX dX1_amongSkills_19 rfl hf (fun hf => ?_) (fun hf => ?_)
  · obtain ⟨rfl, rfl⟩ := ret2 hf
    refine G_mask (lv' := [none, none, none, none]) [false, false, false, false] rfl rfl ?_
    exact K1 (by decide)
  · refine G_aload_n hX dX1_amongSkills_22 rfl ?_
    refine G_getR (i := 0) (t := 116) hX kK115 (Nat.le_of_ble_eq_true rfl) (Nat.le_of_ble_eq_true rfl) rfl pK115_0 flX1_11 dX1_amongSkills_23 ?_
    refine G_iload_n hX dX1_amongSkills_26 rfl ?_
    refine G_aload_n hX dX1_amongSkills_27 rfl ?_
    refine G_iload_n hX dX1_amongSkills_28 rfl ?_
    refine G_iconst (v := 0) hX dX1_amongSkills_29 rfl ?_
    obtain ⟨v4, h3, hf⟩ := bd1_some hf
    refine G_cV (as := [.int p1, .int 0]) (rest := [.int s3, .ref 116]) hX cvX1_22 (mX0_trait w hp0 h3) (Nat.le_of_ble_eq_true rfl) hp0 (Nat.le_of_ble_eq_true rfl) (kd_lt hp0 (Nat.le_of_ble_eq_true rfl)) rfl rfl (Nat.le_of_ble_eq_true rfl) dX1_amongSkills_30 (st' := [.int v4, .int s3, .ref 116]) rfl ?_
    refine G_iload_n hX dX1_amongSkills_33 rfl ?_
    refine G_bipush (v := 10) hX dX1_amongSkills_34 rfl ?_
    refine G_idiv hX dX1_amongSkills_36 (by decide) ?_
    refine G_aload_n hX dX1_amongSkills_37 rfl ?_
    refine G_iload_n hX dX1_amongSkills_38 rfl ?_
    refine G_bipush (v := 6) hX dX1_amongSkills_39 rfl ?_
    obtain ⟨v6, h5, hf⟩ := bd1_some hf
    refine G_cV (as := [.int p1, .int 6]) (rest := [.int (s3 / 10), .int v4, .int s3, .ref 116]) hX cvX1_22 (mX0_trait w hp0 h5) (Nat.le_of_ble_eq_true rfl) hp0 (Nat.le_of_ble_eq_true rfl) (kd_lt hp0 (Nat.le_of_ble_eq_true rfl)) rfl rfl (Nat.le_of_ble_eq_true rfl) dX1_amongSkills_41 (st' := [.int v6, .int (s3 / 10), .int v4, .int s3, .ref 116]) rfl ?_
    refine G_iload_n hX dX1_amongSkills_44 rfl ?_
    refine G_bipush (v := 10) hX dX1_amongSkills_45 rfl ?_
    refine G_irem hX dX1_amongSkills_47 (by decide) ?_
    obtain ⟨v8, h7, hf⟩ := bd1_some hf
    refine G_cN (as := [.int v4, .int (s3 / 10), .int v6, .int (irm s3 10)]) (rest := [.int s3, .ref 116]) hX cnX1_28 (mX7_sayingOf w h7) (Nat.le_of_ble_eq_true rfl) rfl rfl (Nat.le_of_ble_eq_true rfl) dX1_amongSkills_48 (st' := [.int v8, .int s3, .ref 116]) rfl ?_
    refine G_iast (n := 100) hX kK116 lK116 (Nat.le_of_ble_eq_true rfl) rfl dX1_amongSkills_51 hf (fun u9 hf => ?_)
    refine G_iincF (lvf := fun v10 => [some (.ref 115), some (.ref p0), some (.int p1), some (.int v10)]) hX dX1_amongSkills_52 rfl rfl rfl (Nat.le_of_ble_eq_true rfl) (fun _ => rfl) hf (fun v10 hf => ?_)
    refine G_goto (tgt := 13) hX dX1_amongSkills_55 rfl ?_
    obtain ⟨rfl, rfl⟩ := ret2 hf
    refine G_mask (lv' := [some (.ref 115), some (.ref p0), some (.int p1), some (.int v10)]) [true, true, true, true] rfl rfl ?_
    exact K0 rfl
noncomputable def fX1_amongSkills (p0 : Nat) (p1 : Int32) (u : Um) : Option Um :=
  nm (sI u 115 1 0) fun u1 =>
  nm (sI u1 115 2 9) fun u2 =>
  bd3 (lp (fun s => fX1_amongSkills_b13 p0 p1 s.1 s.2) fuel ((0 : Int32), u2)) fun e13 v11 u12 =>
  some u12
set_option maxHeartbeats 4000000 in
set_option maxRecDepth 100000 in
theorem mX1_amongSkills (w : Wc) {p0 : Nat} {p1 : Int32} (hp0 : kd p0 = 0) {u : Um} {u' : Um} (hf : fX1_amongSkills p0 p1 u = some u') : MC w 2 qX1_amongSkills [.ref 115, .ref p0, .int p1] u none u' := by
  unfold fX1_amongSkills at hf
  refine MC_intro pnX1 (Nat.le_of_ble_eq_true rfl) (fun X hX hR _ _ => ?_)
  have hX : OKc w X RX1 cX1_amongSkills 2 := hX
  have hR : RT w X none 0 0 Pst 133 false none u' := hR
  refine G_eql (lv' := [some (.ref 115), some (.ref p0), some (.int p1), none]) rfl ?_
  refine G_aload_n hX dX1_amongSkills_0 rfl ?_
  refine G_iconst (v := 0) hX dX1_amongSkills_1 rfl ?_
  refine G_putI (i := 1) hX kK115 (Nat.le_of_ble_eq_true rfl) (Nat.le_of_ble_eq_true rfl) rfl rfl flX1_15 fwX1_1 dX1_amongSkills_2 hf (fun u1 hf => ?_)
  refine G_aload_n hX dX1_amongSkills_5 rfl ?_
  refine G_bipush (v := 9) hX dX1_amongSkills_6 rfl ?_
  refine G_putI (i := 2) hX kK115 (Nat.le_of_ble_eq_true rfl) (Nat.le_of_ble_eq_true rfl) rfl rfl flX1_19 fwX1_2 dX1_amongSkills_8 hf (fun u2 hf => ?_)
  refine G_iconst (v := 0) hX dX1_amongSkills_11 rfl ?_
  refine G_istore_n (lv' := [some (.ref 115), some (.ref p0), some (.int p1), some (.int 0)]) hX dX1_amongSkills_12 rfl (Nat.le_of_ble_eq_true rfl) rfl ?_
  obtain ⟨e13, v11, u12, h14, hf⟩ := bd3_some hf
  refine G_mask (lv' := [some (.ref 115), some (.ref p0), some (.int p1), some (.int 0)]) [true, true, true, true] rfl rfl ?_
  refine lp_G (body := (fun s => fX1_amongSkills_b13 p0 p1 s.1 s.2)) (Gh := fun s => G w X Zm 13 [some (.ref 115), some (.ref p0), some (.int p1), some (.int s.1)] [] s.2) (Gx := fun e s => G w X Zm 58 [none, none, none, none] [] s.2) (fun s e s' hb K0 K1 => tX1_amongSkills_b13 (s := s) (e := e) (s' := s') hX hp0  hb K0 K1) fuel ((0 : Int32), u2) (e13, v11, u12) h14 ?_
  obtain rfl := Option.some.inj hf
  exact G_vret hX hR dX1_amongSkills_58
noncomputable def fX1_sayingAt (p0 : Int32) (p1 : Int32) (u : Um) : Option Int32 :=
  nm ((p0 * 10) + p1) fun v1 =>
  if v1 < 0 then
    some 0
  else
    if v1 < 100 then
      if inb v1 100 = true then
      some (u.1 116 v1.toNatClampNeg)
      else none
    else
      some 0
set_option maxHeartbeats 4000000 in
set_option maxRecDepth 100000 in
theorem mX1_sayingAt (w : Wc) {p0 : Int32} {p1 : Int32}  {u : Um} {r : Int32} (hf : fX1_sayingAt p0 p1 u = some r) : MC w 1 qX1_sayingAt [.ref 115, .int p0, .int p1] u (some (.int r)) u := by
  unfold fX1_sayingAt at hf
  refine MC_intro pnX1 (Nat.le_of_ble_eq_true rfl) (fun X hX hR _ _ => ?_)
  have hX : OKc w X RX1 cX1_sayingAt 1 := hX
  have hR : RT w X (some .int) 0 0 Pst 133 false (some (.int r)) u := hR
  refine G_eql (lv' := [some (.ref 115), some (.int p0), some (.int p1), none]) rfl ?_
  refine G_iload_n hX dX1_sayingAt_0 rfl ?_
  refine G_bipush (v := 10) hX dX1_sayingAt_1 rfl ?_
  refine G_imul hX dX1_sayingAt_3 ?_
  refine G_iload_n hX dX1_sayingAt_4 rfl ?_
  refine G_iadd hX dX1_sayingAt_5 ?_
  refine G_istore_nF (lvf := fun v1 => [some (.ref 115), some (.int p0), some (.int p1), some (.int v1)]) hX dX1_sayingAt_6 rfl (Nat.le_of_ble_eq_true rfl) (fun _ => rfl) hf (fun v1 hf => ?_)
  refine G_iload_n hX dX1_sayingAt_7 rfl ?_
  refine G_if_lt (tgt := 20) hX dX1_sayingAt_8 rfl hf (fun hf => ?_) (fun hf => ?_)
  · refine G_iconst (v := 0) hX dX1_sayingAt_20 rfl ?_
    refine G_goto (tgt := 30) hX dX1_sayingAt_21 rfl ?_
    obtain rfl := Option.some.inj hf
    exact G_iret hX hR dX1_sayingAt_30
  · refine G_iload_n hX dX1_sayingAt_11 rfl ?_
    refine G_aload_n hX dX1_sayingAt_12 rfl ?_
    refine G_getR (i := 0) (t := 116) hX kK115 (Nat.le_of_ble_eq_true rfl) (Nat.le_of_ble_eq_true rfl) rfl pK115_0 flX1_11 dX1_sayingAt_13 ?_
    refine G_alenI (n := 100) (v := 100) hX kK116 lK116 (Nat.le_of_ble_eq_true rfl) dX1_sayingAt_16 rfl ?_
    refine G_icmp_lt (tgt := 24) hX dX1_sayingAt_17 rfl hf (fun hf => ?_) (fun hf => ?_)
    · refine G_aload_n hX dX1_sayingAt_24 rfl ?_
      refine G_getR (i := 0) (t := 116) hX kK115 (Nat.le_of_ble_eq_true rfl) (Nat.le_of_ble_eq_true rfl) rfl pK115_0 flX1_11 dX1_sayingAt_25 ?_
      refine G_iload_n hX dX1_sayingAt_28 rfl ?_
      refine G_iald (n := 100) hX kK116 lK116 (Nat.le_of_ble_eq_true rfl) dX1_sayingAt_29 hf (fun hf => ?_)
      obtain rfl := Option.some.inj hf
      exact G_iret hX hR dX1_sayingAt_30
    · refine G_iconst (v := 0) hX dX1_sayingAt_20 rfl ?_
      refine G_goto (tgt := 30) hX dX1_sayingAt_21 rfl ?_
      obtain rfl := Option.some.inj hf
      exact G_iret hX hR dX1_sayingAt_30
noncomputable def fX1_fits_b3 (p0 : Int32) (p1 : Nat) (p2 : Int32) (p3 : Int32) (s5 : Int32) (u : Um) : Option (Nat × Int32) :=
  if p3 ≤ s5 then
    some (1, s5)
  else
    bd1 (fX5_get p1 (p2 + (2 * s5)) u) fun v2 =>
    nm ((v2 : Int64).toInt32) fun v3 =>
    bd1 (fX5_get p1 ((p2 + (2 * s5)) + 1) u) fun v5 =>
    bd1 (fX1_sayingAt p0 v3 u) fun v7 =>
    if (lg_cmp v5 ((v7 : Int32).toInt64)) = 0 then
      nm (s5 + 1) fun v8 =>
      some (0, v8)
    else
      some (2, s5)
set_option maxHeartbeats 4000000 in
set_option maxRecDepth 100000 in
theorem tX1_fits_b3 {w : Wc} {X : MX} (hX : OKc w X RX1 cX1_fits 2) {p0 : Int32} {p1 : Nat} {p2 : Int32} {p3 : Int32} (hp1 : kd p1 = 5) {s : Int32} {e : Nat} {s' : Int32} {u : Um} (hf : fX1_fits_b3 p0 p1 p2 p3 s u = some (e, s')) (K0 : e = 0 → G w X Zm 3 [some (.ref 115), some (.int p0), some (.ref p1), some (.int p2), some (.int p3), some (.int s'), none] [] u) (K1 : e ≠ 0 → if e = 1 then G w X Zm 55 [none, none, none, none, none, none, none] [] u else G w X Zm 47 [none, none, none, none, none, none, none] [] u) : G w X Zm 3 [some (.ref 115), some (.int p0), some (.ref p1), some (.int p2), some (.int p3), some (.int s), none] [] u := by
  obtain ⟨s5, rfl⟩ : ∃ z, z = s := ⟨_, rfl⟩
  unfold fX1_fits_b3 at hf
  try dsimp only at hf ⊢
  refine G_iload hX dX1_fits_3 rfl ?_
  refine G_iload hX dX1_fits_5 rfl ?_
  refine G_icmp_ge (tgt := 55) hX dX1_fits_7 rfl hf (fun hf => ?_) (fun hf => ?_)
  · obtain ⟨rfl, rfl⟩ := ret2 hf
    refine G_mask (lv' := [none, none, none, none, none, none, none]) [false, false, false, false, false, false, false] rfl rfl ?_
    exact gx_hit (K1 (by decide))
  · refine G_aload_n hX dX1_fits_10 rfl ?_
    refine G_iload_n hX dX1_fits_11 rfl ?_
    refine G_iconst (v := 2) hX dX1_fits_12 rfl ?_
    refine G_iload hX dX1_fits_13 rfl ?_
    refine G_imul hX dX1_fits_15 ?_
    refine G_iadd hX dX1_fits_16 ?_
    obtain ⟨v2, h1, hf⟩ := bd1_some hf
    refine G_cV (as := [.int (p2 + (2 * s5))]) (rest := []) hX cvX1_44 (mX5_get w hp1 h1) (Nat.le_of_ble_eq_true rfl) hp1 (Nat.le_of_ble_eq_true rfl) (kd_lt hp1 (Nat.le_of_ble_eq_true rfl)) rfl rfl (Nat.le_of_ble_eq_true rfl) dX1_fits_17 (st' := [.long v2]) rfl ?_
    refine G_l2i hX dX1_fits_20 ?_
    refine G_istoreF (lvf := fun v3 => [some (.ref 115), some (.int p0), some (.ref p1), some (.int p2), some (.int p3), some (.int s5), some (.int v3)]) hX dX1_fits_21 rfl (Nat.le_of_ble_eq_true rfl) (fun _ => rfl) hf (fun v3 hf => ?_)
    refine G_aload_n hX dX1_fits_23 rfl ?_
    refine G_iload_n hX dX1_fits_24 rfl ?_
    refine G_iconst (v := 2) hX dX1_fits_25 rfl ?_
    refine G_iload hX dX1_fits_26 rfl ?_
    refine G_imul hX dX1_fits_28 ?_
    refine G_iadd hX dX1_fits_29 ?_
    refine G_iconst (v := 1) hX dX1_fits_30 rfl ?_
    refine G_iadd hX dX1_fits_31 ?_
    obtain ⟨v5, h4, hf⟩ := bd1_some hf
    refine G_cV (as := [.int ((p2 + (2 * s5)) + 1)]) (rest := []) hX cvX1_44 (mX5_get w hp1 h4) (Nat.le_of_ble_eq_true rfl) hp1 (Nat.le_of_ble_eq_true rfl) (kd_lt hp1 (Nat.le_of_ble_eq_true rfl)) rfl rfl (Nat.le_of_ble_eq_true rfl) dX1_fits_32 (st' := [.long v5]) rfl ?_
    refine G_aload_n hX dX1_fits_35 rfl ?_
    refine G_iload_n hX dX1_fits_36 rfl ?_
    refine G_iload hX dX1_fits_37 rfl ?_
    obtain ⟨v7, h6, hf⟩ := bd1_some hf
    refine G_cV (as := [.int p0, .int v3]) (rest := [.long v5]) hX cvX1_50 (mX1_sayingAt w h6) (Nat.le_of_ble_eq_true rfl) kK115 (Nat.le_of_ble_eq_true rfl) (Nat.le_of_ble_eq_true rfl) rfl rfl (Nat.le_of_ble_eq_true rfl) dX1_fits_39 (st' := [.int v7, .long v5]) rfl ?_
    refine G_i2l hX dX1_fits_42 ?_
    refine G_lcmp hX dX1_fits_43 ?_
    refine G_if_eq (tgt := 49) hX dX1_fits_44 rfl hf (fun hf => ?_) (fun hf => ?_)
    · refine G_iincF (lvf := fun v8 => [some (.ref 115), some (.int p0), some (.ref p1), some (.int p2), some (.int p3), some (.int v8), some (.int v3)]) hX dX1_fits_49 rfl rfl rfl (Nat.le_of_ble_eq_true rfl) (fun _ => rfl) hf (fun v8 hf => ?_)
      refine G_goto (tgt := 3) hX dX1_fits_52 rfl ?_
      obtain ⟨rfl, rfl⟩ := ret2 hf
      refine G_mask (lv' := [some (.ref 115), some (.int p0), some (.ref p1), some (.int p2), some (.int p3), some (.int v8), none]) [true, true, true, true, true, true, false] rfl rfl ?_
      exact K0 rfl
    · obtain ⟨rfl, rfl⟩ := ret2 hf
      refine G_mask (lv' := [none, none, none, none, none, none, none]) [false, false, false, false, false, false, false] rfl rfl ?_
      exact gx_miss (by decide) (K1 (by decide))
noncomputable def fX1_fits (p0 : Int32) (p1 : Nat) (p2 : Int32) (p3 : Int32) (u : Um) : Option Int32 :=
  bd2 (lp (fun s => fX1_fits_b3 p0 p1 p2 p3 s u) fuel (0 : Int32)) fun e10 v9 =>
  if e10 = 1 then
    some 1
  else
  some 0
set_option maxHeartbeats 4000000 in
set_option maxRecDepth 100000 in
theorem mX1_fits (w : Wc) {p0 : Int32} {p1 : Nat} {p2 : Int32} {p3 : Int32} (hp1 : kd p1 = 5) {u : Um} {r : Int32} (hf : fX1_fits p0 p1 p2 p3 u = some r) : MC w 2 qX1_fits [.ref 115, .int p0, .ref p1, .int p2, .int p3] u (some (.int r)) u := by
  unfold fX1_fits at hf
  refine MC_intro pnX1 (Nat.le_of_ble_eq_true rfl) (fun X hX hR _ _ => ?_)
  have hX : OKc w X RX1 cX1_fits 2 := hX
  have hR : RT w X (some .boolean) 0 0 Pst 133 false (some (.int r)) u := hR
  refine G_eql (lv' := [some (.ref 115), some (.int p0), some (.ref p1), some (.int p2), some (.int p3), none, none]) rfl ?_
  refine G_iconst (v := 0) hX dX1_fits_0 rfl ?_
  refine G_istore (lv' := [some (.ref 115), some (.int p0), some (.ref p1), some (.int p2), some (.int p3), some (.int 0), none]) hX dX1_fits_1 rfl (Nat.le_of_ble_eq_true rfl) rfl ?_
  obtain ⟨e10, v9, h11, hf⟩ := bd2_some hf
  refine G_mask (lv' := [some (.ref 115), some (.int p0), some (.ref p1), some (.int p2), some (.int p3), some (.int 0), none]) [true, true, true, true, true, true, false] rfl rfl ?_
  refine lp_G (body := (fun s => fX1_fits_b3 p0 p1 p2 p3 s u)) (Gh := fun s => G w X Zm 3 [some (.ref 115), some (.int p0), some (.ref p1), some (.int p2), some (.int p3), some (.int s), none] [] u) (Gx := fun e s => if e = 1 then G w X Zm 55 [none, none, none, none, none, none, none] [] u else G w X Zm 47 [none, none, none, none, none, none, none] [] u) (fun s e s' hb K0 K1 => tX1_fits_b3 (s := s) (e := e) (s' := s') hX hp1  hb K0 K1) fuel (0 : Int32) (e10, v9) h11 ?_
  refine gx2 hf (fun hf => ?_) (fun hf => ?_)
  · refine G_iconst (v := 1) hX dX1_fits_55 rfl ?_
    obtain rfl := Option.some.inj hf
    exact G_zret hX hR (by decide) dX1_fits_56
  refine G_iconst (v := 0) hX dX1_fits_47 rfl ?_
  obtain rfl := Option.some.inj hf
  exact G_zret hX hR (by decide) dX1_fits_48
noncomputable def fX1_fitting_j39 (p0 : Nat) (p1 : Int32) (p2 : Int32) (j4 : Int32) (j5 : Int32) (u : Um) : Option (Nat × Int32 × Int32) :=
  nm (j5 + 1) fun v4 =>
  some (0, j4, v4)
set_option maxHeartbeats 4000000 in
set_option maxRecDepth 100000 in
theorem tX1_fitting_j39 {w : Wc} {X : MX} (hX : OKc w X RX1 cX1_fitting 3) {p0 : Nat} {p1 : Int32} {p2 : Int32} {j4 : Int32} {j5 : Int32} (hp0 : kd p0 = 5)  {u : Um} {e : Nat} {s' : Int32 × Int32} (K0 : e = 0 → G w X Zm 9 [some (.ref 115), some (.ref p0), some (.int p1), some (.int p2), some (.int s'.1), some (.int s'.2)] [] u) (K1 : e ≠ 0 → G w X Zm 45 [none, none, none, none, some (.int s'.1), none] [] u) (hf : fX1_fitting_j39 p0 p1 p2 j4 j5 u = some (e, s')) : G w X Zm 39 [some (.ref 115), some (.ref p0), some (.int p1), some (.int p2), some (.int j4), some (.int j5)] [] u := by
  unfold fX1_fitting_j39 at hf
  refine G_iincF (lvf := fun v4 => [some (.ref 115), some (.ref p0), some (.int p1), some (.int p2), some (.int j4), some (.int v4)]) hX dX1_fitting_39 rfl rfl rfl (Nat.le_of_ble_eq_true rfl) (fun _ => rfl) hf (fun v4 hf => ?_)
  refine G_goto (tgt := 9) hX dX1_fitting_42 rfl ?_
  obtain ⟨rfl, rfl⟩ := ret2 hf
  refine G_mask (lv' := [some (.ref 115), some (.ref p0), some (.int p1), some (.int p2), some (.int j4), some (.int v4)]) [true, true, true, true, true, true] rfl rfl ?_
  exact K0 rfl
noncomputable def fX1_fitting_b9 (p0 : Nat) (p1 : Int32) (p2 : Int32) (s4 : Int32) (s5 : Int32) (u : Um) : Option (Nat × Int32 × Int32) :=
  if (u.1 115 2) < s5 then
    some (1, s4, s5)
  else
    bd1 (fX1_fits s5 p0 p1 p2 u) fun v3 =>
    if v3 = 0 then
      fX1_fitting_j39 p0 p1 p2 s4 s5 u
    else
      nm (s4 ||| ((1 : Int32) <<< (s5 &&& 31))) fun v5 =>
      fX1_fitting_j39 p0 p1 p2 v5 s5 u
set_option maxHeartbeats 4000000 in
set_option maxRecDepth 100000 in
theorem tX1_fitting_b9 {w : Wc} {X : MX} (hX : OKc w X RX1 cX1_fitting 3) {p0 : Nat} {p1 : Int32} {p2 : Int32} (hp0 : kd p0 = 5) {s : Int32 × Int32} {e : Nat} {s' : Int32 × Int32} {u : Um} (hf : fX1_fitting_b9 p0 p1 p2 s.1 s.2 u = some (e, s')) (K0 : e = 0 → G w X Zm 9 [some (.ref 115), some (.ref p0), some (.int p1), some (.int p2), some (.int s'.1), some (.int s'.2)] [] u) (K1 : e ≠ 0 → G w X Zm 45 [none, none, none, none, some (.int s'.1), none] [] u) : G w X Zm 9 [some (.ref 115), some (.ref p0), some (.int p1), some (.int p2), some (.int s.1), some (.int s.2)] [] u := by
  obtain ⟨s4, s5⟩ := s
  unfold fX1_fitting_b9 at hf
  try dsimp only at hf ⊢
  refine G_iload hX dX1_fitting_9 rfl ?_
  refine G_aload_n hX dX1_fitting_11 rfl ?_
  refine G_getI (i := 2) hX kK115 (Nat.le_of_ble_eq_true rfl) (Nat.le_of_ble_eq_true rfl) rfl flX1_19 dX1_fitting_12 ?_
  refine G_icmp_gt (tgt := 45) hX dX1_fitting_15 rfl hf (fun hf => ?_) (fun hf => ?_)
  · obtain ⟨rfl, rfl⟩ := ret2 hf
    refine G_mask (lv' := [none, none, none, none, some (.int s4), none]) [false, false, false, false, true, false] rfl rfl ?_
    exact K1 (by decide)
  · refine G_aload_n hX dX1_fitting_18 rfl ?_
    refine G_iload hX dX1_fitting_19 rfl ?_
    refine G_aload_n hX dX1_fitting_21 rfl ?_
    refine G_iload_n hX dX1_fitting_22 rfl ?_
    refine G_iload_n hX dX1_fitting_23 rfl ?_
    obtain ⟨v3, h2, hf⟩ := bd1_some hf
    refine G_cV (as := [.int s5, .ref p0, .int p1, .int p2]) (rest := []) hX cvX1_40 (mX1_fits w hp0 h2) (Nat.le_of_ble_eq_true rfl) kK115 (Nat.le_of_ble_eq_true rfl) (Nat.le_of_ble_eq_true rfl) rfl rfl (Nat.le_of_ble_eq_true rfl) dX1_fitting_24 (st' := [.int v3]) rfl ?_
    refine G_if_eq (tgt := 39) hX dX1_fitting_27 rfl hf (fun hf => ?_) (fun hf => ?_)
    · refine G_mask (lv' := [some (.ref 115), some (.ref p0), some (.int p1), some (.int p2), some (.int s4), some (.int s5)]) [true, true, true, true, true, true] rfl rfl ?_
      exact tX1_fitting_j39 hX hp0 K0 K1 hf
    · refine G_iload hX dX1_fitting_30 rfl ?_
      refine G_iconst (v := 1) hX dX1_fitting_32 rfl ?_
      refine G_iload hX dX1_fitting_33 rfl ?_
      refine G_ishl hX dX1_fitting_35 ?_
      refine G_ior hX dX1_fitting_36 ?_
      refine G_istoreF (lvf := fun v5 => [some (.ref 115), some (.ref p0), some (.int p1), some (.int p2), some (.int v5), some (.int s5)]) hX dX1_fitting_37 rfl (Nat.le_of_ble_eq_true rfl) (fun _ => rfl) hf (fun v5 hf => ?_)
      refine G_mask (lv' := [some (.ref 115), some (.ref p0), some (.int p1), some (.int p2), some (.int v5), some (.int s5)]) [true, true, true, true, true, true] rfl rfl ?_
      exact tX1_fitting_j39 hX hp0 K0 K1 hf
noncomputable def fX1_fitting (p0 : Nat) (p1 : Int32) (p2 : Int32) (u : Um) : Option Int32 :=
  nm (u.1 115 1) fun v1 =>
  bd3 (lp (fun s => fX1_fitting_b9 p0 p1 p2 s.1 s.2 u) fuel ((0 : Int32), v1)) fun e8 v6 v7 =>
  some v6
set_option maxHeartbeats 4000000 in
set_option maxRecDepth 100000 in
theorem mX1_fitting (w : Wc) {p0 : Nat} {p1 : Int32} {p2 : Int32} (hp0 : kd p0 = 5) {u : Um} {r : Int32} (hf : fX1_fitting p0 p1 p2 u = some r) : MC w 3 qX1_fitting [.ref 115, .ref p0, .int p1, .int p2] u (some (.int r)) u := by
  unfold fX1_fitting at hf
  refine MC_intro pnX1 (Nat.le_of_ble_eq_true rfl) (fun X hX hR _ _ => ?_)
  have hX : OKc w X RX1 cX1_fitting 3 := hX
  have hR : RT w X (some .int) 0 0 Pst 133 false (some (.int r)) u := hR
  refine G_eql (lv' := [some (.ref 115), some (.ref p0), some (.int p1), some (.int p2), none, none]) rfl ?_
  refine G_iconst (v := 0) hX dX1_fitting_0 rfl ?_
  refine G_istore (lv' := [some (.ref 115), some (.ref p0), some (.int p1), some (.int p2), some (.int 0), none]) hX dX1_fitting_1 rfl (Nat.le_of_ble_eq_true rfl) rfl ?_
  refine G_aload_n hX dX1_fitting_3 rfl ?_
  refine G_getI (i := 1) hX kK115 (Nat.le_of_ble_eq_true rfl) (Nat.le_of_ble_eq_true rfl) rfl flX1_15 dX1_fitting_4 ?_
  refine G_istoreF (lvf := fun v1 => [some (.ref 115), some (.ref p0), some (.int p1), some (.int p2), some (.int 0), some (.int v1)]) hX dX1_fitting_7 rfl (Nat.le_of_ble_eq_true rfl) (fun _ => rfl) hf (fun v1 hf => ?_)
  obtain ⟨e8, v6, v7, h9, hf⟩ := bd3_some hf
  refine G_mask (lv' := [some (.ref 115), some (.ref p0), some (.int p1), some (.int p2), some (.int 0), some (.int v1)]) [true, true, true, true, true, true] rfl rfl ?_
  refine lp_G (body := (fun s => fX1_fitting_b9 p0 p1 p2 s.1 s.2 u)) (Gh := fun s => G w X Zm 9 [some (.ref 115), some (.ref p0), some (.int p1), some (.int p2), some (.int s.1), some (.int s.2)] [] u) (Gx := fun e s => G w X Zm 45 [none, none, none, none, some (.int s.1), none] [] u) (fun s e s' hb K0 K1 => tX1_fitting_b9 (s := s) (e := e) (s' := s') hX hp0  hb K0 K1) fuel ((0 : Int32), v1) (e8, v6, v7) h9 ?_
  refine G_iload hX dX1_fitting_45 rfl ?_
  obtain rfl := Option.some.inj hf
  exact G_iret hX hR dX1_fitting_47
