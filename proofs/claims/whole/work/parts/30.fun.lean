noncomputable def fX8_does (p0 : Int32) (u : Um) : Option (Int32 × Um) :=
  if p0 = 99 then
    if inb 0 83 = true then
    if inb 0 83 = true then
    nm (sI u 124 (0 : Int32).toNatClampNeg ((u.1 124 (0 : Int32).toNatClampNeg) + 1)) fun u8 =>
    some (0, u8)
    else none
    else none
  else
    nm (p0 / 10) fun v1 =>
    nm (irm p0 10) fun v2 =>
    if inb 1 83 = true then
    if (u.1 122 (1 : Int32).toNatClampNeg) ≤ v2 then
      some ((-1), u)
    else
      bd1 (fX8_isMay 124 v1 v2 u) fun v4 =>
      if v4 = 0 then
        some ((-1), u)
      else
        bd2 (fX8_carries 124 v1 v2 u) fun v6 u7 =>
        if v6 ≤ 0 then
          some (0, u7)
        else
          some (1, u7)
    else none
set_option maxHeartbeats 4000000 in
set_option maxRecDepth 100000 in
theorem mX8_does (w : Wc) {p0 : Int32}  {u : Um} {r : Int32} {u' : Um} (hf : fX8_does p0 u = some (r, u')) : MC w 5 qX8_does [.ref 117, .int p0] u (some (.int r)) u' := by
  unfold fX8_does at hf
  refine MC_intro pnX8 (Nat.le_of_ble_eq_true rfl) (fun X hX hR _ _ => ?_)
  have hX : OKc w X RX8 cX8_does 5 := hX
  have hR : RT w X (some .int) 0 0 Pst 133 false (some (.int r)) u' := hR
  refine G_eql (lv' := [some (.ref 117), some (.int p0), none, none]) rfl ?_
  refine G_iload_n hX dX8_does_0 rfl ?_
  refine G_bipush (v := 99) hX dX8_does_1 rfl ?_
  refine G_icmp_ne (tgt := 18) hX dX8_does_3 rfl hf (fun hf => ?_) (fun hf => ?_)
  · refine G_iload_n hX dX8_does_18 rfl ?_
    refine G_bipush (v := 10) hX dX8_does_19 rfl ?_
    refine G_idiv hX dX8_does_21 (by decide) ?_
    refine G_istore_nF (lvf := fun v1 => [some (.ref 117), some (.int p0), some (.int v1), none]) hX dX8_does_22 rfl (Nat.le_of_ble_eq_true rfl) (fun _ => rfl) hf (fun v1 hf => ?_)
    refine G_iload_n hX dX8_does_23 rfl ?_
    refine G_bipush (v := 10) hX dX8_does_24 rfl ?_
    refine G_irem hX dX8_does_26 (by decide) ?_
    refine G_istore_nF (lvf := fun v2 => [some (.ref 117), some (.int p0), some (.int v1), some (.int v2)]) hX dX8_does_27 rfl (Nat.le_of_ble_eq_true rfl) (fun _ => rfl) hf (fun v2 hf => ?_)
    refine G_iload_n hX dX8_does_28 rfl ?_
    refine G_aload_n hX dX8_does_29 rfl ?_
    refine G_getR (i := 6) (t := 122) hX kK117 (Nat.le_of_ble_eq_true rfl) (Nat.le_of_ble_eq_true rfl) rfl pK117_6 flX8_23 dX8_does_30 ?_
    refine G_iconst (v := 1) hX dX8_does_33 rfl ?_
    refine G_iald (n := 83) hX kK122 lK122 (Nat.le_of_ble_eq_true rfl) dX8_does_34 hf (fun hf => ?_)
    refine G_icmp_ge (tgt := 50) hX dX8_does_35 rfl hf (fun hf => ?_) (fun hf => ?_)
    · refine G_iconst (v := (-1)) hX dX8_does_50 rfl ?_
      obtain ⟨rfl, rfl⟩ := ret2 hf
      exact G_iret hX hR dX8_does_51
    · refine G_aload_n hX dX8_does_38 rfl ?_
      refine G_getR (i := 8) (t := 124) hX kK117 (Nat.le_of_ble_eq_true rfl) (Nat.le_of_ble_eq_true rfl) rfl pK117_8 flX8_29 dX8_does_39 ?_
      refine G_iload_n hX dX8_does_42 rfl ?_
      refine G_iload_n hX dX8_does_43 rfl ?_
      obtain ⟨v4, h3, hf⟩ := bd1_some hf
      refine G_cS (as := [.ref 124, .int v1, .int v2]) (rest := []) hX csX8_137 (mX8_isMay w kK124 h3) (Nat.le_of_ble_eq_true rfl) rfl rfl (Nat.le_of_ble_eq_true rfl) dX8_does_44 (st' := [.int v4]) rfl ?_
      refine G_if_ne (tgt := 52) hX dX8_does_47 rfl hf (fun hf => ?_) (fun hf => ?_)
      · refine G_aload_n hX dX8_does_52 rfl ?_
        refine G_getR (i := 8) (t := 124) hX kK117 (Nat.le_of_ble_eq_true rfl) (Nat.le_of_ble_eq_true rfl) rfl pK117_8 flX8_29 dX8_does_53 ?_
        refine G_iload_n hX dX8_does_56 rfl ?_
        refine G_iload_n hX dX8_does_57 rfl ?_
        obtain ⟨v6, u7, h5, hf⟩ := bd2_some hf
        refine G_cS (as := [.ref 124, .int v1, .int v2]) (rest := []) hX csX8_147 (mX8_carries w kK124 h5) (Nat.le_of_ble_eq_true rfl) rfl rfl (Nat.le_of_ble_eq_true rfl) dX8_does_58 (st' := [.int v6]) rfl ?_
        refine G_if_le (tgt := 68) hX dX8_does_61 rfl hf (fun hf => ?_) (fun hf => ?_)
        · refine G_iconst (v := 0) hX dX8_does_68 rfl ?_
          obtain ⟨rfl, rfl⟩ := ret2 hf
          exact G_iret hX hR dX8_does_69
        · refine G_iconst (v := 1) hX dX8_does_64 rfl ?_
          refine G_goto (tgt := 69) hX dX8_does_65 rfl ?_
          obtain ⟨rfl, rfl⟩ := ret2 hf
          exact G_iret hX hR dX8_does_69
      · refine G_iconst (v := (-1)) hX dX8_does_50 rfl ?_
        obtain ⟨rfl, rfl⟩ := ret2 hf
        exact G_iret hX hR dX8_does_51
  · refine G_aload_n hX dX8_does_6 rfl ?_
    refine G_getR (i := 8) (t := 124) hX kK117 (Nat.le_of_ble_eq_true rfl) (Nat.le_of_ble_eq_true rfl) rfl pK117_8 flX8_29 dX8_does_7 ?_
    refine G_iconst (v := 0) hX dX8_does_10 rfl ?_
    refine G_dup2 hX dX8_does_11 rfl rfl ?_
    refine G_iald (n := 83) hX kK124 lK124 (Nat.le_of_ble_eq_true rfl) dX8_does_12 hf (fun hf => ?_)
    refine G_iconst (v := 1) hX dX8_does_13 rfl ?_
    refine G_iadd hX dX8_does_14 ?_
    refine G_iast (n := 83) hX kK124 lK124 (Nat.le_of_ble_eq_true rfl) rfl dX8_does_15 hf (fun u8 hf => ?_)
    refine G_iconst (v := 0) hX dX8_does_16 rfl ?_
    obtain ⟨rfl, rfl⟩ := ret2 hf
    exact G_iret hX hR dX8_does_17
noncomputable def fX8_planned_j68 (p0 : Int32) (p1 : Int32) (p2 : Int32) (p3 : Int32) (j5 : Int32) (j6 : Int32) (z0 : Int32) (u : Um) : Option (Int32 × Um) :=
  if 0 ≤ z0 then
    some (((j5 + j6) + z0), u)
  else
    some ((-1), u)
set_option maxHeartbeats 4000000 in
set_option maxRecDepth 100000 in
theorem tX8_planned_j68 {w : Wc} {X : MX} (hX : OKc w X RX8 cX8_planned 6) {p0 : Int32} {p1 : Int32} {p2 : Int32} {p3 : Int32} {j5 : Int32} {j6 : Int32} {z0 : Int32} {u : Um} {r : Int32} {u' : Um} (hR : RT w X (some .int) 0 0 Pst 133 false (some (.int r)) u') (hf : fX8_planned_j68 p0 p1 p2 p3 j5 j6 z0 u = some (r, u')) : G w X Zm 68 [none, none, none, none, none, some (.int j5), some (.int j6), none] [.int z0] u := by
  unfold fX8_planned_j68 at hf
  refine G_istore (lv' := [none, none, none, none, none, some (.int j5), some (.int j6), some (.int z0)]) hX dX8_planned_68 rfl (Nat.le_of_ble_eq_true rfl) rfl ?_
  refine G_iload hX dX8_planned_70 rfl ?_
  refine G_if_ge (tgt := 79) hX dX8_planned_72 rfl hf (fun hf => ?_) (fun hf => ?_)
  · refine G_iload hX dX8_planned_79 rfl ?_
    refine G_iload hX dX8_planned_81 rfl ?_
    refine G_iadd hX dX8_planned_83 ?_
    refine G_iload hX dX8_planned_84 rfl ?_
    refine G_iadd hX dX8_planned_86 ?_
    obtain ⟨rfl, rfl⟩ := ret2 hf
    exact G_iret hX hR dX8_planned_87
  · refine G_iconst (v := (-1)) hX dX8_planned_75 rfl ?_
    refine G_goto (tgt := 87) hX dX8_planned_76 rfl ?_
    obtain ⟨rfl, rfl⟩ := ret2 hf
    exact G_iret hX hR dX8_planned_87
noncomputable def fX8_planned_j42 (p0 : Int32) (p1 : Int32) (p2 : Int32) (p3 : Int32) (j5 : Int32) (z0 : Int32) (u : Um) : Option (Int32 × Um) :=
  if 0 ≤ z0 then
    if p0 ≤ 2 then
      fX8_planned_j68 p0 p1 p2 p3 j5 z0 0 u
    else
      bd2 (fX8_does p3 u) fun v4 u5 =>
      fX8_planned_j68 p0 p1 p2 p3 j5 z0 v4 u5
  else
    fX8_planned_j68 p0 p1 p2 p3 j5 z0 (-1) u
set_option maxHeartbeats 4000000 in
set_option maxRecDepth 100000 in
theorem tX8_planned_j42 {w : Wc} {X : MX} (hX : OKc w X RX8 cX8_planned 6) {p0 : Int32} {p1 : Int32} {p2 : Int32} {p3 : Int32} {j5 : Int32} {z0 : Int32} {u : Um} {r : Int32} {u' : Um} (hR : RT w X (some .int) 0 0 Pst 133 false (some (.int r)) u') (hf : fX8_planned_j42 p0 p1 p2 p3 j5 z0 u = some (r, u')) : G w X Zm 42 [some (.ref 117), some (.int p0), none, none, some (.int p3), some (.int j5), none, none] [.int z0] u := by
  unfold fX8_planned_j42 at hf
  refine G_istore (lv' := [some (.ref 117), some (.int p0), none, none, some (.int p3), some (.int j5), some (.int z0), none]) hX dX8_planned_42 rfl (Nat.le_of_ble_eq_true rfl) rfl ?_
  refine G_iload hX dX8_planned_44 rfl ?_
  refine G_if_ge (tgt := 53) hX dX8_planned_46 rfl hf (fun hf => ?_) (fun hf => ?_)
  · refine G_iload_n hX dX8_planned_53 rfl ?_
    refine G_iconst (v := 2) hX dX8_planned_54 rfl ?_
    refine G_icmp_le (tgt := 67) hX dX8_planned_55 rfl hf (fun hf => ?_) (fun hf => ?_)
    · refine G_iconst (v := 0) hX dX8_planned_67 rfl ?_
      refine G_mask (lv' := [none, none, none, none, none, some (.int j5), some (.int z0), none]) [false, false, false, false, false, true, true, false] rfl rfl ?_
      exact tX8_planned_j68 hX  hR hf
    · refine G_aload_n hX dX8_planned_58 rfl ?_
      refine G_iload hX dX8_planned_59 rfl ?_
      obtain ⟨v4, u5, h3, hf⟩ := bd2_some hf
      refine G_cV (as := [.int p3]) (rest := []) hX cvX8_171 (mX8_does w h3) (Nat.le_of_ble_eq_true rfl) kK117 (Nat.le_of_ble_eq_true rfl) (Nat.le_of_ble_eq_true rfl) rfl rfl (Nat.le_of_ble_eq_true rfl) dX8_planned_61 (st' := [.int v4]) rfl ?_
      refine G_goto (tgt := 68) hX dX8_planned_64 rfl ?_
      refine G_mask (lv' := [none, none, none, none, none, some (.int j5), some (.int z0), none]) [false, false, false, false, false, true, true, false] rfl rfl ?_
      exact tX8_planned_j68 hX  hR hf
  · refine G_iconst (v := (-1)) hX dX8_planned_49 rfl ?_
    refine G_goto (tgt := 68) hX dX8_planned_50 rfl ?_
    refine G_mask (lv' := [none, none, none, none, none, some (.int j5), some (.int z0), none]) [false, false, false, false, false, true, true, false] rfl rfl ?_
    exact tX8_planned_j68 hX  hR hf
noncomputable def fX8_planned_j17 (p0 : Int32) (p1 : Int32) (p2 : Int32) (p3 : Int32) (z0 : Int32) (u : Um) : Option (Int32 × Um) :=
  if 0 ≤ z0 then
    if p0 ≤ 1 then
      fX8_planned_j42 p0 p1 p2 p3 z0 0 u
    else
      bd2 (fX8_does p2 u) fun v7 u8 =>
      fX8_planned_j42 p0 p1 p2 p3 z0 v7 u8
  else
    fX8_planned_j42 p0 p1 p2 p3 z0 (-1) u
set_option maxHeartbeats 4000000 in
set_option maxRecDepth 100000 in
theorem tX8_planned_j17 {w : Wc} {X : MX} (hX : OKc w X RX8 cX8_planned 6) {p0 : Int32} {p1 : Int32} {p2 : Int32} {p3 : Int32} {z0 : Int32} {u : Um} {r : Int32} {u' : Um} (hR : RT w X (some .int) 0 0 Pst 133 false (some (.int r)) u') (hf : fX8_planned_j17 p0 p1 p2 p3 z0 u = some (r, u')) : G w X Zm 17 [some (.ref 117), some (.int p0), none, some (.int p2), some (.int p3), none, none, none] [.int z0] u := by
  unfold fX8_planned_j17 at hf
  refine G_istore (lv' := [some (.ref 117), some (.int p0), none, some (.int p2), some (.int p3), some (.int z0), none, none]) hX dX8_planned_17 rfl (Nat.le_of_ble_eq_true rfl) rfl ?_
  refine G_iload hX dX8_planned_19 rfl ?_
  refine G_if_ge (tgt := 28) hX dX8_planned_21 rfl hf (fun hf => ?_) (fun hf => ?_)
  · refine G_iload_n hX dX8_planned_28 rfl ?_
    refine G_iconst (v := 1) hX dX8_planned_29 rfl ?_
    refine G_icmp_le (tgt := 41) hX dX8_planned_30 rfl hf (fun hf => ?_) (fun hf => ?_)
    · refine G_iconst (v := 0) hX dX8_planned_41 rfl ?_
      refine G_mask (lv' := [some (.ref 117), some (.int p0), none, none, some (.int p3), some (.int z0), none, none]) [true, true, false, false, true, true, false, false] rfl rfl ?_
      exact tX8_planned_j42 hX  hR hf
    · refine G_aload_n hX dX8_planned_33 rfl ?_
      refine G_iload_n hX dX8_planned_34 rfl ?_
      obtain ⟨v7, u8, h6, hf⟩ := bd2_some hf
      refine G_cV (as := [.int p2]) (rest := []) hX cvX8_171 (mX8_does w h6) (Nat.le_of_ble_eq_true rfl) kK117 (Nat.le_of_ble_eq_true rfl) (Nat.le_of_ble_eq_true rfl) rfl rfl (Nat.le_of_ble_eq_true rfl) dX8_planned_35 (st' := [.int v7]) rfl ?_
      refine G_goto (tgt := 42) hX dX8_planned_38 rfl ?_
      refine G_mask (lv' := [some (.ref 117), some (.int p0), none, none, some (.int p3), some (.int z0), none, none]) [true, true, false, false, true, true, false, false] rfl rfl ?_
      exact tX8_planned_j42 hX  hR hf
  · refine G_iconst (v := (-1)) hX dX8_planned_24 rfl ?_
    refine G_goto (tgt := 42) hX dX8_planned_25 rfl ?_
    refine G_mask (lv' := [some (.ref 117), some (.int p0), none, none, some (.int p3), some (.int z0), none, none]) [true, true, false, false, true, true, false, false] rfl rfl ?_
    exact tX8_planned_j42 hX  hR hf
noncomputable def fX8_planned (p0 : Int32) (p1 : Int32) (p2 : Int32) (p3 : Int32) (u : Um) : Option (Int32 × Um) :=
  bd1 (fX8_begin  u) fun u2 =>
  if p0 ≤ 0 then
    fX8_planned_j17 p0 p1 p2 p3 0 u2
  else
    bd2 (fX8_does p1 u2) fun v10 u11 =>
    fX8_planned_j17 p0 p1 p2 p3 v10 u11
set_option maxHeartbeats 4000000 in
set_option maxRecDepth 100000 in
theorem mX8_planned (w : Wc) {p0 : Int32} {p1 : Int32} {p2 : Int32} {p3 : Int32}  {u : Um} {r : Int32} {u' : Um} (hf : fX8_planned p0 p1 p2 p3 u = some (r, u')) : MC w 6 qX8_planned [.ref 117, .int p0, .int p1, .int p2, .int p3] u (some (.int r)) u' := by
  unfold fX8_planned at hf
  refine MC_intro pnX8 (Nat.le_of_ble_eq_true rfl) (fun X hX hR _ _ => ?_)
  have hX : OKc w X RX8 cX8_planned 6 := hX
  have hR : RT w X (some .int) 0 0 Pst 133 false (some (.int r)) u' := hR
  refine G_eql (lv' := [some (.ref 117), some (.int p0), some (.int p1), some (.int p2), some (.int p3), none, none, none]) rfl ?_
  refine G_aload_n hX dX8_planned_0 rfl ?_
  obtain ⟨u2, h1, hf⟩ := bd1_some hf
  refine G_cV (as := []) (rest := []) hX cvX8_153 (mX8_begin w h1) (Nat.le_of_ble_eq_true rfl) kK117 (Nat.le_of_ble_eq_true rfl) (Nat.le_of_ble_eq_true rfl) rfl rfl (Nat.le_of_ble_eq_true rfl) dX8_planned_1 (st' := []) rfl ?_
  refine G_iload_n hX dX8_planned_4 rfl ?_
  refine G_if_le (tgt := 16) hX dX8_planned_5 rfl hf (fun hf => ?_) (fun hf => ?_)
  · refine G_iconst (v := 0) hX dX8_planned_16 rfl ?_
    refine G_mask (lv' := [some (.ref 117), some (.int p0), none, some (.int p2), some (.int p3), none, none, none]) [true, true, false, true, true, false, false, false] rfl rfl ?_
    exact tX8_planned_j17 hX  hR hf
  · refine G_aload_n hX dX8_planned_8 rfl ?_
    refine G_iload_n hX dX8_planned_9 rfl ?_
    obtain ⟨v10, u11, h9, hf⟩ := bd2_some hf
    refine G_cV (as := [.int p1]) (rest := []) hX cvX8_171 (mX8_does w h9) (Nat.le_of_ble_eq_true rfl) kK117 (Nat.le_of_ble_eq_true rfl) (Nat.le_of_ble_eq_true rfl) rfl rfl (Nat.le_of_ble_eq_true rfl) dX8_planned_10 (st' := [.int v10]) rfl ?_
    refine G_goto (tgt := 17) hX dX8_planned_13 rfl ?_
    refine G_mask (lv' := [some (.ref 117), some (.int p0), none, some (.int p2), some (.int p3), none, none, none]) [true, true, false, true, true, false, false, false] rfl rfl ?_
    exact tX8_planned_j17 hX  hR hf
noncomputable def fX8_take (p0 : Int32) (p1 : Int32) (p2 : Int32) (p3 : Int32) (u : Um) : Option Um :=
  if p0 ≤ (u.1 117 17) then
    some u
  else
    nm (sI u 117 17 p0) fun u1 =>
    if inb 0 3 = true then
    nm (sI u1 131 (0 : Int32).toNatClampNeg p1) fun u2 =>
    if inb 1 3 = true then
    nm (sI u2 131 (1 : Int32).toNatClampNeg p2) fun u3 =>
    if inb 2 3 = true then
    nm (sI u3 131 (2 : Int32).toNatClampNeg p3) fun u4 =>
    some u4
    else none
    else none
    else none
set_option maxHeartbeats 4000000 in
set_option maxRecDepth 100000 in
theorem mX8_take (w : Wc) {p0 : Int32} {p1 : Int32} {p2 : Int32} {p3 : Int32}  {u : Um} {u' : Um} (hf : fX8_take p0 p1 p2 p3 u = some u') : MC w 1 qX8_take [.ref 117, .int p0, .int p1, .int p2, .int p3] u none u' := by
  unfold fX8_take at hf
  refine MC_intro pnX8 (Nat.le_of_ble_eq_true rfl) (fun X hX hR _ _ => ?_)
  have hX : OKc w X RX8 cX8_take 1 := hX
  have hR : RT w X none 0 0 Pst 133 false none u' := hR
  refine G_eql (lv' := [some (.ref 117), some (.int p0), some (.int p1), some (.int p2), some (.int p3)]) rfl ?_
  refine G_iload_n hX dX8_take_0 rfl ?_
  refine G_aload_n hX dX8_take_1 rfl ?_
  refine G_getI (i := 17) hX kK117 (Nat.le_of_ble_eq_true rfl) (Nat.le_of_ble_eq_true rfl) rfl flX8_174 dX8_take_2 ?_
  refine G_icmp_le (tgt := 35) hX dX8_take_5 rfl hf (fun hf => ?_) (fun hf => ?_)
  · obtain rfl := Option.some.inj hf
    exact G_vret hX hR dX8_take_35
  · refine G_aload_n hX dX8_take_8 rfl ?_
    refine G_iload_n hX dX8_take_9 rfl ?_
    refine G_putI (i := 17) hX kK117 (Nat.le_of_ble_eq_true rfl) (Nat.le_of_ble_eq_true rfl) rfl rfl flX8_174 fwX8_17 dX8_take_10 hf (fun u1 hf => ?_)
    refine G_aload_n hX dX8_take_13 rfl ?_
    refine G_getR (i := 16) (t := 131) hX kK117 (Nat.le_of_ble_eq_true rfl) (Nat.le_of_ble_eq_true rfl) rfl pK117_16 flX8_51 dX8_take_14 ?_
    refine G_iconst (v := 0) hX dX8_take_17 rfl ?_
    refine G_iload_n hX dX8_take_18 rfl ?_
    refine G_iast (n := 3) hX kK131 lK131 (Nat.le_of_ble_eq_true rfl) rfl dX8_take_19 hf (fun u2 hf => ?_)
    refine G_aload_n hX dX8_take_20 rfl ?_
    refine G_getR (i := 16) (t := 131) hX kK117 (Nat.le_of_ble_eq_true rfl) (Nat.le_of_ble_eq_true rfl) rfl pK117_16 flX8_51 dX8_take_21 ?_
    refine G_iconst (v := 1) hX dX8_take_24 rfl ?_
    refine G_iload_n hX dX8_take_25 rfl ?_
    refine G_iast (n := 3) hX kK131 lK131 (Nat.le_of_ble_eq_true rfl) rfl dX8_take_26 hf (fun u3 hf => ?_)
    refine G_aload_n hX dX8_take_27 rfl ?_
    refine G_getR (i := 16) (t := 131) hX kK117 (Nat.le_of_ble_eq_true rfl) (Nat.le_of_ble_eq_true rfl) rfl pK117_16 flX8_51 dX8_take_28 ?_
    refine G_iconst (v := 2) hX dX8_take_31 rfl ?_
    refine G_iload hX dX8_take_32 rfl ?_
    refine G_iast (n := 3) hX kK131 lK131 (Nat.le_of_ble_eq_true rfl) rfl dX8_take_34 hf (fun u4 hf => ?_)
    obtain rfl := Option.some.inj hf
    exact G_vret hX hR dX8_take_35
noncomputable def fX8_nextCode_j30 (p0 : Int32) (z0 : Int32) (u : Um) : Option Int32 :=
  if inb 2 83 = true then
  if z0 < (10 * (u.1 122 (2 : Int32).toNatClampNeg)) then
    some z0
  else
    some 99
  else none
set_option maxHeartbeats 4000000 in
set_option maxRecDepth 100000 in
theorem tX8_nextCode_j30 {w : Wc} {X : MX} (hX : OKc w X RX8 cX8_nextCode 1) {p0 : Int32} {z0 : Int32} {u : Um} {r : Int32} (hR : RT w X (some .int) 0 0 Pst 133 false (some (.int r)) u) (hf : fX8_nextCode_j30 p0 z0 u = some r) : G w X Zm 30 [some (.ref 117), none, none] [.int z0] u := by
  unfold fX8_nextCode_j30 at hf
  refine G_istore_n (lv' := [some (.ref 117), none, some (.int z0)]) hX dX8_nextCode_30 rfl (Nat.le_of_ble_eq_true rfl) rfl ?_
  refine G_iload_n hX dX8_nextCode_31 rfl ?_
  refine G_bipush (v := 10) hX dX8_nextCode_32 rfl ?_
  refine G_aload_n hX dX8_nextCode_34 rfl ?_
  refine G_getR (i := 6) (t := 122) hX kK117 (Nat.le_of_ble_eq_true rfl) (Nat.le_of_ble_eq_true rfl) rfl pK117_6 flX8_23 dX8_nextCode_35 ?_
  refine G_iconst (v := 2) hX dX8_nextCode_38 rfl ?_
  refine G_iald (n := 83) hX kK122 lK122 (Nat.le_of_ble_eq_true rfl) dX8_nextCode_39 hf (fun hf => ?_)
  refine G_imul hX dX8_nextCode_40 ?_
  refine G_icmp_lt (tgt := 49) hX dX8_nextCode_41 rfl hf (fun hf => ?_) (fun hf => ?_)
  · refine G_iload_n hX dX8_nextCode_49 rfl ?_
    obtain rfl := Option.some.inj hf
    exact G_iret hX hR dX8_nextCode_50
  · refine G_bipush (v := 99) hX dX8_nextCode_44 rfl ?_
    refine G_goto (tgt := 50) hX dX8_nextCode_46 rfl ?_
    obtain rfl := Option.some.inj hf
    exact G_iret hX hR dX8_nextCode_50
noncomputable def fX8_nextCode (p0 : Int32) (u : Um) : Option Int32 :=
  if inb 1 83 = true then
  if ((u.1 122 (1 : Int32).toNatClampNeg) - 1) ≤ (irm p0 10) then
    fX8_nextCode_j30 p0 (10 * ((p0 / 10) + 1)) u
  else
    fX8_nextCode_j30 p0 (p0 + 1) u
  else none
set_option maxHeartbeats 4000000 in
set_option maxRecDepth 100000 in
theorem mX8_nextCode (w : Wc) {p0 : Int32}  {u : Um} {r : Int32} (hf : fX8_nextCode p0 u = some r) : MC w 1 qX8_nextCode [.ref 117, .int p0] u (some (.int r)) u := by
  unfold fX8_nextCode at hf
  refine MC_intro pnX8 (Nat.le_of_ble_eq_true rfl) (fun X hX hR _ _ => ?_)
  have hX : OKc w X RX8 cX8_nextCode 1 := hX
  have hR : RT w X (some .int) 0 0 Pst 133 false (some (.int r)) u := hR
  refine G_eql (lv' := [some (.ref 117), some (.int p0), none]) rfl ?_
  refine G_iload_n hX dX8_nextCode_0 rfl ?_
  refine G_bipush (v := 10) hX dX8_nextCode_1 rfl ?_
  refine G_irem hX dX8_nextCode_3 (by decide) ?_
  refine G_aload_n hX dX8_nextCode_4 rfl ?_
  refine G_getR (i := 6) (t := 122) hX kK117 (Nat.le_of_ble_eq_true rfl) (Nat.le_of_ble_eq_true rfl) rfl pK117_6 flX8_23 dX8_nextCode_5 ?_
  refine G_iconst (v := 1) hX dX8_nextCode_8 rfl ?_
  refine G_iald (n := 83) hX kK122 lK122 (Nat.le_of_ble_eq_true rfl) dX8_nextCode_9 hf (fun hf => ?_)
  refine G_iconst (v := 1) hX dX8_nextCode_10 rfl ?_
  refine G_isub hX dX8_nextCode_11 ?_
  refine G_icmp_ge (tgt := 21) hX dX8_nextCode_12 rfl hf (fun hf => ?_) (fun hf => ?_)
  · refine G_bipush (v := 10) hX dX8_nextCode_21 rfl ?_
    refine G_iload_n hX dX8_nextCode_23 rfl ?_
    refine G_bipush (v := 10) hX dX8_nextCode_24 rfl ?_
    refine G_idiv hX dX8_nextCode_26 (by decide) ?_
    refine G_iconst (v := 1) hX dX8_nextCode_27 rfl ?_
    refine G_iadd hX dX8_nextCode_28 ?_
    refine G_imul hX dX8_nextCode_29 ?_
    refine G_mask (lv' := [some (.ref 117), none, none]) [true, false, false] rfl rfl ?_
    exact tX8_nextCode_j30 hX  hR hf
  · refine G_iload_n hX dX8_nextCode_15 rfl ?_
    refine G_iconst (v := 1) hX dX8_nextCode_16 rfl ?_
    refine G_iadd hX dX8_nextCode_17 ?_
    refine G_goto (tgt := 30) hX dX8_nextCode_18 rfl ?_
    refine G_mask (lv' := [some (.ref 117), none, none]) [true, false, false] rfl rfl ?_
    exact tX8_nextCode_j30 hX  hR hf
noncomputable def fX8_layLast_b3 (p0 : Int32) (p1 : Int32) (p2 : Int32) (s4 : Int32) (u : Um) : Option (Nat × Int32 × Um) :=
  if 99 ≤ s4 then
    some (1, s4, u)
  else
    if p0 ≤ 2 then
      some (1, s4, u)
    else
      bd2 (fX8_planned 3 p1 p2 s4 u) fun v2 u3 =>
      bd1 (fX8_take v2 p1 p2 s4 u3) fun u5 =>
      bd1 (fX8_nextCode s4 u5) fun v7 =>
      some (0, v7, u5)
set_option maxHeartbeats 4000000 in
set_option maxRecDepth 100000 in
theorem tX8_layLast_b3 {w : Wc} {X : MX} (hX : OKc w X RX8 cX8_layLast 7) {p0 : Int32} {p1 : Int32} {p2 : Int32} {s : Int32 × Um} {e : Nat} {s' : Int32 × Um} (hf : fX8_layLast_b3 p0 p1 p2 s.1 s.2 = some (e, s')) (K0 : e = 0 → G w X Zm 3 [some (.ref 117), some (.int p0), some (.int p1), some (.int p2), some (.int s'.1)] [] s'.2) (K1 : e ≠ 0 → G w X Zm 43 [some (.ref 117), some (.int p0), some (.int p1), some (.int p2), none] [] s'.2) : G w X Zm 3 [some (.ref 117), some (.int p0), some (.int p1), some (.int p2), some (.int s.1)] [] s.2 := by
  obtain ⟨s4, u⟩ := s
  unfold fX8_layLast_b3 at hf
  try dsimp only at hf ⊢
  refine G_iload hX dX8_layLast_3 rfl ?_
  refine G_bipush (v := 99) hX dX8_layLast_5 rfl ?_
  refine G_icmp_ge (tgt := 43) hX dX8_layLast_7 rfl hf (fun hf => ?_) (fun hf => ?_)
  · obtain ⟨rfl, rfl⟩ := ret2 hf
    refine G_mask (lv' := [some (.ref 117), some (.int p0), some (.int p1), some (.int p2), none]) [true, true, true, true, false] rfl rfl ?_
    exact K1 (by decide)
  · refine G_iload_n hX dX8_layLast_10 rfl ?_
    refine G_iconst (v := 2) hX dX8_layLast_11 rfl ?_
    refine G_icmp_le (tgt := 43) hX dX8_layLast_12 rfl hf (fun hf => ?_) (fun hf => ?_)
    · obtain ⟨rfl, rfl⟩ := ret2 hf
      refine G_mask (lv' := [some (.ref 117), some (.int p0), some (.int p1), some (.int p2), none]) [true, true, true, true, false] rfl rfl ?_
      exact K1 (by decide)
    · refine G_aload_n hX dX8_layLast_15 rfl ?_
      refine G_aload_n hX dX8_layLast_16 rfl ?_
      refine G_iconst (v := 3) hX dX8_layLast_17 rfl ?_
      refine G_iload_n hX dX8_layLast_18 rfl ?_
      refine G_iload_n hX dX8_layLast_19 rfl ?_
      refine G_iload hX dX8_layLast_20 rfl ?_
      obtain ⟨v2, u3, h1, hf⟩ := bd2_some hf
      refine G_cV (as := [.int 3, .int p1, .int p2, .int s4]) (rest := [.ref 117]) hX cvX8_177 (mX8_planned w h1) (Nat.le_of_ble_eq_true rfl) kK117 (Nat.le_of_ble_eq_true rfl) (Nat.le_of_ble_eq_true rfl) rfl rfl (Nat.le_of_ble_eq_true rfl) dX8_layLast_22 (st' := [.int v2, .ref 117]) rfl ?_
      refine G_iload_n hX dX8_layLast_25 rfl ?_
      refine G_iload_n hX dX8_layLast_26 rfl ?_
      refine G_iload hX dX8_layLast_27 rfl ?_
      obtain ⟨u5, h4, hf⟩ := bd1_some hf
      refine G_cV (as := [.int v2, .int p1, .int p2, .int s4]) (rest := []) hX cvX8_180 (mX8_take w h4) (Nat.le_of_ble_eq_true rfl) kK117 (Nat.le_of_ble_eq_true rfl) (Nat.le_of_ble_eq_true rfl) rfl rfl (Nat.le_of_ble_eq_true rfl) dX8_layLast_29 (st' := []) rfl ?_
      refine G_aload_n hX dX8_layLast_32 rfl ?_
      refine G_iload hX dX8_layLast_33 rfl ?_
      obtain ⟨v7, h6, hf⟩ := bd1_some hf
      refine G_cV (as := [.int s4]) (rest := []) hX cvX8_184 (mX8_nextCode w h6) (Nat.le_of_ble_eq_true rfl) kK117 (Nat.le_of_ble_eq_true rfl) (Nat.le_of_ble_eq_true rfl) rfl rfl (Nat.le_of_ble_eq_true rfl) dX8_layLast_35 (st' := [.int v7]) rfl ?_
      refine G_istore (lv' := [some (.ref 117), some (.int p0), some (.int p1), some (.int p2), some (.int v7)]) hX dX8_layLast_38 rfl (Nat.le_of_ble_eq_true rfl) rfl ?_
      refine G_goto (tgt := 3) hX dX8_layLast_40 rfl ?_
      obtain ⟨rfl, rfl⟩ := ret2 hf
      refine G_mask (lv' := [some (.ref 117), some (.int p0), some (.int p1), some (.int p2), some (.int v7)]) [true, true, true, true, true] rfl rfl ?_
      exact K0 rfl
noncomputable def fX8_layLast (p0 : Int32) (p1 : Int32) (p2 : Int32) (u : Um) : Option Um :=
  bd3 (lp (fun s => fX8_layLast_b3 p0 p1 p2 s.1 s.2) fuel ((0 : Int32), u)) fun e10 v8 u9 =>
  bd2 (fX8_planned p0 p1 p2 99 u9) fun v13 u14 =>
  bd1 (fX8_take v13 p1 p2 99 u14) fun u16 =>
  some u16
set_option maxHeartbeats 4000000 in
set_option maxRecDepth 100000 in
theorem mX8_layLast (w : Wc) {p0 : Int32} {p1 : Int32} {p2 : Int32}  {u : Um} {u' : Um} (hf : fX8_layLast p0 p1 p2 u = some u') : MC w 7 qX8_layLast [.ref 117, .int p0, .int p1, .int p2] u none u' := by
  unfold fX8_layLast at hf
  refine MC_intro pnX8 (Nat.le_of_ble_eq_true rfl) (fun X hX hR _ _ => ?_)
  have hX : OKc w X RX8 cX8_layLast 7 := hX
  have hR : RT w X none 0 0 Pst 133 false none u' := hR
  refine G_eql (lv' := [some (.ref 117), some (.int p0), some (.int p1), some (.int p2), none]) rfl ?_
  refine G_iconst (v := 0) hX dX8_layLast_0 rfl ?_
  refine G_istore (lv' := [some (.ref 117), some (.int p0), some (.int p1), some (.int p2), some (.int 0)]) hX dX8_layLast_1 rfl (Nat.le_of_ble_eq_true rfl) rfl ?_
  obtain ⟨e10, v8, u9, h11, hf⟩ := bd3_some hf
  refine G_mask (lv' := [some (.ref 117), some (.int p0), some (.int p1), some (.int p2), some (.int 0)]) [true, true, true, true, true] rfl rfl ?_
  refine lp_G (body := (fun s => fX8_layLast_b3 p0 p1 p2 s.1 s.2)) (Gh := fun s => G w X Zm 3 [some (.ref 117), some (.int p0), some (.int p1), some (.int p2), some (.int s.1)] [] s.2) (Gx := fun e s => G w X Zm 43 [some (.ref 117), some (.int p0), some (.int p1), some (.int p2), none] [] s.2) (fun s e s' hb K0 K1 => tX8_layLast_b3 (s := s) (e := e) (s' := s') hX   hb K0 K1) fuel ((0 : Int32), u) (e10, v8, u9) h11 ?_
  refine G_aload_n hX dX8_layLast_43 rfl ?_
  refine G_aload_n hX dX8_layLast_44 rfl ?_
  refine G_iload_n hX dX8_layLast_45 rfl ?_
  refine G_iload_n hX dX8_layLast_46 rfl ?_
  refine G_iload_n hX dX8_layLast_47 rfl ?_
  refine G_bipush (v := 99) hX dX8_layLast_48 rfl ?_
  obtain ⟨v13, u14, h12, hf⟩ := bd2_some hf
  refine G_cV (as := [.int p0, .int p1, .int p2, .int 99]) (rest := [.ref 117]) hX cvX8_177 (mX8_planned w h12) (Nat.le_of_ble_eq_true rfl) kK117 (Nat.le_of_ble_eq_true rfl) (Nat.le_of_ble_eq_true rfl) rfl rfl (Nat.le_of_ble_eq_true rfl) dX8_layLast_50 (st' := [.int v13, .ref 117]) rfl ?_
  refine G_iload_n hX dX8_layLast_53 rfl ?_
  refine G_iload_n hX dX8_layLast_54 rfl ?_
  refine G_bipush (v := 99) hX dX8_layLast_55 rfl ?_
  obtain ⟨u16, h15, hf⟩ := bd1_some hf
  refine G_cV (as := [.int v13, .int p1, .int p2, .int 99]) (rest := []) hX cvX8_180 (mX8_take w h15) (Nat.le_of_ble_eq_true rfl) kK117 (Nat.le_of_ble_eq_true rfl) (Nat.le_of_ble_eq_true rfl) rfl rfl (Nat.le_of_ble_eq_true rfl) dX8_layLast_57 (st' := []) rfl ?_
  obtain rfl := Option.some.inj hf
  exact G_vret hX hR dX8_layLast_60
noncomputable def fX8_laySecond_j32 (p0 : Int32) (p1 : Int32) (j3 : Int32) (u : Um) : Option (Nat × Int32 × Um) :=
  bd1 (fX8_nextCode j3 u) fun v5 =>
  some (0, v5, u)
set_option maxHeartbeats 4000000 in
set_option maxRecDepth 100000 in
theorem tX8_laySecond_j32 {w : Wc} {X : MX} (hX : OKc w X RX8 cX8_laySecond 8) {p0 : Int32} {p1 : Int32} {j3 : Int32}  {u : Um} {e : Nat} {s' : Int32 × Um} (K0 : e = 0 → G w X Zm 2 [some (.ref 117), some (.int p0), some (.int p1), some (.int s'.1)] [] s'.2) (K1 : e ≠ 0 → G w X Zm 41 [some (.ref 117), some (.int p0), some (.int p1), none] [] s'.2) (hf : fX8_laySecond_j32 p0 p1 j3 u = some (e, s')) : G w X Zm 32 [some (.ref 117), some (.int p0), some (.int p1), some (.int j3)] [] u := by
  unfold fX8_laySecond_j32 at hf
  refine G_aload_n hX dX8_laySecond_32 rfl ?_
  refine G_iload_n hX dX8_laySecond_33 rfl ?_
  obtain ⟨v5, h4, hf⟩ := bd1_some hf
  refine G_cV (as := [.int j3]) (rest := []) hX cvX8_184 (mX8_nextCode w h4) (Nat.le_of_ble_eq_true rfl) kK117 (Nat.le_of_ble_eq_true rfl) (Nat.le_of_ble_eq_true rfl) rfl rfl (Nat.le_of_ble_eq_true rfl) dX8_laySecond_34 (st' := [.int v5]) rfl ?_
  refine G_istore_n (lv' := [some (.ref 117), some (.int p0), some (.int p1), some (.int v5)]) hX dX8_laySecond_37 rfl (Nat.le_of_ble_eq_true rfl) rfl ?_
  refine G_goto (tgt := 2) hX dX8_laySecond_38 rfl ?_
  obtain ⟨rfl, rfl⟩ := ret2 hf
  refine G_mask (lv' := [some (.ref 117), some (.int p0), some (.int p1), some (.int v5)]) [true, true, true, true] rfl rfl ?_
  exact K0 rfl
noncomputable def fX8_laySecond_b2 (p0 : Int32) (p1 : Int32) (s3 : Int32) (u : Um) : Option (Nat × Int32 × Um) :=
  if 99 ≤ s3 then
    some (1, s3, u)
  else
    if p0 ≤ 1 then
      some (1, s3, u)
    else
      bd2 (fX8_planned 2 p1 s3 99 u) fun v2 u3 =>
      if v2 < 0 then
        fX8_laySecond_j32 p0 p1 s3 u3
      else
        bd1 (fX8_layLast p0 p1 s3 u3) fun u7 =>
        fX8_laySecond_j32 p0 p1 s3 u7
set_option maxHeartbeats 4000000 in
set_option maxRecDepth 100000 in
theorem tX8_laySecond_b2 {w : Wc} {X : MX} (hX : OKc w X RX8 cX8_laySecond 8) {p0 : Int32} {p1 : Int32} {s : Int32 × Um} {e : Nat} {s' : Int32 × Um} (hf : fX8_laySecond_b2 p0 p1 s.1 s.2 = some (e, s')) (K0 : e = 0 → G w X Zm 2 [some (.ref 117), some (.int p0), some (.int p1), some (.int s'.1)] [] s'.2) (K1 : e ≠ 0 → G w X Zm 41 [some (.ref 117), some (.int p0), some (.int p1), none] [] s'.2) : G w X Zm 2 [some (.ref 117), some (.int p0), some (.int p1), some (.int s.1)] [] s.2 := by
  obtain ⟨s3, u⟩ := s
  unfold fX8_laySecond_b2 at hf
  try dsimp only at hf ⊢
  refine G_iload_n hX dX8_laySecond_2 rfl ?_
  refine G_bipush (v := 99) hX dX8_laySecond_3 rfl ?_
  refine G_icmp_ge (tgt := 41) hX dX8_laySecond_5 rfl hf (fun hf => ?_) (fun hf => ?_)
  · obtain ⟨rfl, rfl⟩ := ret2 hf
    refine G_mask (lv' := [some (.ref 117), some (.int p0), some (.int p1), none]) [true, true, true, false] rfl rfl ?_
    exact K1 (by decide)
  · refine G_iload_n hX dX8_laySecond_8 rfl ?_
    refine G_iconst (v := 1) hX dX8_laySecond_9 rfl ?_
    refine G_icmp_le (tgt := 41) hX dX8_laySecond_10 rfl hf (fun hf => ?_) (fun hf => ?_)
    · obtain ⟨rfl, rfl⟩ := ret2 hf
      refine G_mask (lv' := [some (.ref 117), some (.int p0), some (.int p1), none]) [true, true, true, false] rfl rfl ?_
      exact K1 (by decide)
    · refine G_aload_n hX dX8_laySecond_13 rfl ?_
      refine G_iconst (v := 2) hX dX8_laySecond_14 rfl ?_
      refine G_iload_n hX dX8_laySecond_15 rfl ?_
      refine G_iload_n hX dX8_laySecond_16 rfl ?_
      refine G_bipush (v := 99) hX dX8_laySecond_17 rfl ?_
      obtain ⟨v2, u3, h1, hf⟩ := bd2_some hf
      refine G_cV (as := [.int 2, .int p1, .int s3, .int 99]) (rest := []) hX cvX8_177 (mX8_planned w h1) (Nat.le_of_ble_eq_true rfl) kK117 (Nat.le_of_ble_eq_true rfl) (Nat.le_of_ble_eq_true rfl) rfl rfl (Nat.le_of_ble_eq_true rfl) dX8_laySecond_19 (st' := [.int v2]) rfl ?_
      refine G_if_lt (tgt := 32) hX dX8_laySecond_22 rfl hf (fun hf => ?_) (fun hf => ?_)
      · refine G_mask (lv' := [some (.ref 117), some (.int p0), some (.int p1), some (.int s3)]) [true, true, true, true] rfl rfl ?_
        exact tX8_laySecond_j32 hX  K0 K1 hf
      · refine G_aload_n hX dX8_laySecond_25 rfl ?_
        refine G_iload_n hX dX8_laySecond_26 rfl ?_
        refine G_iload_n hX dX8_laySecond_27 rfl ?_
        refine G_iload_n hX dX8_laySecond_28 rfl ?_
        obtain ⟨u7, h6, hf⟩ := bd1_some hf
        refine G_cV (as := [.int p0, .int p1, .int s3]) (rest := []) hX cvX8_187 (mX8_layLast w h6) (Nat.le_of_ble_eq_true rfl) kK117 (Nat.le_of_ble_eq_true rfl) (Nat.le_of_ble_eq_true rfl) rfl rfl (Nat.le_of_ble_eq_true rfl) dX8_laySecond_29 (st' := []) rfl ?_
        refine G_mask (lv' := [some (.ref 117), some (.int p0), some (.int p1), some (.int s3)]) [true, true, true, true] rfl rfl ?_
        exact tX8_laySecond_j32 hX  K0 K1 hf
noncomputable def fX8_laySecond (p0 : Int32) (p1 : Int32) (u : Um) : Option Um :=
  bd3 (lp (fun s => fX8_laySecond_b2 p0 p1 s.1 s.2) fuel ((0 : Int32), u)) fun e10 v8 u9 =>
  bd1 (fX8_layLast p0 p1 99 u9) fun u13 =>
  some u13
set_option maxHeartbeats 4000000 in
set_option maxRecDepth 100000 in
theorem mX8_laySecond (w : Wc) {p0 : Int32} {p1 : Int32}  {u : Um} {u' : Um} (hf : fX8_laySecond p0 p1 u = some u') : MC w 8 qX8_laySecond [.ref 117, .int p0, .int p1] u none u' := by
  unfold fX8_laySecond at hf
  refine MC_intro pnX8 (Nat.le_of_ble_eq_true rfl) (fun X hX hR _ _ => ?_)
  have hX : OKc w X RX8 cX8_laySecond 8 := hX
  have hR : RT w X none 0 0 Pst 133 false none u' := hR
  refine G_eql (lv' := [some (.ref 117), some (.int p0), some (.int p1), none]) rfl ?_
  refine G_iconst (v := 0) hX dX8_laySecond_0 rfl ?_
  refine G_istore_n (lv' := [some (.ref 117), some (.int p0), some (.int p1), some (.int 0)]) hX dX8_laySecond_1 rfl (Nat.le_of_ble_eq_true rfl) rfl ?_
  obtain ⟨e10, v8, u9, h11, hf⟩ := bd3_some hf
  refine G_mask (lv' := [some (.ref 117), some (.int p0), some (.int p1), some (.int 0)]) [true, true, true, true] rfl rfl ?_
  refine lp_G (body := (fun s => fX8_laySecond_b2 p0 p1 s.1 s.2)) (Gh := fun s => G w X Zm 2 [some (.ref 117), some (.int p0), some (.int p1), some (.int s.1)] [] s.2) (Gx := fun e s => G w X Zm 41 [some (.ref 117), some (.int p0), some (.int p1), none] [] s.2) (fun s e s' hb K0 K1 => tX8_laySecond_b2 (s := s) (e := e) (s' := s') hX   hb K0 K1) fuel ((0 : Int32), u) (e10, v8, u9) h11 ?_
  refine G_aload_n hX dX8_laySecond_41 rfl ?_
  refine G_iload_n hX dX8_laySecond_42 rfl ?_
  refine G_iload_n hX dX8_laySecond_43 rfl ?_
  refine G_bipush (v := 99) hX dX8_laySecond_44 rfl ?_
  obtain ⟨u13, h12, hf⟩ := bd1_some hf
  refine G_cV (as := [.int p0, .int p1, .int 99]) (rest := []) hX cvX8_187 (mX8_layLast w h12) (Nat.le_of_ble_eq_true rfl) kK117 (Nat.le_of_ble_eq_true rfl) (Nat.le_of_ble_eq_true rfl) rfl rfl (Nat.le_of_ble_eq_true rfl) dX8_laySecond_46 (st' := []) rfl ?_
  obtain rfl := Option.some.inj hf
  exact G_vret hX hR dX8_laySecond_49
noncomputable def fX8_layPlan_j36 (p0 : Int32) (j2 : Int32) (u : Um) : Option (Nat × Int32 × Um) :=
  bd1 (fX8_nextCode j2 u) fun v6 =>
  some (0, v6, u)
set_option maxHeartbeats 4000000 in
set_option maxRecDepth 100000 in
theorem tX8_layPlan_j36 {w : Wc} {X : MX} (hX : OKc w X RX8 cX8_layPlan 9) {p0 : Int32} {j2 : Int32}  {u : Um} {e : Nat} {s' : Int32 × Um} (K0 : e = 0 → G w X Zm 7 [some (.ref 117), some (.int p0), some (.int s'.1)] [] s'.2) (K1 : e ≠ 0 → G w X Zm 45 [some (.ref 117), some (.int p0), none] [] s'.2) (hf : fX8_layPlan_j36 p0 j2 u = some (e, s')) : G w X Zm 36 [some (.ref 117), some (.int p0), some (.int j2)] [] u := by
  unfold fX8_layPlan_j36 at hf
  refine G_aload_n hX dX8_layPlan_36 rfl ?_
  refine G_iload_n hX dX8_layPlan_37 rfl ?_
  obtain ⟨v6, h5, hf⟩ := bd1_some hf
  refine G_cV (as := [.int j2]) (rest := []) hX cvX8_184 (mX8_nextCode w h5) (Nat.le_of_ble_eq_true rfl) kK117 (Nat.le_of_ble_eq_true rfl) (Nat.le_of_ble_eq_true rfl) rfl rfl (Nat.le_of_ble_eq_true rfl) dX8_layPlan_38 (st' := [.int v6]) rfl ?_
  refine G_istore_n (lv' := [some (.ref 117), some (.int p0), some (.int v6)]) hX dX8_layPlan_41 rfl (Nat.le_of_ble_eq_true rfl) rfl ?_
  refine G_goto (tgt := 7) hX dX8_layPlan_42 rfl ?_
  obtain ⟨rfl, rfl⟩ := ret2 hf
  refine G_mask (lv' := [some (.ref 117), some (.int p0), some (.int v6)]) [true, true, true] rfl rfl ?_
  exact K0 rfl
noncomputable def fX8_layPlan_b7 (p0 : Int32) (s2 : Int32) (u : Um) : Option (Nat × Int32 × Um) :=
  if 99 ≤ s2 then
    some (1, s2, u)
  else
    if p0 ≤ 0 then
      some (1, s2, u)
    else
      bd2 (fX8_planned 1 s2 99 99 u) fun v3 u4 =>
      if v3 < 0 then
        fX8_layPlan_j36 p0 s2 u4
      else
        bd1 (fX8_laySecond p0 s2 u4) fun u8 =>
        fX8_layPlan_j36 p0 s2 u8
set_option maxHeartbeats 4000000 in
set_option maxRecDepth 100000 in
theorem tX8_layPlan_b7 {w : Wc} {X : MX} (hX : OKc w X RX8 cX8_layPlan 9) {p0 : Int32} {s : Int32 × Um} {e : Nat} {s' : Int32 × Um} (hf : fX8_layPlan_b7 p0 s.1 s.2 = some (e, s')) (K0 : e = 0 → G w X Zm 7 [some (.ref 117), some (.int p0), some (.int s'.1)] [] s'.2) (K1 : e ≠ 0 → G w X Zm 45 [some (.ref 117), some (.int p0), none] [] s'.2) : G w X Zm 7 [some (.ref 117), some (.int p0), some (.int s.1)] [] s.2 := by
  obtain ⟨s2, u⟩ := s
  unfold fX8_layPlan_b7 at hf
  try dsimp only at hf ⊢
  refine G_iload_n hX dX8_layPlan_7 rfl ?_
  refine G_bipush (v := 99) hX dX8_layPlan_8 rfl ?_
  refine G_icmp_ge (tgt := 45) hX dX8_layPlan_10 rfl hf (fun hf => ?_) (fun hf => ?_)
  · obtain ⟨rfl, rfl⟩ := ret2 hf
    refine G_mask (lv' := [some (.ref 117), some (.int p0), none]) [true, true, false] rfl rfl ?_
    exact K1 (by decide)
  · refine G_iload_n hX dX8_layPlan_13 rfl ?_
    refine G_if_le (tgt := 45) hX dX8_layPlan_14 rfl hf (fun hf => ?_) (fun hf => ?_)
    · obtain ⟨rfl, rfl⟩ := ret2 hf
      refine G_mask (lv' := [some (.ref 117), some (.int p0), none]) [true, true, false] rfl rfl ?_
      exact K1 (by decide)
    · refine G_aload_n hX dX8_layPlan_17 rfl ?_
      refine G_iconst (v := 1) hX dX8_layPlan_18 rfl ?_
      refine G_iload_n hX dX8_layPlan_19 rfl ?_
      refine G_bipush (v := 99) hX dX8_layPlan_20 rfl ?_
      refine G_bipush (v := 99) hX dX8_layPlan_22 rfl ?_
      obtain ⟨v3, u4, h2, hf⟩ := bd2_some hf
      refine G_cV (as := [.int 1, .int s2, .int 99, .int 99]) (rest := []) hX cvX8_177 (mX8_planned w h2) (Nat.le_of_ble_eq_true rfl) kK117 (Nat.le_of_ble_eq_true rfl) (Nat.le_of_ble_eq_true rfl) rfl rfl (Nat.le_of_ble_eq_true rfl) dX8_layPlan_24 (st' := [.int v3]) rfl ?_
      refine G_if_lt (tgt := 36) hX dX8_layPlan_27 rfl hf (fun hf => ?_) (fun hf => ?_)
      · refine G_mask (lv' := [some (.ref 117), some (.int p0), some (.int s2)]) [true, true, true] rfl rfl ?_
        exact tX8_layPlan_j36 hX  K0 K1 hf
      · refine G_aload_n hX dX8_layPlan_30 rfl ?_
        refine G_iload_n hX dX8_layPlan_31 rfl ?_
        refine G_iload_n hX dX8_layPlan_32 rfl ?_
        obtain ⟨u8, h7, hf⟩ := bd1_some hf
        refine G_cV (as := [.int p0, .int s2]) (rest := []) hX cvX8_191 (mX8_laySecond w h7) (Nat.le_of_ble_eq_true rfl) kK117 (Nat.le_of_ble_eq_true rfl) (Nat.le_of_ble_eq_true rfl) rfl rfl (Nat.le_of_ble_eq_true rfl) dX8_layPlan_33 (st' := []) rfl ?_
        refine G_mask (lv' := [some (.ref 117), some (.int p0), some (.int s2)]) [true, true, true] rfl rfl ?_
        exact tX8_layPlan_j36 hX  K0 K1 hf
noncomputable def fX8_layPlan (p0 : Int32) (u : Um) : Option Um :=
  nm (sI u 117 17 (-1)) fun u1 =>
  bd3 (lp (fun s => fX8_layPlan_b7 p0 s.1 s.2) fuel ((0 : Int32), u1)) fun e11 v9 u10 =>
  bd1 (fX8_laySecond p0 99 u10) fun u14 =>
  some u14
set_option maxHeartbeats 4000000 in
set_option maxRecDepth 100000 in
theorem mX8_layPlan (w : Wc) {p0 : Int32}  {u : Um} {u' : Um} (hf : fX8_layPlan p0 u = some u') : MC w 9 qX8_layPlan [.ref 117, .int p0] u none u' := by
  unfold fX8_layPlan at hf
  refine MC_intro pnX8 (Nat.le_of_ble_eq_true rfl) (fun X hX hR _ _ => ?_)
  have hX : OKc w X RX8 cX8_layPlan 9 := hX
  have hR : RT w X none 0 0 Pst 133 false none u' := hR
  refine G_eql (lv' := [some (.ref 117), some (.int p0), none]) rfl ?_
  refine G_aload_n hX dX8_layPlan_0 rfl ?_
  refine G_iconst (v := (-1)) hX dX8_layPlan_1 rfl ?_
  refine G_putI (i := 17) hX kK117 (Nat.le_of_ble_eq_true rfl) (Nat.le_of_ble_eq_true rfl) rfl rfl flX8_174 fwX8_17 dX8_layPlan_2 hf (fun u1 hf => ?_)
  refine G_iconst (v := 0) hX dX8_layPlan_5 rfl ?_
  refine G_istore_n (lv' := [some (.ref 117), some (.int p0), some (.int 0)]) hX dX8_layPlan_6 rfl (Nat.le_of_ble_eq_true rfl) rfl ?_
  obtain ⟨e11, v9, u10, h12, hf⟩ := bd3_some hf
  refine G_mask (lv' := [some (.ref 117), some (.int p0), some (.int 0)]) [true, true, true] rfl rfl ?_
  refine lp_G (body := (fun s => fX8_layPlan_b7 p0 s.1 s.2)) (Gh := fun s => G w X Zm 7 [some (.ref 117), some (.int p0), some (.int s.1)] [] s.2) (Gx := fun e s => G w X Zm 45 [some (.ref 117), some (.int p0), none] [] s.2) (fun s e s' hb K0 K1 => tX8_layPlan_b7 (s := s) (e := e) (s' := s') hX   hb K0 K1) fuel ((0 : Int32), u1) (e11, v9, u10) h12 ?_
  refine G_aload_n hX dX8_layPlan_45 rfl ?_
  refine G_iload_n hX dX8_layPlan_46 rfl ?_
  refine G_bipush (v := 99) hX dX8_layPlan_47 rfl ?_
  obtain ⟨u14, h13, hf⟩ := bd1_some hf
  refine G_cV (as := [.int p0, .int 99]) (rest := []) hX cvX8_191 (mX8_laySecond w h13) (Nat.le_of_ble_eq_true rfl) kK117 (Nat.le_of_ble_eq_true rfl) (Nat.le_of_ble_eq_true rfl) rfl rfl (Nat.le_of_ble_eq_true rfl) dX8_layPlan_49 (st' := []) rfl ?_
  obtain rfl := Option.some.inj hf
  exact G_vret hX hR dX8_layPlan_52
noncomputable def fX8_plan (p0 : Int32) (p1 : Int32) (u : Um) : Option (Int32 × Um) :=
  bd1 (fX8_in p0 0 3 u) fun v2 =>
  if v2 = 0 then
    some ((-1), u)
  else
    if (-1) ≤ p1 then
      bd1 (fX8_isThere  u) fun v4 =>
      if v4 = 0 then
        some ((-2), u)
      else
        bd1 (fX8_layPlan p0 u) fun u6 =>
        if p1 = (-1) then
          some ((u6.1 117 17), u6)
        else
          if p0 ≤ p1 then
            some ((-4), u6)
          else
            if inb p1 3 = true then
            some ((u6.1 131 p1.toNatClampNeg), u6)
            else none
    else
      some ((-1), u)
set_option maxHeartbeats 4000000 in
set_option maxRecDepth 100000 in
theorem mX8_plan (w : Wc) {p0 : Int32} {p1 : Int32}  {u : Um} {r : Int32} {u' : Um} (hf : fX8_plan p0 p1 u = some (r, u')) : MC w 10 qX8_plan [.ref 117, .int p0, .int p1] u (some (.int r)) u' := by
  unfold fX8_plan at hf
  refine MC_intro pnX8 (Nat.le_of_ble_eq_true rfl) (fun X hX hR _ _ => ?_)
  have hX : OKc w X RX8 cX8_plan 10 := hX
  have hR : RT w X (some .int) 0 0 Pst 133 false (some (.int r)) u' := hR
  refine G_eql (lv' := [some (.ref 117), some (.int p0), some (.int p1)]) rfl ?_
  refine G_iload_n hX dX8_plan_0 rfl ?_
  refine G_iconst (v := 0) hX dX8_plan_1 rfl ?_
  refine G_iconst (v := 3) hX dX8_plan_2 rfl ?_
  obtain ⟨v2, h1, hf⟩ := bd1_some hf
  refine G_cS (as := [.int p0, .int 0, .int 3]) (rest := []) hX csX8_57 (mX8_in w h1) (Nat.le_of_ble_eq_true rfl) rfl rfl (Nat.le_of_ble_eq_true rfl) dX8_plan_3 (st' := [.int v2]) rfl ?_
  refine G_if_eq (tgt := 14) hX dX8_plan_6 rfl hf (fun hf => ?_) (fun hf => ?_)
  · refine G_iconst (v := (-1)) hX dX8_plan_14 rfl ?_
    obtain ⟨rfl, rfl⟩ := ret2 hf
    exact G_iret hX hR dX8_plan_15
  · refine G_iload_n hX dX8_plan_9 rfl ?_
    refine G_iconst (v := (-1)) hX dX8_plan_10 rfl ?_
    refine G_icmp_ge (tgt := 16) hX dX8_plan_11 rfl hf (fun hf => ?_) (fun hf => ?_)
    · refine G_aload_n hX dX8_plan_16 rfl ?_
      obtain ⟨v4, h3, hf⟩ := bd1_some hf
      refine G_cV (as := []) (rest := []) hX cvX8_150 (mX8_isThere w h3) (Nat.le_of_ble_eq_true rfl) kK117 (Nat.le_of_ble_eq_true rfl) (Nat.le_of_ble_eq_true rfl) rfl rfl (Nat.le_of_ble_eq_true rfl) dX8_plan_17 (st' := [.int v4]) rfl ?_
      refine G_if_ne (tgt := 26) hX dX8_plan_20 rfl hf (fun hf => ?_) (fun hf => ?_)
      · refine G_aload_n hX dX8_plan_26 rfl ?_
        refine G_iload_n hX dX8_plan_27 rfl ?_
        obtain ⟨u6, h5, hf⟩ := bd1_some hf
        refine G_cV (as := [.int p0]) (rest := []) hX cvX8_195 (mX8_layPlan w h5) (Nat.le_of_ble_eq_true rfl) kK117 (Nat.le_of_ble_eq_true rfl) (Nat.le_of_ble_eq_true rfl) rfl rfl (Nat.le_of_ble_eq_true rfl) dX8_plan_28 (st' := []) rfl ?_
        refine G_iload_n hX dX8_plan_31 rfl ?_
        refine G_iconst (v := (-1)) hX dX8_plan_32 rfl ?_
        refine G_icmp_ne (tgt := 43) hX dX8_plan_33 rfl hf (fun hf => ?_) (fun hf => ?_)
        · refine G_iload_n hX dX8_plan_43 rfl ?_
          refine G_iload_n hX dX8_plan_44 rfl ?_
          refine G_icmp_ge (tgt := 57) hX dX8_plan_45 rfl hf (fun hf => ?_) (fun hf => ?_)
          · refine G_bipush (v := (-4)) hX dX8_plan_57 rfl ?_
            obtain ⟨rfl, rfl⟩ := ret2 hf
            exact G_iret hX hR dX8_plan_59
          · refine G_aload_n hX dX8_plan_48 rfl ?_
            refine G_getR (i := 16) (t := 131) hX kK117 (Nat.le_of_ble_eq_true rfl) (Nat.le_of_ble_eq_true rfl) rfl pK117_16 flX8_51 dX8_plan_49 ?_
            refine G_iload_n hX dX8_plan_52 rfl ?_
            refine G_iald (n := 3) hX kK131 lK131 (Nat.le_of_ble_eq_true rfl) dX8_plan_53 hf (fun hf => ?_)
            refine G_goto (tgt := 59) hX dX8_plan_54 rfl ?_
            obtain ⟨rfl, rfl⟩ := ret2 hf
            exact G_iret hX hR dX8_plan_59
        · refine G_aload_n hX dX8_plan_36 rfl ?_
          refine G_getI (i := 17) hX kK117 (Nat.le_of_ble_eq_true rfl) (Nat.le_of_ble_eq_true rfl) rfl flX8_174 dX8_plan_37 ?_
          refine G_goto (tgt := 59) hX dX8_plan_40 rfl ?_
          obtain ⟨rfl, rfl⟩ := ret2 hf
          exact G_iret hX hR dX8_plan_59
      · refine G_bipush (v := (-2)) hX dX8_plan_23 rfl ?_
        obtain ⟨rfl, rfl⟩ := ret2 hf
        exact G_iret hX hR dX8_plan_25
    · refine G_iconst (v := (-1)) hX dX8_plan_14 rfl ?_
      obtain ⟨rfl, rfl⟩ := ret2 hf
      exact G_iret hX hR dX8_plan_15
noncomputable def fX8_gusts_j106 (p0 : Int32) (p1 : Int32) (p2 : Int32) (p3 : Int32) (i6 : Int32) (i7 : Int32) (j8 : Int32) (j10 : Int32) (z0 : Int32) (z1 : Int32) (u : Um) : Option (Nat × Int32 × Int32 × Int32) :=
  nm (z1 + z0) fun v12 =>
  nm (j10 + 1) fun v13 =>
  some (0, j8, v12, v13)
set_option maxHeartbeats 4000000 in
set_option maxRecDepth 100000 in
theorem tX8_gusts_j106 {w : Wc} {X : MX} (hX : OKc w X RX8 cX8_gusts 4) {p0 : Int32} {p1 : Int32} {p2 : Int32} {p3 : Int32} {i6 : Int32} {i7 : Int32} {j8 : Int32} {j10 : Int32} {z0 : Int32} {z1 : Int32}  {u : Um} {e : Nat} {s' : Int32 × Int32 × Int32} (K0 : e = 0 → G w X Zm 60 [some (.ref 117), some (.int p0), some (.int p1), some (.int p2), some (.int p3), none, some (.int i6), some (.int i7), some (.int s'.1), some (.int s'.2.1), some (.int s'.2.2)] [] u) (K1 : e ≠ 0 → G w X Zm 115 [some (.ref 117), some (.int p0), some (.int p1), some (.int p2), some (.int p3), none, some (.int i6), some (.int i7), some (.int s'.1), some (.int s'.2.1), none] [] u) (hf : fX8_gusts_j106 p0 p1 p2 p3 i6 i7 j8 j10 z0 z1 u = some (e, s')) : G w X Zm 106 [some (.ref 117), some (.int p0), some (.int p1), some (.int p2), some (.int p3), none, some (.int i6), some (.int i7), some (.int j8), none, some (.int j10)] [.int z0, .int z1] u := by
  unfold fX8_gusts_j106 at hf
  refine G_iadd hX dX8_gusts_106 ?_
  refine G_istoreF (lvf := fun v12 => [some (.ref 117), some (.int p0), some (.int p1), some (.int p2), some (.int p3), none, some (.int i6), some (.int i7), some (.int j8), some (.int v12), some (.int j10)]) hX dX8_gusts_107 rfl (Nat.le_of_ble_eq_true rfl) (fun _ => rfl) hf (fun v12 hf => ?_)
  refine G_iincF (lvf := fun v13 => [some (.ref 117), some (.int p0), some (.int p1), some (.int p2), some (.int p3), none, some (.int i6), some (.int i7), some (.int j8), some (.int v12), some (.int v13)]) hX dX8_gusts_109 rfl rfl rfl (Nat.le_of_ble_eq_true rfl) (fun _ => rfl) hf (fun v13 hf => ?_)
  refine G_goto (tgt := 60) hX dX8_gusts_112 rfl ?_
  obtain ⟨rfl, rfl⟩ := ret2 hf
  refine G_mask (lv' := [some (.ref 117), some (.int p0), some (.int p1), some (.int p2), some (.int p3), none, some (.int i6), some (.int i7), some (.int j8), some (.int v12), some (.int v13)]) [true, true, true, true, true, false, true, true, true, true, true] rfl rfl ?_
  exact K0 rfl
noncomputable def fX8_gusts_j86 (p0 : Int32) (p1 : Int32) (p2 : Int32) (p3 : Int32) (i6 : Int32) (i7 : Int32) (j9 : Int32) (j10 : Int32) (z0 : Int32) (z1 : Int32) (u : Um) : Option (Nat × Int32 × Int32 × Int32) :=
  nm (z1 * z0) fun v9 =>
  bd1 (fX8_has i7 j10 u) fun v11 =>
  if v11 = 0 then
    fX8_gusts_j106 p0 p1 p2 p3 i6 i7 v9 j10 0 j9 u
  else
    fX8_gusts_j106 p0 p1 p2 p3 i6 i7 v9 j10 1 j9 u
set_option maxHeartbeats 4000000 in
set_option maxRecDepth 100000 in
theorem tX8_gusts_j86 {w : Wc} {X : MX} (hX : OKc w X RX8 cX8_gusts 4) {p0 : Int32} {p1 : Int32} {p2 : Int32} {p3 : Int32} {i6 : Int32} {i7 : Int32} {j9 : Int32} {j10 : Int32} {z0 : Int32} {z1 : Int32}  {u : Um} {e : Nat} {s' : Int32 × Int32 × Int32} (K0 : e = 0 → G w X Zm 60 [some (.ref 117), some (.int p0), some (.int p1), some (.int p2), some (.int p3), none, some (.int i6), some (.int i7), some (.int s'.1), some (.int s'.2.1), some (.int s'.2.2)] [] u) (K1 : e ≠ 0 → G w X Zm 115 [some (.ref 117), some (.int p0), some (.int p1), some (.int p2), some (.int p3), none, some (.int i6), some (.int i7), some (.int s'.1), some (.int s'.2.1), none] [] u) (hf : fX8_gusts_j86 p0 p1 p2 p3 i6 i7 j9 j10 z0 z1 u = some (e, s')) : G w X Zm 86 [some (.ref 117), some (.int p0), some (.int p1), some (.int p2), some (.int p3), none, some (.int i6), some (.int i7), none, some (.int j9), some (.int j10)] [.int z0, .int z1] u := by
  unfold fX8_gusts_j86 at hf
  refine G_imul hX dX8_gusts_86 ?_
  refine G_istoreF (lvf := fun v9 => [some (.ref 117), some (.int p0), some (.int p1), some (.int p2), some (.int p3), none, some (.int i6), some (.int i7), some (.int v9), some (.int j9), some (.int j10)]) hX dX8_gusts_87 rfl (Nat.le_of_ble_eq_true rfl) (fun _ => rfl) hf (fun v9 hf => ?_)
  refine G_iload hX dX8_gusts_89 rfl ?_
  refine G_iload hX dX8_gusts_91 rfl ?_
  refine G_iload hX dX8_gusts_93 rfl ?_
  obtain ⟨v11, h10, hf⟩ := bd1_some hf
  refine G_cS (as := [.int i7, .int j10]) (rest := [.int j9]) hX csX8_156 (mX8_has w h10) (Nat.le_of_ble_eq_true rfl) rfl rfl (Nat.le_of_ble_eq_true rfl) dX8_gusts_95 (st' := [.int v11, .int j9]) rfl ?_
  refine G_if_eq (tgt := 105) hX dX8_gusts_98 rfl hf (fun hf => ?_) (fun hf => ?_)
  · refine G_iconst (v := 0) hX dX8_gusts_105 rfl ?_
    refine G_mask (lv' := [some (.ref 117), some (.int p0), some (.int p1), some (.int p2), some (.int p3), none, some (.int i6), some (.int i7), some (.int v9), none, some (.int j10)]) [true, true, true, true, true, false, true, true, true, false, true] rfl rfl ?_
    exact tX8_gusts_j106 hX  K0 K1 hf
  · refine G_iconst (v := 1) hX dX8_gusts_101 rfl ?_
    refine G_goto (tgt := 106) hX dX8_gusts_102 rfl ?_
    refine G_mask (lv' := [some (.ref 117), some (.int p0), some (.int p1), some (.int p2), some (.int p3), none, some (.int i6), some (.int i7), some (.int v9), none, some (.int j10)]) [true, true, true, true, true, false, true, true, true, false, true] rfl rfl ?_
    exact tX8_gusts_j106 hX  K0 K1 hf
noncomputable def fX8_gusts_b60 (p0 : Int32) (p1 : Int32) (p2 : Int32) (p3 : Int32) (i6 : Int32) (i7 : Int32) (s8 : Int32) (s9 : Int32) (s10 : Int32) (u : Um) : Option (Nat × Int32 × Int32 × Int32) :=
  if 3 ≤ s10 then
    some (1, s8, s9, s10)
  else
    bd1 (fX8_has i7 s10 u) fun v8 =>
    if v8 = 0 then
      fX8_gusts_j86 p0 p1 p2 p3 i6 i7 s9 s10 (10 - p2) s8 u
    else
      fX8_gusts_j86 p0 p1 p2 p3 i6 i7 s9 s10 p2 s8 u
set_option maxHeartbeats 4000000 in
set_option maxRecDepth 100000 in
theorem tX8_gusts_b60 {w : Wc} {X : MX} (hX : OKc w X RX8 cX8_gusts 4) {p0 : Int32} {p1 : Int32} {p2 : Int32} {p3 : Int32} {i6 : Int32} {i7 : Int32} {s : Int32 × Int32 × Int32} {e : Nat} {s' : Int32 × Int32 × Int32} {u : Um} (hf : fX8_gusts_b60 p0 p1 p2 p3 i6 i7 s.1 s.2.1 s.2.2 u = some (e, s')) (K0 : e = 0 → G w X Zm 60 [some (.ref 117), some (.int p0), some (.int p1), some (.int p2), some (.int p3), none, some (.int i6), some (.int i7), some (.int s'.1), some (.int s'.2.1), some (.int s'.2.2)] [] u) (K1 : e ≠ 0 → G w X Zm 115 [some (.ref 117), some (.int p0), some (.int p1), some (.int p2), some (.int p3), none, some (.int i6), some (.int i7), some (.int s'.1), some (.int s'.2.1), none] [] u) : G w X Zm 60 [some (.ref 117), some (.int p0), some (.int p1), some (.int p2), some (.int p3), none, some (.int i6), some (.int i7), some (.int s.1), some (.int s.2.1), some (.int s.2.2)] [] u := by
  obtain ⟨s8, s9, s10⟩ := s
  unfold fX8_gusts_b60 at hf
  try dsimp only at hf ⊢
  refine G_iload hX dX8_gusts_60 rfl ?_
  refine G_iconst (v := 3) hX dX8_gusts_62 rfl ?_
  refine G_icmp_ge (tgt := 115) hX dX8_gusts_63 rfl hf (fun hf => ?_) (fun hf => ?_)
  · obtain ⟨rfl, rfl⟩ := ret2 hf
    refine G_mask (lv' := [some (.ref 117), some (.int p0), some (.int p1), some (.int p2), some (.int p3), none, some (.int i6), some (.int i7), some (.int s8), some (.int s9), none]) [true, true, true, true, true, false, true, true, true, true, false] rfl rfl ?_
    exact K1 (by decide)
  · refine G_iload hX dX8_gusts_66 rfl ?_
    refine G_iload hX dX8_gusts_68 rfl ?_
    refine G_iload hX dX8_gusts_70 rfl ?_
    obtain ⟨v8, h7, hf⟩ := bd1_some hf
    refine G_cS (as := [.int i7, .int s10]) (rest := [.int s8]) hX csX8_156 (mX8_has w h7) (Nat.le_of_ble_eq_true rfl) rfl rfl (Nat.le_of_ble_eq_true rfl) dX8_gusts_72 (st' := [.int v8, .int s8]) rfl ?_
    refine G_if_eq (tgt := 82) hX dX8_gusts_75 rfl hf (fun hf => ?_) (fun hf => ?_)
    · refine G_bipush (v := 10) hX dX8_gusts_82 rfl ?_
      refine G_iload_n hX dX8_gusts_84 rfl ?_
      refine G_isub hX dX8_gusts_85 ?_
      refine G_mask (lv' := [some (.ref 117), some (.int p0), some (.int p1), some (.int p2), some (.int p3), none, some (.int i6), some (.int i7), none, some (.int s9), some (.int s10)]) [true, true, true, true, true, false, true, true, false, true, true] rfl rfl ?_
      exact tX8_gusts_j86 hX  K0 K1 hf
    · refine G_iload_n hX dX8_gusts_78 rfl ?_
      refine G_goto (tgt := 86) hX dX8_gusts_79 rfl ?_
      refine G_mask (lv' := [some (.ref 117), some (.int p0), some (.int p1), some (.int p2), some (.int p3), none, some (.int i6), some (.int i7), none, some (.int s9), some (.int s10)]) [true, true, true, true, true, false, true, true, false, true, true] rfl rfl ?_
      exact tX8_gusts_j86 hX  K0 K1 hf
noncomputable def fX8_gusts_j146 (p0 : Int32) (p1 : Int32) (p2 : Int32) (p3 : Int32) (j7 : Int32) (z0 : Int32) (z1 : Int32) (u : Um) : Option (Nat × Int32 × Int32) :=
  nm (z1 + z0) fun v23 =>
  nm (j7 + 1) fun v24 =>
  some (0, v23, v24)
set_option maxHeartbeats 4000000 in
set_option maxRecDepth 100000 in
theorem tX8_gusts_j146 {w : Wc} {X : MX} (hX : OKc w X RX8 cX8_gusts 4) {p0 : Int32} {p1 : Int32} {p2 : Int32} {p3 : Int32} {j7 : Int32} {z0 : Int32} {z1 : Int32}  {u : Um} {e : Nat} {s' : Int32 × Int32} (K0 : e = 0 → G w X Zm 44 [some (.ref 117), some (.int p0), some (.int p1), some (.int p2), some (.int p3), none, some (.int s'.1), some (.int s'.2), none, none, none] [] u) (K1 : e ≠ 0 → G w X Zm 155 [none, none, none, none, some (.int p3), none, some (.int s'.1), none, none, none, none] [] u) (hf : fX8_gusts_j146 p0 p1 p2 p3 j7 z0 z1 u = some (e, s')) : G w X Zm 146 [some (.ref 117), some (.int p0), some (.int p1), some (.int p2), some (.int p3), none, none, some (.int j7), none, none, none] [.int z0, .int z1] u := by
  unfold fX8_gusts_j146 at hf
  refine G_iadd hX dX8_gusts_146 ?_
  refine G_istoreF (lvf := fun v23 => [some (.ref 117), some (.int p0), some (.int p1), some (.int p2), some (.int p3), none, some (.int v23), some (.int j7), none, none, none]) hX dX8_gusts_147 rfl (Nat.le_of_ble_eq_true rfl) (fun _ => rfl) hf (fun v23 hf => ?_)
  refine G_iincF (lvf := fun v24 => [some (.ref 117), some (.int p0), some (.int p1), some (.int p2), some (.int p3), none, some (.int v23), some (.int v24), none, none, none]) hX dX8_gusts_149 rfl rfl rfl (Nat.le_of_ble_eq_true rfl) (fun _ => rfl) hf (fun v24 hf => ?_)
  refine G_goto (tgt := 44) hX dX8_gusts_152 rfl ?_
  obtain ⟨rfl, rfl⟩ := ret2 hf
  refine G_mask (lv' := [some (.ref 117), some (.int p0), some (.int p1), some (.int p2), some (.int p3), none, some (.int v23), some (.int v24), none, none, none]) [true, true, true, true, true, false, true, true, false, false, false] rfl rfl ?_
  exact K0 rfl
noncomputable def fX8_gusts_b44 (p0 : Int32) (p1 : Int32) (p2 : Int32) (p3 : Int32) (s6 : Int32) (s7 : Int32) (u : Um) : Option (Nat × Int32 × Int32) :=
  if 8 ≤ s7 then
    some (1, s6, s7)
  else
    bd4 (lp (fun s => fX8_gusts_b60 p0 p1 p2 p3 s6 s7 s.1 s.2.1 s.2.2 u) fuel ((1 : Int32), (0 : Int32), (0 : Int32))) fun e17 v14 v15 v16 =>
    bd1 (fX8_saidOf 122 p0 p1 u) fun v20 =>
    bd1 (fX8_needOf 122 p0 u) fun v22 =>
    if (v20 - v15) < v22 then
      fX8_gusts_j146 p0 p1 p2 p3 s7 0 s6 u
    else
      fX8_gusts_j146 p0 p1 p2 p3 s7 v14 s6 u
set_option maxHeartbeats 4000000 in
set_option maxRecDepth 100000 in
theorem tX8_gusts_b44 {w : Wc} {X : MX} (hX : OKc w X RX8 cX8_gusts 4) {p0 : Int32} {p1 : Int32} {p2 : Int32} {p3 : Int32} {s : Int32 × Int32} {e : Nat} {s' : Int32 × Int32} {u : Um} (hf : fX8_gusts_b44 p0 p1 p2 p3 s.1 s.2 u = some (e, s')) (K0 : e = 0 → G w X Zm 44 [some (.ref 117), some (.int p0), some (.int p1), some (.int p2), some (.int p3), none, some (.int s'.1), some (.int s'.2), none, none, none] [] u) (K1 : e ≠ 0 → G w X Zm 155 [none, none, none, none, some (.int p3), none, some (.int s'.1), none, none, none, none] [] u) : G w X Zm 44 [some (.ref 117), some (.int p0), some (.int p1), some (.int p2), some (.int p3), none, some (.int s.1), some (.int s.2), none, none, none] [] u := by
  obtain ⟨s6, s7⟩ := s
  unfold fX8_gusts_b44 at hf
  try dsimp only at hf ⊢
  refine G_iload hX dX8_gusts_44 rfl ?_
  refine G_bipush (v := 8) hX dX8_gusts_46 rfl ?_
  refine G_icmp_ge (tgt := 155) hX dX8_gusts_48 rfl hf (fun hf => ?_) (fun hf => ?_)
  · obtain ⟨rfl, rfl⟩ := ret2 hf
    refine G_mask (lv' := [none, none, none, none, some (.int p3), none, some (.int s6), none, none, none, none]) [false, false, false, false, true, false, true, false, false, false, false] rfl rfl ?_
    exact K1 (by decide)
  · refine G_iconst (v := 1) hX dX8_gusts_51 rfl ?_
    refine G_istore (lv' := [some (.ref 117), some (.int p0), some (.int p1), some (.int p2), some (.int p3), none, some (.int s6), some (.int s7), some (.int 1), none, none]) hX dX8_gusts_52 rfl (Nat.le_of_ble_eq_true rfl) rfl ?_
    refine G_iconst (v := 0) hX dX8_gusts_54 rfl ?_
    refine G_istore (lv' := [some (.ref 117), some (.int p0), some (.int p1), some (.int p2), some (.int p3), none, some (.int s6), some (.int s7), some (.int 1), some (.int 0), none]) hX dX8_gusts_55 rfl (Nat.le_of_ble_eq_true rfl) rfl ?_
    refine G_iconst (v := 0) hX dX8_gusts_57 rfl ?_
    refine G_istore (lv' := [some (.ref 117), some (.int p0), some (.int p1), some (.int p2), some (.int p3), none, some (.int s6), some (.int s7), some (.int 1), some (.int 0), some (.int 0)]) hX dX8_gusts_58 rfl (Nat.le_of_ble_eq_true rfl) rfl ?_
    obtain ⟨e17, v14, v15, v16, h18, hf⟩ := bd4_some hf
    refine G_mask (lv' := [some (.ref 117), some (.int p0), some (.int p1), some (.int p2), some (.int p3), none, some (.int s6), some (.int s7), some (.int 1), some (.int 0), some (.int 0)]) [true, true, true, true, true, false, true, true, true, true, true] rfl rfl ?_
    refine lp_G (body := (fun s => fX8_gusts_b60 p0 p1 p2 p3 s6 s7 s.1 s.2.1 s.2.2 u)) (Gh := fun s => G w X Zm 60 [some (.ref 117), some (.int p0), some (.int p1), some (.int p2), some (.int p3), none, some (.int s6), some (.int s7), some (.int s.1), some (.int s.2.1), some (.int s.2.2)] [] u) (Gx := fun e s => G w X Zm 115 [some (.ref 117), some (.int p0), some (.int p1), some (.int p2), some (.int p3), none, some (.int s6), some (.int s7), some (.int s.1), some (.int s.2.1), none] [] u) (fun s e s' hb K0 K1 => tX8_gusts_b60 (s := s) (e := e) (s' := s') hX   hb K0 K1) fuel ((1 : Int32), (0 : Int32), (0 : Int32)) (e17, v14, v15, v16) h18 ?_
    refine G_iload hX dX8_gusts_115 rfl ?_
    refine G_aload_n hX dX8_gusts_117 rfl ?_
    refine G_getR (i := 6) (t := 122) hX kK117 (Nat.le_of_ble_eq_true rfl) (Nat.le_of_ble_eq_true rfl) rfl pK117_6 flX8_23 dX8_gusts_118 ?_
    refine G_iload_n hX dX8_gusts_121 rfl ?_
    refine G_iload_n hX dX8_gusts_122 rfl ?_
    obtain ⟨v20, h19, hf⟩ := bd1_some hf
    refine G_cS (as := [.ref 122, .int p0, .int p1]) (rest := [.int s6]) hX csX8_127 (mX8_saidOf w kK122 h19) (Nat.le_of_ble_eq_true rfl) rfl rfl (Nat.le_of_ble_eq_true rfl) dX8_gusts_123 (st' := [.int v20, .int s6]) rfl ?_
    refine G_iload hX dX8_gusts_126 rfl ?_
    refine G_isub hX dX8_gusts_128 ?_
    refine G_aload_n hX dX8_gusts_129 rfl ?_
    refine G_getR (i := 6) (t := 122) hX kK117 (Nat.le_of_ble_eq_true rfl) (Nat.le_of_ble_eq_true rfl) rfl pK117_6 flX8_23 dX8_gusts_130 ?_
    refine G_iload_n hX dX8_gusts_133 rfl ?_
    obtain ⟨v22, h21, hf⟩ := bd1_some hf
    refine G_cS (as := [.ref 122, .int p0]) (rest := [.int (v20 - v15), .int s6]) hX csX8_111 (mX8_needOf w kK122 h21) (Nat.le_of_ble_eq_true rfl) rfl rfl (Nat.le_of_ble_eq_true rfl) dX8_gusts_134 (st' := [.int v22, .int (v20 - v15), .int s6]) rfl ?_
    refine G_icmp_lt (tgt := 145) hX dX8_gusts_137 rfl hf (fun hf => ?_) (fun hf => ?_)
    · refine G_iconst (v := 0) hX dX8_gusts_145 rfl ?_
      refine G_mask (lv' := [some (.ref 117), some (.int p0), some (.int p1), some (.int p2), some (.int p3), none, none, some (.int s7), none, none, none]) [true, true, true, true, true, false, false, true, false, false, false] rfl rfl ?_
      exact tX8_gusts_j146 hX  K0 K1 hf
    · refine G_iload hX dX8_gusts_140 rfl ?_
      refine G_goto (tgt := 146) hX dX8_gusts_142 rfl ?_
      refine G_mask (lv' := [some (.ref 117), some (.int p0), some (.int p1), some (.int p2), some (.int p3), none, none, some (.int s7), none, none, none]) [true, true, true, true, true, false, false, true, false, false, false] rfl rfl ?_
      exact tX8_gusts_j146 hX  K0 K1 hf
noncomputable def fX8_gusts_b164 (p0 : Int32) (p1 : Int32) (p2 : Int32) (p3 : Int32) (i6 : Int32) (s7 : Int32) (s8 : Int32) (u : Um) : Option (Nat × Int32 × Int32) :=
  if s8 ≤ 0 then
    some (1, s7, s8)
  else
    if s8 = 0 then none else
    nm (irm s7 s8) fun v29 =>
    some (0, s8, v29)
set_option maxHeartbeats 4000000 in
set_option maxRecDepth 100000 in
theorem tX8_gusts_b164 {w : Wc} {X : MX} (hX : OKc w X RX8 cX8_gusts 4) {p0 : Int32} {p1 : Int32} {p2 : Int32} {p3 : Int32} {i6 : Int32} {s : Int32 × Int32} {e : Nat} {s' : Int32 × Int32} {u : Um} (hf : fX8_gusts_b164 p0 p1 p2 p3 i6 s.1 s.2 u = some (e, s')) (K0 : e = 0 → G w X Zm 164 [none, none, none, none, some (.int p3), none, some (.int i6), some (.int s'.1), some (.int s'.2), none, none] [] u) (K1 : e ≠ 0 → G w X Zm 187 [none, none, none, none, some (.int p3), none, some (.int i6), some (.int s'.1), none, none, none] [] u) : G w X Zm 164 [none, none, none, none, some (.int p3), none, some (.int i6), some (.int s.1), some (.int s.2), none, none] [] u := by
  obtain ⟨s7, s8⟩ := s
  unfold fX8_gusts_b164 at hf
  try dsimp only at hf ⊢
  refine G_iload hX dX8_gusts_164 rfl ?_
  refine G_if_le (tgt := 187) hX dX8_gusts_166 rfl hf (fun hf => ?_) (fun hf => ?_)
  · obtain ⟨rfl, rfl⟩ := ret2 hf
    refine G_mask (lv' := [none, none, none, none, some (.int p3), none, some (.int i6), some (.int s7), none, none, none]) [false, false, false, false, true, false, true, true, false, false, false] rfl rfl ?_
    exact K1 (by decide)
  · refine G_iload hX dX8_gusts_169 rfl ?_
    refine G_iload hX dX8_gusts_171 rfl ?_
    refine G_iremF hX dX8_gusts_173 hf (fun hf => ?_)
    refine G_istoreF (lvf := fun v29 => [none, none, none, none, some (.int p3), none, some (.int i6), some (.int s7), some (.int s8), some (.int v29), none]) hX dX8_gusts_174 rfl (Nat.le_of_ble_eq_true rfl) (fun _ => rfl) hf (fun v29 hf => ?_)
    refine G_iload hX dX8_gusts_176 rfl ?_
    refine G_istore (lv' := [none, none, none, none, some (.int p3), none, some (.int i6), some (.int s8), some (.int s8), some (.int v29), none]) hX dX8_gusts_178 rfl (Nat.le_of_ble_eq_true rfl) rfl ?_
    refine G_iload hX dX8_gusts_180 rfl ?_
    refine G_istore (lv' := [none, none, none, none, some (.int p3), none, some (.int i6), some (.int s8), some (.int v29), some (.int v29), none]) hX dX8_gusts_182 rfl (Nat.le_of_ble_eq_true rfl) rfl ?_
    refine G_goto (tgt := 164) hX dX8_gusts_184 rfl ?_
    obtain ⟨rfl, rfl⟩ := ret2 hf
    refine G_mask (lv' := [none, none, none, none, some (.int p3), none, some (.int i6), some (.int s8), some (.int v29), none, none]) [false, false, false, false, true, false, true, true, true, false, false] rfl rfl ?_
    exact K0 rfl
noncomputable def fX8_gusts_j200 (p0 : Int32) (p1 : Int32) (p2 : Int32) (p3 : Int32) (j7 : Int32) (z0 : Int32) (u : Um) : Option Int32 :=
  if j7 = 0 then none else
  some (z0 / j7)
set_option maxHeartbeats 4000000 in
set_option maxRecDepth 100000 in
theorem tX8_gusts_j200 {w : Wc} {X : MX} (hX : OKc w X RX8 cX8_gusts 4) {p0 : Int32} {p1 : Int32} {p2 : Int32} {p3 : Int32} {j7 : Int32} {z0 : Int32} {u : Um} {r : Int32} (hR : RT w X (some .int) 0 0 Pst 133 false (some (.int r)) u) (hf : fX8_gusts_j200 p0 p1 p2 p3 j7 z0 u = some r) : G w X Zm 200 [none, none, none, none, none, none, none, some (.int j7), none, none, none] [.int z0] u := by
  unfold fX8_gusts_j200 at hf
  refine G_iload hX dX8_gusts_200 rfl ?_
  refine G_idivF hX dX8_gusts_202 hf (fun hf => ?_)
  obtain rfl := Option.some.inj hf
  exact G_iret hX hR dX8_gusts_203
noncomputable def fX8_gusts (p0 : Int32) (p1 : Int32) (p2 : Int32) (p3 : Int32) (u : Um) : Option Int32 :=
  bd1 (fX8_in p2 0 10 u) fun v2 =>
  if v2 = 0 then
    some (-1)
  else
    bd1 (fX8_in p3 0 1 u) fun v4 =>
    if v4 = 0 then
      some (-1)
    else
      bd1 (fX8_whyNot p0 p1 u) fun v6 =>
      if v6 = 0 then
        bd3 (lp (fun s => fX8_gusts_b44 p0 p1 p2 p3 s.1 s.2 u) fuel ((0 : Int32), (0 : Int32))) fun e27 v25 v26 =>
        bd3 (lp (fun s => fX8_gusts_b164 p0 p1 p2 p3 v25 s.1 s.2 u) fuel (v25, (1000 : Int32))) fun e32 v30 v31 =>
        if p3 = 0 then
          fX8_gusts_j200 p0 p1 p2 p3 v30 v25 u
        else
          fX8_gusts_j200 p0 p1 p2 p3 v30 1000 u
      else
        some v6
set_option maxHeartbeats 4000000 in
set_option maxRecDepth 100000 in
theorem mX8_gusts (w : Wc) {p0 : Int32} {p1 : Int32} {p2 : Int32} {p3 : Int32}  {u : Um} {r : Int32} (hf : fX8_gusts p0 p1 p2 p3 u = some r) : MC w 4 qX8_gusts [.ref 117, .int p0, .int p1, .int p2, .int p3] u (some (.int r)) u := by
  unfold fX8_gusts at hf
  refine MC_intro pnX8 (Nat.le_of_ble_eq_true rfl) (fun X hX hR _ _ => ?_)
  have hX : OKc w X RX8 cX8_gusts 4 := hX
  have hR : RT w X (some .int) 0 0 Pst 133 false (some (.int r)) u := hR
  refine G_eql (lv' := [some (.ref 117), some (.int p0), some (.int p1), some (.int p2), some (.int p3), none, none, none, none, none, none]) rfl ?_
  refine G_iload_n hX dX8_gusts_0 rfl ?_
  refine G_iconst (v := 0) hX dX8_gusts_1 rfl ?_
  refine G_bipush (v := 10) hX dX8_gusts_2 rfl ?_
  obtain ⟨v2, h1, hf⟩ := bd1_some hf
  refine G_cS (as := [.int p2, .int 0, .int 10]) (rest := []) hX csX8_57 (mX8_in w h1) (Nat.le_of_ble_eq_true rfl) rfl rfl (Nat.le_of_ble_eq_true rfl) dX8_gusts_4 (st' := [.int v2]) rfl ?_
  refine G_if_eq (tgt := 20) hX dX8_gusts_7 rfl hf (fun hf => ?_) (fun hf => ?_)
  · refine G_iconst (v := (-1)) hX dX8_gusts_20 rfl ?_
    obtain rfl := Option.some.inj hf
    exact G_iret hX hR dX8_gusts_21
  · refine G_iload hX dX8_gusts_10 rfl ?_
    refine G_iconst (v := 0) hX dX8_gusts_12 rfl ?_
    refine G_iconst (v := 1) hX dX8_gusts_13 rfl ?_
    obtain ⟨v4, h3, hf⟩ := bd1_some hf
    refine G_cS (as := [.int p3, .int 0, .int 1]) (rest := []) hX csX8_57 (mX8_in w h3) (Nat.le_of_ble_eq_true rfl) rfl rfl (Nat.le_of_ble_eq_true rfl) dX8_gusts_14 (st' := [.int v4]) rfl ?_
    refine G_if_ne (tgt := 22) hX dX8_gusts_17 rfl hf (fun hf => ?_) (fun hf => ?_)
    · refine G_aload_n hX dX8_gusts_22 rfl ?_
      refine G_iload_n hX dX8_gusts_23 rfl ?_
      refine G_iload_n hX dX8_gusts_24 rfl ?_
      obtain ⟨v6, h5, hf⟩ := bd1_some hf
      refine G_cV (as := [.int p0, .int p1]) (rest := []) hX cvX8_141 (mX8_whyNot w h5) (Nat.le_of_ble_eq_true rfl) kK117 (Nat.le_of_ble_eq_true rfl) (Nat.le_of_ble_eq_true rfl) rfl rfl (Nat.le_of_ble_eq_true rfl) dX8_gusts_25 (st' := [.int v6]) rfl ?_
      refine G_istore (lv' := [some (.ref 117), some (.int p0), some (.int p1), some (.int p2), some (.int p3), some (.int v6), none, none, none, none, none]) hX dX8_gusts_28 rfl (Nat.le_of_ble_eq_true rfl) rfl ?_
      refine G_iload hX dX8_gusts_30 rfl ?_
      refine G_if_eq (tgt := 38) hX dX8_gusts_32 rfl hf (fun hf => ?_) (fun hf => ?_)
      · refine G_iconst (v := 0) hX dX8_gusts_38 rfl ?_
        refine G_istore (lv' := [some (.ref 117), some (.int p0), some (.int p1), some (.int p2), some (.int p3), some (.int v6), some (.int 0), none, none, none, none]) hX dX8_gusts_39 rfl (Nat.le_of_ble_eq_true rfl) rfl ?_
        refine G_iconst (v := 0) hX dX8_gusts_41 rfl ?_
        refine G_istore (lv' := [some (.ref 117), some (.int p0), some (.int p1), some (.int p2), some (.int p3), some (.int v6), some (.int 0), some (.int 0), none, none, none]) hX dX8_gusts_42 rfl (Nat.le_of_ble_eq_true rfl) rfl ?_
        obtain ⟨e27, v25, v26, h28, hf⟩ := bd3_some hf
        refine G_mask (lv' := [some (.ref 117), some (.int p0), some (.int p1), some (.int p2), some (.int p3), none, some (.int 0), some (.int 0), none, none, none]) [true, true, true, true, true, false, true, true, false, false, false] rfl rfl ?_
        refine lp_G (body := (fun s => fX8_gusts_b44 p0 p1 p2 p3 s.1 s.2 u)) (Gh := fun s => G w X Zm 44 [some (.ref 117), some (.int p0), some (.int p1), some (.int p2), some (.int p3), none, some (.int s.1), some (.int s.2), none, none, none] [] u) (Gx := fun e s => G w X Zm 155 [none, none, none, none, some (.int p3), none, some (.int s.1), none, none, none, none] [] u) (fun s e s' hb K0 K1 => tX8_gusts_b44 (s := s) (e := e) (s' := s') hX   hb K0 K1) fuel ((0 : Int32), (0 : Int32)) (e27, v25, v26) h28 ?_
        refine G_iload hX dX8_gusts_155 rfl ?_
        refine G_istore (lv' := [none, none, none, none, some (.int p3), none, some (.int v25), some (.int v25), none, none, none]) hX dX8_gusts_157 rfl (Nat.le_of_ble_eq_true rfl) rfl ?_
        refine G_sipush (v := 1000) hX dX8_gusts_159 rfl ?_
        refine G_istore (lv' := [none, none, none, none, some (.int p3), none, some (.int v25), some (.int v25), some (.int 1000), none, none]) hX dX8_gusts_162 rfl (Nat.le_of_ble_eq_true rfl) rfl ?_
        obtain ⟨e32, v30, v31, h33, hf⟩ := bd3_some hf
        refine G_mask (lv' := [none, none, none, none, some (.int p3), none, some (.int v25), some (.int v25), some (.int 1000), none, none]) [false, false, false, false, true, false, true, true, true, false, false] rfl rfl ?_
        refine lp_G (body := (fun s => fX8_gusts_b164 p0 p1 p2 p3 v25 s.1 s.2 u)) (Gh := fun s => G w X Zm 164 [none, none, none, none, some (.int p3), none, some (.int v25), some (.int s.1), some (.int s.2), none, none] [] u) (Gx := fun e s => G w X Zm 187 [none, none, none, none, some (.int p3), none, some (.int v25), some (.int s.1), none, none, none] [] u) (fun s e s' hb K0 K1 => tX8_gusts_b164 (s := s) (e := e) (s' := s') hX   hb K0 K1) fuel (v25, (1000 : Int32)) (e32, v30, v31) h33 ?_
        refine G_iload hX dX8_gusts_187 rfl ?_
        refine G_if_ne (tgt := 197) hX dX8_gusts_189 rfl hf (fun hf => ?_) (fun hf => ?_)
        · refine G_sipush (v := 1000) hX dX8_gusts_197 rfl ?_
          refine G_mask (lv' := [none, none, none, none, none, none, none, some (.int v30), none, none, none]) [false, false, false, false, false, false, false, true, false, false, false] rfl rfl ?_
          exact tX8_gusts_j200 hX  hR hf
        · refine G_iload hX dX8_gusts_192 rfl ?_
          refine G_goto (tgt := 200) hX dX8_gusts_194 rfl ?_
          refine G_mask (lv' := [none, none, none, none, none, none, none, some (.int v30), none, none, none]) [false, false, false, false, false, false, false, true, false, false, false] rfl rfl ?_
          exact tX8_gusts_j200 hX  hR hf
      · refine G_iload hX dX8_gusts_35 rfl ?_
        obtain rfl := Option.some.inj hf
        exact G_iret hX hR dX8_gusts_37
    · refine G_iconst (v := (-1)) hX dX8_gusts_20 rfl ?_
      obtain rfl := Option.some.inj hf
      exact G_iret hX hR dX8_gusts_21
noncomputable def fX8_forgivenOnes_j28 (p0 : Nat) (j2 : Int32) (z0 : Int32) (z1 : Int32) (u : Um) : Option (Nat × Int32 × Int32) :=
  nm (z1 + z0) fun v1 =>
  nm (j2 + 1) fun v2 =>
  some (0, v1, v2)
set_option maxHeartbeats 4000000 in
set_option maxRecDepth 100000 in
theorem tX8_forgivenOnes_j28 {w : Wc} {X : MX} (hX : OKc w X RX8 cX8_forgivenOnes 1) {p0 : Nat} {j2 : Int32} {z0 : Int32} {z1 : Int32} (hp0 : kd p0 = 9)  {u : Um} {e : Nat} {s' : Int32 × Int32} (K0 : e = 0 → G w X Zm 4 [some (.ref p0), some (.int s'.1), some (.int s'.2)] [] u) (K1 : e ≠ 0 → G w X Zm 36 [none, some (.int s'.1), none] [] u) (hf : fX8_forgivenOnes_j28 p0 j2 z0 z1 u = some (e, s')) : G w X Zm 28 [some (.ref p0), none, some (.int j2)] [.int z0, .int z1] u := by
  unfold fX8_forgivenOnes_j28 at hf
  refine G_iadd hX dX8_forgivenOnes_28 ?_
  refine G_istore_nF (lvf := fun v1 => [some (.ref p0), some (.int v1), some (.int j2)]) hX dX8_forgivenOnes_29 rfl (Nat.le_of_ble_eq_true rfl) (fun _ => rfl) hf (fun v1 hf => ?_)
  refine G_iincF (lvf := fun v2 => [some (.ref p0), some (.int v1), some (.int v2)]) hX dX8_forgivenOnes_30 rfl rfl rfl (Nat.le_of_ble_eq_true rfl) (fun _ => rfl) hf (fun v2 hf => ?_)
  refine G_goto (tgt := 4) hX dX8_forgivenOnes_33 rfl ?_
  obtain ⟨rfl, rfl⟩ := ret2 hf
  refine G_mask (lv' := [some (.ref p0), some (.int v1), some (.int v2)]) [true, true, true] rfl rfl ?_
  exact K0 rfl
noncomputable def fX8_forgivenOnes_b4 (p0 : Nat) (s1 : Int32) (s2 : Int32) (u : Um) : Option (Nat × Int32 × Int32) :=
  if inb 2 (ln p0) = true then
  if (u.1 p0 (2 : Int32).toNatClampNeg) ≤ s2 then
    some (1, s1, s2)
  else
    if inb (75 + s2) (ln p0) = true then
    if (u.1 p0 ((75 + s2)).toNatClampNeg) = (-4) then
      fX8_forgivenOnes_j28 p0 s2 0 s1 u
    else
      fX8_forgivenOnes_j28 p0 s2 1 s1 u
    else none
  else none
set_option maxHeartbeats 4000000 in
set_option maxRecDepth 100000 in
theorem tX8_forgivenOnes_b4 {w : Wc} {X : MX} (hX : OKc w X RX8 cX8_forgivenOnes 1) {p0 : Nat} (hp0 : kd p0 = 9) {s : Int32 × Int32} {e : Nat} {s' : Int32 × Int32} {u : Um} (hf : fX8_forgivenOnes_b4 p0 s.1 s.2 u = some (e, s')) (K0 : e = 0 → G w X Zm 4 [some (.ref p0), some (.int s'.1), some (.int s'.2)] [] u) (K1 : e ≠ 0 → G w X Zm 36 [none, some (.int s'.1), none] [] u) : G w X Zm 4 [some (.ref p0), some (.int s.1), some (.int s.2)] [] u := by
  obtain ⟨s1, s2⟩ := s
  unfold fX8_forgivenOnes_b4 at hf
  try dsimp only at hf ⊢
  refine G_iload_n hX dX8_forgivenOnes_4 rfl ?_
  refine G_aload_n hX dX8_forgivenOnes_5 rfl ?_
  refine G_iconst (v := 2) hX dX8_forgivenOnes_6 rfl ?_
  refine G_iald (n := (ln p0)) hX hp0 rfl (kd_lt hp0 (Nat.le_of_ble_eq_true rfl)) dX8_forgivenOnes_7 hf (fun hf => ?_)
  refine G_icmp_ge (tgt := 36) hX dX8_forgivenOnes_8 rfl hf (fun hf => ?_) (fun hf => ?_)
  · obtain ⟨rfl, rfl⟩ := ret2 hf
    refine G_mask (lv' := [none, some (.int s1), none]) [false, true, false] rfl rfl ?_
    exact K1 (by decide)
  · refine G_iload_n hX dX8_forgivenOnes_11 rfl ?_
    refine G_aload_n hX dX8_forgivenOnes_12 rfl ?_
    refine G_bipush (v := 75) hX dX8_forgivenOnes_13 rfl ?_
    refine G_iload_n hX dX8_forgivenOnes_15 rfl ?_
    refine G_iadd hX dX8_forgivenOnes_16 ?_
    refine G_iald (n := (ln p0)) hX hp0 rfl (kd_lt hp0 (Nat.le_of_ble_eq_true rfl)) dX8_forgivenOnes_17 hf (fun hf => ?_)
    refine G_bipush (v := (-4)) hX dX8_forgivenOnes_18 rfl ?_
    refine G_icmp_ne (tgt := 27) hX dX8_forgivenOnes_20 rfl hf (fun hf => ?_) (fun hf => ?_)
    · refine G_iconst (v := 1) hX dX8_forgivenOnes_27 rfl ?_
      refine G_mask (lv' := [some (.ref p0), none, some (.int s2)]) [true, false, true] rfl rfl ?_
      exact tX8_forgivenOnes_j28 hX hp0 K0 K1 hf
    · refine G_iconst (v := 0) hX dX8_forgivenOnes_23 rfl ?_
      refine G_goto (tgt := 28) hX dX8_forgivenOnes_24 rfl ?_
      refine G_mask (lv' := [some (.ref p0), none, some (.int s2)]) [true, false, true] rfl rfl ?_
      exact tX8_forgivenOnes_j28 hX hp0 K0 K1 hf
noncomputable def fX8_forgivenOnes (p0 : Nat) (u : Um) : Option Int32 :=
  bd3 (lp (fun s => fX8_forgivenOnes_b4 p0 s.1 s.2 u) fuel ((0 : Int32), (0 : Int32))) fun e5 v3 v4 =>
  some v3
set_option maxHeartbeats 4000000 in
set_option maxRecDepth 100000 in
theorem mX8_forgivenOnes (w : Wc) {p0 : Nat} (hp0 : kd p0 = 9) {u : Um} {r : Int32} (hf : fX8_forgivenOnes p0 u = some r) : MC w 1 qX8_forgivenOnes [.ref p0] u (some (.int r)) u := by
  unfold fX8_forgivenOnes at hf
  refine MC_intro pnX8 (Nat.le_of_ble_eq_true rfl) (fun X hX hR _ _ => ?_)
  have hX : OKc w X RX8 cX8_forgivenOnes 1 := hX
  have hR : RT w X (some .int) 0 0 Pst 133 false (some (.int r)) u := hR
  refine G_eql (lv' := [some (.ref p0), none, none]) rfl ?_
  refine G_iconst (v := 0) hX dX8_forgivenOnes_0 rfl ?_
  refine G_istore_n (lv' := [some (.ref p0), some (.int 0), none]) hX dX8_forgivenOnes_1 rfl (Nat.le_of_ble_eq_true rfl) rfl ?_
  refine G_iconst (v := 0) hX dX8_forgivenOnes_2 rfl ?_
  refine G_istore_n (lv' := [some (.ref p0), some (.int 0), some (.int 0)]) hX dX8_forgivenOnes_3 rfl (Nat.le_of_ble_eq_true rfl) rfl ?_
  obtain ⟨e5, v3, v4, h6, hf⟩ := bd3_some hf
  refine G_mask (lv' := [some (.ref p0), some (.int 0), some (.int 0)]) [true, true, true] rfl rfl ?_
  refine lp_G (body := (fun s => fX8_forgivenOnes_b4 p0 s.1 s.2 u)) (Gh := fun s => G w X Zm 4 [some (.ref p0), some (.int s.1), some (.int s.2)] [] u) (Gx := fun e s => G w X Zm 36 [none, some (.int s.1), none] [] u) (fun s e s' hb K0 K1 => tX8_forgivenOnes_b4 (s := s) (e := e) (s' := s') hX hp0  hb K0 K1) fuel ((0 : Int32), (0 : Int32)) (e5, v3, v4) h6 ?_
  refine G_iload_n hX dX8_forgivenOnes_36 rfl ?_
  obtain rfl := Option.some.inj hf
  exact G_iret hX hR dX8_forgivenOnes_37
noncomputable def fX8_wonOnes_j30 (p0 : Nat) (j2 : Int32) (z0 : Int32) (z1 : Int32) (u : Um) : Option (Nat × Int32 × Int32) :=
  nm (z1 ||| z0) fun v1 =>
  nm (j2 + 1) fun v2 =>
  some (0, v1, v2)
set_option maxHeartbeats 4000000 in
set_option maxRecDepth 100000 in
theorem tX8_wonOnes_j30 {w : Wc} {X : MX} (hX : OKc w X RX8 cX8_wonOnes 1) {p0 : Nat} {j2 : Int32} {z0 : Int32} {z1 : Int32} (hp0 : kd p0 = 9)  {u : Um} {e : Nat} {s' : Int32 × Int32} (K0 : e = 0 → G w X Zm 4 [some (.ref p0), some (.int s'.1), some (.int s'.2)] [] u) (K1 : e ≠ 0 → G w X Zm 38 [none, some (.int s'.1), none] [] u) (hf : fX8_wonOnes_j30 p0 j2 z0 z1 u = some (e, s')) : G w X Zm 30 [some (.ref p0), none, some (.int j2)] [.int z0, .int z1] u := by
  unfold fX8_wonOnes_j30 at hf
  refine G_ior hX dX8_wonOnes_30 ?_
  refine G_istore_nF (lvf := fun v1 => [some (.ref p0), some (.int v1), some (.int j2)]) hX dX8_wonOnes_31 rfl (Nat.le_of_ble_eq_true rfl) (fun _ => rfl) hf (fun v1 hf => ?_)
  refine G_iincF (lvf := fun v2 => [some (.ref p0), some (.int v1), some (.int v2)]) hX dX8_wonOnes_32 rfl rfl rfl (Nat.le_of_ble_eq_true rfl) (fun _ => rfl) hf (fun v2 hf => ?_)
  refine G_goto (tgt := 4) hX dX8_wonOnes_35 rfl ?_
  obtain ⟨rfl, rfl⟩ := ret2 hf
  refine G_mask (lv' := [some (.ref p0), some (.int v1), some (.int v2)]) [true, true, true] rfl rfl ?_
  exact K0 rfl
noncomputable def fX8_wonOnes_b4 (p0 : Nat) (s1 : Int32) (s2 : Int32) (u : Um) : Option (Nat × Int32 × Int32) :=
  if inb 1 (ln p0) = true then
  if (u.1 p0 (1 : Int32).toNatClampNeg) ≤ s2 then
    some (1, s1, s2)
  else
    if inb (45 + s2) (ln p0) = true then
    if (u.1 p0 ((45 + s2)).toNatClampNeg) = (-4) then
      fX8_wonOnes_j30 p0 s2 0 s1 u
    else
      fX8_wonOnes_j30 p0 s2 ((1 : Int32) <<< (s2 &&& 31)) s1 u
    else none
  else none
set_option maxHeartbeats 4000000 in
set_option maxRecDepth 100000 in
theorem tX8_wonOnes_b4 {w : Wc} {X : MX} (hX : OKc w X RX8 cX8_wonOnes 1) {p0 : Nat} (hp0 : kd p0 = 9) {s : Int32 × Int32} {e : Nat} {s' : Int32 × Int32} {u : Um} (hf : fX8_wonOnes_b4 p0 s.1 s.2 u = some (e, s')) (K0 : e = 0 → G w X Zm 4 [some (.ref p0), some (.int s'.1), some (.int s'.2)] [] u) (K1 : e ≠ 0 → G w X Zm 38 [none, some (.int s'.1), none] [] u) : G w X Zm 4 [some (.ref p0), some (.int s.1), some (.int s.2)] [] u := by
  obtain ⟨s1, s2⟩ := s
  unfold fX8_wonOnes_b4 at hf
  try dsimp only at hf ⊢
  refine G_iload_n hX dX8_wonOnes_4 rfl ?_
  refine G_aload_n hX dX8_wonOnes_5 rfl ?_
  refine G_iconst (v := 1) hX dX8_wonOnes_6 rfl ?_
  refine G_iald (n := (ln p0)) hX hp0 rfl (kd_lt hp0 (Nat.le_of_ble_eq_true rfl)) dX8_wonOnes_7 hf (fun hf => ?_)
  refine G_icmp_ge (tgt := 38) hX dX8_wonOnes_8 rfl hf (fun hf => ?_) (fun hf => ?_)
  · obtain ⟨rfl, rfl⟩ := ret2 hf
    refine G_mask (lv' := [none, some (.int s1), none]) [false, true, false] rfl rfl ?_
    exact K1 (by decide)
  · refine G_iload_n hX dX8_wonOnes_11 rfl ?_
    refine G_aload_n hX dX8_wonOnes_12 rfl ?_
    refine G_bipush (v := 45) hX dX8_wonOnes_13 rfl ?_
    refine G_iload_n hX dX8_wonOnes_15 rfl ?_
    refine G_iadd hX dX8_wonOnes_16 ?_
    refine G_iald (n := (ln p0)) hX hp0 rfl (kd_lt hp0 (Nat.le_of_ble_eq_true rfl)) dX8_wonOnes_17 hf (fun hf => ?_)
    refine G_bipush (v := (-4)) hX dX8_wonOnes_18 rfl ?_
    refine G_icmp_ne (tgt := 27) hX dX8_wonOnes_20 rfl hf (fun hf => ?_) (fun hf => ?_)
    · refine G_iconst (v := 1) hX dX8_wonOnes_27 rfl ?_
      refine G_iload_n hX dX8_wonOnes_28 rfl ?_
      refine G_ishl hX dX8_wonOnes_29 ?_
      refine G_mask (lv' := [some (.ref p0), none, some (.int s2)]) [true, false, true] rfl rfl ?_
      exact tX8_wonOnes_j30 hX hp0 K0 K1 hf
    · refine G_iconst (v := 0) hX dX8_wonOnes_23 rfl ?_
      refine G_goto (tgt := 30) hX dX8_wonOnes_24 rfl ?_
      refine G_mask (lv' := [some (.ref p0), none, some (.int s2)]) [true, false, true] rfl rfl ?_
      exact tX8_wonOnes_j30 hX hp0 K0 K1 hf
noncomputable def fX8_wonOnes (p0 : Nat) (u : Um) : Option Int32 :=
  bd3 (lp (fun s => fX8_wonOnes_b4 p0 s.1 s.2 u) fuel ((0 : Int32), (0 : Int32))) fun e5 v3 v4 =>
  some v3
set_option maxHeartbeats 4000000 in
set_option maxRecDepth 100000 in
theorem mX8_wonOnes (w : Wc) {p0 : Nat} (hp0 : kd p0 = 9) {u : Um} {r : Int32} (hf : fX8_wonOnes p0 u = some r) : MC w 1 qX8_wonOnes [.ref p0] u (some (.int r)) u := by
  unfold fX8_wonOnes at hf
  refine MC_intro pnX8 (Nat.le_of_ble_eq_true rfl) (fun X hX hR _ _ => ?_)
  have hX : OKc w X RX8 cX8_wonOnes 1 := hX
  have hR : RT w X (some .int) 0 0 Pst 133 false (some (.int r)) u := hR
  refine G_eql (lv' := [some (.ref p0), none, none]) rfl ?_
  refine G_iconst (v := 0) hX dX8_wonOnes_0 rfl ?_
  refine G_istore_n (lv' := [some (.ref p0), some (.int 0), none]) hX dX8_wonOnes_1 rfl (Nat.le_of_ble_eq_true rfl) rfl ?_
  refine G_iconst (v := 0) hX dX8_wonOnes_2 rfl ?_
  refine G_istore_n (lv' := [some (.ref p0), some (.int 0), some (.int 0)]) hX dX8_wonOnes_3 rfl (Nat.le_of_ble_eq_true rfl) rfl ?_
  obtain ⟨e5, v3, v4, h6, hf⟩ := bd3_some hf
  refine G_mask (lv' := [some (.ref p0), some (.int 0), some (.int 0)]) [true, true, true] rfl rfl ?_
  refine lp_G (body := (fun s => fX8_wonOnes_b4 p0 s.1 s.2 u)) (Gh := fun s => G w X Zm 4 [some (.ref p0), some (.int s.1), some (.int s.2)] [] u) (Gx := fun e s => G w X Zm 38 [none, some (.int s.1), none] [] u) (fun s e s' hb K0 K1 => tX8_wonOnes_b4 (s := s) (e := e) (s' := s') hX hp0  hb K0 K1) fuel ((0 : Int32), (0 : Int32)) (e5, v3, v4) h6 ?_
  refine G_iload_n hX dX8_wonOnes_38 rfl ?_
  obtain rfl := Option.some.inj hf
  exact G_iret hX hR dX8_wonOnes_39
