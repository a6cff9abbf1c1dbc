noncomputable def fX3_takeBack (p0 : Nat) (u : Um) : Option (Int32 × Um) :=
  nm (irm (((u.1 9 1) + 24) - 1) 24) fun v1 =>
  bd1 (fX3_at v1 u) fun o3 =>
  spl o3 0
    (if (u.1 9 2) < 1 then
      some (0, u)
    else
      some (0, u))
  (fun x4 =>
    if (u.1 9 2) < 1 then
      some (0, u)
    else
      bd1 (fX0_copyFrom p0 x4 u) fun u7 =>
      nm (sI u7 9 1 v1) fun u8 =>
      nm (sI u8 9 2 ((u8.1 9 2) - 1)) fun u9 =>
      some (1, u9))
set_option maxHeartbeats 4000000 in
set_option maxRecDepth 100000 in
theorem mX3_takeBack (w : Wc) {p0 : Nat} (hp0 : kd p0 = 0) {u : Um} {r : Int32} {u' : Um} (hf : fX3_takeBack p0 u = some (r, u')) : MC w 2 qX3_takeBack [.ref 9, .ref p0] u (some (.int r)) u' := by
  unfold fX3_takeBack at hf
  refine MC_intro pnX3 (Nat.le_of_ble_eq_true rfl) (fun X hX hR _ _ => ?_)
  have hX : OKc w X RX3 cX3_takeBack 2 := hX
  have hR : RT w X (some .boolean) 0 0 Pst 133 false (some (.int r)) u' := hR
  refine G_eql (lv' := [some (.ref 9), some (.ref p0), none, none]) rfl ?_
  refine G_aload_n hX dX3_takeBack_0 rfl ?_
  refine G_getI (i := 1) hX kK9 (Nat.le_of_ble_eq_true rfl) (Nat.le_of_ble_eq_true rfl) rfl flX3_22 dX3_takeBack_1 ?_
  refine G_bipush (v := 24) hX dX3_takeBack_4 rfl ?_
  refine G_iadd hX dX3_takeBack_6 ?_
  refine G_iconst (v := 1) hX dX3_takeBack_7 rfl ?_
  refine G_isub hX dX3_takeBack_8 ?_
  refine G_bipush (v := 24) hX dX3_takeBack_9 rfl ?_
  refine G_irem hX dX3_takeBack_11 (by decide) ?_
  refine G_istore_nF (lvf := fun v1 => [some (.ref 9), some (.ref p0), some (.int v1), none]) hX dX3_takeBack_12 rfl (Nat.le_of_ble_eq_true rfl) (fun _ => rfl) hf (fun v1 hf => ?_)
  refine G_aload_n hX dX3_takeBack_13 rfl ?_
  refine G_iload_n hX dX3_takeBack_14 rfl ?_
  obtain ⟨o3, h2, hf⟩ := bd1_some hf
  refine G_cV (as := [.int v1]) (rest := []) hX cvX3_25 (mX3_at w h2) (Nat.le_of_ble_eq_true rfl) kK9 (Nat.le_of_ble_eq_true rfl) (Nat.le_of_ble_eq_true rfl) rfl rfl (Nat.le_of_ble_eq_true rfl) dX3_takeBack_15 (st' := va_rf o3 :: []) rfl ?_
  cases o3 with
  | none =>
    replace hf := spl_none hf
    refine G_eqs (st2 := .null :: []) rfl ?_
    refine G_astore_nN (lv' := [some (.ref 9), some (.ref p0), some (.int v1), some (.null)]) hX dX3_takeBack_18 rfl (Nat.le_of_ble_eq_true rfl) rfl ?_
    refine G_aload_n hX dX3_takeBack_19 rfl ?_
    refine G_getI (i := 2) hX kK9 (Nat.le_of_ble_eq_true rfl) (Nat.le_of_ble_eq_true rfl) rfl flX3_18 dX3_takeBack_20 ?_
    refine G_iconst (v := 1) hX dX3_takeBack_23 rfl ?_
    refine G_icmp_lt (tgt := 31) hX dX3_takeBack_24 rfl hf (fun hf => ?_) (fun hf => ?_)
    · refine G_iconst (v := 0) hX dX3_takeBack_31 rfl ?_
      obtain ⟨rfl, rfl⟩ := ret2 hf
      exact G_zret hX hR (by decide) dX3_takeBack_32
    · refine G_aload_nN hX dX3_takeBack_27 rfl ?_
      refine G_ifnonnullN hX dX3_takeBack_28 ?_
      refine G_iconst (v := 0) hX dX3_takeBack_31 rfl ?_
      obtain ⟨rfl, rfl⟩ := ret2 hf
      exact G_zret hX hR (by decide) dX3_takeBack_32
  | some x4 =>
    obtain ⟨h5, hf⟩ := spl_some hf
    refine G_eqs (st2 := .ref x4 :: []) rfl ?_
    refine G_astore_n (lv' := [some (.ref 9), some (.ref p0), some (.int v1), some (.ref x4)]) hX dX3_takeBack_18 rfl (Nat.le_of_ble_eq_true rfl) rfl ?_
    refine G_aload_n hX dX3_takeBack_19 rfl ?_
    refine G_getI (i := 2) hX kK9 (Nat.le_of_ble_eq_true rfl) (Nat.le_of_ble_eq_true rfl) rfl flX3_18 dX3_takeBack_20 ?_
    refine G_iconst (v := 1) hX dX3_takeBack_23 rfl ?_
    refine G_icmp_lt (tgt := 31) hX dX3_takeBack_24 rfl hf (fun hf => ?_) (fun hf => ?_)
    · refine G_iconst (v := 0) hX dX3_takeBack_31 rfl ?_
      obtain ⟨rfl, rfl⟩ := ret2 hf
      exact G_zret hX hR (by decide) dX3_takeBack_32
    · refine G_aload_n hX dX3_takeBack_27 rfl ?_
      refine G_ifnonnull (tgt := 33) hX dX3_takeBack_28 rfl ?_
      refine G_aload_n hX dX3_takeBack_33 rfl ?_
      refine G_aload_n hX dX3_takeBack_34 rfl ?_
      obtain ⟨u7, h6, hf⟩ := bd1_some hf
      refine G_cV (as := [.ref x4]) (rest := []) hX cvX3_29 (mX0_copyFrom w hp0 h5 h6) (Nat.le_of_ble_eq_true rfl) hp0 (Nat.le_of_ble_eq_true rfl) (kd_lt hp0 (Nat.le_of_ble_eq_true rfl)) rfl rfl (Nat.le_of_ble_eq_true rfl) dX3_takeBack_35 (st' := []) rfl ?_
      refine G_aload_n hX dX3_takeBack_38 rfl ?_
      refine G_iload_n hX dX3_takeBack_39 rfl ?_
      refine G_putI (i := 1) hX kK9 (Nat.le_of_ble_eq_true rfl) (Nat.le_of_ble_eq_true rfl) rfl rfl flX3_22 fwX3_1 dX3_takeBack_40 hf (fun u8 hf => ?_)
      refine G_aload_n hX dX3_takeBack_43 rfl ?_
      refine G_dup hX dX3_takeBack_44 rfl ?_
      refine G_getI (i := 2) hX kK9 (Nat.le_of_ble_eq_true rfl) (Nat.le_of_ble_eq_true rfl) rfl flX3_18 dX3_takeBack_45 ?_
      refine G_iconst (v := 1) hX dX3_takeBack_48 rfl ?_
      refine G_isub hX dX3_takeBack_49 ?_
      refine G_putI (i := 2) hX kK9 (Nat.le_of_ble_eq_true rfl) (Nat.le_of_ble_eq_true rfl) rfl rfl flX3_18 fwX3_2 dX3_takeBack_50 hf (fun u9 hf => ?_)
      refine G_iconst (v := 1) hX dX3_takeBack_53 rfl ?_
      obtain ⟨rfl, rfl⟩ := ret2 hf
      exact G_zret hX hR (by decide) dX3_takeBack_54
noncomputable def fX3_acts  (u : Um) : Option Int32 :=
  some (u.1 9 2)
set_option maxHeartbeats 4000000 in
set_option maxRecDepth 100000 in
theorem mX3_acts (w : Wc)   {u : Um} {r : Int32} (hf : fX3_acts  u = some r) : MC w 1 qX3_acts [.ref 9] u (some (.int r)) u := by
  unfold fX3_acts at hf
  refine MC_intro pnX3 (Nat.le_of_ble_eq_true rfl) (fun X hX hR _ _ => ?_)
  have hX : OKc w X RX3 cX3_acts 1 := hX
  have hR : RT w X (some .int) 0 0 Pst 133 false (some (.int r)) u := hR
  refine G_eql (lv' := [some (.ref 9)]) rfl ?_
  refine G_aload_n hX dX3_acts_0 rfl ?_
  refine G_getI (i := 2) hX kK9 (Nat.le_of_ble_eq_true rfl) (Nat.le_of_ble_eq_true rfl) rfl flX3_18 dX3_acts_1 ?_
  obtain rfl := Option.some.inj hf
  exact G_iret hX hR dX3_acts_4
noncomputable def fX7_undo  (u : Um) : Option (Int32 × Um) :=
  bd2 (fX3_takeBack 3 u) fun v2 u3 =>
  if v2 = 0 then
    some ((-4), u3)
  else
    bd1 (fX3_acts  u3) fun v5 =>
    some (v5, u3)
set_option maxHeartbeats 4000000 in
set_option maxRecDepth 100000 in
theorem mX7_undo (w : Wc)   {u : Um} {r : Int32} {u' : Um} (hf : fX7_undo  u = some (r, u')) : MC w 3 qX7_undo [.ref 0] u (some (.int r)) u' := by
  unfold fX7_undo at hf
  refine MC_intro pnX7 (Nat.le_of_ble_eq_true rfl) (fun X hX hR _ _ => ?_)
  have hX : OKc w X RX7 cX7_undo 3 := hX
  have hR : RT w X (some .int) 0 0 Pst 133 false (some (.int r)) u' := hR
  refine G_eql (lv' := [some (.ref 0)]) rfl ?_
  refine G_aload_n hX dX7_undo_0 rfl ?_
  refine G_getR (i := 3) (t := 9) hX kK0 (Nat.le_of_ble_eq_true rfl) (Nat.le_of_ble_eq_true rfl) rfl pK0_3 flX7_29 dX7_undo_1 ?_
  refine G_aload_n hX dX7_undo_4 rfl ?_
  refine G_getR (i := 1) (t := 3) hX kK0 (Nat.le_of_ble_eq_true rfl) (Nat.le_of_ble_eq_true rfl) rfl pK0_1 flX7_19 dX7_undo_5 ?_
  obtain ⟨v2, u3, h1, hf⟩ := bd2_some hf
  refine G_cV (as := [.ref 3]) (rest := []) hX cvX7_142 (mX3_takeBack w kK3 h1) (Nat.le_of_ble_eq_true rfl) kK9 (Nat.le_of_ble_eq_true rfl) (Nat.le_of_ble_eq_true rfl) rfl rfl (Nat.le_of_ble_eq_true rfl) dX7_undo_8 (st' := [.int v2]) rfl ?_
  refine G_if_eq (tgt := 24) hX dX7_undo_11 rfl hf (fun hf => ?_) (fun hf => ?_)
  · refine G_bipush (v := (-4)) hX dX7_undo_24 rfl ?_
    obtain ⟨rfl, rfl⟩ := ret2 hf
    exact G_iret hX hR dX7_undo_26
  · refine G_aload_n hX dX7_undo_14 rfl ?_
    refine G_getR (i := 3) (t := 9) hX kK0 (Nat.le_of_ble_eq_true rfl) (Nat.le_of_ble_eq_true rfl) rfl pK0_3 flX7_29 dX7_undo_15 ?_
    obtain ⟨v5, h4, hf⟩ := bd1_some hf
    refine G_cV (as := []) (rest := []) hX cvX7_146 (mX3_acts w h4) (Nat.le_of_ble_eq_true rfl) kK9 (Nat.le_of_ble_eq_true rfl) (Nat.le_of_ble_eq_true rfl) rfl rfl (Nat.le_of_ble_eq_true rfl) dX7_undo_18 (st' := [.int v5]) rfl ?_
    refine G_goto (tgt := 26) hX dX7_undo_21 rfl ?_
    obtain ⟨rfl, rfl⟩ := ret2 hf
    exact G_iret hX hR dX7_undo_26
noncomputable def fX7_imageAt (p0 : Int32) (u : Um) : Option (Option Nat) :=
  if p0 < 0 then
    some none
  else
    if p0 < 2 then
      if inb p0 2 = true then
      some (some (84 + 3 * p0.toNatClampNeg))
      else none
    else
      some none
set_option maxHeartbeats 4000000 in
set_option maxRecDepth 100000 in
theorem mX7_imageAt (w : Wc) {p0 : Int32}  {u : Um} {r : Option Nat} (hf : fX7_imageAt p0 u = some r) : MC w 1 qX7_imageAt [.ref 0, .int p0] u (some (va_rf r)) u := by
  unfold fX7_imageAt at hf
  refine MC_intro pnX7 (Nat.le_of_ble_eq_true rfl) (fun X hX hR _ _ => ?_)
  have hX : OKc w X RX7 cX7_imageAt 1 := hX
  have hR : RT w X (some (.object "RivalSorry$Coast")) 0 0 Pst 133 false (some (va_rf r)) u := hR
  refine G_eql (lv' := [some (.ref 0), some (.int p0)]) rfl ?_
  refine G_iload_n hX dX7_imageAt_0 rfl ?_
  refine G_if_lt (tgt := 13) hX dX7_imageAt_1 rfl hf (fun hf => ?_) (fun hf => ?_)
  · refine G_null hX dX7_imageAt_13 ?_
    refine G_goto (tgt := 23) hX dX7_imageAt_14 rfl ?_
    obtain rfl := Option.some.inj hf
    exact G_aretN hX hR dX7_imageAt_23
  · refine G_iload_n hX dX7_imageAt_4 rfl ?_
    refine G_aload_n hX dX7_imageAt_5 rfl ?_
    refine G_getR (i := 4) (t := 83) hX kK0 (Nat.le_of_ble_eq_true rfl) (Nat.le_of_ble_eq_true rfl) rfl pK0_4 flX7_33 dX7_imageAt_6 ?_
    refine G_alenC (n := 2) (v := 2) hX kK83 lK83 (Nat.le_of_ble_eq_true rfl) dX7_imageAt_9 rfl ?_
    refine G_icmp_lt (tgt := 17) hX dX7_imageAt_10 rfl hf (fun hf => ?_) (fun hf => ?_)
    · refine G_aload_n hX dX7_imageAt_17 rfl ?_
      refine G_getR (i := 4) (t := 83) hX kK0 (Nat.le_of_ble_eq_true rfl) (Nat.le_of_ble_eq_true rfl) rfl pK0_4 flX7_33 dX7_imageAt_18 ?_
      refine G_iload_n hX dX7_imageAt_21 rfl ?_
      refine G_aaldC (n := 2) (t := (84 + 3 * p0.toNatClampNeg)) hX kK83 lK83 (Nat.le_of_ble_eq_true rfl) (PaC kK83 lK83) dX7_imageAt_22 hf (fun hf => ?_)
      obtain rfl := Option.some.inj hf
      exact G_aret hX hR dX7_imageAt_23
    · refine G_null hX dX7_imageAt_13 ?_
      refine G_goto (tgt := 23) hX dX7_imageAt_14 rfl ?_
      obtain rfl := Option.some.inj hf
      exact G_aretN hX hR dX7_imageAt_23
noncomputable def fX7_image (p0 : Int32) (u : Um) : Option (Int32 × Um) :=
  bd1 (fX7_imageAt p0 u) fun o2 =>
  spl o2 0
    (some ((-1), u))
  (fun x3 =>
    bd1 (fX0_stands 3 u) fun v6 =>
    if v6 = 0 then
      some ((-2), u)
    else
      bd1 (fX0_copyFrom x3 3 u) fun u8 =>
      bd1 (fX0_day 3 u8) fun v10 =>
      some (v10, u8))
set_option maxHeartbeats 4000000 in
set_option maxRecDepth 100000 in
theorem mX7_image (w : Wc) {p0 : Int32}  {u : Um} {r : Int32} {u' : Um} (hf : fX7_image p0 u = some (r, u')) : MC w 2 qX7_image [.ref 0, .int p0] u (some (.int r)) u' := by
  unfold fX7_image at hf
  refine MC_intro pnX7 (Nat.le_of_ble_eq_true rfl) (fun X hX hR _ _ => ?_)
  have hX : OKc w X RX7 cX7_image 2 := hX
  have hR : RT w X (some .int) 0 0 Pst 133 false (some (.int r)) u' := hR
  refine G_eql (lv' := [some (.ref 0), some (.int p0), none]) rfl ?_
  refine G_aload_n hX dX7_image_0 rfl ?_
  refine G_iload_n hX dX7_image_1 rfl ?_
  obtain ⟨o2, h1, hf⟩ := bd1_some hf
  refine G_cV (as := [.int p0]) (rest := []) hX cvX7_149 (mX7_imageAt w h1) (Nat.le_of_ble_eq_true rfl) kK0 (Nat.le_of_ble_eq_true rfl) (Nat.le_of_ble_eq_true rfl) rfl rfl (Nat.le_of_ble_eq_true rfl) dX7_image_2 (st' := va_rf o2 :: []) rfl ?_
  cases o2 with
  | none =>
    replace hf := spl_none hf
    refine G_eqs (st2 := .null :: []) rfl ?_
    refine G_astore_nN (lv' := [some (.ref 0), some (.int p0), some (.null)]) hX dX7_image_5 rfl (Nat.le_of_ble_eq_true rfl) rfl ?_
    refine G_aload_nN hX dX7_image_6 rfl ?_
    refine G_ifnonnullN hX dX7_image_7 ?_
    refine G_iconst (v := (-1)) hX dX7_image_10 rfl ?_
    obtain ⟨rfl, rfl⟩ := ret2 hf
    exact G_iret hX hR dX7_image_11
  | some x3 =>
    obtain ⟨h4, hf⟩ := spl_some hf
    refine G_eqs (st2 := .ref x3 :: []) rfl ?_
    refine G_astore_n (lv' := [some (.ref 0), some (.int p0), some (.ref x3)]) hX dX7_image_5 rfl (Nat.le_of_ble_eq_true rfl) rfl ?_
    refine G_aload_n hX dX7_image_6 rfl ?_
    refine G_ifnonnull (tgt := 12) hX dX7_image_7 rfl ?_
    refine G_aload_n hX dX7_image_12 rfl ?_
    refine G_getR (i := 1) (t := 3) hX kK0 (Nat.le_of_ble_eq_true rfl) (Nat.le_of_ble_eq_true rfl) rfl pK0_1 flX7_19 dX7_image_13 ?_
    obtain ⟨v6, h5, hf⟩ := bd1_some hf
    refine G_cV (as := []) (rest := []) hX cvX7_135 (mX0_stands w kK3 h5) (Nat.le_of_ble_eq_true rfl) kK3 (Nat.le_of_ble_eq_true rfl) (Nat.le_of_ble_eq_true rfl) rfl rfl (Nat.le_of_ble_eq_true rfl) dX7_image_16 (st' := [.int v6]) rfl ?_
    refine G_if_ne (tgt := 25) hX dX7_image_19 rfl hf (fun hf => ?_) (fun hf => ?_)
    · refine G_aload_n hX dX7_image_25 rfl ?_
      refine G_aload_n hX dX7_image_26 rfl ?_
      refine G_getR (i := 1) (t := 3) hX kK0 (Nat.le_of_ble_eq_true rfl) (Nat.le_of_ble_eq_true rfl) rfl pK0_1 flX7_19 dX7_image_27 ?_
      obtain ⟨u8, h7, hf⟩ := bd1_some hf
      refine G_cV (as := [.ref 3]) (rest := []) hX cvX7_80 (mX0_copyFrom w h4 kK3 h7) (Nat.le_of_ble_eq_true rfl) h4 (Nat.le_of_ble_eq_true rfl) (kd_lt h4 (Nat.le_of_ble_eq_true rfl)) rfl rfl (Nat.le_of_ble_eq_true rfl) dX7_image_30 (st' := []) rfl ?_
      refine G_aload_n hX dX7_image_33 rfl ?_
      refine G_getR (i := 1) (t := 3) hX kK0 (Nat.le_of_ble_eq_true rfl) (Nat.le_of_ble_eq_true rfl) rfl pK0_1 flX7_19 dX7_image_34 ?_
      obtain ⟨v10, h9, hf⟩ := bd1_some hf
      refine G_cV (as := []) (rest := []) hX cvX7_118 (mX0_day w kK3 h9) (Nat.le_of_ble_eq_true rfl) kK3 (Nat.le_of_ble_eq_true rfl) (Nat.le_of_ble_eq_true rfl) rfl rfl (Nat.le_of_ble_eq_true rfl) dX7_image_37 (st' := [.int v10]) rfl ?_
      obtain ⟨rfl, rfl⟩ := ret2 hf
      exact G_iret hX hR dX7_image_40
    · refine G_bipush (v := (-2)) hX dX7_image_22 rfl ?_
      obtain ⟨rfl, rfl⟩ := ret2 hf
      exact G_iret hX hR dX7_image_24
noncomputable def fX7_restore (p0 : Int32) (u : Um) : Option (Int32 × Um) :=
  bd1 (fX7_imageAt p0 u) fun o2 =>
  spl o2 0
    (some ((-1), u))
  (fun x3 =>
    bd1 (fX0_stands x3 u) fun v6 =>
    if v6 = 0 then
      some ((-2), u)
    else
      bd1 (fX0_copyFrom 3 x3 u) fun u8 =>
      bd1 (fX3_forget  u8) fun u10 =>
      bd1 (fX0_day 3 u10) fun v12 =>
      some (v12, u10))
set_option maxHeartbeats 4000000 in
set_option maxRecDepth 100000 in
theorem mX7_restore (w : Wc) {p0 : Int32}  {u : Um} {r : Int32} {u' : Um} (hf : fX7_restore p0 u = some (r, u')) : MC w 2 qX7_restore [.ref 0, .int p0] u (some (.int r)) u' := by
  unfold fX7_restore at hf
  refine MC_intro pnX7 (Nat.le_of_ble_eq_true rfl) (fun X hX hR _ _ => ?_)
  have hX : OKc w X RX7 cX7_restore 2 := hX
  have hR : RT w X (some .int) 0 0 Pst 133 false (some (.int r)) u' := hR
  refine G_eql (lv' := [some (.ref 0), some (.int p0), none]) rfl ?_
  refine G_aload_n hX dX7_restore_0 rfl ?_
  refine G_iload_n hX dX7_restore_1 rfl ?_
  obtain ⟨o2, h1, hf⟩ := bd1_some hf
  refine G_cV (as := [.int p0]) (rest := []) hX cvX7_149 (mX7_imageAt w h1) (Nat.le_of_ble_eq_true rfl) kK0 (Nat.le_of_ble_eq_true rfl) (Nat.le_of_ble_eq_true rfl) rfl rfl (Nat.le_of_ble_eq_true rfl) dX7_restore_2 (st' := va_rf o2 :: []) rfl ?_
  cases o2 with
  | none =>
    replace hf := spl_none hf
    refine G_eqs (st2 := .null :: []) rfl ?_
    refine G_astore_nN (lv' := [some (.ref 0), some (.int p0), some (.null)]) hX dX7_restore_5 rfl (Nat.le_of_ble_eq_true rfl) rfl ?_
    refine G_aload_nN hX dX7_restore_6 rfl ?_
    refine G_ifnonnullN hX dX7_restore_7 ?_
    refine G_iconst (v := (-1)) hX dX7_restore_10 rfl ?_
    obtain ⟨rfl, rfl⟩ := ret2 hf
    exact G_iret hX hR dX7_restore_11
  | some x3 =>
    obtain ⟨h4, hf⟩ := spl_some hf
    refine G_eqs (st2 := .ref x3 :: []) rfl ?_
    refine G_astore_n (lv' := [some (.ref 0), some (.int p0), some (.ref x3)]) hX dX7_restore_5 rfl (Nat.le_of_ble_eq_true rfl) rfl ?_
    refine G_aload_n hX dX7_restore_6 rfl ?_
    refine G_ifnonnull (tgt := 12) hX dX7_restore_7 rfl ?_
    refine G_aload_n hX dX7_restore_12 rfl ?_
    obtain ⟨v6, h5, hf⟩ := bd1_some hf
    refine G_cV (as := []) (rest := []) hX cvX7_135 (mX0_stands w h4 h5) (Nat.le_of_ble_eq_true rfl) h4 (Nat.le_of_ble_eq_true rfl) (kd_lt h4 (Nat.le_of_ble_eq_true rfl)) rfl rfl (Nat.le_of_ble_eq_true rfl) dX7_restore_13 (st' := [.int v6]) rfl ?_
    refine G_if_ne (tgt := 22) hX dX7_restore_16 rfl hf (fun hf => ?_) (fun hf => ?_)
    · refine G_aload_n hX dX7_restore_22 rfl ?_
      refine G_getR (i := 1) (t := 3) hX kK0 (Nat.le_of_ble_eq_true rfl) (Nat.le_of_ble_eq_true rfl) rfl pK0_1 flX7_19 dX7_restore_23 ?_
      refine G_aload_n hX dX7_restore_26 rfl ?_
      obtain ⟨u8, h7, hf⟩ := bd1_some hf
      refine G_cV (as := [.ref x3]) (rest := []) hX cvX7_80 (mX0_copyFrom w kK3 h4 h7) (Nat.le_of_ble_eq_true rfl) kK3 (Nat.le_of_ble_eq_true rfl) (Nat.le_of_ble_eq_true rfl) rfl rfl (Nat.le_of_ble_eq_true rfl) dX7_restore_27 (st' := []) rfl ?_
      refine G_aload_n hX dX7_restore_30 rfl ?_
      refine G_getR (i := 3) (t := 9) hX kK0 (Nat.le_of_ble_eq_true rfl) (Nat.le_of_ble_eq_true rfl) rfl pK0_3 flX7_29 dX7_restore_31 ?_
      obtain ⟨u10, h9, hf⟩ := bd1_some hf
      refine G_cV (as := []) (rest := []) hX cvX7_84 (mX3_forget w h9) (Nat.le_of_ble_eq_true rfl) kK9 (Nat.le_of_ble_eq_true rfl) (Nat.le_of_ble_eq_true rfl) rfl rfl (Nat.le_of_ble_eq_true rfl) dX7_restore_34 (st' := []) rfl ?_
      refine G_aload_n hX dX7_restore_37 rfl ?_
      refine G_getR (i := 1) (t := 3) hX kK0 (Nat.le_of_ble_eq_true rfl) (Nat.le_of_ble_eq_true rfl) rfl pK0_1 flX7_19 dX7_restore_38 ?_
      obtain ⟨v12, h11, hf⟩ := bd1_some hf
      refine G_cV (as := []) (rest := []) hX cvX7_118 (mX0_day w kK3 h11) (Nat.le_of_ble_eq_true rfl) kK3 (Nat.le_of_ble_eq_true rfl) (Nat.le_of_ble_eq_true rfl) rfl rfl (Nat.le_of_ble_eq_true rfl) dX7_restore_41 (st' := [.int v12]) rfl ?_
      obtain ⟨rfl, rfl⟩ := ret2 hf
      exact G_iret hX hR dX7_restore_44
    · refine G_bipush (v := (-2)) hX dX7_restore_19 rfl ?_
      obtain ⟨rfl, rfl⟩ := ret2 hf
      exact G_iret hX hR dX7_restore_21
noncomputable def fX7_said (p0 : Int32) (p1 : Int32) (u : Um) : Option Int32 :=
  bd1 (fX0_hasWrong 3 p0 u) fun v2 =>
  if v2 = 0 then
    some (-1)
  else
    bd1 (fX0_hasPerson 3 p1 u) fun v4 =>
    if v4 = 0 then
      some (-1)
    else
      bd1 (fX0_saying 3 p0 p1 u) fun v6 =>
      some v6
set_option maxHeartbeats 4000000 in
set_option maxRecDepth 100000 in
theorem mX7_said (w : Wc) {p0 : Int32} {p1 : Int32}  {u : Um} {r : Int32} (hf : fX7_said p0 p1 u = some r) : MC w 4 qX7_said [.ref 0, .int p0, .int p1] u (some (.int r)) u := by
  unfold fX7_said at hf
  refine MC_intro pnX7 (Nat.le_of_ble_eq_true rfl) (fun X hX hR _ _ => ?_)
  have hX : OKc w X RX7 cX7_said 4 := hX
  have hR : RT w X (some .int) 0 0 Pst 133 false (some (.int r)) u := hR
  refine G_eql (lv' := [some (.ref 0), some (.int p0), some (.int p1)]) rfl ?_
  refine G_aload_n hX dX7_said_0 rfl ?_
  refine G_getR (i := 1) (t := 3) hX kK0 (Nat.le_of_ble_eq_true rfl) (Nat.le_of_ble_eq_true rfl) rfl pK0_1 flX7_19 dX7_said_1 ?_
  refine G_iload_n hX dX7_said_4 rfl ?_
  obtain ⟨v2, h1, hf⟩ := bd1_some hf
  refine G_cV (as := [.int p0]) (rest := []) hX cvX7_105 (mX0_hasWrong w kK3 h1) (Nat.le_of_ble_eq_true rfl) kK3 (Nat.le_of_ble_eq_true rfl) (Nat.le_of_ble_eq_true rfl) rfl rfl (Nat.le_of_ble_eq_true rfl) dX7_said_5 (st' := [.int v2]) rfl ?_
  refine G_if_eq (tgt := 22) hX dX7_said_8 rfl hf (fun hf => ?_) (fun hf => ?_)
  · refine G_iconst (v := (-1)) hX dX7_said_22 rfl ?_
    obtain rfl := Option.some.inj hf
    exact G_iret hX hR dX7_said_23
  · refine G_aload_n hX dX7_said_11 rfl ?_
    refine G_getR (i := 1) (t := 3) hX kK0 (Nat.le_of_ble_eq_true rfl) (Nat.le_of_ble_eq_true rfl) rfl pK0_1 flX7_19 dX7_said_12 ?_
    refine G_iload_n hX dX7_said_15 rfl ?_
    obtain ⟨v4, h3, hf⟩ := bd1_some hf
    refine G_cV (as := [.int p1]) (rest := []) hX cvX7_90 (mX0_hasPerson w kK3 h3) (Nat.le_of_ble_eq_true rfl) kK3 (Nat.le_of_ble_eq_true rfl) (Nat.le_of_ble_eq_true rfl) rfl rfl (Nat.le_of_ble_eq_true rfl) dX7_said_16 (st' := [.int v4]) rfl ?_
    refine G_if_ne (tgt := 24) hX dX7_said_19 rfl hf (fun hf => ?_) (fun hf => ?_)
    · refine G_aload_n hX dX7_said_24 rfl ?_
      refine G_getR (i := 1) (t := 3) hX kK0 (Nat.le_of_ble_eq_true rfl) (Nat.le_of_ble_eq_true rfl) rfl pK0_1 flX7_19 dX7_said_25 ?_
      refine G_iload_n hX dX7_said_28 rfl ?_
      refine G_iload_n hX dX7_said_29 rfl ?_
      obtain ⟨v6, h5, hf⟩ := bd1_some hf
      refine G_cV (as := [.int p0, .int p1]) (rest := []) hX cvX7_153 (mX0_saying w kK3 h5) (Nat.le_of_ble_eq_true rfl) kK3 (Nat.le_of_ble_eq_true rfl) (Nat.le_of_ble_eq_true rfl) rfl rfl (Nat.le_of_ble_eq_true rfl) dX7_said_30 (st' := [.int v6]) rfl ?_
      obtain rfl := Option.some.inj hf
      exact G_iret hX hR dX7_said_33
    · refine G_iconst (v := (-1)) hX dX7_said_22 rfl ?_
      obtain rfl := Option.some.inj hf
      exact G_iret hX hR dX7_said_23
noncomputable def fX7_comes (p0 : Int32) (p1 : Int32) (u : Um) : Option Int32 :=
  bd1 (fX7_refuseCarrying p0 p1 u) fun v2 =>
  if v2 = 0 then
    bd1 (fX0_outcome 3 p0 p1 u) fun v4 =>
    some v4
  else
    some v2
set_option maxHeartbeats 4000000 in
set_option maxRecDepth 100000 in
theorem mX7_comes (w : Wc) {p0 : Int32} {p1 : Int32}  {u : Um} {r : Int32} (hf : fX7_comes p0 p1 u = some r) : MC w 5 qX7_comes [.ref 0, .int p0, .int p1] u (some (.int r)) u := by
  unfold fX7_comes at hf
  refine MC_intro pnX7 (Nat.le_of_ble_eq_true rfl) (fun X hX hR _ _ => ?_)
  have hX : OKc w X RX7 cX7_comes 5 := hX
  have hR : RT w X (some .int) 0 0 Pst 133 false (some (.int r)) u := hR
  refine G_eql (lv' := [some (.ref 0), some (.int p0), some (.int p1), none]) rfl ?_
  refine G_aload_n hX dX7_comes_0 rfl ?_
  refine G_iload_n hX dX7_comes_1 rfl ?_
  refine G_iload_n hX dX7_comes_2 rfl ?_
  obtain ⟨v2, h1, hf⟩ := bd1_some hf
  refine G_cV (as := [.int p0, .int p1]) (rest := []) hX cvX7_115 (mX7_refuseCarrying w h1) (Nat.le_of_ble_eq_true rfl) kK0 (Nat.le_of_ble_eq_true rfl) (Nat.le_of_ble_eq_true rfl) rfl rfl (Nat.le_of_ble_eq_true rfl) dX7_comes_3 (st' := [.int v2]) rfl ?_
  refine G_istore_n (lv' := [some (.ref 0), some (.int p0), some (.int p1), some (.int v2)]) hX dX7_comes_6 rfl (Nat.le_of_ble_eq_true rfl) rfl ?_
  refine G_iload_n hX dX7_comes_7 rfl ?_
  refine G_if_eq (tgt := 15) hX dX7_comes_8 rfl hf (fun hf => ?_) (fun hf => ?_)
  · refine G_aload_n hX dX7_comes_15 rfl ?_
    refine G_getR (i := 1) (t := 3) hX kK0 (Nat.le_of_ble_eq_true rfl) (Nat.le_of_ble_eq_true rfl) rfl pK0_1 flX7_19 dX7_comes_16 ?_
    refine G_iload_n hX dX7_comes_19 rfl ?_
    refine G_iload_n hX dX7_comes_20 rfl ?_
    obtain ⟨v4, h3, hf⟩ := bd1_some hf
    refine G_cV (as := [.int p0, .int p1]) (rest := []) hX cvX7_156 (mX0_outcome w kK3 h3) (Nat.le_of_ble_eq_true rfl) kK3 (Nat.le_of_ble_eq_true rfl) (Nat.le_of_ble_eq_true rfl) rfl rfl (Nat.le_of_ble_eq_true rfl) dX7_comes_21 (st' := [.int v4]) rfl ?_
    obtain rfl := Option.some.inj hf
    exact G_iret hX hR dX7_comes_24
  · refine G_iload_n hX dX7_comes_11 rfl ?_
    refine G_goto (tgt := 24) hX dX7_comes_12 rfl ?_
    obtain rfl := Option.some.inj hf
    exact G_iret hX hR dX7_comes_24
noncomputable def fX0_leastSkill_b2 (a : Nat) (p0 : Int32) (p1 : Int32) (s3 : Int32) (u : Um) : Option (Nat × Int32) :=
  if 9 < s3 then
    some (1, s3)
  else
    bd1 (fX0_trait a p1 0 u) fun v2 =>
    bd1 (fX0_trait a p1 6 u) fun v4 =>
    bd1 (fX0_milesOf a p0 p1 u) fun v6 =>
    bd1 (fX7_sayingOf v2 s3 v4 v6 u) fun v8 =>
    bd1 (fX0_need a p0 u) fun v10 =>
    if v8 < v10 then
      nm (s3 + 1) fun v11 =>
      some (0, v11)
    else
      some (2, s3)
set_option maxHeartbeats 4000000 in
set_option maxRecDepth 100000 in
theorem tX0_leastSkill_b2 {w : Wc} {X : MX} (hX : OKc w X RX0 cX0_leastSkill 3) {a : Nat} {p0 : Int32} {p1 : Int32} (ha : kd a = 0) {s : Int32} {e : Nat} {s' : Int32} {u : Um} (hf : fX0_leastSkill_b2 a p0 p1 s u = some (e, s')) (K0 : e = 0 → G w X Zm 2 [some (.ref a), some (.int p0), some (.int p1), some (.int s')] [] u) (K1 : e ≠ 0 → if e = 1 then G w X Zm 47 [none, none, none, none] [] u else G w X Zm 39 [none, none, none, some (.int s')] [] u) : G w X Zm 2 [some (.ref a), some (.int p0), some (.int p1), some (.int s)] [] u := by
  obtain ⟨s3, rfl⟩ : ∃ z, z = s := ⟨_, rfl⟩
  unfold fX0_leastSkill_b2 at hf
  try dsimp only at hf ⊢
  refine G_iload_n hX dX0_leastSkill_2 rfl ?_
  refine G_bipush (v := 9) hX dX0_leastSkill_3 rfl ?_
  refine G_icmp_gt (tgt := 47) hX dX0_leastSkill_5 rfl hf (fun hf => ?_) (fun hf => ?_)
  · obtain ⟨rfl, rfl⟩ := ret2 hf
    refine G_mask (lv' := [none, none, none, none]) [false, false, false, false] rfl rfl ?_
    exact gx_hit (K1 (by decide))
  · refine G_aload_n hX dX0_leastSkill_8 rfl ?_
    refine G_iload_n hX dX0_leastSkill_9 rfl ?_
    refine G_iconst (v := 0) hX dX0_leastSkill_10 rfl ?_
    obtain ⟨v2, h1, hf⟩ := bd1_some hf
    refine G_cV (as := [.int p1, .int 0]) (rest := []) hX cvX0_45 (mX0_trait w ha h1) (Nat.le_of_ble_eq_true rfl) ha (Nat.le_of_ble_eq_true rfl) (kd_lt ha (Nat.le_of_ble_eq_true rfl)) rfl rfl (Nat.le_of_ble_eq_true rfl) dX0_leastSkill_11 (st' := [.int v2]) rfl ?_
    refine G_iload_n hX dX0_leastSkill_14 rfl ?_
    refine G_aload_n hX dX0_leastSkill_15 rfl ?_
    refine G_iload_n hX dX0_leastSkill_16 rfl ?_
    refine G_bipush (v := 6) hX dX0_leastSkill_17 rfl ?_
    obtain ⟨v4, h3, hf⟩ := bd1_some hf
    refine G_cV (as := [.int p1, .int 6]) (rest := [.int s3, .int v2]) hX cvX0_45 (mX0_trait w ha h3) (Nat.le_of_ble_eq_true rfl) ha (Nat.le_of_ble_eq_true rfl) (kd_lt ha (Nat.le_of_ble_eq_true rfl)) rfl rfl (Nat.le_of_ble_eq_true rfl) dX0_leastSkill_19 (st' := [.int v4, .int s3, .int v2]) rfl ?_
    refine G_aload_n hX dX0_leastSkill_22 rfl ?_
    refine G_iload_n hX dX0_leastSkill_23 rfl ?_
    refine G_iload_n hX dX0_leastSkill_24 rfl ?_
    obtain ⟨v6, h5, hf⟩ := bd1_some hf
    refine G_cV (as := [.int p0, .int p1]) (rest := [.int v4, .int s3, .int v2]) hX cvX0_54 (mX0_milesOf w ha h5) (Nat.le_of_ble_eq_true rfl) ha (Nat.le_of_ble_eq_true rfl) (kd_lt ha (Nat.le_of_ble_eq_true rfl)) rfl rfl (Nat.le_of_ble_eq_true rfl) dX0_leastSkill_25 (st' := [.int v6, .int v4, .int s3, .int v2]) rfl ?_
    obtain ⟨v8, h7, hf⟩ := bd1_some hf
    refine G_cN (as := [.int v2, .int s3, .int v4, .int v6]) (rest := []) hX cnX0_57 (mX7_sayingOf w h7) (Nat.le_of_ble_eq_true rfl) rfl rfl (Nat.le_of_ble_eq_true rfl) dX0_leastSkill_28 (st' := [.int v8]) rfl ?_
    refine G_aload_n hX dX0_leastSkill_31 rfl ?_
    refine G_iload_n hX dX0_leastSkill_32 rfl ?_
    obtain ⟨v10, h9, hf⟩ := bd1_some hf
    refine G_cV (as := [.int p0]) (rest := [.int v8]) hX cvX0_78 (mX0_need w ha h9) (Nat.le_of_ble_eq_true rfl) ha (Nat.le_of_ble_eq_true rfl) (kd_lt ha (Nat.le_of_ble_eq_true rfl)) rfl rfl (Nat.le_of_ble_eq_true rfl) dX0_leastSkill_33 (st' := [.int v10, .int v8]) rfl ?_
    refine G_icmp_lt (tgt := 41) hX dX0_leastSkill_36 rfl hf (fun hf => ?_) (fun hf => ?_)
    · refine G_iincF (lvf := fun v11 => [some (.ref a), some (.int p0), some (.int p1), some (.int v11)]) hX dX0_leastSkill_41 rfl rfl rfl (Nat.le_of_ble_eq_true rfl) (fun _ => rfl) hf (fun v11 hf => ?_)
      refine G_goto (tgt := 2) hX dX0_leastSkill_44 rfl ?_
      obtain ⟨rfl, rfl⟩ := ret2 hf
      refine G_mask (lv' := [some (.ref a), some (.int p0), some (.int p1), some (.int v11)]) [true, true, true, true] rfl rfl ?_
      exact K0 rfl
    · obtain ⟨rfl, rfl⟩ := ret2 hf
      refine G_mask (lv' := [none, none, none, some (.int s3)]) [false, false, false, true] rfl rfl ?_
      exact gx_miss (by decide) (K1 (by decide))
noncomputable def fX0_leastSkill (a : Nat) (p0 : Int32) (p1 : Int32) (u : Um) : Option Int32 :=
  bd2 (lp (fun s => fX0_leastSkill_b2 a p0 p1 s u) fuel (0 : Int32)) fun e13 v12 =>
  if e13 = 1 then
    some (-4)
  else
  some v12
set_option maxHeartbeats 4000000 in
set_option maxRecDepth 100000 in
theorem mX0_leastSkill (w : Wc) {a : Nat} {p0 : Int32} {p1 : Int32} (ha : kd a = 0) {u : Um} {r : Int32} (hf : fX0_leastSkill a p0 p1 u = some r) : MC w 3 qX0_leastSkill [.ref a, .int p0, .int p1] u (some (.int r)) u := by
  unfold fX0_leastSkill at hf
  refine MC_intro pnX0 (Nat.le_of_ble_eq_true rfl) (fun X hX hR _ _ => ?_)
  have hX : OKc w X RX0 cX0_leastSkill 3 := hX
  have hR : RT w X (some .int) 0 0 Pst 133 false (some (.int r)) u := hR
  refine G_eql (lv' := [some (.ref a), some (.int p0), some (.int p1), none]) rfl ?_
  refine G_iconst (v := 0) hX dX0_leastSkill_0 rfl ?_
  refine G_istore_n (lv' := [some (.ref a), some (.int p0), some (.int p1), some (.int 0)]) hX dX0_leastSkill_1 rfl (Nat.le_of_ble_eq_true rfl) rfl ?_
  obtain ⟨e13, v12, h14, hf⟩ := bd2_some hf
  refine G_mask (lv' := [some (.ref a), some (.int p0), some (.int p1), some (.int 0)]) [true, true, true, true] rfl rfl ?_
  refine lp_G (body := (fun s => fX0_leastSkill_b2 a p0 p1 s u)) (Gh := fun s => G w X Zm 2 [some (.ref a), some (.int p0), some (.int p1), some (.int s)] [] u) (Gx := fun e s => if e = 1 then G w X Zm 47 [none, none, none, none] [] u else G w X Zm 39 [none, none, none, some (.int s)] [] u) (fun s e s' hb K0 K1 => tX0_leastSkill_b2 (s := s) (e := e) (s' := s') hX ha  hb K0 K1) fuel (0 : Int32) (e13, v12) h14 ?_
  refine gx2 hf (fun hf => ?_) (fun hf => ?_)
  · refine G_bipush (v := (-4)) hX dX0_leastSkill_47 rfl ?_
    obtain rfl := Option.some.inj hf
    exact G_iret hX hR dX0_leastSkill_49
  refine G_iload_n hX dX0_leastSkill_39 rfl ?_
  obtain rfl := Option.some.inj hf
  exact G_iret hX hR dX0_leastSkill_40
noncomputable def fX7_least (p0 : Int32) (p1 : Int32) (u : Um) : Option Int32 :=
  bd1 (fX7_refuseCarrying p0 p1 u) fun v2 =>
  if v2 = 0 then
    bd1 (fX0_leastSkill 3 p0 p1 u) fun v4 =>
    some v4
  else
    some v2
set_option maxHeartbeats 4000000 in
set_option maxRecDepth 100000 in
theorem mX7_least (w : Wc) {p0 : Int32} {p1 : Int32}  {u : Um} {r : Int32} (hf : fX7_least p0 p1 u = some r) : MC w 5 qX7_least [.ref 0, .int p0, .int p1] u (some (.int r)) u := by
  unfold fX7_least at hf
  refine MC_intro pnX7 (Nat.le_of_ble_eq_true rfl) (fun X hX hR _ _ => ?_)
  have hX : OKc w X RX7 cX7_least 5 := hX
  have hR : RT w X (some .int) 0 0 Pst 133 false (some (.int r)) u := hR
  refine G_eql (lv' := [some (.ref 0), some (.int p0), some (.int p1), none]) rfl ?_
  refine G_aload_n hX dX7_least_0 rfl ?_
  refine G_iload_n hX dX7_least_1 rfl ?_
  refine G_iload_n hX dX7_least_2 rfl ?_
  obtain ⟨v2, h1, hf⟩ := bd1_some hf
  refine G_cV (as := [.int p0, .int p1]) (rest := []) hX cvX7_115 (mX7_refuseCarrying w h1) (Nat.le_of_ble_eq_true rfl) kK0 (Nat.le_of_ble_eq_true rfl) (Nat.le_of_ble_eq_true rfl) rfl rfl (Nat.le_of_ble_eq_true rfl) dX7_least_3 (st' := [.int v2]) rfl ?_
  refine G_istore_n (lv' := [some (.ref 0), some (.int p0), some (.int p1), some (.int v2)]) hX dX7_least_6 rfl (Nat.le_of_ble_eq_true rfl) rfl ?_
  refine G_iload_n hX dX7_least_7 rfl ?_
  refine G_if_eq (tgt := 15) hX dX7_least_8 rfl hf (fun hf => ?_) (fun hf => ?_)
  · refine G_aload_n hX dX7_least_15 rfl ?_
    refine G_getR (i := 1) (t := 3) hX kK0 (Nat.le_of_ble_eq_true rfl) (Nat.le_of_ble_eq_true rfl) rfl pK0_1 flX7_19 dX7_least_16 ?_
    refine G_iload_n hX dX7_least_19 rfl ?_
    refine G_iload_n hX dX7_least_20 rfl ?_
    obtain ⟨v4, h3, hf⟩ := bd1_some hf
    refine G_cV (as := [.int p0, .int p1]) (rest := []) hX cvX7_159 (mX0_leastSkill w kK3 h3) (Nat.le_of_ble_eq_true rfl) kK3 (Nat.le_of_ble_eq_true rfl) (Nat.le_of_ble_eq_true rfl) rfl rfl (Nat.le_of_ble_eq_true rfl) dX7_least_21 (st' := [.int v4]) rfl ?_
    obtain rfl := Option.some.inj hf
    exact G_iret hX hR dX7_least_24
  · refine G_iload_n hX dX7_least_11 rfl ?_
    refine G_goto (tgt := 24) hX dX7_least_12 rfl ?_
    obtain rfl := Option.some.inj hf
    exact G_iret hX hR dX7_least_24
noncomputable def fX2_weigh_j72 (p0 : Nat) (j2 : Int32) (z0 : Int32) (z1 : Int32) (u : Um) : Option (Nat × Int32 × Um) :=
  if inb z1 48 = true then
  nm (sI u 100 z1.toNatClampNeg z0) fun u5 =>
  nm (j2 + 1) fun v6 =>
  some (0, v6, u5)
  else none
set_option maxHeartbeats 4000000 in
set_option maxRecDepth 100000 in
theorem tX2_weigh_j72 {w : Wc} {X : MX} (hX : OKc w X RX2 cX2_weigh 5) {p0 : Nat} {j2 : Int32} {z0 : Int32} {z1 : Int32} (hp0 : kd p0 = 0)  {u : Um} {e : Nat} {s' : Int32 × Um} (K0 : e = 0 → G w X Zm 2 [some (.ref 99), some (.ref p0), some (.int s'.1), none, none, none] [] s'.2) (K1 : e ≠ 0 → G w X Zm 79 [none, none, none, none, none, none] [] s'.2) (hf : fX2_weigh_j72 p0 j2 z0 z1 u = some (e, s')) : G w X Zm 72 [some (.ref 99), some (.ref p0), some (.int j2), none, none, none] [.int z0, .int z1, .ref 100] u := by
  unfold fX2_weigh_j72 at hf
  refine G_iast (n := 48) hX kK100 lK100 (Nat.le_of_ble_eq_true rfl) rfl dX2_weigh_72 hf (fun u5 hf => ?_)
  refine G_iincF (lvf := fun v6 => [some (.ref 99), some (.ref p0), some (.int v6), none, none, none]) hX dX2_weigh_73 rfl rfl rfl (Nat.le_of_ble_eq_true rfl) (fun _ => rfl) hf (fun v6 hf => ?_)
  refine G_goto (tgt := 2) hX dX2_weigh_76 rfl ?_
  obtain ⟨rfl, rfl⟩ := ret2 hf
  refine G_mask (lv' := [some (.ref 99), some (.ref p0), some (.int v6), none, none, none]) [true, true, true, false, false, false] rfl rfl ?_
  exact K0 rfl
noncomputable def fX2_weigh_j43 (p0 : Nat) (j2 : Int32) (z0 : Int32) (u : Um) : Option (Nat × Int32 × Um) :=
  if z0 = 0 then
    fX2_weigh_j72 p0 j2 0 j2 u
  else
    if z0 = 1 then
      fX2_weigh_j72 p0 j2 16 j2 u
    else
      fX2_weigh_j72 p0 j2 15 j2 u
set_option maxHeartbeats 4000000 in
set_option maxRecDepth 100000 in
theorem tX2_weigh_j43 {w : Wc} {X : MX} (hX : OKc w X RX2 cX2_weigh 5) {p0 : Nat} {j2 : Int32} {z0 : Int32} (hp0 : kd p0 = 0)  {u : Um} {e : Nat} {s' : Int32 × Um} (K0 : e = 0 → G w X Zm 2 [some (.ref 99), some (.ref p0), some (.int s'.1), none, none, none] [] s'.2) (K1 : e ≠ 0 → G w X Zm 79 [none, none, none, none, none, none] [] s'.2) (hf : fX2_weigh_j43 p0 j2 z0 u = some (e, s')) : G w X Zm 43 [some (.ref 99), some (.ref p0), some (.int j2), none, none, none] [.int z0] u := by
  unfold fX2_weigh_j43 at hf
  refine G_istore (lv' := [some (.ref 99), some (.ref p0), some (.int j2), none, none, some (.int z0)]) hX dX2_weigh_43 rfl (Nat.le_of_ble_eq_true rfl) rfl ?_
  refine G_aload_n hX dX2_weigh_45 rfl ?_
  refine G_getR (i := 0) (t := 100) hX kK99 (Nat.le_of_ble_eq_true rfl) (Nat.le_of_ble_eq_true rfl) rfl pK99_0 flX2_9 dX2_weigh_46 ?_
  refine G_iload_n hX dX2_weigh_49 rfl ?_
  refine G_iload hX dX2_weigh_50 rfl ?_
  refine G_if_ne (tgt := 59) hX dX2_weigh_52 rfl hf (fun hf => ?_) (fun hf => ?_)
  · refine G_iload hX dX2_weigh_59 rfl ?_
    refine G_iconst (v := 1) hX dX2_weigh_61 rfl ?_
    refine G_icmp_ne (tgt := 70) hX dX2_weigh_62 rfl hf (fun hf => ?_) (fun hf => ?_)
    · refine G_bipush (v := 15) hX dX2_weigh_70 rfl ?_
      refine G_mask (lv' := [some (.ref 99), some (.ref p0), some (.int j2), none, none, none]) [true, true, true, false, false, false] rfl rfl ?_
      exact tX2_weigh_j72 hX hp0 K0 K1 hf
    · refine G_bipush (v := 16) hX dX2_weigh_65 rfl ?_
      refine G_goto (tgt := 72) hX dX2_weigh_67 rfl ?_
      refine G_mask (lv' := [some (.ref 99), some (.ref p0), some (.int j2), none, none, none]) [true, true, true, false, false, false] rfl rfl ?_
      exact tX2_weigh_j72 hX hp0 K0 K1 hf
  · refine G_iconst (v := 0) hX dX2_weigh_55 rfl ?_
    refine G_goto (tgt := 72) hX dX2_weigh_56 rfl ?_
    refine G_mask (lv' := [some (.ref 99), some (.ref p0), some (.int j2), none, none, none]) [true, true, true, false, false, false] rfl rfl ?_
    exact tX2_weigh_j72 hX hp0 K0 K1 hf
noncomputable def fX2_weigh_b2 (p0 : Nat) (s2 : Int32) (u : Um) : Option (Nat × Int32 × Um) :=
  if 48 ≤ s2 then
    some (1, s2, u)
  else
    nm (s2 / 6) fun v1 =>
    nm (irm s2 6) fun v2 =>
    bd1 (fX0_mayCarry p0 v1 v2 u) fun v4 =>
    if v4 = 0 then
      fX2_weigh_j43 p0 s2 0 u
    else
      bd1 (fX0_outcome p0 v1 v2 u) fun v8 =>
      fX2_weigh_j43 p0 s2 v8 u
set_option maxHeartbeats 4000000 in
set_option maxRecDepth 100000 in
theorem tX2_weigh_b2 {w : Wc} {X : MX} (hX : OKc w X RX2 cX2_weigh 5) {p0 : Nat} (hp0 : kd p0 = 0) {s : Int32 × Um} {e : Nat} {s' : Int32 × Um} (hf : fX2_weigh_b2 p0 s.1 s.2 = some (e, s')) (K0 : e = 0 → G w X Zm 2 [some (.ref 99), some (.ref p0), some (.int s'.1), none, none, none] [] s'.2) (K1 : e ≠ 0 → G w X Zm 79 [none, none, none, none, none, none] [] s'.2) : G w X Zm 2 [some (.ref 99), some (.ref p0), some (.int s.1), none, none, none] [] s.2 := by
  obtain ⟨s2, u⟩ := s
  unfold fX2_weigh_b2 at hf
  try dsimp only at hf ⊢
  refine G_iload_n hX dX2_weigh_2 rfl ?_
  refine G_aload_n hX dX2_weigh_3 rfl ?_
  refine G_getR (i := 0) (t := 100) hX kK99 (Nat.le_of_ble_eq_true rfl) (Nat.le_of_ble_eq_true rfl) rfl pK99_0 flX2_9 dX2_weigh_4 ?_
  refine G_alenI (n := 48) (v := 48) hX kK100 lK100 (Nat.le_of_ble_eq_true rfl) dX2_weigh_7 rfl ?_
  refine G_icmp_ge (tgt := 79) hX dX2_weigh_8 rfl hf (fun hf => ?_) (fun hf => ?_)
  · obtain ⟨rfl, rfl⟩ := ret2 hf
    refine G_mask (lv' := [none, none, none, none, none, none]) [false, false, false, false, false, false] rfl rfl ?_
    exact K1 (by decide)
  · refine G_iload_n hX dX2_weigh_11 rfl ?_
    refine G_bipush (v := 6) hX dX2_weigh_12 rfl ?_
    refine G_idiv hX dX2_weigh_14 (by decide) ?_
    refine G_istore_nF (lvf := fun v1 => [some (.ref 99), some (.ref p0), some (.int s2), some (.int v1), none, none]) hX dX2_weigh_15 rfl (Nat.le_of_ble_eq_true rfl) (fun _ => rfl) hf (fun v1 hf => ?_)
    refine G_iload_n hX dX2_weigh_16 rfl ?_
    refine G_bipush (v := 6) hX dX2_weigh_17 rfl ?_
    refine G_irem hX dX2_weigh_19 (by decide) ?_
    refine G_istoreF (lvf := fun v2 => [some (.ref 99), some (.ref p0), some (.int s2), some (.int v1), some (.int v2), none]) hX dX2_weigh_20 rfl (Nat.le_of_ble_eq_true rfl) (fun _ => rfl) hf (fun v2 hf => ?_)
    refine G_aload_n hX dX2_weigh_22 rfl ?_
    refine G_iload_n hX dX2_weigh_23 rfl ?_
    refine G_iload hX dX2_weigh_24 rfl ?_
    obtain ⟨v4, h3, hf⟩ := bd1_some hf
    refine G_cV (as := [.int v1, .int v2]) (rest := []) hX cvX2_57 (mX0_mayCarry w hp0 h3) (Nat.le_of_ble_eq_true rfl) hp0 (Nat.le_of_ble_eq_true rfl) (kd_lt hp0 (Nat.le_of_ble_eq_true rfl)) rfl rfl (Nat.le_of_ble_eq_true rfl) dX2_weigh_26 (st' := [.int v4]) rfl ?_
    refine G_if_eq (tgt := 42) hX dX2_weigh_29 rfl hf (fun hf => ?_) (fun hf => ?_)
    · refine G_iconst (v := 0) hX dX2_weigh_42 rfl ?_
      refine G_mask (lv' := [some (.ref 99), some (.ref p0), some (.int s2), none, none, none]) [true, true, true, false, false, false] rfl rfl ?_
      exact tX2_weigh_j43 hX hp0 K0 K1 hf
    · refine G_aload_n hX dX2_weigh_32 rfl ?_
      refine G_iload_n hX dX2_weigh_33 rfl ?_
      refine G_iload hX dX2_weigh_34 rfl ?_
      obtain ⟨v8, h7, hf⟩ := bd1_some hf
      refine G_cV (as := [.int v1, .int v2]) (rest := []) hX cvX2_61 (mX0_outcome w hp0 h7) (Nat.le_of_ble_eq_true rfl) hp0 (Nat.le_of_ble_eq_true rfl) (kd_lt hp0 (Nat.le_of_ble_eq_true rfl)) rfl rfl (Nat.le_of_ble_eq_true rfl) dX2_weigh_36 (st' := [.int v8]) rfl ?_
      refine G_goto (tgt := 43) hX dX2_weigh_39 rfl ?_
      refine G_mask (lv' := [some (.ref 99), some (.ref p0), some (.int s2), none, none, none]) [true, true, true, false, false, false] rfl rfl ?_
      exact tX2_weigh_j43 hX hp0 K0 K1 hf
noncomputable def fX2_weigh (p0 : Nat) (u : Um) : Option Um :=
  bd3 (lp (fun s => fX2_weigh_b2 p0 s.1 s.2) fuel ((0 : Int32), u)) fun e11 v9 u10 =>
  some u10
set_option maxHeartbeats 4000000 in
set_option maxRecDepth 100000 in
theorem mX2_weigh (w : Wc) {p0 : Nat} (hp0 : kd p0 = 0) {u : Um} {u' : Um} (hf : fX2_weigh p0 u = some u') : MC w 5 qX2_weigh [.ref 99, .ref p0] u none u' := by
  unfold fX2_weigh at hf
  refine MC_intro pnX2 (Nat.le_of_ble_eq_true rfl) (fun X hX hR _ _ => ?_)
  have hX : OKc w X RX2 cX2_weigh 5 := hX
  have hR : RT w X none 0 0 Pst 133 false none u' := hR
  refine G_eql (lv' := [some (.ref 99), some (.ref p0), none, none, none, none]) rfl ?_
  refine G_iconst (v := 0) hX dX2_weigh_0 rfl ?_
  refine G_istore_n (lv' := [some (.ref 99), some (.ref p0), some (.int 0), none, none, none]) hX dX2_weigh_1 rfl (Nat.le_of_ble_eq_true rfl) rfl ?_
  obtain ⟨e11, v9, u10, h12, hf⟩ := bd3_some hf
  refine G_mask (lv' := [some (.ref 99), some (.ref p0), some (.int 0), none, none, none]) [true, true, true, false, false, false] rfl rfl ?_
  refine lp_G (body := (fun s => fX2_weigh_b2 p0 s.1 s.2)) (Gh := fun s => G w X Zm 2 [some (.ref 99), some (.ref p0), some (.int s.1), none, none, none] [] s.2) (Gx := fun e s => G w X Zm 79 [none, none, none, none, none, none] [] s.2) (fun s e s' hb K0 K1 => tX2_weigh_b2 (s := s) (e := e) (s' := s') hX hp0  hb K0 K1) fuel ((0 : Int32), u) (e11, v9, u10) h12 ?_
  obtain rfl := Option.some.inj hf
  exact G_vret hX hR dX2_weigh_79
noncomputable def fJ7_fill_53178_b5 (p0 : Nat) (p1 : Int32) (i3 : Int32) (s2 : Int32) (u : Um) : Option (Nat × Int32 × Um) :=
  if i3 ≤ s2 then
    some (1, s2, u)
  else
    if inb s2 (ln p0) = true then
    nm (sI u p0 s2.toNatClampNeg p1) fun u2 =>
    nm (s2 + 1) fun v3 =>
    some (0, v3, u2)
    else none
set_option maxHeartbeats 4000000 in
set_option maxRecDepth 100000 in
theorem tJ7_fill_53178_b5 {w : Wc} {X : MX} (hX : OKc w X RJ7 cJ7_fill_53178 1) {p0 : Nat} {p1 : Int32} {i3 : Int32} (hp0 : kd p0 = 9) {s : Int32 × Um} {e : Nat} {s' : Int32 × Um} (hf : fJ7_fill_53178_b5 p0 p1 i3 s.1 s.2 = some (e, s')) (K0 : e = 0 → G w X Zm 5 [some (.ref p0), some (.int p1), some (.int s'.1), some (.int i3)] [] s'.2) (K1 : e ≠ 0 → G w X Zm 20 [none, none, none, none] [] s'.2) : G w X Zm 5 [some (.ref p0), some (.int p1), some (.int s.1), some (.int i3)] [] s.2 := by
  obtain ⟨s2, u⟩ := s
  unfold fJ7_fill_53178_b5 at hf
  try dsimp only at hf ⊢
  refine G_iload_n hX dJ7_fill_53178_5 rfl ?_
  refine G_iload_n hX dJ7_fill_53178_6 rfl ?_
  refine G_icmp_ge (tgt := 20) hX dJ7_fill_53178_7 rfl hf (fun hf => ?_) (fun hf => ?_)
  · obtain ⟨rfl, rfl⟩ := ret2 hf
    refine G_mask (lv' := [none, none, none, none]) [false, false, false, false] rfl rfl ?_
    exact K1 (by decide)
  · refine G_aload_n hX dJ7_fill_53178_10 rfl ?_
    refine G_iload_n hX dJ7_fill_53178_11 rfl ?_
    refine G_iload_n hX dJ7_fill_53178_12 rfl ?_
    refine G_iast (n := (ln p0)) hX hp0 rfl (kd_lt hp0 (Nat.le_of_ble_eq_true rfl)) rfl dJ7_fill_53178_13 hf (fun u2 hf => ?_)
    refine G_iincF (lvf := fun v3 => [some (.ref p0), some (.int p1), some (.int v3), some (.int i3)]) hX dJ7_fill_53178_14 rfl rfl rfl (Nat.le_of_ble_eq_true rfl) (fun _ => rfl) hf (fun v3 hf => ?_)
    refine G_goto (tgt := 5) hX dJ7_fill_53178_17 rfl ?_
    obtain ⟨rfl, rfl⟩ := ret2 hf
    refine G_mask (lv' := [some (.ref p0), some (.int p1), some (.int v3), some (.int i3)]) [true, true, true, true] rfl rfl ?_
    exact K0 rfl
noncomputable def fJ7_fill_53178 (p0 : Nat) (p1 : Int32) (u : Um) : Option Um :=
  nm (Int32.ofNat (ln p0)) fun v1 =>
  bd3 (lp (fun s => fJ7_fill_53178_b5 p0 p1 v1 s.1 s.2) fuel ((0 : Int32), u)) fun e6 v4 u5 =>
  some u5
set_option maxHeartbeats 4000000 in
set_option maxRecDepth 100000 in
theorem mJ7_fill_53178 (w : Wc) {p0 : Nat} {p1 : Int32} (hp0 : kd p0 = 9) {u : Um} {u' : Um} (hf : fJ7_fill_53178 p0 p1 u = some u') : MC w 1 qJ7_fill_53178 [.ref p0, .int p1] u none u' := by
  unfold fJ7_fill_53178 at hf
  refine MC_intro pnJ7 (Nat.le_of_ble_eq_true rfl) (fun X hX hR _ _ => ?_)
  have hX : OKc w X RJ7 cJ7_fill_53178 1 := hX
  have hR : RT w X none 0 0 Pst 133 false none u' := hR
  refine G_eql (lv' := [some (.ref p0), some (.int p1), none, none]) rfl ?_
  refine G_iconst (v := 0) hX dJ7_fill_53178_0 rfl ?_
  refine G_istore_n (lv' := [some (.ref p0), some (.int p1), some (.int 0), none]) hX dJ7_fill_53178_1 rfl (Nat.le_of_ble_eq_true rfl) rfl ?_
  refine G_aload_n hX dJ7_fill_53178_2 rfl ?_
  refine G_alenI (n := (ln p0)) (v := (Int32.ofNat (ln p0))) hX hp0 rfl (kd_lt hp0 (Nat.le_of_ble_eq_true rfl)) dJ7_fill_53178_3 rfl ?_
  refine G_istore_nF (lvf := fun v1 => [some (.ref p0), some (.int p1), some (.int 0), some (.int v1)]) hX dJ7_fill_53178_4 rfl (Nat.le_of_ble_eq_true rfl) (fun _ => rfl) hf (fun v1 hf => ?_)
  obtain ⟨e6, v4, u5, h7, hf⟩ := bd3_some hf
  refine G_mask (lv' := [some (.ref p0), some (.int p1), some (.int 0), some (.int v1)]) [true, true, true, true] rfl rfl ?_
  refine lp_G (body := (fun s => fJ7_fill_53178_b5 p0 p1 v1 s.1 s.2)) (Gh := fun s => G w X Zm 5 [some (.ref p0), some (.int p1), some (.int s.1), some (.int v1)] [] s.2) (Gx := fun e s => G w X Zm 20 [none, none, none, none] [] s.2) (fun s e s' hb K0 K1 => tJ7_fill_53178_b5 (s := s) (e := e) (s' := s') hX hp0  hb K0 K1) fuel ((0 : Int32), u) (e6, v4, u5) h7 ?_
  obtain rfl := Option.some.inj hf
  exact G_vret hX hR dJ7_fill_53178_20
noncomputable def fX2_pairWorth (p0 : Int32) (p1 : Int32) (u : Um) : Option Int32 :=
  nm ((p0 * 6) + p1) fun v1 =>
  if v1 < 0 then
    some 0
  else
    if v1 < 48 then
      if inb v1 48 = true then
      some (u.1 100 v1.toNatClampNeg)
      else none
    else
      some 0
set_option maxHeartbeats 4000000 in
set_option maxRecDepth 100000 in
theorem mX2_pairWorth (w : Wc) {p0 : Int32} {p1 : Int32}  {u : Um} {r : Int32} (hf : fX2_pairWorth p0 p1 u = some r) : MC w 1 qX2_pairWorth [.ref 99, .int p0, .int p1] u (some (.int r)) u := by
  unfold fX2_pairWorth at hf
  refine MC_intro pnX2 (Nat.le_of_ble_eq_true rfl) (fun X hX hR _ _ => ?_)
  have hX : OKc w X RX2 cX2_pairWorth 1 := hX
  have hR : RT w X (some .int) 0 0 Pst 133 false (some (.int r)) u := hR
  refine G_eql (lv' := [some (.ref 99), some (.int p0), some (.int p1), none]) rfl ?_
  refine G_iload_n hX dX2_pairWorth_0 rfl ?_
  refine G_bipush (v := 6) hX dX2_pairWorth_1 rfl ?_
  refine G_imul hX dX2_pairWorth_3 ?_
  refine G_iload_n hX dX2_pairWorth_4 rfl ?_
  refine G_iadd hX dX2_pairWorth_5 ?_
  refine G_istore_nF (lvf := fun v1 => [some (.ref 99), some (.int p0), some (.int p1), some (.int v1)]) hX dX2_pairWorth_6 rfl (Nat.le_of_ble_eq_true rfl) (fun _ => rfl) hf (fun v1 hf => ?_)
  refine G_iload_n hX dX2_pairWorth_7 rfl ?_
  refine G_if_lt (tgt := 20) hX dX2_pairWorth_8 rfl hf (fun hf => ?_) (fun hf => ?_)
  · refine G_iconst (v := 0) hX dX2_pairWorth_20 rfl ?_
    refine G_goto (tgt := 30) hX dX2_pairWorth_21 rfl ?_
    obtain rfl := Option.some.inj hf
    exact G_iret hX hR dX2_pairWorth_30
  · refine G_iload_n hX dX2_pairWorth_11 rfl ?_
    refine G_aload_n hX dX2_pairWorth_12 rfl ?_
    refine G_getR (i := 0) (t := 100) hX kK99 (Nat.le_of_ble_eq_true rfl) (Nat.le_of_ble_eq_true rfl) rfl pK99_0 flX2_9 dX2_pairWorth_13 ?_
    refine G_alenI (n := 48) (v := 48) hX kK100 lK100 (Nat.le_of_ble_eq_true rfl) dX2_pairWorth_16 rfl ?_
    refine G_icmp_lt (tgt := 24) hX dX2_pairWorth_17 rfl hf (fun hf => ?_) (fun hf => ?_)
    · refine G_aload_n hX dX2_pairWorth_24 rfl ?_
      refine G_getR (i := 0) (t := 100) hX kK99 (Nat.le_of_ble_eq_true rfl) (Nat.le_of_ble_eq_true rfl) rfl pK99_0 flX2_9 dX2_pairWorth_25 ?_
      refine G_iload_n hX dX2_pairWorth_28 rfl ?_
      refine G_iald (n := 48) hX kK100 lK100 (Nat.le_of_ble_eq_true rfl) dX2_pairWorth_29 hf (fun hf => ?_)
      obtain rfl := Option.some.inj hf
      exact G_iret hX hR dX2_pairWorth_30
    · refine G_iconst (v := 0) hX dX2_pairWorth_20 rfl ?_
      refine G_goto (tgt := 30) hX dX2_pairWorth_21 rfl ?_
      obtain rfl := Option.some.inj hf
      exact G_iret hX hR dX2_pairWorth_30
noncomputable def fX2_bestAt (p0 : Int32) (p1 : Int32) (u : Um) : Option Int32 :=
  nm ((p0 * 64) + p1) fun v1 =>
  if v1 < 0 then
    some 0
  else
    if v1 < 576 then
      if inb v1 576 = true then
      some (u.1 101 v1.toNatClampNeg)
      else none
    else
      some 0
set_option maxHeartbeats 4000000 in
set_option maxRecDepth 100000 in
theorem mX2_bestAt (w : Wc) {p0 : Int32} {p1 : Int32}  {u : Um} {r : Int32} (hf : fX2_bestAt p0 p1 u = some r) : MC w 1 qX2_bestAt [.ref 99, .int p0, .int p1] u (some (.int r)) u := by
  unfold fX2_bestAt at hf
  refine MC_intro pnX2 (Nat.le_of_ble_eq_true rfl) (fun X hX hR _ _ => ?_)
  have hX : OKc w X RX2 cX2_bestAt 1 := hX
  have hR : RT w X (some .int) 0 0 Pst 133 false (some (.int r)) u := hR
  refine G_eql (lv' := [some (.ref 99), some (.int p0), some (.int p1), none]) rfl ?_
  refine G_iload_n hX dX2_bestAt_0 rfl ?_
  refine G_bipush (v := 64) hX dX2_bestAt_1 rfl ?_
  refine G_imul hX dX2_bestAt_3 ?_
  refine G_iload_n hX dX2_bestAt_4 rfl ?_
  refine G_iadd hX dX2_bestAt_5 ?_
  refine G_istore_nF (lvf := fun v1 => [some (.ref 99), some (.int p0), some (.int p1), some (.int v1)]) hX dX2_bestAt_6 rfl (Nat.le_of_ble_eq_true rfl) (fun _ => rfl) hf (fun v1 hf => ?_)
  refine G_iload_n hX dX2_bestAt_7 rfl ?_
  refine G_if_lt (tgt := 20) hX dX2_bestAt_8 rfl hf (fun hf => ?_) (fun hf => ?_)
  · refine G_iconst (v := 0) hX dX2_bestAt_20 rfl ?_
    refine G_goto (tgt := 30) hX dX2_bestAt_21 rfl ?_
    obtain rfl := Option.some.inj hf
    exact G_iret hX hR dX2_bestAt_30
  · refine G_iload_n hX dX2_bestAt_11 rfl ?_
    refine G_aload_n hX dX2_bestAt_12 rfl ?_
    refine G_getR (i := 1) (t := 101) hX kK99 (Nat.le_of_ble_eq_true rfl) (Nat.le_of_ble_eq_true rfl) rfl pK99_1 flX2_15 dX2_bestAt_13 ?_
    refine G_alenI (n := 576) (v := 576) hX kK101 lK101 (Nat.le_of_ble_eq_true rfl) dX2_bestAt_16 rfl ?_
    refine G_icmp_lt (tgt := 24) hX dX2_bestAt_17 rfl hf (fun hf => ?_) (fun hf => ?_)
    · refine G_aload_n hX dX2_bestAt_24 rfl ?_
      refine G_getR (i := 1) (t := 101) hX kK99 (Nat.le_of_ble_eq_true rfl) (Nat.le_of_ble_eq_true rfl) rfl pK99_1 flX2_15 dX2_bestAt_25 ?_
      refine G_iload_n hX dX2_bestAt_28 rfl ?_
      refine G_iald (n := 576) hX kK101 lK101 (Nat.le_of_ble_eq_true rfl) dX2_bestAt_29 hf (fun hf => ?_)
      obtain rfl := Option.some.inj hf
      exact G_iret hX hR dX2_bestAt_30
    · refine G_iconst (v := 0) hX dX2_bestAt_20 rfl ?_
      refine G_goto (tgt := 30) hX dX2_bestAt_21 rfl ?_
      obtain rfl := Option.some.inj hf
      exact G_iret hX hR dX2_bestAt_30
noncomputable def fX2_worthOf (p0 : Int32) (p1 : Int32) (p2 : Int32) (u : Um) : Option Int32 :=
  if 0 ≤ p2 then
    bd1 (fX2_pairWorth p0 p2 u) fun v2 =>
    bd1 (fX2_bestAt (p0 + 1) (p1 ||| ((1 : Int32) <<< (p2 &&& 31))) u) fun v4 =>
    some (v2 + v4)
  else
    bd1 (fX2_bestAt (p0 + 1) p1 u) fun v6 =>
    some v6
set_option maxHeartbeats 4000000 in
set_option maxRecDepth 100000 in
theorem mX2_worthOf (w : Wc) {p0 : Int32} {p1 : Int32} {p2 : Int32}  {u : Um} {r : Int32} (hf : fX2_worthOf p0 p1 p2 u = some r) : MC w 2 qX2_worthOf [.ref 99, .int p0, .int p1, .int p2] u (some (.int r)) u := by
  unfold fX2_worthOf at hf
  refine MC_intro pnX2 (Nat.le_of_ble_eq_true rfl) (fun X hX hR _ _ => ?_)
  have hX : OKc w X RX2 cX2_worthOf 2 := hX
  have hR : RT w X (some .int) 0 0 Pst 133 false (some (.int r)) u := hR
  refine G_eql (lv' := [some (.ref 99), some (.int p0), some (.int p1), some (.int p2)]) rfl ?_
  refine G_iload_n hX dX2_worthOf_0 rfl ?_
  refine G_if_ge (tgt := 15) hX dX2_worthOf_1 rfl hf (fun hf => ?_) (fun hf => ?_)
  · refine G_aload_n hX dX2_worthOf_15 rfl ?_
    refine G_iload_n hX dX2_worthOf_16 rfl ?_
    refine G_iload_n hX dX2_worthOf_17 rfl ?_
    obtain ⟨v2, h1, hf⟩ := bd1_some hf
    refine G_cV (as := [.int p0, .int p2]) (rest := []) hX cvX2_64 (mX2_pairWorth w h1) (Nat.le_of_ble_eq_true rfl) kK99 (Nat.le_of_ble_eq_true rfl) (Nat.le_of_ble_eq_true rfl) rfl rfl (Nat.le_of_ble_eq_true rfl) dX2_worthOf_18 (st' := [.int v2]) rfl ?_
    refine G_aload_n hX dX2_worthOf_21 rfl ?_
    refine G_iload_n hX dX2_worthOf_22 rfl ?_
    refine G_iconst (v := 1) hX dX2_worthOf_23 rfl ?_
    refine G_iadd hX dX2_worthOf_24 ?_
    refine G_iload_n hX dX2_worthOf_25 rfl ?_
    refine G_iconst (v := 1) hX dX2_worthOf_26 rfl ?_
    refine G_iload_n hX dX2_worthOf_27 rfl ?_
    refine G_ishl hX dX2_worthOf_28 ?_
    refine G_ior hX dX2_worthOf_29 ?_
    obtain ⟨v4, h3, hf⟩ := bd1_some hf
    refine G_cV (as := [.int (p0 + 1), .int (p1 ||| ((1 : Int32) <<< (p2 &&& 31)))]) (rest := [.int v2]) hX cvX2_67 (mX2_bestAt w h3) (Nat.le_of_ble_eq_true rfl) kK99 (Nat.le_of_ble_eq_true rfl) (Nat.le_of_ble_eq_true rfl) rfl rfl (Nat.le_of_ble_eq_true rfl) dX2_worthOf_30 (st' := [.int v4, .int v2]) rfl ?_
    refine G_iadd hX dX2_worthOf_33 ?_
    obtain rfl := Option.some.inj hf
    exact G_iret hX hR dX2_worthOf_34
  · refine G_aload_n hX dX2_worthOf_4 rfl ?_
    refine G_iload_n hX dX2_worthOf_5 rfl ?_
    refine G_iconst (v := 1) hX dX2_worthOf_6 rfl ?_
    refine G_iadd hX dX2_worthOf_7 ?_
    refine G_iload_n hX dX2_worthOf_8 rfl ?_
    obtain ⟨v6, h5, hf⟩ := bd1_some hf
    refine G_cV (as := [.int (p0 + 1), .int p1]) (rest := []) hX cvX2_67 (mX2_bestAt w h5) (Nat.le_of_ble_eq_true rfl) kK99 (Nat.le_of_ble_eq_true rfl) (Nat.le_of_ble_eq_true rfl) rfl rfl (Nat.le_of_ble_eq_true rfl) dX2_worthOf_9 (st' := [.int v6]) rfl ?_
    refine G_goto (tgt := 34) hX dX2_worthOf_12 rfl ?_
    obtain rfl := Option.some.inj hf
    exact G_iret hX hR dX2_worthOf_34
noncomputable def fX2_firstCarrier_j61 (p0 : Int32) (p1 : Int32) (j3 : Int32) (j4 : Int32) (j5 : Int32) (u : Um) : Option (Nat × Int32 × Int32 × Int32) :=
  nm (j5 + 1) fun v3 =>
  some (0, j3, j4, v3)
set_option maxHeartbeats 4000000 in
set_option maxRecDepth 100000 in
theorem tX2_firstCarrier_j61 {w : Wc} {X : MX} (hX : OKc w X RX2 cX2_firstCarrier 3) {p0 : Int32} {p1 : Int32} {j3 : Int32} {j4 : Int32} {j5 : Int32}  {u : Um} {e : Nat} {s' : Int32 × Int32 × Int32} (K0 : e = 0 → G w X Zm 9 [some (.ref 99), some (.int p0), some (.int p1), some (.int s'.1), some (.int s'.2.1), some (.int s'.2.2)] [] u) (K1 : e ≠ 0 → G w X Zm 67 [some (.ref 99), some (.int p0), some (.int p1), some (.int s'.1), some (.int s'.2.1), none] [] u) (hf : fX2_firstCarrier_j61 p0 p1 j3 j4 j5 u = some (e, s')) : G w X Zm 61 [some (.ref 99), some (.int p0), some (.int p1), some (.int j3), some (.int j4), some (.int j5)] [] u := by
  unfold fX2_firstCarrier_j61 at hf
  refine G_iincF (lvf := fun v3 => [some (.ref 99), some (.int p0), some (.int p1), some (.int j3), some (.int j4), some (.int v3)]) hX dX2_firstCarrier_61 rfl rfl rfl (Nat.le_of_ble_eq_true rfl) (fun _ => rfl) hf (fun v3 hf => ?_)
  refine G_goto (tgt := 9) hX dX2_firstCarrier_64 rfl ?_
  obtain ⟨rfl, rfl⟩ := ret2 hf
  refine G_mask (lv' := [some (.ref 99), some (.int p0), some (.int p1), some (.int j3), some (.int j4), some (.int v3)]) [true, true, true, true, true, true] rfl rfl ?_
  exact K0 rfl
noncomputable def fX2_firstCarrier_b9 (p0 : Int32) (p1 : Int32) (s3 : Int32) (s4 : Int32) (s5 : Int32) (u : Um) : Option (Nat × Int32 × Int32 × Int32) :=
  if 6 ≤ s5 then
    some (1, s3, s4, s5)
  else
    bd1 (fX2_pairWorth p0 s5 u) fun v2 =>
    if v2 ≤ 0 then
      fX2_firstCarrier_j61 p0 p1 s3 s4 s5 u
    else
      if ((p1 >>> (s5 &&& 31)) &&& 1) = 0 then
        bd1 (fX2_worthOf p0 p1 s5 u) fun v5 =>
        if v5 ≤ s4 then
          fX2_firstCarrier_j61 p0 p1 s3 s4 s5 u
        else
          bd1 (fX2_worthOf p0 p1 s5 u) fun v7 =>
          fX2_firstCarrier_j61 p0 p1 s5 v7 s5 u
      else
        fX2_firstCarrier_j61 p0 p1 s3 s4 s5 u
set_option maxHeartbeats 4000000 in
set_option maxRecDepth 100000 in
theorem tX2_firstCarrier_b9 {w : Wc} {X : MX} (hX : OKc w X RX2 cX2_firstCarrier 3) {p0 : Int32} {p1 : Int32} {s : Int32 × Int32 × Int32} {e : Nat} {s' : Int32 × Int32 × Int32} {u : Um} (hf : fX2_firstCarrier_b9 p0 p1 s.1 s.2.1 s.2.2 u = some (e, s')) (K0 : e = 0 → G w X Zm 9 [some (.ref 99), some (.int p0), some (.int p1), some (.int s'.1), some (.int s'.2.1), some (.int s'.2.2)] [] u) (K1 : e ≠ 0 → G w X Zm 67 [some (.ref 99), some (.int p0), some (.int p1), some (.int s'.1), some (.int s'.2.1), none] [] u) : G w X Zm 9 [some (.ref 99), some (.int p0), some (.int p1), some (.int s.1), some (.int s.2.1), some (.int s.2.2)] [] u := by
  obtain ⟨s3, s4, s5⟩ := s
  unfold fX2_firstCarrier_b9 at hf
  try dsimp only at hf ⊢
  refine G_iload hX dX2_firstCarrier_9 rfl ?_
  refine G_bipush (v := 6) hX dX2_firstCarrier_11 rfl ?_
  refine G_icmp_ge (tgt := 67) hX dX2_firstCarrier_13 rfl hf (fun hf => ?_) (fun hf => ?_)
  · obtain ⟨rfl, rfl⟩ := ret2 hf
    refine G_mask (lv' := [some (.ref 99), some (.int p0), some (.int p1), some (.int s3), some (.int s4), none]) [true, true, true, true, true, false] rfl rfl ?_
    exact K1 (by decide)
  · refine G_aload_n hX dX2_firstCarrier_16 rfl ?_
    refine G_iload_n hX dX2_firstCarrier_17 rfl ?_
    refine G_iload hX dX2_firstCarrier_18 rfl ?_
    obtain ⟨v2, h1, hf⟩ := bd1_some hf
    refine G_cV (as := [.int p0, .int s5]) (rest := []) hX cvX2_64 (mX2_pairWorth w h1) (Nat.le_of_ble_eq_true rfl) kK99 (Nat.le_of_ble_eq_true rfl) (Nat.le_of_ble_eq_true rfl) rfl rfl (Nat.le_of_ble_eq_true rfl) dX2_firstCarrier_20 (st' := [.int v2]) rfl ?_
    refine G_if_le (tgt := 61) hX dX2_firstCarrier_23 rfl hf (fun hf => ?_) (fun hf => ?_)
    · refine G_mask (lv' := [some (.ref 99), some (.int p0), some (.int p1), some (.int s3), some (.int s4), some (.int s5)]) [true, true, true, true, true, true] rfl rfl ?_
      exact tX2_firstCarrier_j61 hX  K0 K1 hf
    · refine G_iload_n hX dX2_firstCarrier_26 rfl ?_
      refine G_iload hX dX2_firstCarrier_27 rfl ?_
      refine G_ishr hX dX2_firstCarrier_29 ?_
      refine G_iconst (v := 1) hX dX2_firstCarrier_30 rfl ?_
      refine G_iand hX dX2_firstCarrier_31 ?_
      refine G_if_ne (tgt := 61) hX dX2_firstCarrier_32 rfl hf (fun hf => ?_) (fun hf => ?_)
      · refine G_mask (lv' := [some (.ref 99), some (.int p0), some (.int p1), some (.int s3), some (.int s4), some (.int s5)]) [true, true, true, true, true, true] rfl rfl ?_
        exact tX2_firstCarrier_j61 hX  K0 K1 hf
      · refine G_aload_n hX dX2_firstCarrier_35 rfl ?_
        refine G_iload_n hX dX2_firstCarrier_36 rfl ?_
        refine G_iload_n hX dX2_firstCarrier_37 rfl ?_
        refine G_iload hX dX2_firstCarrier_38 rfl ?_
        obtain ⟨v5, h4, hf⟩ := bd1_some hf
        refine G_cV (as := [.int p0, .int p1, .int s5]) (rest := []) hX cvX2_45 (mX2_worthOf w h4) (Nat.le_of_ble_eq_true rfl) kK99 (Nat.le_of_ble_eq_true rfl) (Nat.le_of_ble_eq_true rfl) rfl rfl (Nat.le_of_ble_eq_true rfl) dX2_firstCarrier_40 (st' := [.int v5]) rfl ?_
        refine G_iload hX dX2_firstCarrier_43 rfl ?_
        refine G_icmp_le (tgt := 61) hX dX2_firstCarrier_45 rfl hf (fun hf => ?_) (fun hf => ?_)
        · refine G_mask (lv' := [some (.ref 99), some (.int p0), some (.int p1), some (.int s3), some (.int s4), some (.int s5)]) [true, true, true, true, true, true] rfl rfl ?_
          exact tX2_firstCarrier_j61 hX  K0 K1 hf
        · refine G_aload_n hX dX2_firstCarrier_48 rfl ?_
          refine G_iload_n hX dX2_firstCarrier_49 rfl ?_
          refine G_iload_n hX dX2_firstCarrier_50 rfl ?_
          refine G_iload hX dX2_firstCarrier_51 rfl ?_
          obtain ⟨v7, h6, hf⟩ := bd1_some hf
          refine G_cV (as := [.int p0, .int p1, .int s5]) (rest := []) hX cvX2_45 (mX2_worthOf w h6) (Nat.le_of_ble_eq_true rfl) kK99 (Nat.le_of_ble_eq_true rfl) (Nat.le_of_ble_eq_true rfl) rfl rfl (Nat.le_of_ble_eq_true rfl) dX2_firstCarrier_53 (st' := [.int v7]) rfl ?_
          refine G_istore (lv' := [some (.ref 99), some (.int p0), some (.int p1), some (.int s3), some (.int v7), some (.int s5)]) hX dX2_firstCarrier_56 rfl (Nat.le_of_ble_eq_true rfl) rfl ?_
          refine G_iload hX dX2_firstCarrier_58 rfl ?_
          refine G_istore_n (lv' := [some (.ref 99), some (.int p0), some (.int p1), some (.int s5), some (.int v7), some (.int s5)]) hX dX2_firstCarrier_60 rfl (Nat.le_of_ble_eq_true rfl) rfl ?_
          refine G_mask (lv' := [some (.ref 99), some (.int p0), some (.int p1), some (.int s5), some (.int v7), some (.int s5)]) [true, true, true, true, true, true] rfl rfl ?_
          exact tX2_firstCarrier_j61 hX  K0 K1 hf
noncomputable def fX2_firstCarrier (p0 : Int32) (p1 : Int32) (u : Um) : Option Int32 :=
  bd4 (lp (fun s => fX2_firstCarrier_b9 p0 p1 s.1 s.2.1 s.2.2 u) fuel (((-4) : Int32), ((-1) : Int32), (0 : Int32))) fun e11 v8 v9 v10 =>
  bd1 (fX2_worthOf p0 p1 (-4) u) fun v14 =>
  if v14 ≤ v9 then
    some v8
  else
    some (-4)
set_option maxHeartbeats 4000000 in
set_option maxRecDepth 100000 in
theorem mX2_firstCarrier (w : Wc) {p0 : Int32} {p1 : Int32}  {u : Um} {r : Int32} (hf : fX2_firstCarrier p0 p1 u = some r) : MC w 3 qX2_firstCarrier [.ref 99, .int p0, .int p1] u (some (.int r)) u := by
  unfold fX2_firstCarrier at hf
  refine MC_intro pnX2 (Nat.le_of_ble_eq_true rfl) (fun X hX hR _ _ => ?_)
  have hX : OKc w X RX2 cX2_firstCarrier 3 := hX
  have hR : RT w X (some .int) 0 0 Pst 133 false (some (.int r)) u := hR
  refine G_eql (lv' := [some (.ref 99), some (.int p0), some (.int p1), none, none, none]) rfl ?_
  refine G_bipush (v := (-4)) hX dX2_firstCarrier_0 rfl ?_
  refine G_istore_n (lv' := [some (.ref 99), some (.int p0), some (.int p1), some (.int (-4)), none, none]) hX dX2_firstCarrier_2 rfl (Nat.le_of_ble_eq_true rfl) rfl ?_
  refine G_iconst (v := (-1)) hX dX2_firstCarrier_3 rfl ?_
  refine G_istore (lv' := [some (.ref 99), some (.int p0), some (.int p1), some (.int (-4)), some (.int (-1)), none]) hX dX2_firstCarrier_4 rfl (Nat.le_of_ble_eq_true rfl) rfl ?_
  refine G_iconst (v := 0) hX dX2_firstCarrier_6 rfl ?_
  refine G_istore (lv' := [some (.ref 99), some (.int p0), some (.int p1), some (.int (-4)), some (.int (-1)), some (.int 0)]) hX dX2_firstCarrier_7 rfl (Nat.le_of_ble_eq_true rfl) rfl ?_
  obtain ⟨e11, v8, v9, v10, h12, hf⟩ := bd4_some hf
  refine G_mask (lv' := [some (.ref 99), some (.int p0), some (.int p1), some (.int (-4)), some (.int (-1)), some (.int 0)]) [true, true, true, true, true, true] rfl rfl ?_
  refine lp_G (body := (fun s => fX2_firstCarrier_b9 p0 p1 s.1 s.2.1 s.2.2 u)) (Gh := fun s => G w X Zm 9 [some (.ref 99), some (.int p0), some (.int p1), some (.int s.1), some (.int s.2.1), some (.int s.2.2)] [] u) (Gx := fun e s => G w X Zm 67 [some (.ref 99), some (.int p0), some (.int p1), some (.int s.1), some (.int s.2.1), none] [] u) (fun s e s' hb K0 K1 => tX2_firstCarrier_b9 (s := s) (e := e) (s' := s') hX   hb K0 K1) fuel (((-4) : Int32), ((-1) : Int32), (0 : Int32)) (e11, v8, v9, v10) h12 ?_
  refine G_aload_n hX dX2_firstCarrier_67 rfl ?_
  refine G_iload_n hX dX2_firstCarrier_68 rfl ?_
  refine G_iload_n hX dX2_firstCarrier_69 rfl ?_
  refine G_bipush (v := (-4)) hX dX2_firstCarrier_70 rfl ?_
  obtain ⟨v14, h13, hf⟩ := bd1_some hf
  refine G_cV (as := [.int p0, .int p1, .int (-4)]) (rest := []) hX cvX2_45 (mX2_worthOf w h13) (Nat.le_of_ble_eq_true rfl) kK99 (Nat.le_of_ble_eq_true rfl) (Nat.le_of_ble_eq_true rfl) rfl rfl (Nat.le_of_ble_eq_true rfl) dX2_firstCarrier_72 (st' := [.int v14]) rfl ?_
  refine G_iload hX dX2_firstCarrier_75 rfl ?_
  refine G_icmp_le (tgt := 85) hX dX2_firstCarrier_77 rfl hf (fun hf => ?_) (fun hf => ?_)
  · refine G_iload_n hX dX2_firstCarrier_85 rfl ?_
    obtain rfl := Option.some.inj hf
    exact G_iret hX hR dX2_firstCarrier_86
  · refine G_bipush (v := (-4)) hX dX2_firstCarrier_80 rfl ?_
    refine G_goto (tgt := 86) hX dX2_firstCarrier_82 rfl ?_
    obtain rfl := Option.some.inj hf
    exact G_iret hX hR dX2_firstCarrier_86
noncomputable def fX2_setBest (p0 : Int32) (p1 : Int32) (p2 : Int32) (u : Um) : Option Um :=
  nm ((p0 * 64) + p1) fun v1 =>
  if v1 < 0 then
    some u
  else
    if 576 ≤ v1 then
      some u
    else
      if inb v1 576 = true then
      nm (sI u 101 v1.toNatClampNeg p2) fun u2 =>
      some u2
      else none
set_option maxHeartbeats 4000000 in
set_option maxRecDepth 100000 in
theorem mX2_setBest (w : Wc) {p0 : Int32} {p1 : Int32} {p2 : Int32}  {u : Um} {u' : Um} (hf : fX2_setBest p0 p1 p2 u = some u') : MC w 1 qX2_setBest [.ref 99, .int p0, .int p1, .int p2] u none u' := by
  unfold fX2_setBest at hf
  refine MC_intro pnX2 (Nat.le_of_ble_eq_true rfl) (fun X hX hR _ _ => ?_)
  have hX : OKc w X RX2 cX2_setBest 1 := hX
  have hR : RT w X none 0 0 Pst 133 false none u' := hR
  refine G_eql (lv' := [some (.ref 99), some (.int p0), some (.int p1), some (.int p2), none]) rfl ?_
  refine G_iload_n hX dX2_setBest_0 rfl ?_
  refine G_bipush (v := 64) hX dX2_setBest_1 rfl ?_
  refine G_imul hX dX2_setBest_3 ?_
  refine G_iload_n hX dX2_setBest_4 rfl ?_
  refine G_iadd hX dX2_setBest_5 ?_
  refine G_istoreF (lvf := fun v1 => [some (.ref 99), some (.int p0), some (.int p1), some (.int p2), some (.int v1)]) hX dX2_setBest_6 rfl (Nat.le_of_ble_eq_true rfl) (fun _ => rfl) hf (fun v1 hf => ?_)
  refine G_iload hX dX2_setBest_8 rfl ?_
  refine G_if_lt (tgt := 31) hX dX2_setBest_10 rfl hf (fun hf => ?_) (fun hf => ?_)
  · obtain rfl := Option.some.inj hf
    exact G_vret hX hR dX2_setBest_31
  · refine G_iload hX dX2_setBest_13 rfl ?_
    refine G_aload_n hX dX2_setBest_15 rfl ?_
    refine G_getR (i := 1) (t := 101) hX kK99 (Nat.le_of_ble_eq_true rfl) (Nat.le_of_ble_eq_true rfl) rfl pK99_1 flX2_15 dX2_setBest_16 ?_
    refine G_alenI (n := 576) (v := 576) hX kK101 lK101 (Nat.le_of_ble_eq_true rfl) dX2_setBest_19 rfl ?_
    refine G_icmp_ge (tgt := 31) hX dX2_setBest_20 rfl hf (fun hf => ?_) (fun hf => ?_)
    · obtain rfl := Option.some.inj hf
      exact G_vret hX hR dX2_setBest_31
    · refine G_aload_n hX dX2_setBest_23 rfl ?_
      refine G_getR (i := 1) (t := 101) hX kK99 (Nat.le_of_ble_eq_true rfl) (Nat.le_of_ble_eq_true rfl) rfl pK99_1 flX2_15 dX2_setBest_24 ?_
      refine G_iload hX dX2_setBest_27 rfl ?_
      refine G_iload_n hX dX2_setBest_29 rfl ?_
      refine G_iast (n := 576) hX kK101 lK101 (Nat.le_of_ble_eq_true rfl) rfl dX2_setBest_30 hf (fun u2 hf => ?_)
      obtain rfl := Option.some.inj hf
      exact G_vret hX hR dX2_setBest_31
noncomputable def fX2_choose_j61 (p0 : Int32) (j2 : Int32) (j3 : Int32) (u : Um) : Option (Nat × Int32 × Int32 × Um) :=
  nm (j3 + 1) fun v5 =>
  some (0, j2, v5, u)
set_option maxHeartbeats 4000000 in
set_option maxRecDepth 100000 in
theorem tX2_choose_j61 {w : Wc} {X : MX} (hX : OKc w X RX2 cX2_choose 4) {p0 : Int32} {j2 : Int32} {j3 : Int32}  {u : Um} {e : Nat} {s' : Int32 × Int32 × Um} (K0 : e = 0 → G w X Zm 9 [some (.ref 99), some (.int p0), some (.int s'.1), some (.int s'.2.1), none] [] s'.2.2) (K1 : e ≠ 0 → G w X Zm 67 [none, none, none, none, none] [] s'.2.2) (hf : fX2_choose_j61 p0 j2 j3 u = some (e, s')) : G w X Zm 61 [some (.ref 99), some (.int p0), some (.int j2), some (.int j3), none] [] u := by
  unfold fX2_choose_j61 at hf
  refine G_iincF (lvf := fun v5 => [some (.ref 99), some (.int p0), some (.int j2), some (.int v5), none]) hX dX2_choose_61 rfl rfl rfl (Nat.le_of_ble_eq_true rfl) (fun _ => rfl) hf (fun v5 hf => ?_)
  refine G_goto (tgt := 9) hX dX2_choose_64 rfl ?_
  obtain ⟨rfl, rfl⟩ := ret2 hf
  refine G_mask (lv' := [some (.ref 99), some (.int p0), some (.int j2), some (.int v5), none]) [true, true, true, true, false] rfl rfl ?_
  exact K0 rfl
noncomputable def fX2_choose_b9 (p0 : Int32) (s2 : Int32) (s3 : Int32) (u : Um) : Option (Nat × Int32 × Int32 × Um) :=
  if p0 ≤ s3 then
    some (1, s2, s3, u)
  else
    if 8 ≤ s3 then
      some (1, s2, s3, u)
    else
      bd1 (fX2_firstCarrier s3 s2 u) fun v3 =>
      if inb s3 8 = true then
      nm (sI u 102 s3.toNatClampNeg v3) fun u4 =>
      if v3 < 0 then
        fX2_choose_j61 p0 s2 s3 u4
      else
        nm (s2 ||| ((1 : Int32) <<< (v3 &&& 31))) fun v6 =>
        nm (sI u4 99 3 ((u4.1 99 3) + 1)) fun u7 =>
        fX2_choose_j61 p0 v6 s3 u7
      else none
set_option maxHeartbeats 4000000 in
set_option maxRecDepth 100000 in
theorem tX2_choose_b9 {w : Wc} {X : MX} (hX : OKc w X RX2 cX2_choose 4) {p0 : Int32} {s : Int32 × Int32 × Um} {e : Nat} {s' : Int32 × Int32 × Um} (hf : fX2_choose_b9 p0 s.1 s.2.1 s.2.2 = some (e, s')) (K0 : e = 0 → G w X Zm 9 [some (.ref 99), some (.int p0), some (.int s'.1), some (.int s'.2.1), none] [] s'.2.2) (K1 : e ≠ 0 → G w X Zm 67 [none, none, none, none, none] [] s'.2.2) : G w X Zm 9 [some (.ref 99), some (.int p0), some (.int s.1), some (.int s.2.1), none] [] s.2.2 := by
  obtain ⟨s2, s3, u⟩ := s
  unfold fX2_choose_b9 at hf
  try dsimp only at hf ⊢
  refine G_iload_n hX dX2_choose_9 rfl ?_
  refine G_iload_n hX dX2_choose_10 rfl ?_
  refine G_icmp_ge (tgt := 67) hX dX2_choose_11 rfl hf (fun hf => ?_) (fun hf => ?_)
  · obtain ⟨rfl, rfl⟩ := ret2 hf
    refine G_mask (lv' := [none, none, none, none, none]) [false, false, false, false, false] rfl rfl ?_
    exact K1 (by decide)
  · refine G_iload_n hX dX2_choose_14 rfl ?_
    refine G_aload_n hX dX2_choose_15 rfl ?_
    refine G_getR (i := 2) (t := 102) hX kK99 (Nat.le_of_ble_eq_true rfl) (Nat.le_of_ble_eq_true rfl) rfl pK99_2 flX2_18 dX2_choose_16 ?_
    refine G_alenI (n := 8) (v := 8) hX kK102 lK102 (Nat.le_of_ble_eq_true rfl) dX2_choose_19 rfl ?_
    refine G_icmp_ge (tgt := 67) hX dX2_choose_20 rfl hf (fun hf => ?_) (fun hf => ?_)
    · obtain ⟨rfl, rfl⟩ := ret2 hf
      refine G_mask (lv' := [none, none, none, none, none]) [false, false, false, false, false] rfl rfl ?_
      exact K1 (by decide)
    · refine G_aload_n hX dX2_choose_23 rfl ?_
      refine G_iload_n hX dX2_choose_24 rfl ?_
      refine G_iload_n hX dX2_choose_25 rfl ?_
      obtain ⟨v3, h2, hf⟩ := bd1_some hf
      refine G_cV (as := [.int s3, .int s2]) (rest := []) hX cvX2_41 (mX2_firstCarrier w h2) (Nat.le_of_ble_eq_true rfl) kK99 (Nat.le_of_ble_eq_true rfl) (Nat.le_of_ble_eq_true rfl) rfl rfl (Nat.le_of_ble_eq_true rfl) dX2_choose_26 (st' := [.int v3]) rfl ?_
      refine G_istore (lv' := [some (.ref 99), some (.int p0), some (.int s2), some (.int s3), some (.int v3)]) hX dX2_choose_29 rfl (Nat.le_of_ble_eq_true rfl) rfl ?_
      refine G_aload_n hX dX2_choose_31 rfl ?_
      refine G_getR (i := 2) (t := 102) hX kK99 (Nat.le_of_ble_eq_true rfl) (Nat.le_of_ble_eq_true rfl) rfl pK99_2 flX2_18 dX2_choose_32 ?_
      refine G_iload_n hX dX2_choose_35 rfl ?_
      refine G_iload hX dX2_choose_36 rfl ?_
      refine G_iast (n := 8) hX kK102 lK102 (Nat.le_of_ble_eq_true rfl) rfl dX2_choose_38 hf (fun u4 hf => ?_)
      refine G_iload hX dX2_choose_39 rfl ?_
      refine G_if_lt (tgt := 61) hX dX2_choose_41 rfl hf (fun hf => ?_) (fun hf => ?_)
      · refine G_mask (lv' := [some (.ref 99), some (.int p0), some (.int s2), some (.int s3), none]) [true, true, true, true, false] rfl rfl ?_
        exact tX2_choose_j61 hX  K0 K1 hf
      · refine G_iload_n hX dX2_choose_44 rfl ?_
        refine G_iconst (v := 1) hX dX2_choose_45 rfl ?_
        refine G_iload hX dX2_choose_46 rfl ?_
        refine G_ishl hX dX2_choose_48 ?_
        refine G_ior hX dX2_choose_49 ?_
        refine G_istore_nF (lvf := fun v6 => [some (.ref 99), some (.int p0), some (.int v6), some (.int s3), some (.int v3)]) hX dX2_choose_50 rfl (Nat.le_of_ble_eq_true rfl) (fun _ => rfl) hf (fun v6 hf => ?_)
        refine G_aload_n hX dX2_choose_51 rfl ?_
        refine G_dup hX dX2_choose_52 rfl ?_
        refine G_getI (i := 3) hX kK99 (Nat.le_of_ble_eq_true rfl) (Nat.le_of_ble_eq_true rfl) rfl flX2_21 dX2_choose_53 ?_
        refine G_iconst (v := 1) hX dX2_choose_56 rfl ?_
        refine G_iadd hX dX2_choose_57 ?_
        refine G_putI (i := 3) hX kK99 (Nat.le_of_ble_eq_true rfl) (Nat.le_of_ble_eq_true rfl) rfl rfl flX2_21 fwX2_3 dX2_choose_58 hf (fun u7 hf => ?_)
        refine G_mask (lv' := [some (.ref 99), some (.int p0), some (.int v6), some (.int s3), none]) [true, true, true, true, false] rfl rfl ?_
        exact tX2_choose_j61 hX  K0 K1 hf
noncomputable def fX2_choose (p0 : Int32) (u : Um) : Option Um :=
  nm (sI u 99 3 0) fun u1 =>
  bd4 (lp (fun s => fX2_choose_b9 p0 s.1 s.2.1 s.2.2) fuel ((0 : Int32), (0 : Int32), u1)) fun e11 v8 v9 u10 =>
  some u10
set_option maxHeartbeats 4000000 in
set_option maxRecDepth 100000 in
theorem mX2_choose (w : Wc) {p0 : Int32}  {u : Um} {u' : Um} (hf : fX2_choose p0 u = some u') : MC w 4 qX2_choose [.ref 99, .int p0] u none u' := by
  unfold fX2_choose at hf
  refine MC_intro pnX2 (Nat.le_of_ble_eq_true rfl) (fun X hX hR _ _ => ?_)
  have hX : OKc w X RX2 cX2_choose 4 := hX
  have hR : RT w X none 0 0 Pst 133 false none u' := hR
  refine G_eql (lv' := [some (.ref 99), some (.int p0), none, none, none]) rfl ?_
  refine G_iconst (v := 0) hX dX2_choose_0 rfl ?_
  refine G_istore_n (lv' := [some (.ref 99), some (.int p0), some (.int 0), none, none]) hX dX2_choose_1 rfl (Nat.le_of_ble_eq_true rfl) rfl ?_
  refine G_aload_n hX dX2_choose_2 rfl ?_
  refine G_iconst (v := 0) hX dX2_choose_3 rfl ?_
  refine G_putI (i := 3) hX kK99 (Nat.le_of_ble_eq_true rfl) (Nat.le_of_ble_eq_true rfl) rfl rfl flX2_21 fwX2_3 dX2_choose_4 hf (fun u1 hf => ?_)
  refine G_iconst (v := 0) hX dX2_choose_7 rfl ?_
  refine G_istore_n (lv' := [some (.ref 99), some (.int p0), some (.int 0), some (.int 0), none]) hX dX2_choose_8 rfl (Nat.le_of_ble_eq_true rfl) rfl ?_
  obtain ⟨e11, v8, v9, u10, h12, hf⟩ := bd4_some hf
  refine G_mask (lv' := [some (.ref 99), some (.int p0), some (.int 0), some (.int 0), none]) [true, true, true, true, false] rfl rfl ?_
  refine lp_G (body := (fun s => fX2_choose_b9 p0 s.1 s.2.1 s.2.2)) (Gh := fun s => G w X Zm 9 [some (.ref 99), some (.int p0), some (.int s.1), some (.int s.2.1), none] [] s.2.2) (Gx := fun e s => G w X Zm 67 [none, none, none, none, none] [] s.2.2) (fun s e s' hb K0 K1 => tX2_choose_b9 (s := s) (e := e) (s' := s') hX   hb K0 K1) fuel ((0 : Int32), (0 : Int32), u1) (e11, v8, v9, u10) h12 ?_
  obtain rfl := Option.some.inj hf
  exact G_vret hX hR dX2_choose_67
noncomputable def fX2_settle_b26 (p0 : Nat) (i2 : Int32) (s3 : Int32) (u : Um) : Option (Nat × Int32 × Um) :=
  if 64 ≤ s3 then
    some (1, s3, u)
  else
    bd1 (fX2_firstCarrier i2 s3 u) fun v9 =>
    bd1 (fX2_worthOf i2 s3 v9 u) fun v11 =>
    bd1 (fX2_setBest i2 s3 v11 u) fun u13 =>
    nm (s3 + 1) fun v14 =>
    some (0, v14, u13)
set_option maxHeartbeats 4000000 in
set_option maxRecDepth 100000 in
theorem tX2_settle_b26 {w : Wc} {X : MX} (hX : OKc w X RX2 cX2_settle 6) {p0 : Nat} {i2 : Int32} (hp0 : kd p0 = 0) {s : Int32 × Um} {e : Nat} {s' : Int32 × Um} (hf : fX2_settle_b26 p0 i2 s.1 s.2 = some (e, s')) (K0 : e = 0 → G w X Zm 26 [some (.ref 99), some (.ref p0), some (.int i2), some (.int s'.1)] [] s'.2) (K1 : e ≠ 0 → G w X Zm 56 [some (.ref 99), some (.ref p0), some (.int i2), none] [] s'.2) : G w X Zm 26 [some (.ref 99), some (.ref p0), some (.int i2), some (.int s.1)] [] s.2 := by
  obtain ⟨s3, u⟩ := s
  unfold fX2_settle_b26 at hf
  try dsimp only at hf ⊢
  refine G_iload_n hX dX2_settle_26 rfl ?_
  refine G_bipush (v := 64) hX dX2_settle_27 rfl ?_
  refine G_icmp_ge (tgt := 56) hX dX2_settle_29 rfl hf (fun hf => ?_) (fun hf => ?_)
  · obtain ⟨rfl, rfl⟩ := ret2 hf
    refine G_mask (lv' := [some (.ref 99), some (.ref p0), some (.int i2), none]) [true, true, true, false] rfl rfl ?_
    exact K1 (by decide)
  · refine G_aload_n hX dX2_settle_32 rfl ?_
    refine G_iload_n hX dX2_settle_33 rfl ?_
    refine G_iload_n hX dX2_settle_34 rfl ?_
    refine G_aload_n hX dX2_settle_35 rfl ?_
    refine G_iload_n hX dX2_settle_36 rfl ?_
    refine G_iload_n hX dX2_settle_37 rfl ?_
    refine G_aload_n hX dX2_settle_38 rfl ?_
    refine G_iload_n hX dX2_settle_39 rfl ?_
    refine G_iload_n hX dX2_settle_40 rfl ?_
    obtain ⟨v9, h8, hf⟩ := bd1_some hf
    refine G_cV (as := [.int i2, .int s3]) (rest := [.int s3, .int i2, .ref 99, .int s3, .int i2, .ref 99]) hX cvX2_41 (mX2_firstCarrier w h8) (Nat.le_of_ble_eq_true rfl) kK99 (Nat.le_of_ble_eq_true rfl) (Nat.le_of_ble_eq_true rfl) rfl rfl (Nat.le_of_ble_eq_true rfl) dX2_settle_41 (st' := [.int v9, .int s3, .int i2, .ref 99, .int s3, .int i2, .ref 99]) rfl ?_
    obtain ⟨v11, h10, hf⟩ := bd1_some hf
    refine G_cV (as := [.int i2, .int s3, .int v9]) (rest := [.int s3, .int i2, .ref 99]) hX cvX2_45 (mX2_worthOf w h10) (Nat.le_of_ble_eq_true rfl) kK99 (Nat.le_of_ble_eq_true rfl) (Nat.le_of_ble_eq_true rfl) rfl rfl (Nat.le_of_ble_eq_true rfl) dX2_settle_44 (st' := [.int v11, .int s3, .int i2, .ref 99]) rfl ?_
    obtain ⟨u13, h12, hf⟩ := bd1_some hf
    refine G_cV (as := [.int i2, .int s3, .int v11]) (rest := []) hX cvX2_49 (mX2_setBest w h12) (Nat.le_of_ble_eq_true rfl) kK99 (Nat.le_of_ble_eq_true rfl) (Nat.le_of_ble_eq_true rfl) rfl rfl (Nat.le_of_ble_eq_true rfl) dX2_settle_47 (st' := []) rfl ?_
    refine G_iincF (lvf := fun v14 => [some (.ref 99), some (.ref p0), some (.int i2), some (.int v14)]) hX dX2_settle_50 rfl rfl rfl (Nat.le_of_ble_eq_true rfl) (fun _ => rfl) hf (fun v14 hf => ?_)
    refine G_goto (tgt := 26) hX dX2_settle_53 rfl ?_
    obtain ⟨rfl, rfl⟩ := ret2 hf
    refine G_mask (lv' := [some (.ref 99), some (.ref p0), some (.int i2), some (.int v14)]) [true, true, true, true] rfl rfl ?_
    exact K0 rfl
noncomputable def fX2_settle_b20 (p0 : Nat) (s2 : Int32) (u : Um) : Option (Nat × Int32 × Um) :=
  if s2 < 0 then
    some (1, s2, u)
  else
    bd3 (lp (fun s => fX2_settle_b26 p0 s2 s.1 s.2) fuel ((0 : Int32), u)) fun e17 v15 u16 =>
    nm (s2 + (-1)) fun v19 =>
    some (0, v19, u16)
set_option maxHeartbeats 4000000 in
set_option maxRecDepth 100000 in
theorem tX2_settle_b20 {w : Wc} {X : MX} (hX : OKc w X RX2 cX2_settle 6) {p0 : Nat} (hp0 : kd p0 = 0) {s : Int32 × Um} {e : Nat} {s' : Int32 × Um} (hf : fX2_settle_b20 p0 s.1 s.2 = some (e, s')) (K0 : e = 0 → G w X Zm 20 [some (.ref 99), some (.ref p0), some (.int s'.1), none] [] s'.2) (K1 : e ≠ 0 → G w X Zm 62 [some (.ref 99), some (.ref p0), none, none] [] s'.2) : G w X Zm 20 [some (.ref 99), some (.ref p0), some (.int s.1), none] [] s.2 := by
  obtain ⟨s2, u⟩ := s
  unfold fX2_settle_b20 at hf
  try dsimp only at hf ⊢
  refine G_iload_n hX dX2_settle_20 rfl ?_
  refine G_if_lt (tgt := 62) hX dX2_settle_21 rfl hf (fun hf => ?_) (fun hf => ?_)
  · obtain ⟨rfl, rfl⟩ := ret2 hf
    refine G_mask (lv' := [some (.ref 99), some (.ref p0), none, none]) [true, true, false, false] rfl rfl ?_
    exact K1 (by decide)
  · refine G_iconst (v := 0) hX dX2_settle_24 rfl ?_
    refine G_istore_n (lv' := [some (.ref 99), some (.ref p0), some (.int s2), some (.int 0)]) hX dX2_settle_25 rfl (Nat.le_of_ble_eq_true rfl) rfl ?_
    obtain ⟨e17, v15, u16, h18, hf⟩ := bd3_some hf
    refine G_mask (lv' := [some (.ref 99), some (.ref p0), some (.int s2), some (.int 0)]) [true, true, true, true] rfl rfl ?_
    refine lp_G (body := (fun s => fX2_settle_b26 p0 s2 s.1 s.2)) (Gh := fun s => G w X Zm 26 [some (.ref 99), some (.ref p0), some (.int s2), some (.int s.1)] [] s.2) (Gx := fun e s => G w X Zm 56 [some (.ref 99), some (.ref p0), some (.int s2), none] [] s.2) (fun s e s' hb K0 K1 => tX2_settle_b26 (s := s) (e := e) (s' := s') hX hp0  hb K0 K1) fuel ((0 : Int32), u) (e17, v15, u16) h18 ?_
    refine G_iincF (lvf := fun v19 => [some (.ref 99), some (.ref p0), some (.int v19), none]) hX dX2_settle_56 rfl rfl rfl (Nat.le_of_ble_eq_true rfl) (fun _ => rfl) hf (fun v19 hf => ?_)
    refine G_goto (tgt := 20) hX dX2_settle_59 rfl ?_
    obtain ⟨rfl, rfl⟩ := ret2 hf
    refine G_mask (lv' := [some (.ref 99), some (.ref p0), some (.int v19), none]) [true, true, true, false] rfl rfl ?_
    exact K0 rfl
noncomputable def fX2_settle (p0 : Nat) (u : Um) : Option Um :=
  bd1 (fX2_weigh p0 u) fun u2 =>
  bd1 (fJ7_fill_53178 101 0 u2) fun u4 =>
  bd1 (fX0_wrongs p0 u4) fun v6 =>
  nm (v6 - 1) fun v7 =>
  bd3 (lp (fun s => fX2_settle_b20 p0 s.1 s.2) fuel (v7, u4)) fun e22 v20 u21 =>
  bd1 (fX0_wrongs p0 u21) fun v25 =>
  bd1 (fX2_choose v25 u21) fun u27 =>
  some u27
set_option maxHeartbeats 4000000 in
set_option maxRecDepth 100000 in
theorem mX2_settle (w : Wc) {p0 : Nat} (hp0 : kd p0 = 0) {u : Um} {u' : Um} (hf : fX2_settle p0 u = some u') : MC w 6 qX2_settle [.ref 99, .ref p0] u none u' := by
  unfold fX2_settle at hf
  refine MC_intro pnX2 (Nat.le_of_ble_eq_true rfl) (fun X hX hR _ _ => ?_)
  have hX : OKc w X RX2 cX2_settle 6 := hX
  have hR : RT w X none 0 0 Pst 133 false none u' := hR
  refine G_eql (lv' := [some (.ref 99), some (.ref p0), none, none]) rfl ?_
  refine G_aload_n hX dX2_settle_0 rfl ?_
  refine G_aload_n hX dX2_settle_1 rfl ?_
  obtain ⟨u2, h1, hf⟩ := bd1_some hf
  refine G_cV (as := [.ref p0]) (rest := []) hX cvX2_25 (mX2_weigh w hp0 h1) (Nat.le_of_ble_eq_true rfl) kK99 (Nat.le_of_ble_eq_true rfl) (Nat.le_of_ble_eq_true rfl) rfl rfl (Nat.le_of_ble_eq_true rfl) dX2_settle_2 (st' := []) rfl ?_
  refine G_aload_n hX dX2_settle_5 rfl ?_
  refine G_getR (i := 1) (t := 101) hX kK99 (Nat.le_of_ble_eq_true rfl) (Nat.le_of_ble_eq_true rfl) rfl pK99_1 flX2_15 dX2_settle_6 ?_
  refine G_iconst (v := 0) hX dX2_settle_9 rfl ?_
  obtain ⟨u4, h3, hf⟩ := bd1_some hf
  refine G_cS (as := [.ref 101, .int 0]) (rest := []) hX csX2_29 (mJ7_fill_53178 w kK101 h3) (Nat.le_of_ble_eq_true rfl) rfl rfl (Nat.le_of_ble_eq_true rfl) dX2_settle_10 (st' := []) rfl ?_
  refine G_aload_n hX dX2_settle_13 rfl ?_
  obtain ⟨v6, h5, hf⟩ := bd1_some hf
  refine G_cV (as := []) (rest := []) hX cvX2_35 (mX0_wrongs w hp0 h5) (Nat.le_of_ble_eq_true rfl) hp0 (Nat.le_of_ble_eq_true rfl) (kd_lt hp0 (Nat.le_of_ble_eq_true rfl)) rfl rfl (Nat.le_of_ble_eq_true rfl) dX2_settle_14 (st' := [.int v6]) rfl ?_
  refine G_iconst (v := 1) hX dX2_settle_17 rfl ?_
  refine G_isub hX dX2_settle_18 ?_
  refine G_istore_nF (lvf := fun v7 => [some (.ref 99), some (.ref p0), some (.int v7), none]) hX dX2_settle_19 rfl (Nat.le_of_ble_eq_true rfl) (fun _ => rfl) hf (fun v7 hf => ?_)
  obtain ⟨e22, v20, u21, h23, hf⟩ := bd3_some hf
  refine G_mask (lv' := [some (.ref 99), some (.ref p0), some (.int v7), none]) [true, true, true, false] rfl rfl ?_
  refine lp_G (body := (fun s => fX2_settle_b20 p0 s.1 s.2)) (Gh := fun s => G w X Zm 20 [some (.ref 99), some (.ref p0), some (.int s.1), none] [] s.2) (Gx := fun e s => G w X Zm 62 [some (.ref 99), some (.ref p0), none, none] [] s.2) (fun s e s' hb K0 K1 => tX2_settle_b20 (s := s) (e := e) (s' := s') hX hp0  hb K0 K1) fuel (v7, u4) (e22, v20, u21) h23 ?_
  refine G_aload_n hX dX2_settle_62 rfl ?_
  refine G_aload_n hX dX2_settle_63 rfl ?_
  obtain ⟨v25, h24, hf⟩ := bd1_some hf
  refine G_cV (as := []) (rest := [.ref 99]) hX cvX2_35 (mX0_wrongs w hp0 h24) (Nat.le_of_ble_eq_true rfl) hp0 (Nat.le_of_ble_eq_true rfl) (kd_lt hp0 (Nat.le_of_ble_eq_true rfl)) rfl rfl (Nat.le_of_ble_eq_true rfl) dX2_settle_64 (st' := [.int v25, .ref 99]) rfl ?_
  obtain ⟨u27, h26, hf⟩ := bd1_some hf
  refine G_cV (as := [.int v25]) (rest := []) hX cvX2_53 (mX2_choose w h26) (Nat.le_of_ble_eq_true rfl) kK99 (Nat.le_of_ble_eq_true rfl) (Nat.le_of_ble_eq_true rfl) rfl rfl (Nat.le_of_ble_eq_true rfl) dX2_settle_67 (st' := []) rfl ?_
  obtain rfl := Option.some.inj hf
  exact G_vret hX hR dX2_settle_70
noncomputable def fX2_forgiven  (u : Um) : Option Int32 :=
  some (u.1 99 3)
set_option maxHeartbeats 4000000 in
set_option maxRecDepth 100000 in
theorem mX2_forgiven (w : Wc)   {u : Um} {r : Int32} (hf : fX2_forgiven  u = some r) : MC w 1 qX2_forgiven [.ref 99] u (some (.int r)) u := by
  unfold fX2_forgiven at hf
  refine MC_intro pnX2 (Nat.le_of_ble_eq_true rfl) (fun X hX hR _ _ => ?_)
  have hX : OKc w X RX2 cX2_forgiven 1 := hX
  have hR : RT w X (some .int) 0 0 Pst 133 false (some (.int r)) u := hR
  refine G_eql (lv' := [some (.ref 99)]) rfl ?_
  refine G_aload_n hX dX2_forgiven_0 rfl ?_
  refine G_getI (i := 3) hX kK99 (Nat.le_of_ble_eq_true rfl) (Nat.le_of_ble_eq_true rfl) rfl flX2_21 dX2_forgiven_1 ?_
  obtain rfl := Option.some.inj hf
  exact G_iret hX hR dX2_forgiven_4
noncomputable def fX2_carrierOf (p0 : Int32) (u : Um) : Option Int32 :=
  if p0 < 0 then
    some (-4)
  else
    if p0 < 8 then
      if inb p0 8 = true then
      some (u.1 102 p0.toNatClampNeg)
      else none
    else
      some (-4)
set_option maxHeartbeats 4000000 in
set_option maxRecDepth 100000 in
theorem mX2_carrierOf (w : Wc) {p0 : Int32}  {u : Um} {r : Int32} (hf : fX2_carrierOf p0 u = some r) : MC w 1 qX2_carrierOf [.ref 99, .int p0] u (some (.int r)) u := by
  unfold fX2_carrierOf at hf
  refine MC_intro pnX2 (Nat.le_of_ble_eq_true rfl) (fun X hX hR _ _ => ?_)
  have hX : OKc w X RX2 cX2_carrierOf 1 := hX
  have hR : RT w X (some .int) 0 0 Pst 133 false (some (.int r)) u := hR
  refine G_eql (lv' := [some (.ref 99), some (.int p0)]) rfl ?_
  refine G_iload_n hX dX2_carrierOf_0 rfl ?_
  refine G_if_lt (tgt := 13) hX dX2_carrierOf_1 rfl hf (fun hf => ?_) (fun hf => ?_)
  · refine G_bipush (v := (-4)) hX dX2_carrierOf_13 rfl ?_
    refine G_goto (tgt := 24) hX dX2_carrierOf_15 rfl ?_
    obtain rfl := Option.some.inj hf
    exact G_iret hX hR dX2_carrierOf_24
  · refine G_iload_n hX dX2_carrierOf_4 rfl ?_
    refine G_aload_n hX dX2_carrierOf_5 rfl ?_
    refine G_getR (i := 2) (t := 102) hX kK99 (Nat.le_of_ble_eq_true rfl) (Nat.le_of_ble_eq_true rfl) rfl pK99_2 flX2_18 dX2_carrierOf_6 ?_
    refine G_alenI (n := 8) (v := 8) hX kK102 lK102 (Nat.le_of_ble_eq_true rfl) dX2_carrierOf_9 rfl ?_
    refine G_icmp_lt (tgt := 18) hX dX2_carrierOf_10 rfl hf (fun hf => ?_) (fun hf => ?_)
    · refine G_aload_n hX dX2_carrierOf_18 rfl ?_
      refine G_getR (i := 2) (t := 102) hX kK99 (Nat.le_of_ble_eq_true rfl) (Nat.le_of_ble_eq_true rfl) rfl pK99_2 flX2_18 dX2_carrierOf_19 ?_
      refine G_iload_n hX dX2_carrierOf_22 rfl ?_
      refine G_iald (n := 8) hX kK102 lK102 (Nat.le_of_ble_eq_true rfl) dX2_carrierOf_23 hf (fun hf => ?_)
      obtain rfl := Option.some.inj hf
      exact G_iret hX hR dX2_carrierOf_24
    · refine G_bipush (v := (-4)) hX dX2_carrierOf_13 rfl ?_
      refine G_goto (tgt := 24) hX dX2_carrierOf_15 rfl ?_
      obtain rfl := Option.some.inj hf
      exact G_iret hX hR dX2_carrierOf_24
noncomputable def fX7_match_j18 (p0 : Int32) (u : Um) : Option (Int32 × Um) :=
  bd1 (fX0_stands 3 u) fun v2 =>
  if v2 = 0 then
    some ((-2), u)
  else
    bd1 (fX2_settle 3 u) fun u4 =>
    if p0 = (-1) then
      bd1 (fX2_forgiven  u4) fun v8 =>
      some (v8, u4)
    else
      bd1 (fX2_carrierOf p0 u4) fun v6 =>
      some (v6, u4)
set_option maxHeartbeats 4000000 in
set_option maxRecDepth 100000 in
theorem tX7_match_j18 {w : Wc} {X : MX} (hX : OKc w X RX7 cX7_match 7) {p0 : Int32} {u : Um} {r : Int32} {u' : Um} (hR : RT w X (some .int) 0 0 Pst 133 false (some (.int r)) u') (hf : fX7_match_j18 p0 u = some (r, u')) : G w X Zm 18 [some (.ref 0), some (.int p0)] [] u := by
  unfold fX7_match_j18 at hf
  refine G_aload_n hX dX7_match_18 rfl ?_
  refine G_getR (i := 1) (t := 3) hX kK0 (Nat.le_of_ble_eq_true rfl) (Nat.le_of_ble_eq_true rfl) rfl pK0_1 flX7_19 dX7_match_19 ?_
  obtain ⟨v2, h1, hf⟩ := bd1_some hf
  refine G_cV (as := []) (rest := []) hX cvX7_135 (mX0_stands w kK3 h1) (Nat.le_of_ble_eq_true rfl) kK3 (Nat.le_of_ble_eq_true rfl) (Nat.le_of_ble_eq_true rfl) rfl rfl (Nat.le_of_ble_eq_true rfl) dX7_match_22 (st' := [.int v2]) rfl ?_
  refine G_if_ne (tgt := 31) hX dX7_match_25 rfl hf (fun hf => ?_) (fun hf => ?_)
  · refine G_aload_n hX dX7_match_31 rfl ?_
    refine G_getR (i := 6) (t := 99) hX kK0 (Nat.le_of_ble_eq_true rfl) (Nat.le_of_ble_eq_true rfl) rfl pK0_6 flX7_47 dX7_match_32 ?_
    refine G_aload_n hX dX7_match_35 rfl ?_
    refine G_getR (i := 1) (t := 3) hX kK0 (Nat.le_of_ble_eq_true rfl) (Nat.le_of_ble_eq_true rfl) rfl pK0_1 flX7_19 dX7_match_36 ?_
    obtain ⟨u4, h3, hf⟩ := bd1_some hf
    refine G_cV (as := [.ref 3]) (rest := []) hX cvX7_162 (mX2_settle w kK3 h3) (Nat.le_of_ble_eq_true rfl) kK99 (Nat.le_of_ble_eq_true rfl) (Nat.le_of_ble_eq_true rfl) rfl rfl (Nat.le_of_ble_eq_true rfl) dX7_match_39 (st' := []) rfl ?_
    refine G_iload_n hX dX7_match_42 rfl ?_
    refine G_iconst (v := (-1)) hX dX7_match_43 rfl ?_
    refine G_icmp_ne (tgt := 57) hX dX7_match_44 rfl hf (fun hf => ?_) (fun hf => ?_)
    · refine G_aload_n hX dX7_match_57 rfl ?_
      refine G_getR (i := 6) (t := 99) hX kK0 (Nat.le_of_ble_eq_true rfl) (Nat.le_of_ble_eq_true rfl) rfl pK0_6 flX7_47 dX7_match_58 ?_
      refine G_iload_n hX dX7_match_61 rfl ?_
      obtain ⟨v6, h5, hf⟩ := bd1_some hf
      refine G_cV (as := [.int p0]) (rest := []) hX cvX7_168 (mX2_carrierOf w h5) (Nat.le_of_ble_eq_true rfl) kK99 (Nat.le_of_ble_eq_true rfl) (Nat.le_of_ble_eq_true rfl) rfl rfl (Nat.le_of_ble_eq_true rfl) dX7_match_62 (st' := [.int v6]) rfl ?_
      obtain ⟨rfl, rfl⟩ := ret2 hf
      exact G_iret hX hR dX7_match_65
    · refine G_aload_n hX dX7_match_47 rfl ?_
      refine G_getR (i := 6) (t := 99) hX kK0 (Nat.le_of_ble_eq_true rfl) (Nat.le_of_ble_eq_true rfl) rfl pK0_6 flX7_47 dX7_match_48 ?_
      obtain ⟨v8, h7, hf⟩ := bd1_some hf
      refine G_cV (as := []) (rest := []) hX cvX7_165 (mX2_forgiven w h7) (Nat.le_of_ble_eq_true rfl) kK99 (Nat.le_of_ble_eq_true rfl) (Nat.le_of_ble_eq_true rfl) rfl rfl (Nat.le_of_ble_eq_true rfl) dX7_match_51 (st' := [.int v8]) rfl ?_
      refine G_goto (tgt := 65) hX dX7_match_54 rfl ?_
      obtain ⟨rfl, rfl⟩ := ret2 hf
      exact G_iret hX hR dX7_match_65
  · refine G_bipush (v := (-2)) hX dX7_match_28 rfl ?_
    obtain ⟨rfl, rfl⟩ := ret2 hf
    exact G_iret hX hR dX7_match_30
noncomputable def fX7_match (p0 : Int32) (u : Um) : Option (Int32 × Um) :=
  if p0 = (-1) then
    fX7_match_j18 p0 u
  else
    bd1 (fX0_hasWrong 3 p0 u) fun v10 =>
    if v10 = 0 then
      some ((-1), u)
    else
      fX7_match_j18 p0 u
set_option maxHeartbeats 4000000 in
set_option maxRecDepth 100000 in
theorem mX7_match (w : Wc) {p0 : Int32}  {u : Um} {r : Int32} {u' : Um} (hf : fX7_match p0 u = some (r, u')) : MC w 7 qX7_match [.ref 0, .int p0] u (some (.int r)) u' := by
  unfold fX7_match at hf
  refine MC_intro pnX7 (Nat.le_of_ble_eq_true rfl) (fun X hX hR _ _ => ?_)
  have hX : OKc w X RX7 cX7_match 7 := hX
  have hR : RT w X (some .int) 0 0 Pst 133 false (some (.int r)) u' := hR
  refine G_eql (lv' := [some (.ref 0), some (.int p0)]) rfl ?_
  refine G_iload_n hX dX7_match_0 rfl ?_
  refine G_iconst (v := (-1)) hX dX7_match_1 rfl ?_
  refine G_icmp_eq (tgt := 18) hX dX7_match_2 rfl hf (fun hf => ?_) (fun hf => ?_)
  · refine G_mask (lv' := [some (.ref 0), some (.int p0)]) [true, true] rfl rfl ?_
    exact tX7_match_j18 hX  hR hf
  · refine G_aload_n hX dX7_match_5 rfl ?_
    refine G_getR (i := 1) (t := 3) hX kK0 (Nat.le_of_ble_eq_true rfl) (Nat.le_of_ble_eq_true rfl) rfl pK0_1 flX7_19 dX7_match_6 ?_
    refine G_iload_n hX dX7_match_9 rfl ?_
    obtain ⟨v10, h9, hf⟩ := bd1_some hf
    refine G_cV (as := [.int p0]) (rest := []) hX cvX7_105 (mX0_hasWrong w kK3 h9) (Nat.le_of_ble_eq_true rfl) kK3 (Nat.le_of_ble_eq_true rfl) (Nat.le_of_ble_eq_true rfl) rfl rfl (Nat.le_of_ble_eq_true rfl) dX7_match_10 (st' := [.int v10]) rfl ?_
    refine G_if_ne (tgt := 18) hX dX7_match_13 rfl hf (fun hf => ?_) (fun hf => ?_)
    · refine G_mask (lv' := [some (.ref 0), some (.int p0)]) [true, true] rfl rfl ?_
      exact tX7_match_j18 hX  hR hf
    · refine G_iconst (v := (-1)) hX dX7_match_16 rfl ?_
      obtain ⟨rfl, rfl⟩ := ret2 hf
      exact G_iret hX hR dX7_match_17
noncomputable def fX0_wantedAfter_b5 (a : Nat) (p0 : Int32) (p1 : Int32) (s3 : Int32) (s4 : Int32) (u : Um) : Option (Nat × Int32 × Int32) :=
  if p1 ≤ s4 then
    some (1, s3, s4)
  else
    if s3 = (-4) then
      some (1, s3, s4)
    else
      bd1 (fX0_trait a s3 5 u) fun v2 =>
      nm (s4 + 1) fun v3 =>
      some (0, v2, v3)
set_option maxHeartbeats 4000000 in
set_option maxRecDepth 100000 in
theorem tX0_wantedAfter_b5 {w : Wc} {X : MX} (hX : OKc w X RX0 cX0_wantedAfter 2) {a : Nat} {p0 : Int32} {p1 : Int32} (ha : kd a = 0) {s : Int32 × Int32} {e : Nat} {s' : Int32 × Int32} {u : Um} (hf : fX0_wantedAfter_b5 a p0 p1 s.1 s.2 u = some (e, s')) (K0 : e = 0 → G w X Zm 5 [some (.ref a), none, some (.int p1), some (.int s'.1), some (.int s'.2)] [] u) (K1 : e ≠ 0 → G w X Zm 30 [none, none, none, some (.int s'.1), none] [] u) : G w X Zm 5 [some (.ref a), none, some (.int p1), some (.int s.1), some (.int s.2)] [] u := by
  obtain ⟨s3, s4⟩ := s
  unfold fX0_wantedAfter_b5 at hf
  try dsimp only at hf ⊢
  refine G_iload hX dX0_wantedAfter_5 rfl ?_
  refine G_iload_n hX dX0_wantedAfter_7 rfl ?_
  refine G_icmp_ge (tgt := 30) hX dX0_wantedAfter_8 rfl hf (fun hf => ?_) (fun hf => ?_)
  · obtain ⟨rfl, rfl⟩ := ret2 hf
    refine G_mask (lv' := [none, none, none, some (.int s3), none]) [false, false, false, true, false] rfl rfl ?_
    exact K1 (by decide)
  · refine G_iload_n hX dX0_wantedAfter_11 rfl ?_
    refine G_bipush (v := (-4)) hX dX0_wantedAfter_12 rfl ?_
    refine G_icmp_eq (tgt := 30) hX dX0_wantedAfter_14 rfl hf (fun hf => ?_) (fun hf => ?_)
    · obtain ⟨rfl, rfl⟩ := ret2 hf
      refine G_mask (lv' := [none, none, none, some (.int s3), none]) [false, false, false, true, false] rfl rfl ?_
      exact K1 (by decide)
    · refine G_aload_n hX dX0_wantedAfter_17 rfl ?_
      refine G_iload_n hX dX0_wantedAfter_18 rfl ?_
      refine G_iconst (v := 5) hX dX0_wantedAfter_19 rfl ?_
      obtain ⟨v2, h1, hf⟩ := bd1_some hf
      refine G_cV (as := [.int s3, .int 5]) (rest := []) hX cvX0_45 (mX0_trait w ha h1) (Nat.le_of_ble_eq_true rfl) ha (Nat.le_of_ble_eq_true rfl) (kd_lt ha (Nat.le_of_ble_eq_true rfl)) rfl rfl (Nat.le_of_ble_eq_true rfl) dX0_wantedAfter_20 (st' := [.int v2]) rfl ?_
      refine G_istore_n (lv' := [some (.ref a), none, some (.int p1), some (.int v2), some (.int s4)]) hX dX0_wantedAfter_23 rfl (Nat.le_of_ble_eq_true rfl) rfl ?_
      refine G_iincF (lvf := fun v3 => [some (.ref a), none, some (.int p1), some (.int v2), some (.int v3)]) hX dX0_wantedAfter_24 rfl rfl rfl (Nat.le_of_ble_eq_true rfl) (fun _ => rfl) hf (fun v3 hf => ?_)
      refine G_goto (tgt := 5) hX dX0_wantedAfter_27 rfl ?_
      obtain ⟨rfl, rfl⟩ := ret2 hf
      refine G_mask (lv' := [some (.ref a), none, some (.int p1), some (.int v2), some (.int v3)]) [true, false, true, true, true] rfl rfl ?_
      exact K0 rfl
noncomputable def fX0_wantedAfter (a : Nat) (p0 : Int32) (p1 : Int32) (u : Um) : Option Int32 :=
  bd3 (lp (fun s => fX0_wantedAfter_b5 a p0 p1 s.1 s.2 u) fuel (p0, (0 : Int32))) fun e6 v4 v5 =>
  some v4
set_option maxHeartbeats 4000000 in
set_option maxRecDepth 100000 in
theorem mX0_wantedAfter (w : Wc) {a : Nat} {p0 : Int32} {p1 : Int32} (ha : kd a = 0) {u : Um} {r : Int32} (hf : fX0_wantedAfter a p0 p1 u = some r) : MC w 2 qX0_wantedAfter [.ref a, .int p0, .int p1] u (some (.int r)) u := by
  unfold fX0_wantedAfter at hf
  refine MC_intro pnX0 (Nat.le_of_ble_eq_true rfl) (fun X hX hR _ _ => ?_)
  have hX : OKc w X RX0 cX0_wantedAfter 2 := hX
  have hR : RT w X (some .int) 0 0 Pst 133 false (some (.int r)) u := hR
  refine G_eql (lv' := [some (.ref a), some (.int p0), some (.int p1), none, none]) rfl ?_
  refine G_iload_n hX dX0_wantedAfter_0 rfl ?_
  refine G_istore_n (lv' := [some (.ref a), some (.int p0), some (.int p1), some (.int p0), none]) hX dX0_wantedAfter_1 rfl (Nat.le_of_ble_eq_true rfl) rfl ?_
  refine G_iconst (v := 0) hX dX0_wantedAfter_2 rfl ?_
  refine G_istore (lv' := [some (.ref a), some (.int p0), some (.int p1), some (.int p0), some (.int 0)]) hX dX0_wantedAfter_3 rfl (Nat.le_of_ble_eq_true rfl) rfl ?_
  obtain ⟨e6, v4, v5, h7, hf⟩ := bd3_some hf
  refine G_mask (lv' := [some (.ref a), none, some (.int p1), some (.int p0), some (.int 0)]) [true, false, true, true, true] rfl rfl ?_
  refine lp_G (body := (fun s => fX0_wantedAfter_b5 a p0 p1 s.1 s.2 u)) (Gh := fun s => G w X Zm 5 [some (.ref a), none, some (.int p1), some (.int s.1), some (.int s.2)] [] u) (Gx := fun e s => G w X Zm 30 [none, none, none, some (.int s.1), none] [] u) (fun s e s' hb K0 K1 => tX0_wantedAfter_b5 (s := s) (e := e) (s' := s') hX ha  hb K0 K1) fuel (p0, (0 : Int32)) (e6, v4, v5) h7 ?_
  refine G_iload_n hX dX0_wantedAfter_30 rfl ?_
  obtain rfl := Option.some.inj hf
  exact G_iret hX hR dX0_wantedAfter_31
