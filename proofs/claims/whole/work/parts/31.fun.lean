noncomputable def fX8_decades_j139 (p0 : Int32) (p1 : Int32) (p2 : Int32) (j4 : Int64) (j6 : Int32) (u : Um) : Option (Nat × Int64 × Int32 × Um) :=
  nm (j6 + 1) fun v18 =>
  some (0, j4, v18, u)
set_option maxHeartbeats 4000000 in
set_option maxRecDepth 100000 in
theorem tX8_decades_j139 {w : Wc} {X : MX} (hX : OKc w X RX8 cX8_decades 5) {p0 : Int32} {p1 : Int32} {p2 : Int32} {j4 : Int64} {j6 : Int32}  {u : Um} {e : Nat} {s' : Int64 × Int32 × Um} (K0 : e = 0 → G w X Zm 52 [some (.ref 117), some (.int p0), none, some (.int p2), some (.long s'.1), none, some (.int s'.2.1), none, none] [] s'.2.2) (K1 : e ≠ 0 → G w X Zm 145 [some (.ref 117), none, none, some (.int p2), none, none, none, none, none] [] s'.2.2) (hf : fX8_decades_j139 p0 p1 p2 j4 j6 u = some (e, s')) : G w X Zm 139 [some (.ref 117), some (.int p0), none, some (.int p2), some (.long j4), none, some (.int j6), none, none] [] u := by
  unfold fX8_decades_j139 at hf
  refine G_iincF (lvf := fun v18 => [some (.ref 117), some (.int p0), none, some (.int p2), some (.long j4), none, some (.int v18), none, none]) hX dX8_decades_139 rfl rfl rfl (Nat.le_of_ble_eq_true rfl) (fun _ => rfl) hf (fun v18 hf => ?_)
  refine G_goto (tgt := 52) hX dX8_decades_142 rfl ?_
  obtain ⟨rfl, rfl⟩ := ret2 hf
  refine G_mask (lv' := [some (.ref 117), some (.int p0), none, some (.int p2), some (.long j4), none, some (.int v18), none, none]) [true, true, false, true, true, false, true, false, false] rfl rfl ?_
  exact K0 rfl
noncomputable def fX8_decades_b52 (p0 : Int32) (p1 : Int32) (p2 : Int32) (s4 : Int64) (s6 : Int32) (u : Um) : Option (Nat × Int64 × Int32 × Um) :=
  if p0 ≤ s6 then
    some (1, s4, s6, u)
  else
    nm (lrm (s4 * 16807) 2147483647) fun v12 =>
    if inb 2 83 = true then
    if (((u.1 124 (2 : Int32).toNatClampNeg) : Int32).toInt64) = 0 then none else
    nm (((lrm v12 (((u.1 124 (2 : Int32).toNatClampNeg) : Int32).toInt64)) : Int64).toInt32) fun v13 =>
    if inb 1 83 = true then
    if (((u.1 124 (1 : Int32).toNatClampNeg) : Int32).toInt64) = 0 then none else
    nm (((lrm (v12 / 16) (((u.1 124 (1 : Int32).toNatClampNeg) : Int32).toInt64)) : Int64).toInt32) fun v14 =>
    bd1 (fX8_isMay 124 v13 v14 u) fun v16 =>
    if v16 = 0 then
      if inb 0 83 = true then
      if inb 0 83 = true then
      nm (sI u 124 (0 : Int32).toNatClampNeg ((u.1 124 (0 : Int32).toNatClampNeg) + 1)) fun u17 =>
      fX8_decades_j139 p0 p1 p2 v12 s6 u17
      else none
      else none
    else
      bd2 (fX8_carries 124 v13 v14 u) fun v20 u21 =>
      fX8_decades_j139 p0 p1 p2 v12 s6 u21
    else none
    else none
set_option maxHeartbeats 4000000 in
set_option maxRecDepth 100000 in
theorem tX8_decades_b52 {w : Wc} {X : MX} (hX : OKc w X RX8 cX8_decades 5) {p0 : Int32} {p1 : Int32} {p2 : Int32} {s : Int64 × Int32 × Um} {e : Nat} {s' : Int64 × Int32 × Um} (hf : fX8_decades_b52 p0 p1 p2 s.1 s.2.1 s.2.2 = some (e, s')) (K0 : e = 0 → G w X Zm 52 [some (.ref 117), some (.int p0), none, some (.int p2), some (.long s'.1), none, some (.int s'.2.1), none, none] [] s'.2.2) (K1 : e ≠ 0 → G w X Zm 145 [some (.ref 117), none, none, some (.int p2), none, none, none, none, none] [] s'.2.2) : G w X Zm 52 [some (.ref 117), some (.int p0), none, some (.int p2), some (.long s.1), none, some (.int s.2.1), none, none] [] s.2.2 := by
  obtain ⟨s4, s6, u⟩ := s
  unfold fX8_decades_b52 at hf
  try dsimp only at hf ⊢
  refine G_iload hX dX8_decades_52 rfl ?_
  refine G_iload_n hX dX8_decades_54 rfl ?_
  refine G_icmp_ge (tgt := 145) hX dX8_decades_55 rfl hf (fun hf => ?_) (fun hf => ?_)
  · obtain ⟨rfl, rfl⟩ := ret2 hf
    refine G_mask (lv' := [some (.ref 117), none, none, some (.int p2), none, none, none, none, none]) [true, false, false, true, false, false, false, false, false] rfl rfl ?_
    exact K1 (by decide)
  · refine G_lload hX dX8_decades_58 rfl ?_
    refine G_ldc2 (v := 16807) hX dX8_decades_60 wJ_X8_200 ?_
    refine G_lmul hX dX8_decades_63 ?_
    refine G_ldc2 (v := 2147483647) hX dX8_decades_64 wJ_X8_202 ?_
    refine G_lrem hX dX8_decades_67 (by decide) ?_
    refine G_lstoreF (lvf := fun v12 => [some (.ref 117), some (.int p0), none, some (.int p2), some (.long v12), none, some (.int s6), none, none]) hX dX8_decades_68 rfl (Nat.le_of_ble_eq_true rfl) (fun _ => rfl) hf (fun v12 hf => ?_)
    refine G_lload hX dX8_decades_70 rfl ?_
    refine G_aload_n hX dX8_decades_72 rfl ?_
    refine G_getR (i := 8) (t := 124) hX kK117 (Nat.le_of_ble_eq_true rfl) (Nat.le_of_ble_eq_true rfl) rfl pK117_8 flX8_29 dX8_decades_73 ?_
    refine G_iconst (v := 2) hX dX8_decades_76 rfl ?_
    refine G_iald (n := 83) hX kK124 lK124 (Nat.le_of_ble_eq_true rfl) dX8_decades_77 hf (fun hf => ?_)
    refine G_i2l hX dX8_decades_78 ?_
    refine G_lremF hX dX8_decades_79 hf (fun hf => ?_)
    refine G_l2i hX dX8_decades_80 ?_
    refine G_istoreF (lvf := fun v13 => [some (.ref 117), some (.int p0), none, some (.int p2), some (.long v12), none, some (.int s6), some (.int v13), none]) hX dX8_decades_81 rfl (Nat.le_of_ble_eq_true rfl) (fun _ => rfl) hf (fun v13 hf => ?_)
    refine G_lload hX dX8_decades_83 rfl ?_
    refine G_ldc2 (v := 16) hX dX8_decades_85 wJ_X8_204 ?_
    refine G_ldiv hX dX8_decades_88 (by decide) ?_
    refine G_aload_n hX dX8_decades_89 rfl ?_
    refine G_getR (i := 8) (t := 124) hX kK117 (Nat.le_of_ble_eq_true rfl) (Nat.le_of_ble_eq_true rfl) rfl pK117_8 flX8_29 dX8_decades_90 ?_
    refine G_iconst (v := 1) hX dX8_decades_93 rfl ?_
    refine G_iald (n := 83) hX kK124 lK124 (Nat.le_of_ble_eq_true rfl) dX8_decades_94 hf (fun hf => ?_)
    refine G_i2l hX dX8_decades_95 ?_
    refine G_lremF hX dX8_decades_96 hf (fun hf => ?_)
    refine G_l2i hX dX8_decades_97 ?_
    refine G_istoreF (lvf := fun v14 => [some (.ref 117), some (.int p0), none, some (.int p2), some (.long v12), none, some (.int s6), some (.int v13), some (.int v14)]) hX dX8_decades_98 rfl (Nat.le_of_ble_eq_true rfl) (fun _ => rfl) hf (fun v14 hf => ?_)
    refine G_aload_n hX dX8_decades_100 rfl ?_
    refine G_getR (i := 8) (t := 124) hX kK117 (Nat.le_of_ble_eq_true rfl) (Nat.le_of_ble_eq_true rfl) rfl pK117_8 flX8_29 dX8_decades_101 ?_
    refine G_iload hX dX8_decades_104 rfl ?_
    refine G_iload hX dX8_decades_106 rfl ?_
    obtain ⟨v16, h15, hf⟩ := bd1_some hf
    refine G_cS (as := [.ref 124, .int v13, .int v14]) (rest := []) hX csX8_137 (mX8_isMay w kK124 h15) (Nat.le_of_ble_eq_true rfl) rfl rfl (Nat.le_of_ble_eq_true rfl) dX8_decades_108 (st' := [.int v16]) rfl ?_
    refine G_if_eq (tgt := 129) hX dX8_decades_111 rfl hf (fun hf => ?_) (fun hf => ?_)
    · refine G_aload_n hX dX8_decades_129 rfl ?_
      refine G_getR (i := 8) (t := 124) hX kK117 (Nat.le_of_ble_eq_true rfl) (Nat.le_of_ble_eq_true rfl) rfl pK117_8 flX8_29 dX8_decades_130 ?_
      refine G_iconst (v := 0) hX dX8_decades_133 rfl ?_
      refine G_dup2 hX dX8_decades_134 rfl rfl ?_
      refine G_iald (n := 83) hX kK124 lK124 (Nat.le_of_ble_eq_true rfl) dX8_decades_135 hf (fun hf => ?_)
      refine G_iconst (v := 1) hX dX8_decades_136 rfl ?_
      refine G_iadd hX dX8_decades_137 ?_
      refine G_iast (n := 83) hX kK124 lK124 (Nat.le_of_ble_eq_true rfl) rfl dX8_decades_138 hf (fun u17 hf => ?_)
      refine G_mask (lv' := [some (.ref 117), some (.int p0), none, some (.int p2), some (.long v12), none, some (.int s6), none, none]) [true, true, false, true, true, false, true, false, false] rfl rfl ?_
      exact tX8_decades_j139 hX  K0 K1 hf
    · refine G_aload_n hX dX8_decades_114 rfl ?_
      refine G_getR (i := 8) (t := 124) hX kK117 (Nat.le_of_ble_eq_true rfl) (Nat.le_of_ble_eq_true rfl) rfl pK117_8 flX8_29 dX8_decades_115 ?_
      refine G_iload hX dX8_decades_118 rfl ?_
      refine G_iload hX dX8_decades_120 rfl ?_
      obtain ⟨v20, u21, h19, hf⟩ := bd2_some hf
      refine G_cS (as := [.ref 124, .int v13, .int v14]) (rest := []) hX csX8_147 (mX8_carries w kK124 h19) (Nat.le_of_ble_eq_true rfl) rfl rfl (Nat.le_of_ble_eq_true rfl) dX8_decades_122 (st' := [.int v20]) rfl ?_
      refine G_pop hX dX8_decades_125 rfl ?_
      refine G_goto (tgt := 139) hX dX8_decades_126 rfl ?_
      refine G_mask (lv' := [some (.ref 117), some (.int p0), none, some (.int p2), some (.long v12), none, some (.int s6), none, none]) [true, true, false, true, true, false, true, false, false] rfl rfl ?_
      exact tX8_decades_j139 hX  K0 K1 hf
noncomputable def fX8_decades (p0 : Int32) (p1 : Int32) (p2 : Int32) (u : Um) : Option (Int32 × Um) :=
  bd1 (fX8_in p0 0 60 u) fun v2 =>
  if v2 = 0 then
    some ((-1), u)
  else
    bd1 (fX8_in p1 1 999999 u) fun v4 =>
    if v4 = 0 then
      some ((-1), u)
    else
      bd1 (fX8_in p2 0 1 u) fun v6 =>
      if v6 = 0 then
        some ((-1), u)
      else
        bd1 (fX8_isThere  u) fun v8 =>
        if v8 = 0 then
          some ((-2), u)
        else
          bd1 (fX8_begin  u) fun u10 =>
          nm ((p1 : Int32).toInt64) fun v11 =>
          bd4 (lp (fun s => fX8_decades_b52 p0 p1 p2 s.1 s.2.1 s.2.2) fuel (v11, (0 : Int32), u10)) fun e25 v22 v23 u24 =>
          if p2 = 0 then
            bd1 (fX8_forgivenOnes 124 u24) fun v30 =>
            some (v30, u24)
          else
            bd1 (fX8_wonOnes 124 u24) fun v28 =>
            some (v28, u24)
set_option maxHeartbeats 4000000 in
set_option maxRecDepth 100000 in
theorem mX8_decades (w : Wc) {p0 : Int32} {p1 : Int32} {p2 : Int32}  {u : Um} {r : Int32} {u' : Um} (hf : fX8_decades p0 p1 p2 u = some (r, u')) : MC w 5 qX8_decades [.ref 117, .int p0, .int p1, .int p2] u (some (.int r)) u' := by
  unfold fX8_decades at hf
  refine MC_intro pnX8 (Nat.le_of_ble_eq_true rfl) (fun X hX hR _ _ => ?_)
  have hX : OKc w X RX8 cX8_decades 5 := hX
  have hR : RT w X (some .int) 0 0 Pst 133 false (some (.int r)) u' := hR
  refine G_eql (lv' := [some (.ref 117), some (.int p0), some (.int p1), some (.int p2), none, none, none, none, none]) rfl ?_
  refine G_iload_n hX dX8_decades_0 rfl ?_
  refine G_iconst (v := 0) hX dX8_decades_1 rfl ?_
  refine G_bipush (v := 60) hX dX8_decades_2 rfl ?_
  obtain ⟨v2, h1, hf⟩ := bd1_some hf
  refine G_cS (as := [.int p0, .int 0, .int 60]) (rest := []) hX csX8_57 (mX8_in w h1) (Nat.le_of_ble_eq_true rfl) rfl rfl (Nat.le_of_ble_eq_true rfl) dX8_decades_4 (st' := [.int v2]) rfl ?_
  refine G_if_eq (tgt := 29) hX dX8_decades_7 rfl hf (fun hf => ?_) (fun hf => ?_)
  · refine G_iconst (v := (-1)) hX dX8_decades_29 rfl ?_
    obtain ⟨rfl, rfl⟩ := ret2 hf
    exact G_iret hX hR dX8_decades_30
  · refine G_iload_n hX dX8_decades_10 rfl ?_
    refine G_iconst (v := 1) hX dX8_decades_11 rfl ?_
    refine G_ldc (v := 999999) hX dX8_decades_12 wC_X8_199 ?_
    obtain ⟨v4, h3, hf⟩ := bd1_some hf
    refine G_cS (as := [.int p1, .int 1, .int 999999]) (rest := []) hX csX8_57 (mX8_in w h3) (Nat.le_of_ble_eq_true rfl) rfl rfl (Nat.le_of_ble_eq_true rfl) dX8_decades_14 (st' := [.int v4]) rfl ?_
    refine G_if_eq (tgt := 29) hX dX8_decades_17 rfl hf (fun hf => ?_) (fun hf => ?_)
    · refine G_iconst (v := (-1)) hX dX8_decades_29 rfl ?_
      obtain ⟨rfl, rfl⟩ := ret2 hf
      exact G_iret hX hR dX8_decades_30
    · refine G_iload_n hX dX8_decades_20 rfl ?_
      refine G_iconst (v := 0) hX dX8_decades_21 rfl ?_
      refine G_iconst (v := 1) hX dX8_decades_22 rfl ?_
      obtain ⟨v6, h5, hf⟩ := bd1_some hf
      refine G_cS (as := [.int p2, .int 0, .int 1]) (rest := []) hX csX8_57 (mX8_in w h5) (Nat.le_of_ble_eq_true rfl) rfl rfl (Nat.le_of_ble_eq_true rfl) dX8_decades_23 (st' := [.int v6]) rfl ?_
      refine G_if_ne (tgt := 31) hX dX8_decades_26 rfl hf (fun hf => ?_) (fun hf => ?_)
      · refine G_aload_n hX dX8_decades_31 rfl ?_
        obtain ⟨v8, h7, hf⟩ := bd1_some hf
        refine G_cV (as := []) (rest := []) hX cvX8_150 (mX8_isThere w h7) (Nat.le_of_ble_eq_true rfl) kK117 (Nat.le_of_ble_eq_true rfl) (Nat.le_of_ble_eq_true rfl) rfl rfl (Nat.le_of_ble_eq_true rfl) dX8_decades_32 (st' := [.int v8]) rfl ?_
        refine G_if_ne (tgt := 41) hX dX8_decades_35 rfl hf (fun hf => ?_) (fun hf => ?_)
        · refine G_aload_n hX dX8_decades_41 rfl ?_
          obtain ⟨u10, h9, hf⟩ := bd1_some hf
          refine G_cV (as := []) (rest := []) hX cvX8_153 (mX8_begin w h9) (Nat.le_of_ble_eq_true rfl) kK117 (Nat.le_of_ble_eq_true rfl) (Nat.le_of_ble_eq_true rfl) rfl rfl (Nat.le_of_ble_eq_true rfl) dX8_decades_42 (st' := []) rfl ?_
          refine G_iload_n hX dX8_decades_45 rfl ?_
          refine G_i2l hX dX8_decades_46 ?_
          refine G_lstoreF (lvf := fun v11 => [some (.ref 117), some (.int p0), some (.int p1), some (.int p2), some (.long v11), none, none, none, none]) hX dX8_decades_47 rfl (Nat.le_of_ble_eq_true rfl) (fun _ => rfl) hf (fun v11 hf => ?_)
          refine G_iconst (v := 0) hX dX8_decades_49 rfl ?_
          refine G_istore (lv' := [some (.ref 117), some (.int p0), some (.int p1), some (.int p2), some (.long v11), none, some (.int 0), none, none]) hX dX8_decades_50 rfl (Nat.le_of_ble_eq_true rfl) rfl ?_
          obtain ⟨e25, v22, v23, u24, h26, hf⟩ := bd4_some hf
          refine G_mask (lv' := [some (.ref 117), some (.int p0), none, some (.int p2), some (.long v11), none, some (.int 0), none, none]) [true, true, false, true, true, false, true, false, false] rfl rfl ?_
          refine lp_G (body := (fun s => fX8_decades_b52 p0 p1 p2 s.1 s.2.1 s.2.2)) (Gh := fun s => G w X Zm 52 [some (.ref 117), some (.int p0), none, some (.int p2), some (.long s.1), none, some (.int s.2.1), none, none] [] s.2.2) (Gx := fun e s => G w X Zm 145 [some (.ref 117), none, none, some (.int p2), none, none, none, none, none] [] s.2.2) (fun s e s' hb K0 K1 => tX8_decades_b52 (s := s) (e := e) (s' := s') hX   hb K0 K1) fuel (v11, (0 : Int32), u10) (e25, v22, v23, u24) h26 ?_
          refine G_iload_n hX dX8_decades_145 rfl ?_
          refine G_if_ne (tgt := 159) hX dX8_decades_146 rfl hf (fun hf => ?_) (fun hf => ?_)
          · refine G_aload_n hX dX8_decades_159 rfl ?_
            refine G_getR (i := 8) (t := 124) hX kK117 (Nat.le_of_ble_eq_true rfl) (Nat.le_of_ble_eq_true rfl) rfl pK117_8 flX8_29 dX8_decades_160 ?_
            obtain ⟨v28, h27, hf⟩ := bd1_some hf
            refine G_cS (as := [.ref 124]) (rest := []) hX csX8_210 (mX8_wonOnes w kK124 h27) (Nat.le_of_ble_eq_true rfl) rfl rfl (Nat.le_of_ble_eq_true rfl) dX8_decades_163 (st' := [.int v28]) rfl ?_
            obtain ⟨rfl, rfl⟩ := ret2 hf
            exact G_iret hX hR dX8_decades_166
          · refine G_aload_n hX dX8_decades_149 rfl ?_
            refine G_getR (i := 8) (t := 124) hX kK117 (Nat.le_of_ble_eq_true rfl) (Nat.le_of_ble_eq_true rfl) rfl pK117_8 flX8_29 dX8_decades_150 ?_
            obtain ⟨v30, h29, hf⟩ := bd1_some hf
            refine G_cS (as := [.ref 124]) (rest := []) hX csX8_206 (mX8_forgivenOnes w kK124 h29) (Nat.le_of_ble_eq_true rfl) rfl rfl (Nat.le_of_ble_eq_true rfl) dX8_decades_153 (st' := [.int v30]) rfl ?_
            refine G_goto (tgt := 166) hX dX8_decades_156 rfl ?_
            obtain ⟨rfl, rfl⟩ := ret2 hf
            exact G_iret hX hR dX8_decades_166
        · refine G_bipush (v := (-2)) hX dX8_decades_38 rfl ?_
          obtain ⟨rfl, rfl⟩ := ret2 hf
          exact G_iret hX hR dX8_decades_40
      · refine G_iconst (v := (-1)) hX dX8_decades_29 rfl ?_
        obtain ⟨rfl, rfl⟩ := ret2 hf
        exact G_iret hX hR dX8_decades_30
noncomputable def fX8_isSheet (p0 : Int32) (u : Um) : Option Int32 :=
  bd1 (fX8_in p0 0 3 u) fun v2 =>
  if v2 = 0 ∨ v2 = 1 then some v2 else none
set_option maxHeartbeats 4000000 in
set_option maxRecDepth 100000 in
theorem mX8_isSheet (w : Wc) {p0 : Int32}  {u : Um} {r : Int32} (hf : fX8_isSheet p0 u = some r) : MC w 2 qX8_isSheet [.int p0] u (some (.int r)) u := by
  unfold fX8_isSheet at hf
  refine MC_intro pnX8 (Nat.le_of_ble_eq_true rfl) (fun X hX hR _ _ => ?_)
  have hX : OKc w X RX8 cX8_isSheet 2 := hX
  have hR : RT w X (some .boolean) 0 0 Pst 133 false (some (.int r)) u := hR
  refine G_eql (lv' := [some (.int p0)]) rfl ?_
  refine G_iload_n hX dX8_isSheet_0 rfl ?_
  refine G_iconst (v := 0) hX dX8_isSheet_1 rfl ?_
  refine G_iconst (v := 3) hX dX8_isSheet_2 rfl ?_
  obtain ⟨v2, h1, hf⟩ := bd1_some hf
  refine G_cS (as := [.int p0, .int 0, .int 3]) (rest := []) hX csX8_57 (mX8_in w h1) (Nat.le_of_ble_eq_true rfl) rfl rfl (Nat.le_of_ble_eq_true rfl) dX8_isSheet_3 (st' := [.int v2]) rfl ?_
  obtain ⟨hz, hf⟩ := gz_some hf
  obtain rfl := Option.some.inj hf
  exact G_zret hX hR hz dX8_isSheet_6
noncomputable def fX8_sheet_b48 (p0 : Int32) (p1 : Int32) (p2 : Int32) (s4 : Int32) (u : Um) : Option (Nat × Int32 × Um) :=
  if 24 ≤ s4 then
    some (1, s4, u)
  else
    if inb ((24 * p0) + s4) 96 = true then
    nm (sJ u 120 ((24 * p0) + s4).toNatClampNeg 0) fun u7 =>
    nm (s4 + 1) fun v8 =>
    some (0, v8, u7)
    else none
set_option maxHeartbeats 4000000 in
set_option maxRecDepth 100000 in
theorem tX8_sheet_b48 {w : Wc} {X : MX} (hX : OKc w X RX8 cX8_sheet 3) {p0 : Int32} {p1 : Int32} {p2 : Int32} {s : Int32 × Um} {e : Nat} {s' : Int32 × Um} (hf : fX8_sheet_b48 p0 p1 p2 s.1 s.2 = some (e, s')) (K0 : e = 0 → G w X Zm 48 [some (.ref 117), some (.int p0), none, some (.int p2), some (.int s'.1)] [] s'.2) (K1 : e ≠ 0 → G w X Zm 74 [none, none, none, some (.int p2), none] [] s'.2) : G w X Zm 48 [some (.ref 117), some (.int p0), none, some (.int p2), some (.int s.1)] [] s.2 := by
  obtain ⟨s4, u⟩ := s
  unfold fX8_sheet_b48 at hf
  try dsimp only at hf ⊢
  refine G_iload hX dX8_sheet_48 rfl ?_
  refine G_bipush (v := 24) hX dX8_sheet_50 rfl ?_
  refine G_icmp_ge (tgt := 74) hX dX8_sheet_52 rfl hf (fun hf => ?_) (fun hf => ?_)
  · obtain ⟨rfl, rfl⟩ := ret2 hf
    refine G_mask (lv' := [none, none, none, some (.int p2), none]) [false, false, false, true, false] rfl rfl ?_
    exact K1 (by decide)
  · refine G_aload_n hX dX8_sheet_55 rfl ?_
    refine G_getR (i := 2) (t := 120) hX kK117 (Nat.le_of_ble_eq_true rfl) (Nat.le_of_ble_eq_true rfl) rfl pK117_2 flX8_16 dX8_sheet_56 ?_
    refine G_bipush (v := 24) hX dX8_sheet_59 rfl ?_
    refine G_iload_n hX dX8_sheet_61 rfl ?_
    refine G_imul hX dX8_sheet_62 ?_
    refine G_iload hX dX8_sheet_63 rfl ?_
    refine G_iadd hX dX8_sheet_65 ?_
    refine G_lconst (v := 0) hX dX8_sheet_66 rfl ?_
    refine G_last (n := 96) hX kK120 lK120 (Nat.le_of_ble_eq_true rfl) rfl dX8_sheet_67 hf (fun u7 hf => ?_)
    refine G_iincF (lvf := fun v8 => [some (.ref 117), some (.int p0), none, some (.int p2), some (.int v8)]) hX dX8_sheet_68 rfl rfl rfl (Nat.le_of_ble_eq_true rfl) (fun _ => rfl) hf (fun v8 hf => ?_)
    refine G_goto (tgt := 48) hX dX8_sheet_71 rfl ?_
    obtain ⟨rfl, rfl⟩ := ret2 hf
    refine G_mask (lv' := [some (.ref 117), some (.int p0), none, some (.int p2), some (.int v8)]) [true, true, false, true, true] rfl rfl ?_
    exact K0 rfl
noncomputable def fX8_sheet (p0 : Int32) (p1 : Int32) (p2 : Int32) (u : Um) : Option (Int32 × Um) :=
  bd1 (fX8_isSheet p0 u) fun v2 =>
  if v2 = 0 then
    some ((-1), u)
  else
    bd1 (fX8_in p1 0 3 u) fun v4 =>
    if v4 = 0 then
      some ((-1), u)
    else
      if p2 ≤ 24 then
        if 0 ≤ p2 then
          if inb p0 4 = true then
          nm (sI u 118 p0.toNatClampNeg p1) fun u5 =>
          if inb p0 4 = true then
          nm (sI u5 119 p0.toNatClampNeg p2) fun u6 =>
          bd3 (lp (fun s => fX8_sheet_b48 p0 p1 p2 s.1 s.2) fuel ((0 : Int32), u6)) fun e11 v9 u10 =>
          some (p2, u10)
          else none
          else none
        else
          some ((-14), u)
      else
        some ((-1), u)
set_option maxHeartbeats 4000000 in
set_option maxRecDepth 100000 in
theorem mX8_sheet (w : Wc) {p0 : Int32} {p1 : Int32} {p2 : Int32}  {u : Um} {r : Int32} {u' : Um} (hf : fX8_sheet p0 p1 p2 u = some (r, u')) : MC w 3 qX8_sheet [.ref 117, .int p0, .int p1, .int p2] u (some (.int r)) u' := by
  unfold fX8_sheet at hf
  refine MC_intro pnX8 (Nat.le_of_ble_eq_true rfl) (fun X hX hR _ _ => ?_)
  have hX : OKc w X RX8 cX8_sheet 3 := hX
  have hR : RT w X (some .int) 0 0 Pst 133 false (some (.int r)) u' := hR
  refine G_eql (lv' := [some (.ref 117), some (.int p0), some (.int p1), some (.int p2), none]) rfl ?_
  refine G_iload_n hX dX8_sheet_0 rfl ?_
  obtain ⟨v2, h1, hf⟩ := bd1_some hf
  refine G_cS (as := [.int p0]) (rest := []) hX csX8_216 (mX8_isSheet w h1) (Nat.le_of_ble_eq_true rfl) rfl rfl (Nat.le_of_ble_eq_true rfl) dX8_sheet_1 (st' := [.int v2]) rfl ?_
  refine G_if_eq (tgt := 22) hX dX8_sheet_4 rfl hf (fun hf => ?_) (fun hf => ?_)
  · refine G_iconst (v := (-1)) hX dX8_sheet_22 rfl ?_
    obtain ⟨rfl, rfl⟩ := ret2 hf
    exact G_iret hX hR dX8_sheet_23
  · refine G_iload_n hX dX8_sheet_7 rfl ?_
    refine G_iconst (v := 0) hX dX8_sheet_8 rfl ?_
    refine G_iconst (v := 3) hX dX8_sheet_9 rfl ?_
    obtain ⟨v4, h3, hf⟩ := bd1_some hf
    refine G_cS (as := [.int p1, .int 0, .int 3]) (rest := []) hX csX8_57 (mX8_in w h3) (Nat.le_of_ble_eq_true rfl) rfl rfl (Nat.le_of_ble_eq_true rfl) dX8_sheet_10 (st' := [.int v4]) rfl ?_
    refine G_if_eq (tgt := 22) hX dX8_sheet_13 rfl hf (fun hf => ?_) (fun hf => ?_)
    · refine G_iconst (v := (-1)) hX dX8_sheet_22 rfl ?_
      obtain ⟨rfl, rfl⟩ := ret2 hf
      exact G_iret hX hR dX8_sheet_23
    · refine G_iload_n hX dX8_sheet_16 rfl ?_
      refine G_bipush (v := 24) hX dX8_sheet_17 rfl ?_
      refine G_icmp_le (tgt := 24) hX dX8_sheet_19 rfl hf (fun hf => ?_) (fun hf => ?_)
      · refine G_iload_n hX dX8_sheet_24 rfl ?_
        refine G_if_ge (tgt := 31) hX dX8_sheet_25 rfl hf (fun hf => ?_) (fun hf => ?_)
        · refine G_aload_n hX dX8_sheet_31 rfl ?_
          refine G_getR (i := 0) (t := 118) hX kK117 (Nat.le_of_ble_eq_true rfl) (Nat.le_of_ble_eq_true rfl) rfl pK117_0 flX8_7 dX8_sheet_32 ?_
          refine G_iload_n hX dX8_sheet_35 rfl ?_
          refine G_iload_n hX dX8_sheet_36 rfl ?_
          refine G_iast (n := 4) hX kK118 lK118 (Nat.le_of_ble_eq_true rfl) rfl dX8_sheet_37 hf (fun u5 hf => ?_)
          refine G_aload_n hX dX8_sheet_38 rfl ?_
          refine G_getR (i := 1) (t := 119) hX kK117 (Nat.le_of_ble_eq_true rfl) (Nat.le_of_ble_eq_true rfl) rfl pK117_1 flX8_13 dX8_sheet_39 ?_
          refine G_iload_n hX dX8_sheet_42 rfl ?_
          refine G_iload_n hX dX8_sheet_43 rfl ?_
          refine G_iast (n := 4) hX kK119 lK119 (Nat.le_of_ble_eq_true rfl) rfl dX8_sheet_44 hf (fun u6 hf => ?_)
          refine G_iconst (v := 0) hX dX8_sheet_45 rfl ?_
          refine G_istore (lv' := [some (.ref 117), some (.int p0), some (.int p1), some (.int p2), some (.int 0)]) hX dX8_sheet_46 rfl (Nat.le_of_ble_eq_true rfl) rfl ?_
          obtain ⟨e11, v9, u10, h12, hf⟩ := bd3_some hf
          refine G_mask (lv' := [some (.ref 117), some (.int p0), none, some (.int p2), some (.int 0)]) [true, true, false, true, true] rfl rfl ?_
          refine lp_G (body := (fun s => fX8_sheet_b48 p0 p1 p2 s.1 s.2)) (Gh := fun s => G w X Zm 48 [some (.ref 117), some (.int p0), none, some (.int p2), some (.int s.1)] [] s.2) (Gx := fun e s => G w X Zm 74 [none, none, none, some (.int p2), none] [] s.2) (fun s e s' hb K0 K1 => tX8_sheet_b48 (s := s) (e := e) (s' := s') hX   hb K0 K1) fuel ((0 : Int32), u6) (e11, v9, u10) h12 ?_
          refine G_iload_n hX dX8_sheet_74 rfl ?_
          obtain ⟨rfl, rfl⟩ := ret2 hf
          exact G_iret hX hR dX8_sheet_75
        · refine G_bipush (v := (-14)) hX dX8_sheet_28 rfl ?_
          obtain ⟨rfl, rfl⟩ := ret2 hf
          exact G_iret hX hR dX8_sheet_30
      · refine G_iconst (v := (-1)) hX dX8_sheet_22 rfl ?_
        obtain ⟨rfl, rfl⟩ := ret2 hf
        exact G_iret hX hR dX8_sheet_23
noncomputable def fX8_drop (p0 : Int32) (u : Um) : Option (Int32 × Um) :=
  bd1 (fX8_isSheet p0 u) fun v2 =>
  if v2 = 0 then
    some ((-1), u)
  else
    if inb p0 4 = true then
    if 0 ≤ (u.1 118 p0.toNatClampNeg) then
      if inb p0 4 = true then
      nm (sI u 118 p0.toNatClampNeg (-1)) fun u3 =>
      if inb p0 4 = true then
      some ((u3.1 119 p0.toNatClampNeg), u3)
      else none
      else none
    else
      some ((-11), u)
    else none
set_option maxHeartbeats 4000000 in
set_option maxRecDepth 100000 in
theorem mX8_drop (w : Wc) {p0 : Int32}  {u : Um} {r : Int32} {u' : Um} (hf : fX8_drop p0 u = some (r, u')) : MC w 3 qX8_drop [.ref 117, .int p0] u (some (.int r)) u' := by
  unfold fX8_drop at hf
  refine MC_intro pnX8 (Nat.le_of_ble_eq_true rfl) (fun X hX hR _ _ => ?_)
  have hX : OKc w X RX8 cX8_drop 3 := hX
  have hR : RT w X (some .int) 0 0 Pst 133 false (some (.int r)) u' := hR
  refine G_eql (lv' := [some (.ref 117), some (.int p0)]) rfl ?_
  refine G_iload_n hX dX8_drop_0 rfl ?_
  obtain ⟨v2, h1, hf⟩ := bd1_some hf
  refine G_cS (as := [.int p0]) (rest := []) hX csX8_216 (mX8_isSheet w h1) (Nat.le_of_ble_eq_true rfl) rfl rfl (Nat.le_of_ble_eq_true rfl) dX8_drop_1 (st' := [.int v2]) rfl ?_
  refine G_if_ne (tgt := 9) hX dX8_drop_4 rfl hf (fun hf => ?_) (fun hf => ?_)
  · refine G_aload_n hX dX8_drop_9 rfl ?_
    refine G_getR (i := 0) (t := 118) hX kK117 (Nat.le_of_ble_eq_true rfl) (Nat.le_of_ble_eq_true rfl) rfl pK117_0 flX8_7 dX8_drop_10 ?_
    refine G_iload_n hX dX8_drop_13 rfl ?_
    refine G_iald (n := 4) hX kK118 lK118 (Nat.le_of_ble_eq_true rfl) dX8_drop_14 hf (fun hf => ?_)
    refine G_if_ge (tgt := 21) hX dX8_drop_15 rfl hf (fun hf => ?_) (fun hf => ?_)
    · refine G_aload_n hX dX8_drop_21 rfl ?_
      refine G_getR (i := 0) (t := 118) hX kK117 (Nat.le_of_ble_eq_true rfl) (Nat.le_of_ble_eq_true rfl) rfl pK117_0 flX8_7 dX8_drop_22 ?_
      refine G_iload_n hX dX8_drop_25 rfl ?_
      refine G_iconst (v := (-1)) hX dX8_drop_26 rfl ?_
      refine G_iast (n := 4) hX kK118 lK118 (Nat.le_of_ble_eq_true rfl) rfl dX8_drop_27 hf (fun u3 hf => ?_)
      refine G_aload_n hX dX8_drop_28 rfl ?_
      refine G_getR (i := 1) (t := 119) hX kK117 (Nat.le_of_ble_eq_true rfl) (Nat.le_of_ble_eq_true rfl) rfl pK117_1 flX8_13 dX8_drop_29 ?_
      refine G_iload_n hX dX8_drop_32 rfl ?_
      refine G_iald (n := 4) hX kK119 lK119 (Nat.le_of_ble_eq_true rfl) dX8_drop_33 hf (fun hf => ?_)
      obtain ⟨rfl, rfl⟩ := ret2 hf
      exact G_iret hX hR dX8_drop_34
    · refine G_bipush (v := (-11)) hX dX8_drop_18 rfl ?_
      obtain ⟨rfl, rfl⟩ := ret2 hf
      exact G_iret hX hR dX8_drop_20
  · refine G_iconst (v := (-1)) hX dX8_drop_7 rfl ?_
    obtain ⟨rfl, rfl⟩ := ret2 hf
    exact G_iret hX hR dX8_drop_8
noncomputable def fX8_isPart (p0 : Int32) (p1 : Int32) (p2 : Int32) (u : Um) : Option Int32 :=
  if p1 < 0 then
    some 0
  else
    if p0 < 0 then
      some 0
    else
      if p2 < p1 then
        some 0
      else
        if (p2 - p1) < p0 then
          some 0
        else
          some 1
set_option maxHeartbeats 4000000 in
set_option maxRecDepth 100000 in
theorem mX8_isPart (w : Wc) {p0 : Int32} {p1 : Int32} {p2 : Int32}  {u : Um} {r : Int32} (hf : fX8_isPart p0 p1 p2 u = some r) : MC w 1 qX8_isPart [.int p0, .int p1, .int p2] u (some (.int r)) u := by
  unfold fX8_isPart at hf
  refine MC_intro pnX8 (Nat.le_of_ble_eq_true rfl) (fun X hX hR _ _ => ?_)
  have hX : OKc w X RX8 cX8_isPart 1 := hX
  have hR : RT w X (some .boolean) 0 0 Pst 133 false (some (.int r)) u := hR
  refine G_eql (lv' := [some (.int p0), some (.int p1), some (.int p2)]) rfl ?_
  refine G_iload_n hX dX8_isPart_0 rfl ?_
  refine G_if_lt (tgt := 24) hX dX8_isPart_1 rfl hf (fun hf => ?_) (fun hf => ?_)
  · refine G_iconst (v := 0) hX dX8_isPart_24 rfl ?_
    obtain rfl := Option.some.inj hf
    exact G_zret hX hR (by decide) dX8_isPart_25
  · refine G_iload_n hX dX8_isPart_4 rfl ?_
    refine G_if_lt (tgt := 24) hX dX8_isPart_5 rfl hf (fun hf => ?_) (fun hf => ?_)
    · refine G_iconst (v := 0) hX dX8_isPart_24 rfl ?_
      obtain rfl := Option.some.inj hf
      exact G_zret hX hR (by decide) dX8_isPart_25
    · refine G_iload_n hX dX8_isPart_8 rfl ?_
      refine G_iload_n hX dX8_isPart_9 rfl ?_
      refine G_icmp_gt (tgt := 24) hX dX8_isPart_10 rfl hf (fun hf => ?_) (fun hf => ?_)
      · refine G_iconst (v := 0) hX dX8_isPart_24 rfl ?_
        obtain rfl := Option.some.inj hf
        exact G_zret hX hR (by decide) dX8_isPart_25
      · refine G_iload_n hX dX8_isPart_13 rfl ?_
        refine G_iload_n hX dX8_isPart_14 rfl ?_
        refine G_iload_n hX dX8_isPart_15 rfl ?_
        refine G_isub hX dX8_isPart_16 ?_
        refine G_icmp_gt (tgt := 24) hX dX8_isPart_17 rfl hf (fun hf => ?_) (fun hf => ?_)
        · refine G_iconst (v := 0) hX dX8_isPart_24 rfl ?_
          obtain rfl := Option.some.inj hf
          exact G_zret hX hR (by decide) dX8_isPart_25
        · refine G_iconst (v := 1) hX dX8_isPart_20 rfl ?_
          refine G_goto (tgt := 25) hX dX8_isPart_21 rfl ?_
          obtain rfl := Option.some.inj hf
          exact G_zret hX hR (by decide) dX8_isPart_25
noncomputable def fX8_badRow (p0 : Int32) (p1 : Int32) (p2 : Int32) (p3 : Int32) (u : Um) : Option Int32 :=
  if inb p0 4 = true then
  if 0 ≤ (u.1 118 p0.toNatClampNeg) then
    if inb p0 4 = true then
    if (u.1 118 p0.toNatClampNeg) = p1 then
      if inb p0 4 = true then
      bd1 (fX8_isPart p2 p3 (u.1 119 p0.toNatClampNeg) u) fun v2 =>
      if v2 = 0 then
        some (-13)
      else
        some 0
      else none
    else
      some (-12)
    else none
  else
    some (-11)
  else none
set_option maxHeartbeats 4000000 in
set_option maxRecDepth 100000 in
theorem mX8_badRow (w : Wc) {p0 : Int32} {p1 : Int32} {p2 : Int32} {p3 : Int32}  {u : Um} {r : Int32} (hf : fX8_badRow p0 p1 p2 p3 u = some r) : MC w 2 qX8_badRow [.ref 117, .int p0, .int p1, .int p2, .int p3] u (some (.int r)) u := by
  unfold fX8_badRow at hf
  refine MC_intro pnX8 (Nat.le_of_ble_eq_true rfl) (fun X hX hR _ _ => ?_)
  have hX : OKc w X RX8 cX8_badRow 2 := hX
  have hR : RT w X (some .int) 0 0 Pst 133 false (some (.int r)) u := hR
  refine G_eql (lv' := [some (.ref 117), some (.int p0), some (.int p1), some (.int p2), some (.int p3)]) rfl ?_
  refine G_aload_n hX dX8_badRow_0 rfl ?_
  refine G_getR (i := 0) (t := 118) hX kK117 (Nat.le_of_ble_eq_true rfl) (Nat.le_of_ble_eq_true rfl) rfl pK117_0 flX8_7 dX8_badRow_1 ?_
  refine G_iload_n hX dX8_badRow_4 rfl ?_
  refine G_iald (n := 4) hX kK118 lK118 (Nat.le_of_ble_eq_true rfl) dX8_badRow_5 hf (fun hf => ?_)
  refine G_if_ge (tgt := 14) hX dX8_badRow_6 rfl hf (fun hf => ?_) (fun hf => ?_)
  · refine G_aload_n hX dX8_badRow_14 rfl ?_
    refine G_getR (i := 0) (t := 118) hX kK117 (Nat.le_of_ble_eq_true rfl) (Nat.le_of_ble_eq_true rfl) rfl pK117_0 flX8_7 dX8_badRow_15 ?_
    refine G_iload_n hX dX8_badRow_18 rfl ?_
    refine G_iald (n := 4) hX kK118 lK118 (Nat.le_of_ble_eq_true rfl) dX8_badRow_19 hf (fun hf => ?_)
    refine G_iload_n hX dX8_badRow_20 rfl ?_
    refine G_icmp_eq (tgt := 29) hX dX8_badRow_21 rfl hf (fun hf => ?_) (fun hf => ?_)
    · refine G_iload_n hX dX8_badRow_29 rfl ?_
      refine G_iload hX dX8_badRow_30 rfl ?_
      refine G_aload_n hX dX8_badRow_32 rfl ?_
      refine G_getR (i := 1) (t := 119) hX kK117 (Nat.le_of_ble_eq_true rfl) (Nat.le_of_ble_eq_true rfl) rfl pK117_1 flX8_13 dX8_badRow_33 ?_
      refine G_iload_n hX dX8_badRow_36 rfl ?_
      refine G_iald (n := 4) hX kK119 lK119 (Nat.le_of_ble_eq_true rfl) dX8_badRow_37 hf (fun hf => ?_)
      obtain ⟨v2, h1, hf⟩ := bd1_some hf
      refine G_cS (as := [.int p2, .int p3, .int (u.1 119 p0.toNatClampNeg)]) (rest := []) hX csX8_213 (mX8_isPart w h1) (Nat.le_of_ble_eq_true rfl) rfl rfl (Nat.le_of_ble_eq_true rfl) dX8_badRow_38 (st' := [.int v2]) rfl ?_
      refine G_if_eq (tgt := 48) hX dX8_badRow_41 rfl hf (fun hf => ?_) (fun hf => ?_)
      · refine G_bipush (v := (-13)) hX dX8_badRow_48 rfl ?_
        obtain rfl := Option.some.inj hf
        exact G_iret hX hR dX8_badRow_50
      · refine G_iconst (v := 0) hX dX8_badRow_44 rfl ?_
        refine G_goto (tgt := 50) hX dX8_badRow_45 rfl ?_
        obtain rfl := Option.some.inj hf
        exact G_iret hX hR dX8_badRow_50
    · refine G_bipush (v := (-12)) hX dX8_badRow_24 rfl ?_
      refine G_goto (tgt := 50) hX dX8_badRow_26 rfl ?_
      obtain rfl := Option.some.inj hf
      exact G_iret hX hR dX8_badRow_50
  · refine G_bipush (v := (-11)) hX dX8_badRow_9 rfl ?_
    refine G_goto (tgt := 50) hX dX8_badRow_11 rfl ?_
    obtain rfl := Option.some.inj hf
    exact G_iret hX hR dX8_badRow_50
noncomputable def fX8_item_j88 (p0 : Int32) (p1 : Int32) (p2 : Int32) (p3 : Int64) (z0 : Int64) (z1 : Int32) (u : Um) : Option (Int64 × Um) :=
  if inb z1 96 = true then
  nm (sJ u 120 z1.toNatClampNeg z0) fun u7 =>
  if inb ((24 * p0) + p2) 96 = true then
  some ((u7.2 120 (((24 * p0) + p2)).toNatClampNeg), u7)
  else none
  else none
set_option maxHeartbeats 4000000 in
set_option maxRecDepth 100000 in
theorem tX8_item_j88 {w : Wc} {X : MX} (hX : OKc w X RX8 cX8_item 3) {p0 : Int32} {p1 : Int32} {p2 : Int32} {p3 : Int64} {z0 : Int64} {z1 : Int32} {u : Um} {r : Int64} {u' : Um} (hR : RT w X (some .long) 0 0 Pst 133 false (some (.long r)) u') (hf : fX8_item_j88 p0 p1 p2 p3 z0 z1 u = some (r, u')) : G w X Zm 88 [some (.ref 117), some (.int p0), none, some (.int p2), none, none, none] [.long z0, .int z1, .ref 120] u := by
  unfold fX8_item_j88 at hf
  refine G_last (n := 96) hX kK120 lK120 (Nat.le_of_ble_eq_true rfl) rfl dX8_item_88 hf (fun u7 hf => ?_)
  refine G_aload_n hX dX8_item_89 rfl ?_
  refine G_getR (i := 2) (t := 120) hX kK117 (Nat.le_of_ble_eq_true rfl) (Nat.le_of_ble_eq_true rfl) rfl pK117_2 flX8_16 dX8_item_90 ?_
  refine G_bipush (v := 24) hX dX8_item_93 rfl ?_
  refine G_iload_n hX dX8_item_95 rfl ?_
  refine G_imul hX dX8_item_96 ?_
  refine G_iload_n hX dX8_item_97 rfl ?_
  refine G_iadd hX dX8_item_98 ?_
  refine G_lald (n := 96) hX kK120 lK120 (Nat.le_of_ble_eq_true rfl) dX8_item_99 hf (fun hf => ?_)
  obtain ⟨rfl, rfl⟩ := ret2 hf
  exact G_lret hX hR dX8_item_100
noncomputable def fX8_item (p0 : Int32) (p1 : Int32) (p2 : Int32) (p3 : Int64) (u : Um) : Option (Int64 × Um) :=
  bd1 (fX8_isSheet p0 u) fun v2 =>
  if v2 = 0 then
    some ((-1), u)
  else
    bd1 (fX8_in p1 0 3 u) fun v4 =>
    if v4 = 0 then
      some ((-1), u)
    else
      bd1 (fX8_badRow p0 p1 p2 1 u) fun v6 =>
      if v6 = 0 then
        if p1 = 0 then
          fX8_item_j88 p0 p1 p2 p3 ((((((p3 : Int64).toInt32) : Int32).toInt8.toInt32) : Int32).toInt64) ((24 * p0) + p2) u
        else
          if p1 = 1 then
            fX8_item_j88 p0 p1 p2 p3 ((((((p3 : Int64).toInt32) : Int32).toInt16.toInt32) : Int32).toInt64) ((24 * p0) + p2) u
          else
            if p1 = 2 then
              fX8_item_j88 p0 p1 p2 p3 ((((p3 : Int64).toInt32) : Int32).toInt64) ((24 * p0) + p2) u
            else
              fX8_item_j88 p0 p1 p2 p3 p3 ((24 * p0) + p2) u
      else
        some (((v6 : Int32).toInt64), u)
set_option maxHeartbeats 4000000 in
set_option maxRecDepth 100000 in
theorem mX8_item (w : Wc) {p0 : Int32} {p1 : Int32} {p2 : Int32} {p3 : Int64}  {u : Um} {r : Int64} {u' : Um} (hf : fX8_item p0 p1 p2 p3 u = some (r, u')) : MC w 3 qX8_item [.ref 117, .int p0, .int p1, .int p2, .long p3] u (some (.long r)) u' := by
  unfold fX8_item at hf
  refine MC_intro pnX8 (Nat.le_of_ble_eq_true rfl) (fun X hX hR _ _ => ?_)
  have hX : OKc w X RX8 cX8_item 3 := hX
  have hR : RT w X (some .long) 0 0 Pst 133 false (some (.long r)) u' := hR
  refine G_eql (lv' := [some (.ref 117), some (.int p0), some (.int p1), some (.int p2), some (.long p3), none, none]) rfl ?_
  refine G_iload_n hX dX8_item_0 rfl ?_
  obtain ⟨v2, h1, hf⟩ := bd1_some hf
  refine G_cS (as := [.int p0]) (rest := []) hX csX8_216 (mX8_isSheet w h1) (Nat.le_of_ble_eq_true rfl) rfl rfl (Nat.le_of_ble_eq_true rfl) dX8_item_1 (st' := [.int v2]) rfl ?_
  refine G_if_eq (tgt := 16) hX dX8_item_4 rfl hf (fun hf => ?_) (fun hf => ?_)
  · refine G_ldc2 (v := (-1)) hX dX8_item_16 wJ_X8_219 ?_
    obtain ⟨rfl, rfl⟩ := ret2 hf
    exact G_lret hX hR dX8_item_19
  · refine G_iload_n hX dX8_item_7 rfl ?_
    refine G_iconst (v := 0) hX dX8_item_8 rfl ?_
    refine G_iconst (v := 3) hX dX8_item_9 rfl ?_
    obtain ⟨v4, h3, hf⟩ := bd1_some hf
    refine G_cS (as := [.int p1, .int 0, .int 3]) (rest := []) hX csX8_57 (mX8_in w h3) (Nat.le_of_ble_eq_true rfl) rfl rfl (Nat.le_of_ble_eq_true rfl) dX8_item_10 (st' := [.int v4]) rfl ?_
    refine G_if_ne (tgt := 20) hX dX8_item_13 rfl hf (fun hf => ?_) (fun hf => ?_)
    · refine G_aload_n hX dX8_item_20 rfl ?_
      refine G_iload_n hX dX8_item_21 rfl ?_
      refine G_iload_n hX dX8_item_22 rfl ?_
      refine G_iload_n hX dX8_item_23 rfl ?_
      refine G_iconst (v := 1) hX dX8_item_24 rfl ?_
      obtain ⟨v6, h5, hf⟩ := bd1_some hf
      refine G_cV (as := [.int p0, .int p1, .int p2, .int 1]) (rest := []) hX cvX8_221 (mX8_badRow w h5) (Nat.le_of_ble_eq_true rfl) kK117 (Nat.le_of_ble_eq_true rfl) (Nat.le_of_ble_eq_true rfl) rfl rfl (Nat.le_of_ble_eq_true rfl) dX8_item_25 (st' := [.int v6]) rfl ?_
      refine G_istore (lv' := [some (.ref 117), some (.int p0), some (.int p1), some (.int p2), some (.long p3), none, some (.int v6)]) hX dX8_item_28 rfl (Nat.le_of_ble_eq_true rfl) rfl ?_
      refine G_iload hX dX8_item_30 rfl ?_
      refine G_if_eq (tgt := 39) hX dX8_item_32 rfl hf (fun hf => ?_) (fun hf => ?_)
      · refine G_aload_n hX dX8_item_39 rfl ?_
        refine G_getR (i := 2) (t := 120) hX kK117 (Nat.le_of_ble_eq_true rfl) (Nat.le_of_ble_eq_true rfl) rfl pK117_2 flX8_16 dX8_item_40 ?_
        refine G_bipush (v := 24) hX dX8_item_43 rfl ?_
        refine G_iload_n hX dX8_item_45 rfl ?_
        refine G_imul hX dX8_item_46 ?_
        refine G_iload_n hX dX8_item_47 rfl ?_
        refine G_iadd hX dX8_item_48 ?_
        refine G_iload_n hX dX8_item_49 rfl ?_
        refine G_if_ne (tgt := 61) hX dX8_item_50 rfl hf (fun hf => ?_) (fun hf => ?_)
        · refine G_iload_n hX dX8_item_61 rfl ?_
          refine G_iconst (v := 1) hX dX8_item_62 rfl ?_
          refine G_icmp_ne (tgt := 74) hX dX8_item_63 rfl hf (fun hf => ?_) (fun hf => ?_)
          · refine G_iload_n hX dX8_item_74 rfl ?_
            refine G_iconst (v := 2) hX dX8_item_75 rfl ?_
            refine G_icmp_ne (tgt := 86) hX dX8_item_76 rfl hf (fun hf => ?_) (fun hf => ?_)
            · refine G_lload hX dX8_item_86 rfl ?_
              refine G_mask (lv' := [some (.ref 117), some (.int p0), none, some (.int p2), none, none, none]) [true, true, false, true, false, false, false] rfl rfl ?_
              exact tX8_item_j88 hX  hR hf
            · refine G_lload hX dX8_item_79 rfl ?_
              refine G_l2i hX dX8_item_81 ?_
              refine G_i2l hX dX8_item_82 ?_
              refine G_goto (tgt := 88) hX dX8_item_83 rfl ?_
              refine G_mask (lv' := [some (.ref 117), some (.int p0), none, some (.int p2), none, none, none]) [true, true, false, true, false, false, false] rfl rfl ?_
              exact tX8_item_j88 hX  hR hf
          · refine G_lload hX dX8_item_66 rfl ?_
            refine G_l2i hX dX8_item_68 ?_
            refine G_i2s hX dX8_item_69 ?_
            refine G_i2l hX dX8_item_70 ?_
            refine G_goto (tgt := 88) hX dX8_item_71 rfl ?_
            refine G_mask (lv' := [some (.ref 117), some (.int p0), none, some (.int p2), none, none, none]) [true, true, false, true, false, false, false] rfl rfl ?_
            exact tX8_item_j88 hX  hR hf
        · refine G_lload hX dX8_item_53 rfl ?_
          refine G_l2i hX dX8_item_55 ?_
          refine G_i2b hX dX8_item_56 ?_
          refine G_i2l hX dX8_item_57 ?_
          refine G_goto (tgt := 88) hX dX8_item_58 rfl ?_
          refine G_mask (lv' := [some (.ref 117), some (.int p0), none, some (.int p2), none, none, none]) [true, true, false, true, false, false, false] rfl rfl ?_
          exact tX8_item_j88 hX  hR hf
      · refine G_iload hX dX8_item_35 rfl ?_
        refine G_i2l hX dX8_item_37 ?_
        obtain ⟨rfl, rfl⟩ := ret2 hf
        exact G_lret hX hR dX8_item_38
    · refine G_ldc2 (v := (-1)) hX dX8_item_16 wJ_X8_219 ?_
      obtain ⟨rfl, rfl⟩ := ret2 hf
      exact G_lret hX hR dX8_item_19
noncomputable def fX8_copy_j134 (p0 : Int32) (p1 : Int32) (p2 : Int32) (p3 : Int32) (p4 : Int32) (i6 : Int32) (j7 : Int32) (z0 : Int32) (u : Um) : Option (Nat × Int32 × Um) :=
  if inb (((24 * p0) + p1) + z0) 96 = true then
  if inb (((24 * p2) + p3) + z0) 96 = true then
  nm (sJ u 120 (((24 * p2) + p3) + z0).toNatClampNeg (u.2 120 ((((24 * p0) + p1) + z0)).toNatClampNeg)) fun u9 =>
  nm (j7 + 1) fun v10 =>
  some (0, v10, u9)
  else none
  else none
set_option maxHeartbeats 4000000 in
set_option maxRecDepth 100000 in
theorem tX8_copy_j134 {w : Wc} {X : MX} (hX : OKc w X RX8 cX8_copy 3) {p0 : Int32} {p1 : Int32} {p2 : Int32} {p3 : Int32} {p4 : Int32} {i6 : Int32} {j7 : Int32} {z0 : Int32}  {u : Um} {e : Nat} {s' : Int32 × Um} (K0 : e = 0 → G w X Zm 110 [some (.ref 117), some (.int p0), some (.int p1), some (.int p2), some (.int p3), some (.int p4), some (.int i6), some (.int s'.1), none] [] s'.2) (K1 : e ≠ 0 → G w X Zm 171 [none, none, none, none, none, some (.int p4), none, none, none] [] s'.2) (hf : fX8_copy_j134 p0 p1 p2 p3 p4 i6 j7 z0 u = some (e, s')) : G w X Zm 134 [some (.ref 117), some (.int p0), some (.int p1), some (.int p2), some (.int p3), some (.int p4), some (.int i6), some (.int j7), none] [.int z0] u := by
  unfold fX8_copy_j134 at hf
  refine G_istore (lv' := [some (.ref 117), some (.int p0), some (.int p1), some (.int p2), some (.int p3), some (.int p4), some (.int i6), some (.int j7), some (.int z0)]) hX dX8_copy_134 rfl (Nat.le_of_ble_eq_true rfl) rfl ?_
  refine G_aload_n hX dX8_copy_136 rfl ?_
  refine G_getR (i := 2) (t := 120) hX kK117 (Nat.le_of_ble_eq_true rfl) (Nat.le_of_ble_eq_true rfl) rfl pK117_2 flX8_16 dX8_copy_137 ?_
  refine G_bipush (v := 24) hX dX8_copy_140 rfl ?_
  refine G_iload_n hX dX8_copy_142 rfl ?_
  refine G_imul hX dX8_copy_143 ?_
  refine G_iload hX dX8_copy_144 rfl ?_
  refine G_iadd hX dX8_copy_146 ?_
  refine G_iload hX dX8_copy_147 rfl ?_
  refine G_iadd hX dX8_copy_149 ?_
  refine G_aload_n hX dX8_copy_150 rfl ?_
  refine G_getR (i := 2) (t := 120) hX kK117 (Nat.le_of_ble_eq_true rfl) (Nat.le_of_ble_eq_true rfl) rfl pK117_2 flX8_16 dX8_copy_151 ?_
  refine G_bipush (v := 24) hX dX8_copy_154 rfl ?_
  refine G_iload_n hX dX8_copy_156 rfl ?_
  refine G_imul hX dX8_copy_157 ?_
  refine G_iload_n hX dX8_copy_158 rfl ?_
  refine G_iadd hX dX8_copy_159 ?_
  refine G_iload hX dX8_copy_160 rfl ?_
  refine G_iadd hX dX8_copy_162 ?_
  refine G_lald (n := 96) hX kK120 lK120 (Nat.le_of_ble_eq_true rfl) dX8_copy_163 hf (fun hf => ?_)
  refine G_last (n := 96) hX kK120 lK120 (Nat.le_of_ble_eq_true rfl) rfl dX8_copy_164 hf (fun u9 hf => ?_)
  refine G_iincF (lvf := fun v10 => [some (.ref 117), some (.int p0), some (.int p1), some (.int p2), some (.int p3), some (.int p4), some (.int i6), some (.int v10), some (.int z0)]) hX dX8_copy_165 rfl rfl rfl (Nat.le_of_ble_eq_true rfl) (fun _ => rfl) hf (fun v10 hf => ?_)
  refine G_goto (tgt := 110) hX dX8_copy_168 rfl ?_
  obtain ⟨rfl, rfl⟩ := ret2 hf
  refine G_mask (lv' := [some (.ref 117), some (.int p0), some (.int p1), some (.int p2), some (.int p3), some (.int p4), some (.int i6), some (.int v10), none]) [true, true, true, true, true, true, true, true, false] rfl rfl ?_
  exact K0 rfl
noncomputable def fX8_copy_b110 (p0 : Int32) (p1 : Int32) (p2 : Int32) (p3 : Int32) (p4 : Int32) (i6 : Int32) (s7 : Int32) (u : Um) : Option (Nat × Int32 × Um) :=
  if p4 ≤ s7 then
    some (1, s7, u)
  else
    if i6 = 0 then
      fX8_copy_j134 p0 p1 p2 p3 p4 i6 s7 s7 u
    else
      fX8_copy_j134 p0 p1 p2 p3 p4 i6 s7 ((p4 - 1) - s7) u
set_option maxHeartbeats 4000000 in
set_option maxRecDepth 100000 in
theorem tX8_copy_b110 {w : Wc} {X : MX} (hX : OKc w X RX8 cX8_copy 3) {p0 : Int32} {p1 : Int32} {p2 : Int32} {p3 : Int32} {p4 : Int32} {i6 : Int32} {s : Int32 × Um} {e : Nat} {s' : Int32 × Um} (hf : fX8_copy_b110 p0 p1 p2 p3 p4 i6 s.1 s.2 = some (e, s')) (K0 : e = 0 → G w X Zm 110 [some (.ref 117), some (.int p0), some (.int p1), some (.int p2), some (.int p3), some (.int p4), some (.int i6), some (.int s'.1), none] [] s'.2) (K1 : e ≠ 0 → G w X Zm 171 [none, none, none, none, none, some (.int p4), none, none, none] [] s'.2) : G w X Zm 110 [some (.ref 117), some (.int p0), some (.int p1), some (.int p2), some (.int p3), some (.int p4), some (.int i6), some (.int s.1), none] [] s.2 := by
  obtain ⟨s7, u⟩ := s
  unfold fX8_copy_b110 at hf
  try dsimp only at hf ⊢
  refine G_iload hX dX8_copy_110 rfl ?_
  refine G_iload hX dX8_copy_112 rfl ?_
  refine G_icmp_ge (tgt := 171) hX dX8_copy_114 rfl hf (fun hf => ?_) (fun hf => ?_)
  · obtain ⟨rfl, rfl⟩ := ret2 hf
    refine G_mask (lv' := [none, none, none, none, none, some (.int p4), none, none, none]) [false, false, false, false, false, true, false, false, false] rfl rfl ?_
    exact K1 (by decide)
  · refine G_iload hX dX8_copy_117 rfl ?_
    refine G_if_eq (tgt := 132) hX dX8_copy_119 rfl hf (fun hf => ?_) (fun hf => ?_)
    · refine G_iload hX dX8_copy_132 rfl ?_
      refine G_mask (lv' := [some (.ref 117), some (.int p0), some (.int p1), some (.int p2), some (.int p3), some (.int p4), some (.int i6), some (.int s7), none]) [true, true, true, true, true, true, true, true, false] rfl rfl ?_
      exact tX8_copy_j134 hX  K0 K1 hf
    · refine G_iload hX dX8_copy_122 rfl ?_
      refine G_iconst (v := 1) hX dX8_copy_124 rfl ?_
      refine G_isub hX dX8_copy_125 ?_
      refine G_iload hX dX8_copy_126 rfl ?_
      refine G_isub hX dX8_copy_128 ?_
      refine G_goto (tgt := 134) hX dX8_copy_129 rfl ?_
      refine G_mask (lv' := [some (.ref 117), some (.int p0), some (.int p1), some (.int p2), some (.int p3), some (.int p4), some (.int i6), some (.int s7), none]) [true, true, true, true, true, true, true, true, false] rfl rfl ?_
      exact tX8_copy_j134 hX  K0 K1 hf
noncomputable def fX8_copy_j105 (p0 : Int32) (p1 : Int32) (p2 : Int32) (p3 : Int32) (p4 : Int32) (z0 : Int32) (u : Um) : Option (Int32 × Um) :=
  bd3 (lp (fun s => fX8_copy_b110 p0 p1 p2 p3 p4 z0 s.1 s.2) fuel ((0 : Int32), u)) fun e13 v11 u12 =>
  some (p4, u12)
set_option maxHeartbeats 4000000 in
set_option maxRecDepth 100000 in
theorem tX8_copy_j105 {w : Wc} {X : MX} (hX : OKc w X RX8 cX8_copy 3) {p0 : Int32} {p1 : Int32} {p2 : Int32} {p3 : Int32} {p4 : Int32} {z0 : Int32} {u : Um} {r : Int32} {u' : Um} (hR : RT w X (some .int) 0 0 Pst 133 false (some (.int r)) u') (hf : fX8_copy_j105 p0 p1 p2 p3 p4 z0 u = some (r, u')) : G w X Zm 105 [some (.ref 117), some (.int p0), some (.int p1), some (.int p2), some (.int p3), some (.int p4), none, none, none] [.int z0] u := by
  unfold fX8_copy_j105 at hf
  refine G_istore (lv' := [some (.ref 117), some (.int p0), some (.int p1), some (.int p2), some (.int p3), some (.int p4), some (.int z0), none, none]) hX dX8_copy_105 rfl (Nat.le_of_ble_eq_true rfl) rfl ?_
  refine G_iconst (v := 0) hX dX8_copy_107 rfl ?_
  refine G_istore (lv' := [some (.ref 117), some (.int p0), some (.int p1), some (.int p2), some (.int p3), some (.int p4), some (.int z0), some (.int 0), none]) hX dX8_copy_108 rfl (Nat.le_of_ble_eq_true rfl) rfl ?_
  obtain ⟨e13, v11, u12, h14, hf⟩ := bd3_some hf
  refine G_mask (lv' := [some (.ref 117), some (.int p0), some (.int p1), some (.int p2), some (.int p3), some (.int p4), some (.int z0), some (.int 0), none]) [true, true, true, true, true, true, true, true, false] rfl rfl ?_
  refine lp_G (body := (fun s => fX8_copy_b110 p0 p1 p2 p3 p4 z0 s.1 s.2)) (Gh := fun s => G w X Zm 110 [some (.ref 117), some (.int p0), some (.int p1), some (.int p2), some (.int p3), some (.int p4), some (.int z0), some (.int s.1), none] [] s.2) (Gx := fun e s => G w X Zm 171 [none, none, none, none, none, some (.int p4), none, none, none] [] s.2) (fun s e s' hb K0 K1 => tX8_copy_b110 (s := s) (e := e) (s' := s') hX   hb K0 K1) fuel ((0 : Int32), u) (e13, v11, u12) h14 ?_
  refine G_iload hX dX8_copy_171 rfl ?_
  obtain ⟨rfl, rfl⟩ := ret2 hf
  exact G_iret hX hR dX8_copy_173
noncomputable def fX8_copy_j104 (p0 : Int32) (p1 : Int32) (p2 : Int32) (p3 : Int32) (p4 : Int32) (u : Um) : Option (Int32 × Um) :=
  fX8_copy_j105 p0 p1 p2 p3 p4 0 u
set_option maxHeartbeats 4000000 in
set_option maxRecDepth 100000 in
theorem tX8_copy_j104 {w : Wc} {X : MX} (hX : OKc w X RX8 cX8_copy 3) {p0 : Int32} {p1 : Int32} {p2 : Int32} {p3 : Int32} {p4 : Int32} {u : Um} {r : Int32} {u' : Um} (hR : RT w X (some .int) 0 0 Pst 133 false (some (.int r)) u') (hf : fX8_copy_j104 p0 p1 p2 p3 p4 u = some (r, u')) : G w X Zm 104 [some (.ref 117), some (.int p0), some (.int p1), some (.int p2), some (.int p3), some (.int p4), none, none, none] [] u := by
  unfold fX8_copy_j104 at hf
  refine G_iconst (v := 0) hX dX8_copy_104 rfl ?_
  refine G_mask (lv' := [some (.ref 117), some (.int p0), some (.int p1), some (.int p2), some (.int p3), some (.int p4), none, none, none]) [true, true, true, true, true, true, false, false, false] rfl rfl ?_
  exact tX8_copy_j105 hX  hR hf
noncomputable def fX8_copy (p0 : Int32) (p1 : Int32) (p2 : Int32) (p3 : Int32) (p4 : Int32) (u : Um) : Option (Int32 × Um) :=
  bd1 (fX8_isSheet p0 u) fun v2 =>
  if v2 = 0 then
    some ((-1), u)
  else
    bd1 (fX8_isSheet p2 u) fun v4 =>
    if v4 = 0 then
      some ((-1), u)
    else
      if inb p0 4 = true then
      if (u.1 118 p0.toNatClampNeg) < 0 then
        some ((-11), u)
      else
        if inb p2 4 = true then
        if 0 ≤ (u.1 118 p2.toNatClampNeg) then
          if inb p0 4 = true then
          if inb p2 4 = true then
          if (u.1 118 p0.toNatClampNeg) = (u.1 118 p2.toNatClampNeg) then
            if inb p0 4 = true then
            bd1 (fX8_isPart p1 p4 (u.1 119 p0.toNatClampNeg) u) fun v6 =>
            if v6 = 0 then
              some ((-13), u)
            else
              if inb p2 4 = true then
              bd1 (fX8_isPart p3 p4 (u.1 119 p2.toNatClampNeg) u) fun v8 =>
              if v8 = 0 then
                some ((-13), u)
              else
                if p0 = p2 then
                  if p3 ≤ p1 then
                    fX8_copy_j104 p0 p1 p2 p3 p4 u
                  else
                    fX8_copy_j105 p0 p1 p2 p3 p4 1 u
                else
                  fX8_copy_j104 p0 p1 p2 p3 p4 u
              else none
            else none
          else
            some ((-12), u)
          else none
          else none
        else
          some ((-11), u)
        else none
      else none
set_option maxHeartbeats 4000000 in
set_option maxRecDepth 100000 in
theorem mX8_copy (w : Wc) {p0 : Int32} {p1 : Int32} {p2 : Int32} {p3 : Int32} {p4 : Int32}  {u : Um} {r : Int32} {u' : Um} (hf : fX8_copy p0 p1 p2 p3 p4 u = some (r, u')) : MC w 3 qX8_copy [.ref 117, .int p0, .int p1, .int p2, .int p3, .int p4] u (some (.int r)) u' := by
  unfold fX8_copy at hf
  refine MC_intro pnX8 (Nat.le_of_ble_eq_true rfl) (fun X hX hR _ _ => ?_)
  have hX : OKc w X RX8 cX8_copy 3 := hX
  have hR : RT w X (some .int) 0 0 Pst 133 false (some (.int r)) u' := hR
  refine G_eql (lv' := [some (.ref 117), some (.int p0), some (.int p1), some (.int p2), some (.int p3), some (.int p4), none, none, none]) rfl ?_
  refine G_iload_n hX dX8_copy_0 rfl ?_
  obtain ⟨v2, h1, hf⟩ := bd1_some hf
  refine G_cS (as := [.int p0]) (rest := []) hX csX8_216 (mX8_isSheet w h1) (Nat.le_of_ble_eq_true rfl) rfl rfl (Nat.le_of_ble_eq_true rfl) dX8_copy_1 (st' := [.int v2]) rfl ?_
  refine G_if_eq (tgt := 14) hX dX8_copy_4 rfl hf (fun hf => ?_) (fun hf => ?_)
  · refine G_iconst (v := (-1)) hX dX8_copy_14 rfl ?_
    obtain ⟨rfl, rfl⟩ := ret2 hf
    exact G_iret hX hR dX8_copy_15
  · refine G_iload_n hX dX8_copy_7 rfl ?_
    obtain ⟨v4, h3, hf⟩ := bd1_some hf
    refine G_cS (as := [.int p2]) (rest := []) hX csX8_216 (mX8_isSheet w h3) (Nat.le_of_ble_eq_true rfl) rfl rfl (Nat.le_of_ble_eq_true rfl) dX8_copy_8 (st' := [.int v4]) rfl ?_
    refine G_if_ne (tgt := 16) hX dX8_copy_11 rfl hf (fun hf => ?_) (fun hf => ?_)
    · refine G_aload_n hX dX8_copy_16 rfl ?_
      refine G_getR (i := 0) (t := 118) hX kK117 (Nat.le_of_ble_eq_true rfl) (Nat.le_of_ble_eq_true rfl) rfl pK117_0 flX8_7 dX8_copy_17 ?_
      refine G_iload_n hX dX8_copy_20 rfl ?_
      refine G_iald (n := 4) hX kK118 lK118 (Nat.le_of_ble_eq_true rfl) dX8_copy_21 hf (fun hf => ?_)
      refine G_if_lt (tgt := 34) hX dX8_copy_22 rfl hf (fun hf => ?_) (fun hf => ?_)
      · refine G_bipush (v := (-11)) hX dX8_copy_34 rfl ?_
        obtain ⟨rfl, rfl⟩ := ret2 hf
        exact G_iret hX hR dX8_copy_36
      · refine G_aload_n hX dX8_copy_25 rfl ?_
        refine G_getR (i := 0) (t := 118) hX kK117 (Nat.le_of_ble_eq_true rfl) (Nat.le_of_ble_eq_true rfl) rfl pK117_0 flX8_7 dX8_copy_26 ?_
        refine G_iload_n hX dX8_copy_29 rfl ?_
        refine G_iald (n := 4) hX kK118 lK118 (Nat.le_of_ble_eq_true rfl) dX8_copy_30 hf (fun hf => ?_)
        refine G_if_ge (tgt := 37) hX dX8_copy_31 rfl hf (fun hf => ?_) (fun hf => ?_)
        · refine G_aload_n hX dX8_copy_37 rfl ?_
          refine G_getR (i := 0) (t := 118) hX kK117 (Nat.le_of_ble_eq_true rfl) (Nat.le_of_ble_eq_true rfl) rfl pK117_0 flX8_7 dX8_copy_38 ?_
          refine G_iload_n hX dX8_copy_41 rfl ?_
          refine G_iald (n := 4) hX kK118 lK118 (Nat.le_of_ble_eq_true rfl) dX8_copy_42 hf (fun hf => ?_)
          refine G_aload_n hX dX8_copy_43 rfl ?_
          refine G_getR (i := 0) (t := 118) hX kK117 (Nat.le_of_ble_eq_true rfl) (Nat.le_of_ble_eq_true rfl) rfl pK117_0 flX8_7 dX8_copy_44 ?_
          refine G_iload_n hX dX8_copy_47 rfl ?_
          refine G_iald (n := 4) hX kK118 lK118 (Nat.le_of_ble_eq_true rfl) dX8_copy_48 hf (fun hf => ?_)
          refine G_icmp_eq (tgt := 55) hX dX8_copy_49 rfl hf (fun hf => ?_) (fun hf => ?_)
          · refine G_iload_n hX dX8_copy_55 rfl ?_
            refine G_iload hX dX8_copy_56 rfl ?_
            refine G_aload_n hX dX8_copy_58 rfl ?_
            refine G_getR (i := 1) (t := 119) hX kK117 (Nat.le_of_ble_eq_true rfl) (Nat.le_of_ble_eq_true rfl) rfl pK117_1 flX8_13 dX8_copy_59 ?_
            refine G_iload_n hX dX8_copy_62 rfl ?_
            refine G_iald (n := 4) hX kK119 lK119 (Nat.le_of_ble_eq_true rfl) dX8_copy_63 hf (fun hf => ?_)
            obtain ⟨v6, h5, hf⟩ := bd1_some hf
            refine G_cS (as := [.int p1, .int p4, .int (u.1 119 p0.toNatClampNeg)]) (rest := []) hX csX8_213 (mX8_isPart w h5) (Nat.le_of_ble_eq_true rfl) rfl rfl (Nat.le_of_ble_eq_true rfl) dX8_copy_64 (st' := [.int v6]) rfl ?_
            refine G_if_eq (tgt := 86) hX dX8_copy_67 rfl hf (fun hf => ?_) (fun hf => ?_)
            · refine G_bipush (v := (-13)) hX dX8_copy_86 rfl ?_
              obtain ⟨rfl, rfl⟩ := ret2 hf
              exact G_iret hX hR dX8_copy_88
            · refine G_iload hX dX8_copy_70 rfl ?_
              refine G_iload hX dX8_copy_72 rfl ?_
              refine G_aload_n hX dX8_copy_74 rfl ?_
              refine G_getR (i := 1) (t := 119) hX kK117 (Nat.le_of_ble_eq_true rfl) (Nat.le_of_ble_eq_true rfl) rfl pK117_1 flX8_13 dX8_copy_75 ?_
              refine G_iload_n hX dX8_copy_78 rfl ?_
              refine G_iald (n := 4) hX kK119 lK119 (Nat.le_of_ble_eq_true rfl) dX8_copy_79 hf (fun hf => ?_)
              obtain ⟨v8, h7, hf⟩ := bd1_some hf
              refine G_cS (as := [.int p3, .int p4, .int (u.1 119 p2.toNatClampNeg)]) (rest := []) hX csX8_213 (mX8_isPart w h7) (Nat.le_of_ble_eq_true rfl) rfl rfl (Nat.le_of_ble_eq_true rfl) dX8_copy_80 (st' := [.int v8]) rfl ?_
              refine G_if_ne (tgt := 89) hX dX8_copy_83 rfl hf (fun hf => ?_) (fun hf => ?_)
              · refine G_iload_n hX dX8_copy_89 rfl ?_
                refine G_iload_n hX dX8_copy_90 rfl ?_
                refine G_icmp_ne (tgt := 104) hX dX8_copy_91 rfl hf (fun hf => ?_) (fun hf => ?_)
                · refine G_mask (lv' := [some (.ref 117), some (.int p0), some (.int p1), some (.int p2), some (.int p3), some (.int p4), none, none, none]) [true, true, true, true, true, true, false, false, false] rfl rfl ?_
                  exact tX8_copy_j104 hX  hR hf
                · refine G_iload hX dX8_copy_94 rfl ?_
                  refine G_iload_n hX dX8_copy_96 rfl ?_
                  refine G_icmp_le (tgt := 104) hX dX8_copy_97 rfl hf (fun hf => ?_) (fun hf => ?_)
                  · refine G_mask (lv' := [some (.ref 117), some (.int p0), some (.int p1), some (.int p2), some (.int p3), some (.int p4), none, none, none]) [true, true, true, true, true, true, false, false, false] rfl rfl ?_
                    exact tX8_copy_j104 hX  hR hf
                  · refine G_iconst (v := 1) hX dX8_copy_100 rfl ?_
                    refine G_goto (tgt := 105) hX dX8_copy_101 rfl ?_
                    refine G_mask (lv' := [some (.ref 117), some (.int p0), some (.int p1), some (.int p2), some (.int p3), some (.int p4), none, none, none]) [true, true, true, true, true, true, false, false, false] rfl rfl ?_
                    exact tX8_copy_j105 hX  hR hf
              · refine G_bipush (v := (-13)) hX dX8_copy_86 rfl ?_
                obtain ⟨rfl, rfl⟩ := ret2 hf
                exact G_iret hX hR dX8_copy_88
          · refine G_bipush (v := (-12)) hX dX8_copy_52 rfl ?_
            obtain ⟨rfl, rfl⟩ := ret2 hf
            exact G_iret hX hR dX8_copy_54
        · refine G_bipush (v := (-11)) hX dX8_copy_34 rfl ?_
          obtain ⟨rfl, rfl⟩ := ret2 hf
          exact G_iret hX hR dX8_copy_36
    · refine G_iconst (v := (-1)) hX dX8_copy_14 rfl ?_
      obtain ⟨rfl, rfl⟩ := ret2 hf
      exact G_iret hX hR dX8_copy_15
noncomputable def fX8_cutTo (p0 : Int32) (p1 : Int64) (u : Um) : Option Int64 :=
  if p0 = 0 then
    some ((((((p1 : Int64).toInt32) : Int32).toInt8.toInt32) : Int32).toInt64)
  else
    if p0 = 1 then
      some ((((((p1 : Int64).toInt32) : Int32).toInt16.toInt32) : Int32).toInt64)
    else
      if p0 = 2 then
        some ((((p1 : Int64).toInt32) : Int32).toInt64)
      else
        some p1
set_option maxHeartbeats 4000000 in
set_option maxRecDepth 100000 in
theorem mX8_cutTo (w : Wc) {p0 : Int32} {p1 : Int64}  {u : Um} {r : Int64} (hf : fX8_cutTo p0 p1 u = some r) : MC w 1 qX8_cutTo [.int p0, .long p1] u (some (.long r)) u := by
  unfold fX8_cutTo at hf
  refine MC_intro pnX8 (Nat.le_of_ble_eq_true rfl) (fun X hX hR _ _ => ?_)
  have hX : OKc w X RX8 cX8_cutTo 1 := hX
  have hR : RT w X (some .long) 0 0 Pst 133 false (some (.long r)) u := hR
  refine G_eql (lv' := [some (.int p0), some (.long p1), none]) rfl ?_
  refine G_iload_n hX dX8_cutTo_0 rfl ?_
  refine G_if_ne (tgt := 11) hX dX8_cutTo_1 rfl hf (fun hf => ?_) (fun hf => ?_)
  · refine G_iload_n hX dX8_cutTo_11 rfl ?_
    refine G_iconst (v := 1) hX dX8_cutTo_12 rfl ?_
    refine G_icmp_ne (tgt := 23) hX dX8_cutTo_13 rfl hf (fun hf => ?_) (fun hf => ?_)
    · refine G_iload_n hX dX8_cutTo_23 rfl ?_
      refine G_iconst (v := 2) hX dX8_cutTo_24 rfl ?_
      refine G_icmp_ne (tgt := 34) hX dX8_cutTo_25 rfl hf (fun hf => ?_) (fun hf => ?_)
      · refine G_lload_n hX dX8_cutTo_34 rfl ?_
        obtain rfl := Option.some.inj hf
        exact G_lret hX hR dX8_cutTo_35
      · refine G_lload_n hX dX8_cutTo_28 rfl ?_
        refine G_l2i hX dX8_cutTo_29 ?_
        refine G_i2l hX dX8_cutTo_30 ?_
        refine G_goto (tgt := 35) hX dX8_cutTo_31 rfl ?_
        obtain rfl := Option.some.inj hf
        exact G_lret hX hR dX8_cutTo_35
    · refine G_lload_n hX dX8_cutTo_16 rfl ?_
      refine G_l2i hX dX8_cutTo_17 ?_
      refine G_i2s hX dX8_cutTo_18 ?_
      refine G_i2l hX dX8_cutTo_19 ?_
      refine G_goto (tgt := 35) hX dX8_cutTo_20 rfl ?_
      obtain rfl := Option.some.inj hf
      exact G_lret hX hR dX8_cutTo_35
  · refine G_lload_n hX dX8_cutTo_4 rfl ?_
    refine G_l2i hX dX8_cutTo_5 ?_
    refine G_i2b hX dX8_cutTo_6 ?_
    refine G_i2l hX dX8_cutTo_7 ?_
    refine G_goto (tgt := 35) hX dX8_cutTo_8 rfl ?_
    obtain rfl := Option.some.inj hf
    exact G_lret hX hR dX8_cutTo_35
noncomputable def fX8_log_b53 (p0 : Int32) (p1 : Int32) (p2 : Int32) (p3 : Int32) (s6 : Int32) (u : Um) : Option (Nat × Int32 × Um) :=
  if inb 2 83 = true then
  if (u.1 122 (2 : Int32).toNatClampNeg) ≤ s6 then
    some (1, s6, u)
  else
    bd1 (fX8_saidOf 122 s6 p0 u) fun v10 =>
    bd1 (fX8_cutTo p2 ((v10 : Int32).toInt64) u) fun v12 =>
    if inb (((24 * p1) + p3) + s6) 96 = true then
    nm (sJ u 120 (((24 * p1) + p3) + s6).toNatClampNeg v12) fun u13 =>
    nm (s6 + 1) fun v14 =>
    some (0, v14, u13)
    else none
  else none
set_option maxHeartbeats 4000000 in
set_option maxRecDepth 100000 in
theorem tX8_log_b53 {w : Wc} {X : MX} (hX : OKc w X RX8 cX8_log 3) {p0 : Int32} {p1 : Int32} {p2 : Int32} {p3 : Int32} {s : Int32 × Um} {e : Nat} {s' : Int32 × Um} (hf : fX8_log_b53 p0 p1 p2 p3 s.1 s.2 = some (e, s')) (K0 : e = 0 → G w X Zm 53 [some (.ref 117), some (.int p0), some (.int p1), some (.int p2), some (.int p3), none, some (.int s'.1)] [] s'.2) (K1 : e ≠ 0 → G w X Zm 100 [some (.ref 117), none, none, none, none, none, none] [] s'.2) : G w X Zm 53 [some (.ref 117), some (.int p0), some (.int p1), some (.int p2), some (.int p3), none, some (.int s.1)] [] s.2 := by
  obtain ⟨s6, u⟩ := s
  unfold fX8_log_b53 at hf
  try dsimp only at hf ⊢
  refine G_iload hX dX8_log_53 rfl ?_
  refine G_aload_n hX dX8_log_55 rfl ?_
  refine G_getR (i := 6) (t := 122) hX kK117 (Nat.le_of_ble_eq_true rfl) (Nat.le_of_ble_eq_true rfl) rfl pK117_6 flX8_23 dX8_log_56 ?_
  refine G_iconst (v := 2) hX dX8_log_59 rfl ?_
  refine G_iald (n := 83) hX kK122 lK122 (Nat.le_of_ble_eq_true rfl) dX8_log_60 hf (fun hf => ?_)
  refine G_icmp_ge (tgt := 100) hX dX8_log_61 rfl hf (fun hf => ?_) (fun hf => ?_)
  · obtain ⟨rfl, rfl⟩ := ret2 hf
    refine G_mask (lv' := [some (.ref 117), none, none, none, none, none, none]) [true, false, false, false, false, false, false] rfl rfl ?_
    exact K1 (by decide)
  · refine G_aload_n hX dX8_log_64 rfl ?_
    refine G_getR (i := 2) (t := 120) hX kK117 (Nat.le_of_ble_eq_true rfl) (Nat.le_of_ble_eq_true rfl) rfl pK117_2 flX8_16 dX8_log_65 ?_
    refine G_bipush (v := 24) hX dX8_log_68 rfl ?_
    refine G_iload_n hX dX8_log_70 rfl ?_
    refine G_imul hX dX8_log_71 ?_
    refine G_iload hX dX8_log_72 rfl ?_
    refine G_iadd hX dX8_log_74 ?_
    refine G_iload hX dX8_log_75 rfl ?_
    refine G_iadd hX dX8_log_77 ?_
    refine G_iload_n hX dX8_log_78 rfl ?_
    refine G_aload_n hX dX8_log_79 rfl ?_
    refine G_getR (i := 6) (t := 122) hX kK117 (Nat.le_of_ble_eq_true rfl) (Nat.le_of_ble_eq_true rfl) rfl pK117_6 flX8_23 dX8_log_80 ?_
    refine G_iload hX dX8_log_83 rfl ?_
    refine G_iload_n hX dX8_log_85 rfl ?_
    obtain ⟨v10, h9, hf⟩ := bd1_some hf
    refine G_cS (as := [.ref 122, .int s6, .int p0]) (rest := [.int p2, .int (((24 * p1) + p3) + s6), .ref 120]) hX csX8_127 (mX8_saidOf w kK122 h9) (Nat.le_of_ble_eq_true rfl) rfl rfl (Nat.le_of_ble_eq_true rfl) dX8_log_86 (st' := [.int v10, .int p2, .int (((24 * p1) + p3) + s6), .ref 120]) rfl ?_
    refine G_i2l hX dX8_log_89 ?_
    obtain ⟨v12, h11, hf⟩ := bd1_some hf
    refine G_cS (as := [.int p2, .long ((v10 : Int32).toInt64)]) (rest := [.int (((24 * p1) + p3) + s6), .ref 120]) hX csX8_224 (mX8_cutTo w h11) (Nat.le_of_ble_eq_true rfl) rfl rfl (Nat.le_of_ble_eq_true rfl) dX8_log_90 (st' := [.long v12, .int (((24 * p1) + p3) + s6), .ref 120]) rfl ?_
    refine G_last (n := 96) hX kK120 lK120 (Nat.le_of_ble_eq_true rfl) rfl dX8_log_93 hf (fun u13 hf => ?_)
    refine G_iincF (lvf := fun v14 => [some (.ref 117), some (.int p0), some (.int p1), some (.int p2), some (.int p3), none, some (.int v14)]) hX dX8_log_94 rfl rfl rfl (Nat.le_of_ble_eq_true rfl) (fun _ => rfl) hf (fun v14 hf => ?_)
    refine G_goto (tgt := 53) hX dX8_log_97 rfl ?_
    obtain ⟨rfl, rfl⟩ := ret2 hf
    refine G_mask (lv' := [some (.ref 117), some (.int p0), some (.int p1), some (.int p2), some (.int p3), none, some (.int v14)]) [true, true, true, true, true, false, true] rfl rfl ?_
    exact K0 rfl
noncomputable def fX8_log (p0 : Int32) (p1 : Int32) (p2 : Int32) (p3 : Int32) (u : Um) : Option (Int32 × Um) :=
  bd1 (fX8_isOne p0 u) fun v2 =>
  if v2 = 0 then
    some ((-1), u)
  else
    bd1 (fX8_isSheet p1 u) fun v4 =>
    if v4 = 0 then
      some ((-1), u)
    else
      bd1 (fX8_in p2 0 3 u) fun v6 =>
      if v6 = 0 then
        some ((-1), u)
      else
        if inb 2 83 = true then
        bd1 (fX8_badRow p1 p2 p3 (u.1 122 (2 : Int32).toNatClampNeg) u) fun v8 =>
        if v8 = 0 then
          bd3 (lp (fun s => fX8_log_b53 p0 p1 p2 p3 s.1 s.2) fuel ((0 : Int32), u)) fun e17 v15 u16 =>
          if inb 2 83 = true then
          some ((u16.1 122 (2 : Int32).toNatClampNeg), u16)
          else none
        else
          some (v8, u)
        else none
set_option maxHeartbeats 4000000 in
set_option maxRecDepth 100000 in
theorem mX8_log (w : Wc) {p0 : Int32} {p1 : Int32} {p2 : Int32} {p3 : Int32}  {u : Um} {r : Int32} {u' : Um} (hf : fX8_log p0 p1 p2 p3 u = some (r, u')) : MC w 3 qX8_log [.ref 117, .int p0, .int p1, .int p2, .int p3] u (some (.int r)) u' := by
  unfold fX8_log at hf
  refine MC_intro pnX8 (Nat.le_of_ble_eq_true rfl) (fun X hX hR _ _ => ?_)
  have hX : OKc w X RX8 cX8_log 3 := hX
  have hR : RT w X (some .int) 0 0 Pst 133 false (some (.int r)) u' := hR
  refine G_eql (lv' := [some (.ref 117), some (.int p0), some (.int p1), some (.int p2), some (.int p3), none, none]) rfl ?_
  refine G_aload_n hX dX8_log_0 rfl ?_
  refine G_iload_n hX dX8_log_1 rfl ?_
  obtain ⟨v2, h1, hf⟩ := bd1_some hf
  refine G_cV (as := [.int p0]) (rest := []) hX cvX8_105 (mX8_isOne w h1) (Nat.le_of_ble_eq_true rfl) kK117 (Nat.le_of_ble_eq_true rfl) (Nat.le_of_ble_eq_true rfl) rfl rfl (Nat.le_of_ble_eq_true rfl) dX8_log_2 (st' := [.int v2]) rfl ?_
  refine G_if_eq (tgt := 24) hX dX8_log_5 rfl hf (fun hf => ?_) (fun hf => ?_)
  · refine G_iconst (v := (-1)) hX dX8_log_24 rfl ?_
    obtain ⟨rfl, rfl⟩ := ret2 hf
    exact G_iret hX hR dX8_log_25
  · refine G_iload_n hX dX8_log_8 rfl ?_
    obtain ⟨v4, h3, hf⟩ := bd1_some hf
    refine G_cS (as := [.int p1]) (rest := []) hX csX8_216 (mX8_isSheet w h3) (Nat.le_of_ble_eq_true rfl) rfl rfl (Nat.le_of_ble_eq_true rfl) dX8_log_9 (st' := [.int v4]) rfl ?_
    refine G_if_eq (tgt := 24) hX dX8_log_12 rfl hf (fun hf => ?_) (fun hf => ?_)
    · refine G_iconst (v := (-1)) hX dX8_log_24 rfl ?_
      obtain ⟨rfl, rfl⟩ := ret2 hf
      exact G_iret hX hR dX8_log_25
    · refine G_iload_n hX dX8_log_15 rfl ?_
      refine G_iconst (v := 0) hX dX8_log_16 rfl ?_
      refine G_iconst (v := 3) hX dX8_log_17 rfl ?_
      obtain ⟨v6, h5, hf⟩ := bd1_some hf
      refine G_cS (as := [.int p2, .int 0, .int 3]) (rest := []) hX csX8_57 (mX8_in w h5) (Nat.le_of_ble_eq_true rfl) rfl rfl (Nat.le_of_ble_eq_true rfl) dX8_log_18 (st' := [.int v6]) rfl ?_
      refine G_if_ne (tgt := 26) hX dX8_log_21 rfl hf (fun hf => ?_) (fun hf => ?_)
      · refine G_aload_n hX dX8_log_26 rfl ?_
        refine G_iload_n hX dX8_log_27 rfl ?_
        refine G_iload_n hX dX8_log_28 rfl ?_
        refine G_iload hX dX8_log_29 rfl ?_
        refine G_aload_n hX dX8_log_31 rfl ?_
        refine G_getR (i := 6) (t := 122) hX kK117 (Nat.le_of_ble_eq_true rfl) (Nat.le_of_ble_eq_true rfl) rfl pK117_6 flX8_23 dX8_log_32 ?_
        refine G_iconst (v := 2) hX dX8_log_35 rfl ?_
        refine G_iald (n := 83) hX kK122 lK122 (Nat.le_of_ble_eq_true rfl) dX8_log_36 hf (fun hf => ?_)
        obtain ⟨v8, h7, hf⟩ := bd1_some hf
        refine G_cV (as := [.int p1, .int p2, .int p3, .int (u.1 122 (2 : Int32).toNatClampNeg)]) (rest := []) hX cvX8_221 (mX8_badRow w h7) (Nat.le_of_ble_eq_true rfl) kK117 (Nat.le_of_ble_eq_true rfl) (Nat.le_of_ble_eq_true rfl) rfl rfl (Nat.le_of_ble_eq_true rfl) dX8_log_37 (st' := [.int v8]) rfl ?_
        refine G_istore (lv' := [some (.ref 117), some (.int p0), some (.int p1), some (.int p2), some (.int p3), some (.int v8), none]) hX dX8_log_40 rfl (Nat.le_of_ble_eq_true rfl) rfl ?_
        refine G_iload hX dX8_log_42 rfl ?_
        refine G_if_eq (tgt := 50) hX dX8_log_44 rfl hf (fun hf => ?_) (fun hf => ?_)
        · refine G_iconst (v := 0) hX dX8_log_50 rfl ?_
          refine G_istore (lv' := [some (.ref 117), some (.int p0), some (.int p1), some (.int p2), some (.int p3), some (.int v8), some (.int 0)]) hX dX8_log_51 rfl (Nat.le_of_ble_eq_true rfl) rfl ?_
          obtain ⟨e17, v15, u16, h18, hf⟩ := bd3_some hf
          refine G_mask (lv' := [some (.ref 117), some (.int p0), some (.int p1), some (.int p2), some (.int p3), none, some (.int 0)]) [true, true, true, true, true, false, true] rfl rfl ?_
          refine lp_G (body := (fun s => fX8_log_b53 p0 p1 p2 p3 s.1 s.2)) (Gh := fun s => G w X Zm 53 [some (.ref 117), some (.int p0), some (.int p1), some (.int p2), some (.int p3), none, some (.int s.1)] [] s.2) (Gx := fun e s => G w X Zm 100 [some (.ref 117), none, none, none, none, none, none] [] s.2) (fun s e s' hb K0 K1 => tX8_log_b53 (s := s) (e := e) (s' := s') hX   hb K0 K1) fuel ((0 : Int32), u) (e17, v15, u16) h18 ?_
          refine G_aload_n hX dX8_log_100 rfl ?_
          refine G_getR (i := 6) (t := 122) hX kK117 (Nat.le_of_ble_eq_true rfl) (Nat.le_of_ble_eq_true rfl) rfl pK117_6 flX8_23 dX8_log_101 ?_
          refine G_iconst (v := 2) hX dX8_log_104 rfl ?_
          refine G_iald (n := 83) hX kK122 lK122 (Nat.le_of_ble_eq_true rfl) dX8_log_105 hf (fun hf => ?_)
          obtain ⟨rfl, rfl⟩ := ret2 hf
          exact G_iret hX hR dX8_log_106
        · refine G_iload hX dX8_log_47 rfl ?_
          obtain ⟨rfl, rfl⟩ := ret2 hf
          exact G_iret hX hR dX8_log_49
      · refine G_iconst (v := (-1)) hX dX8_log_24 rfl ?_
        obtain ⟨rfl, rfl⟩ := ret2 hf
        exact G_iret hX hR dX8_log_25
noncomputable def fX8_saidAs (p0 : Int32) (p1 : Int32) (p2 : Int32) (p3 : Int32) (u : Um) : Option Int32 :=
  if p1 = 0 then
    if inb (3 + p0) 83 = true then
    if inb (39 + p0) 83 = true then
    bd1 (fX8_saidBy (u.1 122 ((3 + p0)).toNatClampNeg) p2 (u.1 122 ((39 + p0)).toNatClampNeg) p3 u) fun v2 =>
    some v2
    else none
    else none
  else
    if inb (9 + p0) 83 = true then
    if inb (39 + p0) 83 = true then
    bd1 (fX8_saidBy p2 (u.1 122 ((9 + p0)).toNatClampNeg) (u.1 122 ((39 + p0)).toNatClampNeg) p3 u) fun v4 =>
    some v4
    else none
    else none
set_option maxHeartbeats 4000000 in
set_option maxRecDepth 100000 in
theorem mX8_saidAs (w : Wc) {p0 : Int32} {p1 : Int32} {p2 : Int32} {p3 : Int32}  {u : Um} {r : Int32} (hf : fX8_saidAs p0 p1 p2 p3 u = some r) : MC w 2 qX8_saidAs [.ref 117, .int p0, .int p1, .int p2, .int p3] u (some (.int r)) u := by
  unfold fX8_saidAs at hf
  refine MC_intro pnX8 (Nat.le_of_ble_eq_true rfl) (fun X hX hR _ _ => ?_)
  have hX : OKc w X RX8 cX8_saidAs 2 := hX
  have hR : RT w X (some .int) 0 0 Pst 133 false (some (.int r)) u := hR
  refine G_eql (lv' := [some (.ref 117), some (.int p0), some (.int p1), some (.int p2), some (.int p3)]) rfl ?_
  refine G_iload_n hX dX8_saidAs_0 rfl ?_
  refine G_if_eq (tgt := 31) hX dX8_saidAs_1 rfl hf (fun hf => ?_) (fun hf => ?_)
  · refine G_aload_n hX dX8_saidAs_31 rfl ?_
    refine G_getR (i := 6) (t := 122) hX kK117 (Nat.le_of_ble_eq_true rfl) (Nat.le_of_ble_eq_true rfl) rfl pK117_6 flX8_23 dX8_saidAs_32 ?_
    refine G_iconst (v := 3) hX dX8_saidAs_35 rfl ?_
    refine G_iload_n hX dX8_saidAs_36 rfl ?_
    refine G_iadd hX dX8_saidAs_37 ?_
    refine G_iald (n := 83) hX kK122 lK122 (Nat.le_of_ble_eq_true rfl) dX8_saidAs_38 hf (fun hf => ?_)
    refine G_iload_n hX dX8_saidAs_39 rfl ?_
    refine G_aload_n hX dX8_saidAs_40 rfl ?_
    refine G_getR (i := 6) (t := 122) hX kK117 (Nat.le_of_ble_eq_true rfl) (Nat.le_of_ble_eq_true rfl) rfl pK117_6 flX8_23 dX8_saidAs_41 ?_
    refine G_bipush (v := 39) hX dX8_saidAs_44 rfl ?_
    refine G_iload_n hX dX8_saidAs_46 rfl ?_
    refine G_iadd hX dX8_saidAs_47 ?_
    refine G_iald (n := 83) hX kK122 lK122 (Nat.le_of_ble_eq_true rfl) dX8_saidAs_48 hf (fun hf => ?_)
    refine G_iload hX dX8_saidAs_49 rfl ?_
    obtain ⟨v2, h1, hf⟩ := bd1_some hf
    refine G_cS (as := [.int (u.1 122 ((3 + p0)).toNatClampNeg), .int p2, .int (u.1 122 ((39 + p0)).toNatClampNeg), .int p3]) (rest := []) hX csX8_123 (mX8_saidBy w h1) (Nat.le_of_ble_eq_true rfl) rfl rfl (Nat.le_of_ble_eq_true rfl) dX8_saidAs_51 (st' := [.int v2]) rfl ?_
    obtain rfl := Option.some.inj hf
    exact G_iret hX hR dX8_saidAs_54
  · refine G_iload_n hX dX8_saidAs_4 rfl ?_
    refine G_aload_n hX dX8_saidAs_5 rfl ?_
    refine G_getR (i := 6) (t := 122) hX kK117 (Nat.le_of_ble_eq_true rfl) (Nat.le_of_ble_eq_true rfl) rfl pK117_6 flX8_23 dX8_saidAs_6 ?_
    refine G_bipush (v := 9) hX dX8_saidAs_9 rfl ?_
    refine G_iload_n hX dX8_saidAs_11 rfl ?_
    refine G_iadd hX dX8_saidAs_12 ?_
    refine G_iald (n := 83) hX kK122 lK122 (Nat.le_of_ble_eq_true rfl) dX8_saidAs_13 hf (fun hf => ?_)
    refine G_aload_n hX dX8_saidAs_14 rfl ?_
    refine G_getR (i := 6) (t := 122) hX kK117 (Nat.le_of_ble_eq_true rfl) (Nat.le_of_ble_eq_true rfl) rfl pK117_6 flX8_23 dX8_saidAs_15 ?_
    refine G_bipush (v := 39) hX dX8_saidAs_18 rfl ?_
    refine G_iload_n hX dX8_saidAs_20 rfl ?_
    refine G_iadd hX dX8_saidAs_21 ?_
    refine G_iald (n := 83) hX kK122 lK122 (Nat.le_of_ble_eq_true rfl) dX8_saidAs_22 hf (fun hf => ?_)
    refine G_iload hX dX8_saidAs_23 rfl ?_
    obtain ⟨v4, h3, hf⟩ := bd1_some hf
    refine G_cS (as := [.int p2, .int (u.1 122 ((9 + p0)).toNatClampNeg), .int (u.1 122 ((39 + p0)).toNatClampNeg), .int p3]) (rest := []) hX csX8_123 (mX8_saidBy w h3) (Nat.le_of_ble_eq_true rfl) rfl rfl (Nat.le_of_ble_eq_true rfl) dX8_saidAs_25 (st' := [.int v4]) rfl ?_
    refine G_goto (tgt := 54) hX dX8_saidAs_28 rfl ?_
    obtain rfl := Option.some.inj hf
    exact G_iret hX hR dX8_saidAs_54
noncomputable def fX8_fitBy_j90 (p0 : Int32) (p1 : Int32) (p2 : Int32) (p3 : Int32) (i5 : Int32) (i6 : Int32) (j8 : Int32) (z0 : Int32) (u : Um) : Option (Nat × Int32 × Int32) :=
  nm (j8 + 1) fun v1 =>
  some (0, z0, v1)
set_option maxHeartbeats 4000000 in
set_option maxRecDepth 100000 in
theorem tX8_fitBy_j90 {w : Wc} {X : MX} (hX : OKc w X RX8 cX8_fitBy 3) {p0 : Int32} {p1 : Int32} {p2 : Int32} {p3 : Int32} {i5 : Int32} {i6 : Int32} {j8 : Int32} {z0 : Int32}  {u : Um} {e : Nat} {s' : Int32 × Int32} (K0 : e = 0 → G w X Zm 35 [some (.ref 117), some (.int p0), some (.int p1), some (.int p2), some (.int p3), some (.int i5), some (.int i6), some (.int s'.1), some (.int s'.2)] [] u) (K1 : e ≠ 0 → G w X Zm 98 [some (.ref 117), some (.int p0), some (.int p1), some (.int p2), some (.int p3), some (.int i5), some (.int i6), some (.int s'.1), none] [] u) (hf : fX8_fitBy_j90 p0 p1 p2 p3 i5 i6 j8 z0 u = some (e, s')) : G w X Zm 90 [some (.ref 117), some (.int p0), some (.int p1), some (.int p2), some (.int p3), some (.int i5), some (.int i6), none, some (.int j8)] [.int z0] u := by
  unfold fX8_fitBy_j90 at hf
  refine G_istore (lv' := [some (.ref 117), some (.int p0), some (.int p1), some (.int p2), some (.int p3), some (.int i5), some (.int i6), some (.int z0), some (.int j8)]) hX dX8_fitBy_90 rfl (Nat.le_of_ble_eq_true rfl) rfl ?_
  refine G_iincF (lvf := fun v1 => [some (.ref 117), some (.int p0), some (.int p1), some (.int p2), some (.int p3), some (.int i5), some (.int i6), some (.int z0), some (.int v1)]) hX dX8_fitBy_92 rfl rfl rfl (Nat.le_of_ble_eq_true rfl) (fun _ => rfl) hf (fun v1 hf => ?_)
  refine G_goto (tgt := 35) hX dX8_fitBy_95 rfl ?_
  obtain ⟨rfl, rfl⟩ := ret2 hf
  refine G_mask (lv' := [some (.ref 117), some (.int p0), some (.int p1), some (.int p2), some (.int p3), some (.int i5), some (.int i6), some (.int z0), some (.int v1)]) [true, true, true, true, true, true, true, true, true] rfl rfl ?_
  exact K0 rfl
noncomputable def fX8_fitBy_j89 (p0 : Int32) (p1 : Int32) (p2 : Int32) (p3 : Int32) (i5 : Int32) (i6 : Int32) (j8 : Int32) (u : Um) : Option (Nat × Int32 × Int32) :=
  fX8_fitBy_j90 p0 p1 p2 p3 i5 i6 j8 0 u
set_option maxHeartbeats 4000000 in
set_option maxRecDepth 100000 in
theorem tX8_fitBy_j89 {w : Wc} {X : MX} (hX : OKc w X RX8 cX8_fitBy 3) {p0 : Int32} {p1 : Int32} {p2 : Int32} {p3 : Int32} {i5 : Int32} {i6 : Int32} {j8 : Int32}  {u : Um} {e : Nat} {s' : Int32 × Int32} (K0 : e = 0 → G w X Zm 35 [some (.ref 117), some (.int p0), some (.int p1), some (.int p2), some (.int p3), some (.int i5), some (.int i6), some (.int s'.1), some (.int s'.2)] [] u) (K1 : e ≠ 0 → G w X Zm 98 [some (.ref 117), some (.int p0), some (.int p1), some (.int p2), some (.int p3), some (.int i5), some (.int i6), some (.int s'.1), none] [] u) (hf : fX8_fitBy_j89 p0 p1 p2 p3 i5 i6 j8 u = some (e, s')) : G w X Zm 89 [some (.ref 117), some (.int p0), some (.int p1), some (.int p2), some (.int p3), some (.int i5), some (.int i6), none, some (.int j8)] [] u := by
  unfold fX8_fitBy_j89 at hf
  refine G_iconst (v := 0) hX dX8_fitBy_89 rfl ?_
  refine G_mask (lv' := [some (.ref 117), some (.int p0), some (.int p1), some (.int p2), some (.int p3), some (.int i5), some (.int i6), none, some (.int j8)]) [true, true, true, true, true, true, true, false, true] rfl rfl ?_
  exact tX8_fitBy_j90 hX  K0 K1 hf
noncomputable def fX8_fitBy_b35 (p0 : Int32) (p1 : Int32) (p2 : Int32) (p3 : Int32) (i5 : Int32) (i6 : Int32) (s7 : Int32) (s8 : Int32) (u : Um) : Option (Nat × Int32 × Int32) :=
  if p3 ≤ s8 then
    some (1, s7, s8)
  else
    if s7 = 0 then
      fX8_fitBy_j89 p0 p1 p2 p3 i5 i6 s8 u
    else
      if inb (p2 + (2 * s8)) 96 = true then
      bd1 (fX8_saidAs p0 p1 i6 (((u.2 120 ((p2 + (2 * s8))).toNatClampNeg) : Int64).toInt32) u) fun v3 =>
      if inb ((p2 + (2 * s8)) + 1) 96 = true then
      if (lg_cmp ((v3 : Int32).toInt64) (u.2 120 (((p2 + (2 * s8)) + 1)).toNatClampNeg)) = 0 then
        fX8_fitBy_j90 p0 p1 p2 p3 i5 i6 s8 1 u
      else
        fX8_fitBy_j89 p0 p1 p2 p3 i5 i6 s8 u
      else none
      else none
set_option maxHeartbeats 4000000 in
set_option maxRecDepth 100000 in
theorem tX8_fitBy_b35 {w : Wc} {X : MX} (hX : OKc w X RX8 cX8_fitBy 3) {p0 : Int32} {p1 : Int32} {p2 : Int32} {p3 : Int32} {i5 : Int32} {i6 : Int32} {s : Int32 × Int32} {e : Nat} {s' : Int32 × Int32} {u : Um} (hf : fX8_fitBy_b35 p0 p1 p2 p3 i5 i6 s.1 s.2 u = some (e, s')) (K0 : e = 0 → G w X Zm 35 [some (.ref 117), some (.int p0), some (.int p1), some (.int p2), some (.int p3), some (.int i5), some (.int i6), some (.int s'.1), some (.int s'.2)] [] u) (K1 : e ≠ 0 → G w X Zm 98 [some (.ref 117), some (.int p0), some (.int p1), some (.int p2), some (.int p3), some (.int i5), some (.int i6), some (.int s'.1), none] [] u) : G w X Zm 35 [some (.ref 117), some (.int p0), some (.int p1), some (.int p2), some (.int p3), some (.int i5), some (.int i6), some (.int s.1), some (.int s.2)] [] u := by
  obtain ⟨s7, s8⟩ := s
  unfold fX8_fitBy_b35 at hf
  try dsimp only at hf ⊢
  refine G_iload hX dX8_fitBy_35 rfl ?_
  refine G_iload hX dX8_fitBy_37 rfl ?_
  refine G_icmp_ge (tgt := 98) hX dX8_fitBy_39 rfl hf (fun hf => ?_) (fun hf => ?_)
  · obtain ⟨rfl, rfl⟩ := ret2 hf
    refine G_mask (lv' := [some (.ref 117), some (.int p0), some (.int p1), some (.int p2), some (.int p3), some (.int i5), some (.int i6), some (.int s7), none]) [true, true, true, true, true, true, true, true, false] rfl rfl ?_
    exact K1 (by decide)
  · refine G_iload hX dX8_fitBy_42 rfl ?_
    refine G_if_eq (tgt := 89) hX dX8_fitBy_44 rfl hf (fun hf => ?_) (fun hf => ?_)
    · refine G_mask (lv' := [some (.ref 117), some (.int p0), some (.int p1), some (.int p2), some (.int p3), some (.int i5), some (.int i6), none, some (.int s8)]) [true, true, true, true, true, true, true, false, true] rfl rfl ?_
      exact tX8_fitBy_j89 hX  K0 K1 hf
    · refine G_aload_n hX dX8_fitBy_47 rfl ?_
      refine G_iload_n hX dX8_fitBy_48 rfl ?_
      refine G_iload_n hX dX8_fitBy_49 rfl ?_
      refine G_iload hX dX8_fitBy_50 rfl ?_
      refine G_aload_n hX dX8_fitBy_52 rfl ?_
      refine G_getR (i := 2) (t := 120) hX kK117 (Nat.le_of_ble_eq_true rfl) (Nat.le_of_ble_eq_true rfl) rfl pK117_2 flX8_16 dX8_fitBy_53 ?_
      refine G_iload_n hX dX8_fitBy_56 rfl ?_
      refine G_iconst (v := 2) hX dX8_fitBy_57 rfl ?_
      refine G_iload hX dX8_fitBy_58 rfl ?_
      refine G_imul hX dX8_fitBy_60 ?_
      refine G_iadd hX dX8_fitBy_61 ?_
      refine G_lald (n := 96) hX kK120 lK120 (Nat.le_of_ble_eq_true rfl) dX8_fitBy_62 hf (fun hf => ?_)
      refine G_l2i hX dX8_fitBy_63 ?_
      obtain ⟨v3, h2, hf⟩ := bd1_some hf
      refine G_cV (as := [.int p0, .int p1, .int i6, .int (((u.2 120 ((p2 + (2 * s8))).toNatClampNeg) : Int64).toInt32)]) (rest := []) hX cvX8_228 (mX8_saidAs w h2) (Nat.le_of_ble_eq_true rfl) kK117 (Nat.le_of_ble_eq_true rfl) (Nat.le_of_ble_eq_true rfl) rfl rfl (Nat.le_of_ble_eq_true rfl) dX8_fitBy_64 (st' := [.int v3]) rfl ?_
      refine G_i2l hX dX8_fitBy_67 ?_
      refine G_aload_n hX dX8_fitBy_68 rfl ?_
      refine G_getR (i := 2) (t := 120) hX kK117 (Nat.le_of_ble_eq_true rfl) (Nat.le_of_ble_eq_true rfl) rfl pK117_2 flX8_16 dX8_fitBy_69 ?_
      refine G_iload_n hX dX8_fitBy_72 rfl ?_
      refine G_iconst (v := 2) hX dX8_fitBy_73 rfl ?_
      refine G_iload hX dX8_fitBy_74 rfl ?_
      refine G_imul hX dX8_fitBy_76 ?_
      refine G_iadd hX dX8_fitBy_77 ?_
      refine G_iconst (v := 1) hX dX8_fitBy_78 rfl ?_
      refine G_iadd hX dX8_fitBy_79 ?_
      refine G_lald (n := 96) hX kK120 lK120 (Nat.le_of_ble_eq_true rfl) dX8_fitBy_80 hf (fun hf => ?_)
      refine G_lcmp hX dX8_fitBy_81 ?_
      refine G_if_ne (tgt := 89) hX dX8_fitBy_82 rfl hf (fun hf => ?_) (fun hf => ?_)
      · refine G_mask (lv' := [some (.ref 117), some (.int p0), some (.int p1), some (.int p2), some (.int p3), some (.int i5), some (.int i6), none, some (.int s8)]) [true, true, true, true, true, true, true, false, true] rfl rfl ?_
        exact tX8_fitBy_j89 hX  K0 K1 hf
      · refine G_iconst (v := 1) hX dX8_fitBy_85 rfl ?_
        refine G_goto (tgt := 90) hX dX8_fitBy_86 rfl ?_
        refine G_mask (lv' := [some (.ref 117), some (.int p0), some (.int p1), some (.int p2), some (.int p3), some (.int i5), some (.int i6), none, some (.int s8)]) [true, true, true, true, true, true, true, false, true] rfl rfl ?_
        exact tX8_fitBy_j90 hX  K0 K1 hf
noncomputable def fX8_fitBy_j113 (p0 : Int32) (p1 : Int32) (p2 : Int32) (p3 : Int32) (j6 : Int32) (z0 : Int32) (z1 : Int32) (u : Um) : Option (Nat × Int32 × Int32) :=
  nm (z1 ||| z0) fun v8 =>
  nm (j6 + 1) fun v9 =>
  some (0, v8, v9)
set_option maxHeartbeats 4000000 in
set_option maxRecDepth 100000 in
theorem tX8_fitBy_j113 {w : Wc} {X : MX} (hX : OKc w X RX8 cX8_fitBy 3) {p0 : Int32} {p1 : Int32} {p2 : Int32} {p3 : Int32} {j6 : Int32} {z0 : Int32} {z1 : Int32}  {u : Um} {e : Nat} {s' : Int32 × Int32} (K0 : e = 0 → G w X Zm 14 [some (.ref 117), some (.int p0), some (.int p1), some (.int p2), some (.int p3), some (.int s'.1), some (.int s'.2), none, none] [] u) (K1 : e ≠ 0 → G w X Zm 122 [none, none, none, none, none, some (.int s'.1), none, none, none] [] u) (hf : fX8_fitBy_j113 p0 p1 p2 p3 j6 z0 z1 u = some (e, s')) : G w X Zm 113 [some (.ref 117), some (.int p0), some (.int p1), some (.int p2), some (.int p3), none, some (.int j6), none, none] [.int z0, .int z1] u := by
  unfold fX8_fitBy_j113 at hf
  refine G_ior hX dX8_fitBy_113 ?_
  refine G_istoreF (lvf := fun v8 => [some (.ref 117), some (.int p0), some (.int p1), some (.int p2), some (.int p3), some (.int v8), some (.int j6), none, none]) hX dX8_fitBy_114 rfl (Nat.le_of_ble_eq_true rfl) (fun _ => rfl) hf (fun v8 hf => ?_)
  refine G_iincF (lvf := fun v9 => [some (.ref 117), some (.int p0), some (.int p1), some (.int p2), some (.int p3), some (.int v8), some (.int v9), none, none]) hX dX8_fitBy_116 rfl rfl rfl (Nat.le_of_ble_eq_true rfl) (fun _ => rfl) hf (fun v9 hf => ?_)
  refine G_goto (tgt := 14) hX dX8_fitBy_119 rfl ?_
  obtain ⟨rfl, rfl⟩ := ret2 hf
  refine G_mask (lv' := [some (.ref 117), some (.int p0), some (.int p1), some (.int p2), some (.int p3), some (.int v8), some (.int v9), none, none]) [true, true, true, true, true, true, true, false, false] rfl rfl ?_
  exact K0 rfl
noncomputable def fX8_fitBy_j26 (p0 : Int32) (p1 : Int32) (p2 : Int32) (p3 : Int32) (j5 : Int32) (j6 : Int32) (z0 : Int32) (z1 : Int32) (u : Um) : Option (Nat × Int32 × Int32) :=
  if z0 < z1 then
    some (1, j5, j6)
  else
    bd3 (lp (fun s => fX8_fitBy_b35 p0 p1 p2 p3 j5 j6 s.1 s.2 u) fuel ((1 : Int32), (0 : Int32))) fun e6 v4 v5 =>
    if v4 = 0 then
      fX8_fitBy_j113 p0 p1 p2 p3 j6 0 j5 u
    else
      fX8_fitBy_j113 p0 p1 p2 p3 j6 ((1 : Int32) <<< (j6 &&& 31)) j5 u
set_option maxHeartbeats 4000000 in
set_option maxRecDepth 100000 in
theorem tX8_fitBy_j26 {w : Wc} {X : MX} (hX : OKc w X RX8 cX8_fitBy 3) {p0 : Int32} {p1 : Int32} {p2 : Int32} {p3 : Int32} {j5 : Int32} {j6 : Int32} {z0 : Int32} {z1 : Int32}  {u : Um} {e : Nat} {s' : Int32 × Int32} (K0 : e = 0 → G w X Zm 14 [some (.ref 117), some (.int p0), some (.int p1), some (.int p2), some (.int p3), some (.int s'.1), some (.int s'.2), none, none] [] u) (K1 : e ≠ 0 → G w X Zm 122 [none, none, none, none, none, some (.int s'.1), none, none, none] [] u) (hf : fX8_fitBy_j26 p0 p1 p2 p3 j5 j6 z0 z1 u = some (e, s')) : G w X Zm 26 [some (.ref 117), some (.int p0), some (.int p1), some (.int p2), some (.int p3), some (.int j5), some (.int j6), none, none] [.int z0, .int z1] u := by
  unfold fX8_fitBy_j26 at hf
  refine G_icmp_gt (tgt := 122) hX dX8_fitBy_26 rfl hf (fun hf => ?_) (fun hf => ?_)
  · obtain ⟨rfl, rfl⟩ := ret2 hf
    refine G_mask (lv' := [none, none, none, none, none, some (.int j5), none, none, none]) [false, false, false, false, false, true, false, false, false] rfl rfl ?_
    exact K1 (by decide)
  · refine G_iconst (v := 1) hX dX8_fitBy_29 rfl ?_
    refine G_istore (lv' := [some (.ref 117), some (.int p0), some (.int p1), some (.int p2), some (.int p3), some (.int j5), some (.int j6), some (.int 1), none]) hX dX8_fitBy_30 rfl (Nat.le_of_ble_eq_true rfl) rfl ?_
    refine G_iconst (v := 0) hX dX8_fitBy_32 rfl ?_
    refine G_istore (lv' := [some (.ref 117), some (.int p0), some (.int p1), some (.int p2), some (.int p3), some (.int j5), some (.int j6), some (.int 1), some (.int 0)]) hX dX8_fitBy_33 rfl (Nat.le_of_ble_eq_true rfl) rfl ?_
    obtain ⟨e6, v4, v5, h7, hf⟩ := bd3_some hf
    refine G_mask (lv' := [some (.ref 117), some (.int p0), some (.int p1), some (.int p2), some (.int p3), some (.int j5), some (.int j6), some (.int 1), some (.int 0)]) [true, true, true, true, true, true, true, true, true] rfl rfl ?_
    refine lp_G (body := (fun s => fX8_fitBy_b35 p0 p1 p2 p3 j5 j6 s.1 s.2 u)) (Gh := fun s => G w X Zm 35 [some (.ref 117), some (.int p0), some (.int p1), some (.int p2), some (.int p3), some (.int j5), some (.int j6), some (.int s.1), some (.int s.2)] [] u) (Gx := fun e s => G w X Zm 98 [some (.ref 117), some (.int p0), some (.int p1), some (.int p2), some (.int p3), some (.int j5), some (.int j6), some (.int s.1), none] [] u) (fun s e s' hb K0 K1 => tX8_fitBy_b35 (s := s) (e := e) (s' := s') hX   hb K0 K1) fuel ((1 : Int32), (0 : Int32)) (e6, v4, v5) h7 ?_
    refine G_iload hX dX8_fitBy_98 rfl ?_
    refine G_iload hX dX8_fitBy_100 rfl ?_
    refine G_if_eq (tgt := 112) hX dX8_fitBy_102 rfl hf (fun hf => ?_) (fun hf => ?_)
    · refine G_iconst (v := 0) hX dX8_fitBy_112 rfl ?_
      refine G_mask (lv' := [some (.ref 117), some (.int p0), some (.int p1), some (.int p2), some (.int p3), none, some (.int j6), none, none]) [true, true, true, true, true, false, true, false, false] rfl rfl ?_
      exact tX8_fitBy_j113 hX  K0 K1 hf
    · refine G_iconst (v := 1) hX dX8_fitBy_105 rfl ?_
      refine G_iload hX dX8_fitBy_106 rfl ?_
      refine G_ishl hX dX8_fitBy_108 ?_
      refine G_goto (tgt := 113) hX dX8_fitBy_109 rfl ?_
      refine G_mask (lv' := [some (.ref 117), some (.int p0), some (.int p1), some (.int p2), some (.int p3), none, some (.int j6), none, none]) [true, true, true, true, true, false, true, false, false] rfl rfl ?_
      exact tX8_fitBy_j113 hX  K0 K1 hf
noncomputable def fX8_fitBy_b14 (p0 : Int32) (p1 : Int32) (p2 : Int32) (p3 : Int32) (s5 : Int32) (s6 : Int32) (u : Um) : Option (Nat × Int32 × Int32) :=
  if p1 = 0 then
    fX8_fitBy_j26 p0 p1 p2 p3 s5 s6 9 s6 u
  else
    fX8_fitBy_j26 p0 p1 p2 p3 s5 s6 5 s6 u
set_option maxHeartbeats 4000000 in
set_option maxRecDepth 100000 in
theorem tX8_fitBy_b14 {w : Wc} {X : MX} (hX : OKc w X RX8 cX8_fitBy 3) {p0 : Int32} {p1 : Int32} {p2 : Int32} {p3 : Int32} {s : Int32 × Int32} {e : Nat} {s' : Int32 × Int32} {u : Um} (hf : fX8_fitBy_b14 p0 p1 p2 p3 s.1 s.2 u = some (e, s')) (K0 : e = 0 → G w X Zm 14 [some (.ref 117), some (.int p0), some (.int p1), some (.int p2), some (.int p3), some (.int s'.1), some (.int s'.2), none, none] [] u) (K1 : e ≠ 0 → G w X Zm 122 [none, none, none, none, none, some (.int s'.1), none, none, none] [] u) : G w X Zm 14 [some (.ref 117), some (.int p0), some (.int p1), some (.int p2), some (.int p3), some (.int s.1), some (.int s.2), none, none] [] u := by
  obtain ⟨s5, s6⟩ := s
  unfold fX8_fitBy_b14 at hf
  try dsimp only at hf ⊢
  refine G_iload hX dX8_fitBy_14 rfl ?_
  refine G_iload_n hX dX8_fitBy_16 rfl ?_
  refine G_if_eq (tgt := 24) hX dX8_fitBy_17 rfl hf (fun hf => ?_) (fun hf => ?_)
  · refine G_bipush (v := 9) hX dX8_fitBy_24 rfl ?_
    refine G_mask (lv' := [some (.ref 117), some (.int p0), some (.int p1), some (.int p2), some (.int p3), some (.int s5), some (.int s6), none, none]) [true, true, true, true, true, true, true, false, false] rfl rfl ?_
    exact tX8_fitBy_j26 hX  K0 K1 hf
  · refine G_iconst (v := 5) hX dX8_fitBy_20 rfl ?_
    refine G_goto (tgt := 26) hX dX8_fitBy_21 rfl ?_
    refine G_mask (lv' := [some (.ref 117), some (.int p0), some (.int p1), some (.int p2), some (.int p3), some (.int s5), some (.int s6), none, none]) [true, true, true, true, true, true, true, false, false] rfl rfl ?_
    exact tX8_fitBy_j26 hX  K0 K1 hf
noncomputable def fX8_fitBy_j12 (p0 : Int32) (p1 : Int32) (p2 : Int32) (p3 : Int32) (j5 : Int32) (z0 : Int32) (u : Um) : Option Int32 :=
  bd3 (lp (fun s => fX8_fitBy_b14 p0 p1 p2 p3 s.1 s.2 u) fuel (j5, z0)) fun e12 v10 v11 =>
  some v10
set_option maxHeartbeats 4000000 in
set_option maxRecDepth 100000 in
theorem tX8_fitBy_j12 {w : Wc} {X : MX} (hX : OKc w X RX8 cX8_fitBy 3) {p0 : Int32} {p1 : Int32} {p2 : Int32} {p3 : Int32} {j5 : Int32} {z0 : Int32} {u : Um} {r : Int32} (hR : RT w X (some .int) 0 0 Pst 133 false (some (.int r)) u) (hf : fX8_fitBy_j12 p0 p1 p2 p3 j5 z0 u = some r) : G w X Zm 12 [some (.ref 117), some (.int p0), some (.int p1), some (.int p2), some (.int p3), some (.int j5), none, none, none] [.int z0] u := by
  unfold fX8_fitBy_j12 at hf
  refine G_istore (lv' := [some (.ref 117), some (.int p0), some (.int p1), some (.int p2), some (.int p3), some (.int j5), some (.int z0), none, none]) hX dX8_fitBy_12 rfl (Nat.le_of_ble_eq_true rfl) rfl ?_
  obtain ⟨e12, v10, v11, h13, hf⟩ := bd3_some hf
  refine G_mask (lv' := [some (.ref 117), some (.int p0), some (.int p1), some (.int p2), some (.int p3), some (.int j5), some (.int z0), none, none]) [true, true, true, true, true, true, true, false, false] rfl rfl ?_
  refine lp_G (body := (fun s => fX8_fitBy_b14 p0 p1 p2 p3 s.1 s.2 u)) (Gh := fun s => G w X Zm 14 [some (.ref 117), some (.int p0), some (.int p1), some (.int p2), some (.int p3), some (.int s.1), some (.int s.2), none, none] [] u) (Gx := fun e s => G w X Zm 122 [none, none, none, none, none, some (.int s.1), none, none, none] [] u) (fun s e s' hb K0 K1 => tX8_fitBy_b14 (s := s) (e := e) (s' := s') hX   hb K0 K1) fuel (j5, z0) (e12, v10, v11) h13 ?_
  refine G_iload hX dX8_fitBy_122 rfl ?_
  obtain rfl := Option.some.inj hf
  exact G_iret hX hR dX8_fitBy_124
noncomputable def fX8_fitBy (p0 : Int32) (p1 : Int32) (p2 : Int32) (p3 : Int32) (u : Um) : Option Int32 :=
  if p1 = 0 then
    fX8_fitBy_j12 p0 p1 p2 p3 0 0 u
  else
    fX8_fitBy_j12 p0 p1 p2 p3 0 1 u
set_option maxHeartbeats 4000000 in
set_option maxRecDepth 100000 in
theorem mX8_fitBy (w : Wc) {p0 : Int32} {p1 : Int32} {p2 : Int32} {p3 : Int32}  {u : Um} {r : Int32} (hf : fX8_fitBy p0 p1 p2 p3 u = some r) : MC w 3 qX8_fitBy [.ref 117, .int p0, .int p1, .int p2, .int p3] u (some (.int r)) u := by
  unfold fX8_fitBy at hf
  refine MC_intro pnX8 (Nat.le_of_ble_eq_true rfl) (fun X hX hR _ _ => ?_)
  have hX : OKc w X RX8 cX8_fitBy 3 := hX
  have hR : RT w X (some .int) 0 0 Pst 133 false (some (.int r)) u := hR
  refine G_eql (lv' := [some (.ref 117), some (.int p0), some (.int p1), some (.int p2), some (.int p3), none, none, none, none]) rfl ?_
  refine G_iconst (v := 0) hX dX8_fitBy_0 rfl ?_
  refine G_istore (lv' := [some (.ref 117), some (.int p0), some (.int p1), some (.int p2), some (.int p3), some (.int 0), none, none, none]) hX dX8_fitBy_1 rfl (Nat.le_of_ble_eq_true rfl) rfl ?_
  refine G_iload_n hX dX8_fitBy_3 rfl ?_
  refine G_if_eq (tgt := 11) hX dX8_fitBy_4 rfl hf (fun hf => ?_) (fun hf => ?_)
  · refine G_iconst (v := 0) hX dX8_fitBy_11 rfl ?_
    refine G_mask (lv' := [some (.ref 117), some (.int p0), some (.int p1), some (.int p2), some (.int p3), some (.int 0), none, none, none]) [true, true, true, true, true, true, false, false, false] rfl rfl ?_
    exact tX8_fitBy_j12 hX  hR hf
  · refine G_iconst (v := 1) hX dX8_fitBy_7 rfl ?_
    refine G_goto (tgt := 12) hX dX8_fitBy_8 rfl ?_
    refine G_mask (lv' := [some (.ref 117), some (.int p0), some (.int p1), some (.int p2), some (.int p3), some (.int 0), none, none, none]) [true, true, true, true, true, true, false, false, false] rfl rfl ?_
    exact tX8_fitBy_j12 hX  hR hf
