noncomputable def fX8_bestMiles_j105 (p0 : Int32) (p1 : Int32) (p2 : Int32) (i4 : Int32) (i5 : Int32) (i6 : Int32) (i7 : Int32) (i8 : Int32) (j10 : Int32) (z0 : Int32) (z1 : Int32) (u : Um) : Option (Nat × Int32 × Int32 × Um) :=
  nm (z1 + z0) fun v4 =>
  nm (j10 + 1) fun v5 =>
  some (0, v4, v5, u)
set_option maxHeartbeats 4000000 in
set_option maxRecDepth 100000 in
theorem tX8_bestMiles_j105 {w : Wc} {X : MX} (hX : OKc w X RX8 cX8_bestMiles 3) {p0 : Int32} {p1 : Int32} {p2 : Int32} {i4 : Int32} {i5 : Int32} {i6 : Int32} {i7 : Int32} {i8 : Int32} {j10 : Int32} {z0 : Int32} {z1 : Int32}  {u : Um} {e : Nat} {s' : Int32 × Int32 × Um} (K0 : e = 0 → G w X Zm 74 [some (.ref 117), some (.int p0), some (.int p1), some (.int p2), some (.int i4), some (.int i5), some (.int i6), some (.int i7), some (.int i8), some (.int s'.1), some (.int s'.2.1)] [] s'.2.2) (K1 : e ≠ 0 → G w X Zm 114 [some (.ref 117), some (.int p0), some (.int p1), some (.int p2), some (.int i4), some (.int i5), some (.int i6), some (.int i7), some (.int i8), some (.int s'.1), none] [] s'.2.2) (hf : fX8_bestMiles_j105 p0 p1 p2 i4 i5 i6 i7 i8 j10 z0 z1 u = some (e, s')) : G w X Zm 105 [some (.ref 117), some (.int p0), some (.int p1), some (.int p2), some (.int i4), some (.int i5), some (.int i6), some (.int i7), some (.int i8), none, some (.int j10)] [.int z0, .int z1] u := by
  unfold fX8_bestMiles_j105 at hf
  refine G_iadd hX dX8_bestMiles_105 ?_
  refine G_istoreF (lvf := fun v4 => [some (.ref 117), some (.int p0), some (.int p1), some (.int p2), some (.int i4), some (.int i5), some (.int i6), some (.int i7), some (.int i8), some (.int v4), some (.int j10)]) hX dX8_bestMiles_106 rfl (Nat.le_of_ble_eq_true rfl) (fun _ => rfl) hf (fun v4 hf => ?_)
  refine G_iincF (lvf := fun v5 => [some (.ref 117), some (.int p0), some (.int p1), some (.int p2), some (.int i4), some (.int i5), some (.int i6), some (.int i7), some (.int i8), some (.int v4), some (.int v5)]) hX dX8_bestMiles_108 rfl rfl rfl (Nat.le_of_ble_eq_true rfl) (fun _ => rfl) hf (fun v5 hf => ?_)
  refine G_goto (tgt := 74) hX dX8_bestMiles_111 rfl ?_
  obtain ⟨rfl, rfl⟩ := ret2 hf
  refine G_mask (lv' := [some (.ref 117), some (.int p0), some (.int p1), some (.int p2), some (.int i4), some (.int i5), some (.int i6), some (.int i7), some (.int i8), some (.int v4), some (.int v5)]) [true, true, true, true, true, true, true, true, true, true, true] rfl rfl ?_
  exact K0 rfl
noncomputable def fX8_bestMiles_b74 (p0 : Int32) (p1 : Int32) (p2 : Int32) (i4 : Int32) (i5 : Int32) (i6 : Int32) (i7 : Int32) (i8 : Int32) (s9 : Int32) (s10 : Int32) (u : Um) : Option (Nat × Int32 × Int32 × Um) :=
  if i8 < s10 then
    some (1, s9, s10, u)
  else
    if inb s10 10 = true then
    if inb i8 10 = true then
    if (u.1 132 s10.toNatClampNeg) = (u.1 132 i8.toNatClampNeg) then
      fX8_bestMiles_j105 p0 p1 p2 i4 i5 i6 i7 i8 s10 1 s9 u
    else
      fX8_bestMiles_j105 p0 p1 p2 i4 i5 i6 i7 i8 s10 0 s9 u
    else none
    else none
set_option maxHeartbeats 4000000 in
set_option maxRecDepth 100000 in
theorem tX8_bestMiles_b74 {w : Wc} {X : MX} (hX : OKc w X RX8 cX8_bestMiles 3) {p0 : Int32} {p1 : Int32} {p2 : Int32} {i4 : Int32} {i5 : Int32} {i6 : Int32} {i7 : Int32} {i8 : Int32} {s : Int32 × Int32 × Um} {e : Nat} {s' : Int32 × Int32 × Um} (hf : fX8_bestMiles_b74 p0 p1 p2 i4 i5 i6 i7 i8 s.1 s.2.1 s.2.2 = some (e, s')) (K0 : e = 0 → G w X Zm 74 [some (.ref 117), some (.int p0), some (.int p1), some (.int p2), some (.int i4), some (.int i5), some (.int i6), some (.int i7), some (.int i8), some (.int s'.1), some (.int s'.2.1)] [] s'.2.2) (K1 : e ≠ 0 → G w X Zm 114 [some (.ref 117), some (.int p0), some (.int p1), some (.int p2), some (.int i4), some (.int i5), some (.int i6), some (.int i7), some (.int i8), some (.int s'.1), none] [] s'.2.2) : G w X Zm 74 [some (.ref 117), some (.int p0), some (.int p1), some (.int p2), some (.int i4), some (.int i5), some (.int i6), some (.int i7), some (.int i8), some (.int s.1), some (.int s.2.1)] [] s.2.2 := by
  obtain ⟨s9, s10, u⟩ := s
  unfold fX8_bestMiles_b74 at hf
  try dsimp only at hf ⊢
  refine G_iload hX dX8_bestMiles_74 rfl ?_
  refine G_iload hX dX8_bestMiles_76 rfl ?_
  refine G_icmp_gt (tgt := 114) hX dX8_bestMiles_78 rfl hf (fun hf => ?_) (fun hf => ?_)
  · obtain ⟨rfl, rfl⟩ := ret2 hf
    refine G_mask (lv' := [some (.ref 117), some (.int p0), some (.int p1), some (.int p2), some (.int i4), some (.int i5), some (.int i6), some (.int i7), some (.int i8), some (.int s9), none]) [true, true, true, true, true, true, true, true, true, true, false] rfl rfl ?_
    exact K1 (by decide)
  · refine G_iload hX dX8_bestMiles_81 rfl ?_
    refine G_aload_n hX dX8_bestMiles_83 rfl ?_
    refine G_getR (i := 18) (t := 132) hX kK117 (Nat.le_of_ble_eq_true rfl) (Nat.le_of_ble_eq_true rfl) rfl pK117_18 flX8_54 dX8_bestMiles_84 ?_
    refine G_iload hX dX8_bestMiles_87 rfl ?_
    refine G_iald (n := 10) hX kK132 lK132 (Nat.le_of_ble_eq_true rfl) dX8_bestMiles_89 hf (fun hf => ?_)
    refine G_aload_n hX dX8_bestMiles_90 rfl ?_
    refine G_getR (i := 18) (t := 132) hX kK117 (Nat.le_of_ble_eq_true rfl) (Nat.le_of_ble_eq_true rfl) rfl pK117_18 flX8_54 dX8_bestMiles_91 ?_
    refine G_iload hX dX8_bestMiles_94 rfl ?_
    refine G_iald (n := 10) hX kK132 lK132 (Nat.le_of_ble_eq_true rfl) dX8_bestMiles_96 hf (fun hf => ?_)
    refine G_icmp_ne (tgt := 104) hX dX8_bestMiles_97 rfl hf (fun hf => ?_) (fun hf => ?_)
    · refine G_iconst (v := 0) hX dX8_bestMiles_104 rfl ?_
      refine G_mask (lv' := [some (.ref 117), some (.int p0), some (.int p1), some (.int p2), some (.int i4), some (.int i5), some (.int i6), some (.int i7), some (.int i8), none, some (.int s10)]) [true, true, true, true, true, true, true, true, true, false, true] rfl rfl ?_
      exact tX8_bestMiles_j105 hX  K0 K1 hf
    · refine G_iconst (v := 1) hX dX8_bestMiles_100 rfl ?_
      refine G_goto (tgt := 105) hX dX8_bestMiles_101 rfl ?_
      refine G_mask (lv' := [some (.ref 117), some (.int p0), some (.int p1), some (.int p2), some (.int i4), some (.int i5), some (.int i6), some (.int i7), some (.int i8), none, some (.int s10)]) [true, true, true, true, true, true, true, true, true, false, true] rfl rfl ?_
      exact tX8_bestMiles_j105 hX  K0 K1 hf
noncomputable def fX8_bestMiles_j128 (p0 : Int32) (p1 : Int32) (p2 : Int32) (i4 : Int32) (i5 : Int32) (i6 : Int32) (j8 : Int32) (z0 : Int32) (u : Um) : Option (Nat × Int32 × Int32 × Um) :=
  nm (j8 + 1) fun v11 =>
  some (0, z0, v11, u)
set_option maxHeartbeats 4000000 in
set_option maxRecDepth 100000 in
theorem tX8_bestMiles_j128 {w : Wc} {X : MX} (hX : OKc w X RX8 cX8_bestMiles 3) {p0 : Int32} {p1 : Int32} {p2 : Int32} {i4 : Int32} {i5 : Int32} {i6 : Int32} {j8 : Int32} {z0 : Int32}  {u : Um} {e : Nat} {s' : Int32 × Int32 × Um} (K0 : e = 0 → G w X Zm 28 [some (.ref 117), some (.int p0), some (.int p1), some (.int p2), some (.int i4), some (.int i5), some (.int i6), some (.int s'.1), some (.int s'.2.1), none, none] [] s'.2.2) (K1 : e ≠ 0 → G w X Zm 136 [some (.ref 117), some (.int p0), some (.int p1), some (.int p2), some (.int i4), some (.int i5), some (.int i6), some (.int s'.1), none, none, none] [] s'.2.2) (hf : fX8_bestMiles_j128 p0 p1 p2 i4 i5 i6 j8 z0 u = some (e, s')) : G w X Zm 128 [some (.ref 117), some (.int p0), some (.int p1), some (.int p2), some (.int i4), some (.int i5), some (.int i6), none, some (.int j8), none, none] [.int z0] u := by
  unfold fX8_bestMiles_j128 at hf
  refine G_istore (lv' := [some (.ref 117), some (.int p0), some (.int p1), some (.int p2), some (.int i4), some (.int i5), some (.int i6), some (.int z0), some (.int j8), none, none]) hX dX8_bestMiles_128 rfl (Nat.le_of_ble_eq_true rfl) rfl ?_
  refine G_iincF (lvf := fun v11 => [some (.ref 117), some (.int p0), some (.int p1), some (.int p2), some (.int i4), some (.int i5), some (.int i6), some (.int z0), some (.int v11), none, none]) hX dX8_bestMiles_130 rfl rfl rfl (Nat.le_of_ble_eq_true rfl) (fun _ => rfl) hf (fun v11 hf => ?_)
  refine G_goto (tgt := 28) hX dX8_bestMiles_133 rfl ?_
  obtain ⟨rfl, rfl⟩ := ret2 hf
  refine G_mask (lv' := [some (.ref 117), some (.int p0), some (.int p1), some (.int p2), some (.int i4), some (.int i5), some (.int i6), some (.int z0), some (.int v11), none, none]) [true, true, true, true, true, true, true, true, true, false, false] rfl rfl ?_
  exact K0 rfl
noncomputable def fX8_bestMiles_j67 (p0 : Int32) (p1 : Int32) (p2 : Int32) (i4 : Int32) (i5 : Int32) (i6 : Int32) (j7 : Int32) (j8 : Int32) (z0 : Int32) (z1 : Int32) (u : Um) : Option (Nat × Int32 × Int32 × Um) :=
  if inb z1 10 = true then
  nm (sI u 132 z1.toNatClampNeg z0) fun u3 =>
  bd4 (lp (fun s => fX8_bestMiles_b74 p0 p1 p2 i4 i5 i6 j7 j8 s.1 s.2.1 s.2.2) fuel ((0 : Int32), (0 : Int32), u3)) fun e9 v6 v7 u8 =>
  if v6 ≤ j7 then
    fX8_bestMiles_j128 p0 p1 p2 i4 i5 i6 j8 j7 u8
  else
    fX8_bestMiles_j128 p0 p1 p2 i4 i5 i6 j8 v6 u8
  else none
set_option maxHeartbeats 4000000 in
set_option maxRecDepth 100000 in
theorem tX8_bestMiles_j67 {w : Wc} {X : MX} (hX : OKc w X RX8 cX8_bestMiles 3) {p0 : Int32} {p1 : Int32} {p2 : Int32} {i4 : Int32} {i5 : Int32} {i6 : Int32} {j7 : Int32} {j8 : Int32} {z0 : Int32} {z1 : Int32}  {u : Um} {e : Nat} {s' : Int32 × Int32 × Um} (K0 : e = 0 → G w X Zm 28 [some (.ref 117), some (.int p0), some (.int p1), some (.int p2), some (.int i4), some (.int i5), some (.int i6), some (.int s'.1), some (.int s'.2.1), none, none] [] s'.2.2) (K1 : e ≠ 0 → G w X Zm 136 [some (.ref 117), some (.int p0), some (.int p1), some (.int p2), some (.int i4), some (.int i5), some (.int i6), some (.int s'.1), none, none, none] [] s'.2.2) (hf : fX8_bestMiles_j67 p0 p1 p2 i4 i5 i6 j7 j8 z0 z1 u = some (e, s')) : G w X Zm 67 [some (.ref 117), some (.int p0), some (.int p1), some (.int p2), some (.int i4), some (.int i5), some (.int i6), some (.int j7), some (.int j8), none, none] [.int z0, .int z1, .ref 132] u := by
  unfold fX8_bestMiles_j67 at hf
  refine G_iast (n := 10) hX kK132 lK132 (Nat.le_of_ble_eq_true rfl) rfl dX8_bestMiles_67 hf (fun u3 hf => ?_)
  refine G_iconst (v := 0) hX dX8_bestMiles_68 rfl ?_
  refine G_istore (lv' := [some (.ref 117), some (.int p0), some (.int p1), some (.int p2), some (.int i4), some (.int i5), some (.int i6), some (.int j7), some (.int j8), some (.int 0), none]) hX dX8_bestMiles_69 rfl (Nat.le_of_ble_eq_true rfl) rfl ?_
  refine G_iconst (v := 0) hX dX8_bestMiles_71 rfl ?_
  refine G_istore (lv' := [some (.ref 117), some (.int p0), some (.int p1), some (.int p2), some (.int i4), some (.int i5), some (.int i6), some (.int j7), some (.int j8), some (.int 0), some (.int 0)]) hX dX8_bestMiles_72 rfl (Nat.le_of_ble_eq_true rfl) rfl ?_
  obtain ⟨e9, v6, v7, u8, h10, hf⟩ := bd4_some hf
  refine G_mask (lv' := [some (.ref 117), some (.int p0), some (.int p1), some (.int p2), some (.int i4), some (.int i5), some (.int i6), some (.int j7), some (.int j8), some (.int 0), some (.int 0)]) [true, true, true, true, true, true, true, true, true, true, true] rfl rfl ?_
  refine lp_G (body := (fun s => fX8_bestMiles_b74 p0 p1 p2 i4 i5 i6 j7 j8 s.1 s.2.1 s.2.2)) (Gh := fun s => G w X Zm 74 [some (.ref 117), some (.int p0), some (.int p1), some (.int p2), some (.int i4), some (.int i5), some (.int i6), some (.int j7), some (.int j8), some (.int s.1), some (.int s.2.1)] [] s.2.2) (Gx := fun e s => G w X Zm 114 [some (.ref 117), some (.int p0), some (.int p1), some (.int p2), some (.int i4), some (.int i5), some (.int i6), some (.int j7), some (.int j8), some (.int s.1), none] [] s.2.2) (fun s e s' hb K0 K1 => tX8_bestMiles_b74 (s := s) (e := e) (s' := s') hX   hb K0 K1) fuel ((0 : Int32), (0 : Int32), u3) (e9, v6, v7, u8) h10 ?_
  refine G_iload hX dX8_bestMiles_114 rfl ?_
  refine G_iload hX dX8_bestMiles_116 rfl ?_
  refine G_icmp_le (tgt := 126) hX dX8_bestMiles_118 rfl hf (fun hf => ?_) (fun hf => ?_)
  · refine G_iload hX dX8_bestMiles_126 rfl ?_
    refine G_mask (lv' := [some (.ref 117), some (.int p0), some (.int p1), some (.int p2), some (.int i4), some (.int i5), some (.int i6), none, some (.int j8), none, none]) [true, true, true, true, true, true, true, false, true, false, false] rfl rfl ?_
    exact tX8_bestMiles_j128 hX  K0 K1 hf
  · refine G_iload hX dX8_bestMiles_121 rfl ?_
    refine G_goto (tgt := 128) hX dX8_bestMiles_123 rfl ?_
    refine G_mask (lv' := [some (.ref 117), some (.int p0), some (.int p1), some (.int p2), some (.int i4), some (.int i5), some (.int i6), none, some (.int j8), none, none]) [true, true, true, true, true, true, true, false, true, false, false] rfl rfl ?_
    exact tX8_bestMiles_j128 hX  K0 K1 hf
noncomputable def fX8_bestMiles_b28 (p0 : Int32) (p1 : Int32) (p2 : Int32) (i4 : Int32) (i5 : Int32) (i6 : Int32) (s7 : Int32) (s8 : Int32) (u : Um) : Option (Nat × Int32 × Int32 × Um) :=
  if 9 < s8 then
    some (1, s7, s8, u)
  else
    bd1 (fX8_has p2 s8 u) fun v2 =>
    if v2 = 0 then
      fX8_bestMiles_j67 p0 p1 p2 i4 i5 i6 s7 s8 ((-1) - s8) s8 u
    else
      bd1 (fX8_saidAs p0 p1 s8 i6 u) fun v13 =>
      fX8_bestMiles_j67 p0 p1 p2 i4 i5 i6 s7 s8 v13 s8 u
set_option maxHeartbeats 4000000 in
set_option maxRecDepth 100000 in
theorem tX8_bestMiles_b28 {w : Wc} {X : MX} (hX : OKc w X RX8 cX8_bestMiles 3) {p0 : Int32} {p1 : Int32} {p2 : Int32} {i4 : Int32} {i5 : Int32} {i6 : Int32} {s : Int32 × Int32 × Um} {e : Nat} {s' : Int32 × Int32 × Um} (hf : fX8_bestMiles_b28 p0 p1 p2 i4 i5 i6 s.1 s.2.1 s.2.2 = some (e, s')) (K0 : e = 0 → G w X Zm 28 [some (.ref 117), some (.int p0), some (.int p1), some (.int p2), some (.int i4), some (.int i5), some (.int i6), some (.int s'.1), some (.int s'.2.1), none, none] [] s'.2.2) (K1 : e ≠ 0 → G w X Zm 136 [some (.ref 117), some (.int p0), some (.int p1), some (.int p2), some (.int i4), some (.int i5), some (.int i6), some (.int s'.1), none, none, none] [] s'.2.2) : G w X Zm 28 [some (.ref 117), some (.int p0), some (.int p1), some (.int p2), some (.int i4), some (.int i5), some (.int i6), some (.int s.1), some (.int s.2.1), none, none] [] s.2.2 := by
  obtain ⟨s7, s8, u⟩ := s
  unfold fX8_bestMiles_b28 at hf
  try dsimp only at hf ⊢
  refine G_iload hX dX8_bestMiles_28 rfl ?_
  refine G_bipush (v := 9) hX dX8_bestMiles_30 rfl ?_
  refine G_icmp_gt (tgt := 136) hX dX8_bestMiles_32 rfl hf (fun hf => ?_) (fun hf => ?_)
  · obtain ⟨rfl, rfl⟩ := ret2 hf
    refine G_mask (lv' := [some (.ref 117), some (.int p0), some (.int p1), some (.int p2), some (.int i4), some (.int i5), some (.int i6), some (.int s7), none, none, none]) [true, true, true, true, true, true, true, true, false, false, false] rfl rfl ?_
    exact K1 (by decide)
  · refine G_aload_n hX dX8_bestMiles_35 rfl ?_
    refine G_getR (i := 18) (t := 132) hX kK117 (Nat.le_of_ble_eq_true rfl) (Nat.le_of_ble_eq_true rfl) rfl pK117_18 flX8_54 dX8_bestMiles_36 ?_
    refine G_iload hX dX8_bestMiles_39 rfl ?_
    refine G_iload_n hX dX8_bestMiles_41 rfl ?_
    refine G_iload hX dX8_bestMiles_42 rfl ?_
    obtain ⟨v2, h1, hf⟩ := bd1_some hf
    refine G_cS (as := [.int p2, .int s8]) (rest := [.int s8, .ref 132]) hX csX8_156 (mX8_has w h1) (Nat.le_of_ble_eq_true rfl) rfl rfl (Nat.le_of_ble_eq_true rfl) dX8_bestMiles_44 (st' := [.int v2, .int s8, .ref 132]) rfl ?_
    refine G_if_eq (tgt := 63) hX dX8_bestMiles_47 rfl hf (fun hf => ?_) (fun hf => ?_)
    · refine G_iconst (v := (-1)) hX dX8_bestMiles_63 rfl ?_
      refine G_iload hX dX8_bestMiles_64 rfl ?_
      refine G_isub hX dX8_bestMiles_66 ?_
      refine G_mask (lv' := [some (.ref 117), some (.int p0), some (.int p1), some (.int p2), some (.int i4), some (.int i5), some (.int i6), some (.int s7), some (.int s8), none, none]) [true, true, true, true, true, true, true, true, true, false, false] rfl rfl ?_
      exact tX8_bestMiles_j67 hX  K0 K1 hf
    · refine G_aload_n hX dX8_bestMiles_50 rfl ?_
      refine G_iload_n hX dX8_bestMiles_51 rfl ?_
      refine G_iload_n hX dX8_bestMiles_52 rfl ?_
      refine G_iload hX dX8_bestMiles_53 rfl ?_
      refine G_iload hX dX8_bestMiles_55 rfl ?_
      obtain ⟨v13, h12, hf⟩ := bd1_some hf
      refine G_cV (as := [.int p0, .int p1, .int s8, .int i6]) (rest := [.int s8, .ref 132]) hX cvX8_228 (mX8_saidAs w h12) (Nat.le_of_ble_eq_true rfl) kK117 (Nat.le_of_ble_eq_true rfl) (Nat.le_of_ble_eq_true rfl) rfl rfl (Nat.le_of_ble_eq_true rfl) dX8_bestMiles_57 (st' := [.int v13, .int s8, .ref 132]) rfl ?_
      refine G_goto (tgt := 67) hX dX8_bestMiles_60 rfl ?_
      refine G_mask (lv' := [some (.ref 117), some (.int p0), some (.int p1), some (.int p2), some (.int i4), some (.int i5), some (.int i6), some (.int s7), some (.int s8), none, none]) [true, true, true, true, true, true, true, true, true, false, false] rfl rfl ?_
      exact tX8_bestMiles_j67 hX  K0 K1 hf
noncomputable def fX8_bestMiles_j166 (p0 : Int32) (p1 : Int32) (p2 : Int32) (j4 : Int32) (j6 : Int32) (z0 : Int32) (u : Um) : Option (Nat × Int32 × Int32 × Int32 × Um) :=
  nm (j6 + 1) fun v19 =>
  some (0, j4, z0, v19, u)
set_option maxHeartbeats 4000000 in
set_option maxRecDepth 100000 in
theorem tX8_bestMiles_j166 {w : Wc} {X : MX} (hX : OKc w X RX8 cX8_bestMiles 3) {p0 : Int32} {p1 : Int32} {p2 : Int32} {j4 : Int32} {j6 : Int32} {z0 : Int32}  {u : Um} {e : Nat} {s' : Int32 × Int32 × Int32 × Um} (K0 : e = 0 → G w X Zm 11 [some (.ref 117), some (.int p0), some (.int p1), some (.int p2), some (.int s'.1), some (.int s'.2.1), some (.int s'.2.2.1), none, none, none, none] [] s'.2.2.2) (K1 : e ≠ 0 → G w X Zm 174 [none, none, none, none, some (.int s'.1), none, none, none, none, none, none] [] s'.2.2.2) (hf : fX8_bestMiles_j166 p0 p1 p2 j4 j6 z0 u = some (e, s')) : G w X Zm 166 [some (.ref 117), some (.int p0), some (.int p1), some (.int p2), some (.int j4), none, some (.int j6), none, none, none, none] [.int z0] u := by
  unfold fX8_bestMiles_j166 at hf
  refine G_istore (lv' := [some (.ref 117), some (.int p0), some (.int p1), some (.int p2), some (.int j4), some (.int z0), some (.int j6), none, none, none, none]) hX dX8_bestMiles_166 rfl (Nat.le_of_ble_eq_true rfl) rfl ?_
  refine G_iincF (lvf := fun v19 => [some (.ref 117), some (.int p0), some (.int p1), some (.int p2), some (.int j4), some (.int z0), some (.int v19), none, none, none, none]) hX dX8_bestMiles_168 rfl rfl rfl (Nat.le_of_ble_eq_true rfl) (fun _ => rfl) hf (fun v19 hf => ?_)
  refine G_goto (tgt := 11) hX dX8_bestMiles_171 rfl ?_
  obtain ⟨rfl, rfl⟩ := ret2 hf
  refine G_mask (lv' := [some (.ref 117), some (.int p0), some (.int p1), some (.int p2), some (.int j4), some (.int z0), some (.int v19), none, none, none, none]) [true, true, true, true, true, true, true, false, false, false, false] rfl rfl ?_
  exact K0 rfl
noncomputable def fX8_bestMiles_j150 (p0 : Int32) (p1 : Int32) (p2 : Int32) (j5 : Int32) (j6 : Int32) (j7 : Int32) (z0 : Int32) (u : Um) : Option (Nat × Int32 × Int32 × Int32 × Um) :=
  if j5 ≤ j7 then
    fX8_bestMiles_j166 p0 p1 p2 z0 j6 j5 u
  else
    fX8_bestMiles_j166 p0 p1 p2 z0 j6 j7 u
set_option maxHeartbeats 4000000 in
set_option maxRecDepth 100000 in
theorem tX8_bestMiles_j150 {w : Wc} {X : MX} (hX : OKc w X RX8 cX8_bestMiles 3) {p0 : Int32} {p1 : Int32} {p2 : Int32} {j5 : Int32} {j6 : Int32} {j7 : Int32} {z0 : Int32}  {u : Um} {e : Nat} {s' : Int32 × Int32 × Int32 × Um} (K0 : e = 0 → G w X Zm 11 [some (.ref 117), some (.int p0), some (.int p1), some (.int p2), some (.int s'.1), some (.int s'.2.1), some (.int s'.2.2.1), none, none, none, none] [] s'.2.2.2) (K1 : e ≠ 0 → G w X Zm 174 [none, none, none, none, some (.int s'.1), none, none, none, none, none, none] [] s'.2.2.2) (hf : fX8_bestMiles_j150 p0 p1 p2 j5 j6 j7 z0 u = some (e, s')) : G w X Zm 150 [some (.ref 117), some (.int p0), some (.int p1), some (.int p2), none, some (.int j5), some (.int j6), some (.int j7), none, none, none] [.int z0] u := by
  unfold fX8_bestMiles_j150 at hf
  refine G_istore (lv' := [some (.ref 117), some (.int p0), some (.int p1), some (.int p2), some (.int z0), some (.int j5), some (.int j6), some (.int j7), none, none, none]) hX dX8_bestMiles_150 rfl (Nat.le_of_ble_eq_true rfl) rfl ?_
  refine G_iload hX dX8_bestMiles_152 rfl ?_
  refine G_iload hX dX8_bestMiles_154 rfl ?_
  refine G_icmp_ge (tgt := 164) hX dX8_bestMiles_156 rfl hf (fun hf => ?_) (fun hf => ?_)
  · refine G_iload hX dX8_bestMiles_164 rfl ?_
    refine G_mask (lv' := [some (.ref 117), some (.int p0), some (.int p1), some (.int p2), some (.int z0), none, some (.int j6), none, none, none, none]) [true, true, true, true, true, false, true, false, false, false, false] rfl rfl ?_
    exact tX8_bestMiles_j166 hX  K0 K1 hf
  · refine G_iload hX dX8_bestMiles_159 rfl ?_
    refine G_goto (tgt := 166) hX dX8_bestMiles_161 rfl ?_
    refine G_mask (lv' := [some (.ref 117), some (.int p0), some (.int p1), some (.int p2), some (.int z0), none, some (.int j6), none, none, none, none]) [true, true, true, true, true, false, true, false, false, false, false] rfl rfl ?_
    exact tX8_bestMiles_j166 hX  K0 K1 hf
noncomputable def fX8_bestMiles_b11 (p0 : Int32) (p1 : Int32) (p2 : Int32) (s4 : Int32) (s5 : Int32) (s6 : Int32) (u : Um) : Option (Nat × Int32 × Int32 × Int32 × Um) :=
  if 9 < s6 then
    some (1, s4, s5, s6, u)
  else
    if p2 = 0 then
      some (1, s4, s5, s6, u)
    else
      bd4 (lp (fun s => fX8_bestMiles_b28 p0 p1 p2 s4 s5 s6 s.1 s.2.1 s.2.2) fuel ((0 : Int32), (0 : Int32), u)) fun e17 v14 v15 u16 =>
      if s5 ≤ v14 then
        fX8_bestMiles_j150 p0 p1 p2 s5 s6 v14 s4 u16
      else
        fX8_bestMiles_j150 p0 p1 p2 s5 s6 v14 s6 u16
set_option maxHeartbeats 4000000 in
set_option maxRecDepth 100000 in
theorem tX8_bestMiles_b11 {w : Wc} {X : MX} (hX : OKc w X RX8 cX8_bestMiles 3) {p0 : Int32} {p1 : Int32} {p2 : Int32} {s : Int32 × Int32 × Int32 × Um} {e : Nat} {s' : Int32 × Int32 × Int32 × Um} (hf : fX8_bestMiles_b11 p0 p1 p2 s.1 s.2.1 s.2.2.1 s.2.2.2 = some (e, s')) (K0 : e = 0 → G w X Zm 11 [some (.ref 117), some (.int p0), some (.int p1), some (.int p2), some (.int s'.1), some (.int s'.2.1), some (.int s'.2.2.1), none, none, none, none] [] s'.2.2.2) (K1 : e ≠ 0 → G w X Zm 174 [none, none, none, none, some (.int s'.1), none, none, none, none, none, none] [] s'.2.2.2) : G w X Zm 11 [some (.ref 117), some (.int p0), some (.int p1), some (.int p2), some (.int s.1), some (.int s.2.1), some (.int s.2.2.1), none, none, none, none] [] s.2.2.2 := by
  obtain ⟨s4, s5, s6, u⟩ := s
  unfold fX8_bestMiles_b11 at hf
  try dsimp only at hf ⊢
  refine G_iload hX dX8_bestMiles_11 rfl ?_
  refine G_bipush (v := 9) hX dX8_bestMiles_13 rfl ?_
  refine G_icmp_gt (tgt := 174) hX dX8_bestMiles_15 rfl hf (fun hf => ?_) (fun hf => ?_)
  · obtain ⟨rfl, rfl⟩ := ret2 hf
    refine G_mask (lv' := [none, none, none, none, some (.int s4), none, none, none, none, none, none]) [false, false, false, false, true, false, false, false, false, false, false] rfl rfl ?_
    exact K1 (by decide)
  · refine G_iload_n hX dX8_bestMiles_18 rfl ?_
    refine G_if_eq (tgt := 174) hX dX8_bestMiles_19 rfl hf (fun hf => ?_) (fun hf => ?_)
    · obtain ⟨rfl, rfl⟩ := ret2 hf
      refine G_mask (lv' := [none, none, none, none, some (.int s4), none, none, none, none, none, none]) [false, false, false, false, true, false, false, false, false, false, false] rfl rfl ?_
      exact K1 (by decide)
    · refine G_iconst (v := 0) hX dX8_bestMiles_22 rfl ?_
      refine G_istore (lv' := [some (.ref 117), some (.int p0), some (.int p1), some (.int p2), some (.int s4), some (.int s5), some (.int s6), some (.int 0), none, none, none]) hX dX8_bestMiles_23 rfl (Nat.le_of_ble_eq_true rfl) rfl ?_
      refine G_iconst (v := 0) hX dX8_bestMiles_25 rfl ?_
      refine G_istore (lv' := [some (.ref 117), some (.int p0), some (.int p1), some (.int p2), some (.int s4), some (.int s5), some (.int s6), some (.int 0), some (.int 0), none, none]) hX dX8_bestMiles_26 rfl (Nat.le_of_ble_eq_true rfl) rfl ?_
      obtain ⟨e17, v14, v15, u16, h18, hf⟩ := bd4_some hf
      refine G_mask (lv' := [some (.ref 117), some (.int p0), some (.int p1), some (.int p2), some (.int s4), some (.int s5), some (.int s6), some (.int 0), some (.int 0), none, none]) [true, true, true, true, true, true, true, true, true, false, false] rfl rfl ?_
      refine lp_G (body := (fun s => fX8_bestMiles_b28 p0 p1 p2 s4 s5 s6 s.1 s.2.1 s.2.2)) (Gh := fun s => G w X Zm 28 [some (.ref 117), some (.int p0), some (.int p1), some (.int p2), some (.int s4), some (.int s5), some (.int s6), some (.int s.1), some (.int s.2.1), none, none] [] s.2.2) (Gx := fun e s => G w X Zm 136 [some (.ref 117), some (.int p0), some (.int p1), some (.int p2), some (.int s4), some (.int s5), some (.int s6), some (.int s.1), none, none, none] [] s.2.2) (fun s e s' hb K0 K1 => tX8_bestMiles_b28 (s := s) (e := e) (s' := s') hX   hb K0 K1) fuel ((0 : Int32), (0 : Int32), u) (e17, v14, v15, u16) h18 ?_
      refine G_iload hX dX8_bestMiles_136 rfl ?_
      refine G_iload hX dX8_bestMiles_138 rfl ?_
      refine G_icmp_ge (tgt := 148) hX dX8_bestMiles_140 rfl hf (fun hf => ?_) (fun hf => ?_)
      · refine G_iload hX dX8_bestMiles_148 rfl ?_
        refine G_mask (lv' := [some (.ref 117), some (.int p0), some (.int p1), some (.int p2), none, some (.int s5), some (.int s6), some (.int v14), none, none, none]) [true, true, true, true, false, true, true, true, false, false, false] rfl rfl ?_
        exact tX8_bestMiles_j150 hX  K0 K1 hf
      · refine G_iload hX dX8_bestMiles_143 rfl ?_
        refine G_goto (tgt := 150) hX dX8_bestMiles_145 rfl ?_
        refine G_mask (lv' := [some (.ref 117), some (.int p0), some (.int p1), some (.int p2), none, some (.int s5), some (.int s6), some (.int v14), none, none, none]) [true, true, true, true, false, true, true, true, false, false, false] rfl rfl ?_
        exact tX8_bestMiles_j150 hX  K0 K1 hf
noncomputable def fX8_bestMiles (p0 : Int32) (p1 : Int32) (p2 : Int32) (u : Um) : Option (Int32 × Um) :=
  bd5 (lp (fun s => fX8_bestMiles_b11 p0 p1 p2 s.1 s.2.1 s.2.2.1 s.2.2.2) fuel (((-4) : Int32), (99 : Int32), (0 : Int32), u)) fun e24 v20 v21 v22 u23 =>
  some (v20, u23)
set_option maxHeartbeats 4000000 in
set_option maxRecDepth 100000 in
theorem mX8_bestMiles (w : Wc) {p0 : Int32} {p1 : Int32} {p2 : Int32}  {u : Um} {r : Int32} {u' : Um} (hf : fX8_bestMiles p0 p1 p2 u = some (r, u')) : MC w 3 qX8_bestMiles [.ref 117, .int p0, .int p1, .int p2] u (some (.int r)) u' := by
  unfold fX8_bestMiles at hf
  refine MC_intro pnX8 (Nat.le_of_ble_eq_true rfl) (fun X hX hR _ _ => ?_)
  have hX : OKc w X RX8 cX8_bestMiles 3 := hX
  have hR : RT w X (some .int) 0 0 Pst 133 false (some (.int r)) u' := hR
  refine G_eql (lv' := [some (.ref 117), some (.int p0), some (.int p1), some (.int p2), none, none, none, none, none, none, none]) rfl ?_
  refine G_bipush (v := (-4)) hX dX8_bestMiles_0 rfl ?_
  refine G_istore (lv' := [some (.ref 117), some (.int p0), some (.int p1), some (.int p2), some (.int (-4)), none, none, none, none, none, none]) hX dX8_bestMiles_2 rfl (Nat.le_of_ble_eq_true rfl) rfl ?_
  refine G_bipush (v := 99) hX dX8_bestMiles_4 rfl ?_
  refine G_istore (lv' := [some (.ref 117), some (.int p0), some (.int p1), some (.int p2), some (.int (-4)), some (.int 99), none, none, none, none, none]) hX dX8_bestMiles_6 rfl (Nat.le_of_ble_eq_true rfl) rfl ?_
  refine G_iconst (v := 0) hX dX8_bestMiles_8 rfl ?_
  refine G_istore (lv' := [some (.ref 117), some (.int p0), some (.int p1), some (.int p2), some (.int (-4)), some (.int 99), some (.int 0), none, none, none, none]) hX dX8_bestMiles_9 rfl (Nat.le_of_ble_eq_true rfl) rfl ?_
  obtain ⟨e24, v20, v21, v22, u23, h25, hf⟩ := bd5_some hf
  refine G_mask (lv' := [some (.ref 117), some (.int p0), some (.int p1), some (.int p2), some (.int (-4)), some (.int 99), some (.int 0), none, none, none, none]) [true, true, true, true, true, true, true, false, false, false, false] rfl rfl ?_
  refine lp_G (body := (fun s => fX8_bestMiles_b11 p0 p1 p2 s.1 s.2.1 s.2.2.1 s.2.2.2)) (Gh := fun s => G w X Zm 11 [some (.ref 117), some (.int p0), some (.int p1), some (.int p2), some (.int s.1), some (.int s.2.1), some (.int s.2.2.1), none, none, none, none] [] s.2.2.2) (Gx := fun e s => G w X Zm 174 [none, none, none, none, some (.int s.1), none, none, none, none, none, none] [] s.2.2.2) (fun s e s' hb K0 K1 => tX8_bestMiles_b11 (s := s) (e := e) (s' := s') hX   hb K0 K1) fuel (((-4) : Int32), (99 : Int32), (0 : Int32), u) (e24, v20, v21, v22, u23) h25 ?_
  refine G_iload hX dX8_bestMiles_174 rfl ?_
  obtain ⟨rfl, rfl⟩ := ret2 hf
  exact G_iret hX hR dX8_bestMiles_176
noncomputable def fX8_foundBy_b3 (p0 : Int32) (p1 : Int32) (p2 : Int32) (p3 : Int32) (p4 : Int32) (s6 : Int32) (u : Um) : Option (Nat × Int32 × Um) :=
  if p3 ≤ s6 then
    some (1, s6, u)
  else
    if inb (p2 + (2 * s6)) 96 = true then
    if (lg_cmp (u.2 120 ((p2 + (2 * s6))).toNatClampNeg) 0) < 0 then
      some (2, s6, u)
    else
      if inb (p2 + (2 * s6)) 96 = true then
      if (lg_cmp (u.2 120 ((p2 + (2 * s6))).toNatClampNeg) 9) ≤ 0 then
        nm (s6 + 1) fun v1 =>
        some (0, v1, u)
      else
        some (2, s6, u)
      else none
    else none
set_option maxHeartbeats 4000000 in
set_option maxRecDepth 100000 in
theorem tX8_foundBy_b3 {w : Wc} {X : MX} (hX : OKc w X RX8 cX8_foundBy 4) {p0 : Int32} {p1 : Int32} {p2 : Int32} {p3 : Int32} {p4 : Int32} {s : Int32 × Um} {e : Nat} {s' : Int32 × Um} (hf : fX8_foundBy_b3 p0 p1 p2 p3 p4 s.1 s.2 = some (e, s')) (K0 : e = 0 → G w X Zm 3 [some (.ref 117), some (.int p0), some (.int p1), some (.int p2), some (.int p3), some (.int p4), some (.int s'.1)] [] s'.2) (K1 : e ≠ 0 → if e = 1 then G w X Zm 53 [some (.ref 117), some (.int p0), some (.int p1), some (.int p2), some (.int p3), some (.int p4), none] [] s'.2 else G w X Zm 44 [none, none, none, none, none, none, none] [] s'.2) : G w X Zm 3 [some (.ref 117), some (.int p0), some (.int p1), some (.int p2), some (.int p3), some (.int p4), some (.int s.1)] [] s.2 := by
  obtain ⟨s6, u⟩ := s
  unfold fX8_foundBy_b3 at hf
  try dsimp only at hf ⊢
  refine G_iload hX dX8_foundBy_3 rfl ?_
  refine G_iload hX dX8_foundBy_5 rfl ?_
  refine G_icmp_ge (tgt := 53) hX dX8_foundBy_7 rfl hf (fun hf => ?_) (fun hf => ?_)
  · obtain ⟨rfl, rfl⟩ := ret2 hf
    refine G_mask (lv' := [some (.ref 117), some (.int p0), some (.int p1), some (.int p2), some (.int p3), some (.int p4), none]) [true, true, true, true, true, true, false] rfl rfl ?_
    exact gx_hit (K1 (by decide))
  · refine G_aload_n hX dX8_foundBy_10 rfl ?_
    refine G_getR (i := 2) (t := 120) hX kK117 (Nat.le_of_ble_eq_true rfl) (Nat.le_of_ble_eq_true rfl) rfl pK117_2 flX8_16 dX8_foundBy_11 ?_
    refine G_iload_n hX dX8_foundBy_14 rfl ?_
    refine G_iconst (v := 2) hX dX8_foundBy_15 rfl ?_
    refine G_iload hX dX8_foundBy_16 rfl ?_
    refine G_imul hX dX8_foundBy_18 ?_
    refine G_iadd hX dX8_foundBy_19 ?_
    refine G_lald (n := 96) hX kK120 lK120 (Nat.le_of_ble_eq_true rfl) dX8_foundBy_20 hf (fun hf => ?_)
    refine G_lconst (v := 0) hX dX8_foundBy_21 rfl ?_
    refine G_lcmp hX dX8_foundBy_22 ?_
    refine G_if_lt (tgt := 44) hX dX8_foundBy_23 rfl hf (fun hf => ?_) (fun hf => ?_)
    · obtain ⟨rfl, rfl⟩ := ret2 hf
      refine G_mask (lv' := [none, none, none, none, none, none, none]) [false, false, false, false, false, false, false] rfl rfl ?_
      exact gx_miss (by decide) (K1 (by decide))
    · refine G_aload_n hX dX8_foundBy_26 rfl ?_
      refine G_getR (i := 2) (t := 120) hX kK117 (Nat.le_of_ble_eq_true rfl) (Nat.le_of_ble_eq_true rfl) rfl pK117_2 flX8_16 dX8_foundBy_27 ?_
      refine G_iload_n hX dX8_foundBy_30 rfl ?_
      refine G_iconst (v := 2) hX dX8_foundBy_31 rfl ?_
      refine G_iload hX dX8_foundBy_32 rfl ?_
      refine G_imul hX dX8_foundBy_34 ?_
      refine G_iadd hX dX8_foundBy_35 ?_
      refine G_lald (n := 96) hX kK120 lK120 (Nat.le_of_ble_eq_true rfl) dX8_foundBy_36 hf (fun hf => ?_)
      refine G_ldc2 (v := 9) hX dX8_foundBy_37 wJ_X8_232 ?_
      refine G_lcmp hX dX8_foundBy_40 ?_
      refine G_if_le (tgt := 47) hX dX8_foundBy_41 rfl hf (fun hf => ?_) (fun hf => ?_)
      · refine G_iincF (lvf := fun v1 => [some (.ref 117), some (.int p0), some (.int p1), some (.int p2), some (.int p3), some (.int p4), some (.int v1)]) hX dX8_foundBy_47 rfl rfl rfl (Nat.le_of_ble_eq_true rfl) (fun _ => rfl) hf (fun v1 hf => ?_)
        refine G_goto (tgt := 3) hX dX8_foundBy_50 rfl ?_
        obtain ⟨rfl, rfl⟩ := ret2 hf
        refine G_mask (lv' := [some (.ref 117), some (.int p0), some (.int p1), some (.int p2), some (.int p3), some (.int p4), some (.int v1)]) [true, true, true, true, true, true, true] rfl rfl ?_
        exact K0 rfl
      · obtain ⟨rfl, rfl⟩ := ret2 hf
        refine G_mask (lv' := [none, none, none, none, none, none, none]) [false, false, false, false, false, false, false] rfl rfl ?_
        exact gx_miss (by decide) (K1 (by decide))
noncomputable def fX8_foundBy (p0 : Int32) (p1 : Int32) (p2 : Int32) (p3 : Int32) (p4 : Int32) (u : Um) : Option (Int32 × Um) :=
  bd3 (lp (fun s => fX8_foundBy_b3 p0 p1 p2 p3 p4 s.1 s.2) fuel ((0 : Int32), u)) fun e4 v2 u3 =>
  if e4 = 1 then
    bd1 (fX8_fitBy p0 p1 p2 p3 u3) fun v7 =>
    if p4 = 0 then
      some (v7, u3)
    else
      bd2 (fX8_bestMiles p0 p1 v7 u3) fun v9 u10 =>
      some (v9, u10)
  else
  some ((-2), u3)
set_option maxHeartbeats 4000000 in
set_option maxRecDepth 100000 in
theorem mX8_foundBy (w : Wc) {p0 : Int32} {p1 : Int32} {p2 : Int32} {p3 : Int32} {p4 : Int32}  {u : Um} {r : Int32} {u' : Um} (hf : fX8_foundBy p0 p1 p2 p3 p4 u = some (r, u')) : MC w 4 qX8_foundBy [.ref 117, .int p0, .int p1, .int p2, .int p3, .int p4] u (some (.int r)) u' := by
  unfold fX8_foundBy at hf
  refine MC_intro pnX8 (Nat.le_of_ble_eq_true rfl) (fun X hX hR _ _ => ?_)
  have hX : OKc w X RX8 cX8_foundBy 4 := hX
  have hR : RT w X (some .int) 0 0 Pst 133 false (some (.int r)) u' := hR
  refine G_eql (lv' := [some (.ref 117), some (.int p0), some (.int p1), some (.int p2), some (.int p3), some (.int p4), none]) rfl ?_
  refine G_iconst (v := 0) hX dX8_foundBy_0 rfl ?_
  refine G_istore (lv' := [some (.ref 117), some (.int p0), some (.int p1), some (.int p2), some (.int p3), some (.int p4), some (.int 0)]) hX dX8_foundBy_1 rfl (Nat.le_of_ble_eq_true rfl) rfl ?_
  obtain ⟨e4, v2, u3, h5, hf⟩ := bd3_some hf
  refine G_mask (lv' := [some (.ref 117), some (.int p0), some (.int p1), some (.int p2), some (.int p3), some (.int p4), some (.int 0)]) [true, true, true, true, true, true, true] rfl rfl ?_
  refine lp_G (body := (fun s => fX8_foundBy_b3 p0 p1 p2 p3 p4 s.1 s.2)) (Gh := fun s => G w X Zm 3 [some (.ref 117), some (.int p0), some (.int p1), some (.int p2), some (.int p3), some (.int p4), some (.int s.1)] [] s.2) (Gx := fun e s => if e = 1 then G w X Zm 53 [some (.ref 117), some (.int p0), some (.int p1), some (.int p2), some (.int p3), some (.int p4), none] [] s.2 else G w X Zm 44 [none, none, none, none, none, none, none] [] s.2) (fun s e s' hb K0 K1 => tX8_foundBy_b3 (s := s) (e := e) (s' := s') hX   hb K0 K1) fuel ((0 : Int32), u) (e4, v2, u3) h5 ?_
  refine gx2 hf (fun hf => ?_) (fun hf => ?_)
  · refine G_aload_n hX dX8_foundBy_53 rfl ?_
    refine G_iload_n hX dX8_foundBy_54 rfl ?_
    refine G_iload_n hX dX8_foundBy_55 rfl ?_
    refine G_iload_n hX dX8_foundBy_56 rfl ?_
    refine G_iload hX dX8_foundBy_57 rfl ?_
    obtain ⟨v7, h6, hf⟩ := bd1_some hf
    refine G_cV (as := [.int p0, .int p1, .int p2, .int p3]) (rest := []) hX cvX8_234 (mX8_fitBy w h6) (Nat.le_of_ble_eq_true rfl) kK117 (Nat.le_of_ble_eq_true rfl) (Nat.le_of_ble_eq_true rfl) rfl rfl (Nat.le_of_ble_eq_true rfl) dX8_foundBy_59 (st' := [.int v7]) rfl ?_
    refine G_istore (lv' := [some (.ref 117), some (.int p0), some (.int p1), some (.int p2), some (.int p3), some (.int p4), some (.int v7)]) hX dX8_foundBy_62 rfl (Nat.le_of_ble_eq_true rfl) rfl ?_
    refine G_iload hX dX8_foundBy_64 rfl ?_
    refine G_if_ne (tgt := 74) hX dX8_foundBy_66 rfl hf (fun hf => ?_) (fun hf => ?_)
    · refine G_aload_n hX dX8_foundBy_74 rfl ?_
      refine G_iload_n hX dX8_foundBy_75 rfl ?_
      refine G_iload_n hX dX8_foundBy_76 rfl ?_
      refine G_iload hX dX8_foundBy_77 rfl ?_
      obtain ⟨v9, u10, h8, hf⟩ := bd2_some hf
      refine G_cV (as := [.int p0, .int p1, .int v7]) (rest := []) hX cvX8_237 (mX8_bestMiles w h8) (Nat.le_of_ble_eq_true rfl) kK117 (Nat.le_of_ble_eq_true rfl) (Nat.le_of_ble_eq_true rfl) rfl rfl (Nat.le_of_ble_eq_true rfl) dX8_foundBy_79 (st' := [.int v9]) rfl ?_
      obtain ⟨rfl, rfl⟩ := ret2 hf
      exact G_iret hX hR dX8_foundBy_82
    · refine G_iload hX dX8_foundBy_69 rfl ?_
      refine G_goto (tgt := 82) hX dX8_foundBy_71 rfl ?_
      obtain ⟨rfl, rfl⟩ := ret2 hf
      exact G_iret hX hR dX8_foundBy_82
  refine G_bipush (v := (-2)) hX dX8_foundBy_44 rfl ?_
  obtain ⟨rfl, rfl⟩ := ret2 hf
  exact G_iret hX hR dX8_foundBy_46
noncomputable def fX8_partsBy (p0 : Int32) (p1 : Int32) (p2 : Int32) (p3 : Int32) (p4 : Int32) (p5 : Int32) (p6 : Int32) (u : Um) : Option (Int32 × Um) :=
  bd1 (fX8_isOne p0 u) fun v2 =>
  if v2 = 0 then
    some ((-1), u)
  else
    bd1 (fX8_isSheet p2 u) fun v4 =>
    if v4 = 0 then
      some ((-1), u)
    else
      bd1 (fX8_in p3 0 3 u) fun v6 =>
      if v6 = 0 then
        some ((-1), u)
      else
        bd1 (fX8_in p5 1 10 u) fun v8 =>
        if v8 = 0 then
          some ((-1), u)
        else
          bd1 (fX8_in p6 0 1 u) fun v10 =>
          if v10 = 0 then
            some ((-1), u)
          else
            bd1 (fX8_badRow p2 p3 p4 (2 * p5) u) fun v12 =>
            if v12 = 0 then
              bd2 (fX8_foundBy p0 p1 ((24 * p2) + p4) p5 p6 u) fun v14 u15 =>
              some (v14, u15)
            else
              some (v12, u)
set_option maxHeartbeats 4000000 in
set_option maxRecDepth 100000 in
theorem mX8_partsBy (w : Wc) {p0 : Int32} {p1 : Int32} {p2 : Int32} {p3 : Int32} {p4 : Int32} {p5 : Int32} {p6 : Int32}  {u : Um} {r : Int32} {u' : Um} (hf : fX8_partsBy p0 p1 p2 p3 p4 p5 p6 u = some (r, u')) : MC w 5 qX8_partsBy [.ref 117, .int p0, .int p1, .int p2, .int p3, .int p4, .int p5, .int p6] u (some (.int r)) u' := by
  unfold fX8_partsBy at hf
  refine MC_intro pnX8 (Nat.le_of_ble_eq_true rfl) (fun X hX hR _ _ => ?_)
  have hX : OKc w X RX8 cX8_partsBy 5 := hX
  have hR : RT w X (some .int) 0 0 Pst 133 false (some (.int r)) u' := hR
  refine G_eql (lv' := [some (.ref 117), some (.int p0), some (.int p1), some (.int p2), some (.int p3), some (.int p4), some (.int p5), some (.int p6), none]) rfl ?_
  refine G_aload_n hX dX8_partsBy_0 rfl ?_
  refine G_iload_n hX dX8_partsBy_1 rfl ?_
  obtain ⟨v2, h1, hf⟩ := bd1_some hf
  refine G_cV (as := [.int p0]) (rest := []) hX cvX8_105 (mX8_isOne w h1) (Nat.le_of_ble_eq_true rfl) kK117 (Nat.le_of_ble_eq_true rfl) (Nat.le_of_ble_eq_true rfl) rfl rfl (Nat.le_of_ble_eq_true rfl) dX8_partsBy_2 (st' := [.int v2]) rfl ?_
  refine G_if_eq (tgt := 46) hX dX8_partsBy_5 rfl hf (fun hf => ?_) (fun hf => ?_)
  · refine G_iconst (v := (-1)) hX dX8_partsBy_46 rfl ?_
    obtain ⟨rfl, rfl⟩ := ret2 hf
    exact G_iret hX hR dX8_partsBy_47
  · refine G_iload_n hX dX8_partsBy_8 rfl ?_
    obtain ⟨v4, h3, hf⟩ := bd1_some hf
    refine G_cS (as := [.int p2]) (rest := []) hX csX8_216 (mX8_isSheet w h3) (Nat.le_of_ble_eq_true rfl) rfl rfl (Nat.le_of_ble_eq_true rfl) dX8_partsBy_9 (st' := [.int v4]) rfl ?_
    refine G_if_eq (tgt := 46) hX dX8_partsBy_12 rfl hf (fun hf => ?_) (fun hf => ?_)
    · refine G_iconst (v := (-1)) hX dX8_partsBy_46 rfl ?_
      obtain ⟨rfl, rfl⟩ := ret2 hf
      exact G_iret hX hR dX8_partsBy_47
    · refine G_iload hX dX8_partsBy_15 rfl ?_
      refine G_iconst (v := 0) hX dX8_partsBy_17 rfl ?_
      refine G_iconst (v := 3) hX dX8_partsBy_18 rfl ?_
      obtain ⟨v6, h5, hf⟩ := bd1_some hf
      refine G_cS (as := [.int p3, .int 0, .int 3]) (rest := []) hX csX8_57 (mX8_in w h5) (Nat.le_of_ble_eq_true rfl) rfl rfl (Nat.le_of_ble_eq_true rfl) dX8_partsBy_19 (st' := [.int v6]) rfl ?_
      refine G_if_eq (tgt := 46) hX dX8_partsBy_22 rfl hf (fun hf => ?_) (fun hf => ?_)
      · refine G_iconst (v := (-1)) hX dX8_partsBy_46 rfl ?_
        obtain ⟨rfl, rfl⟩ := ret2 hf
        exact G_iret hX hR dX8_partsBy_47
      · refine G_iload hX dX8_partsBy_25 rfl ?_
        refine G_iconst (v := 1) hX dX8_partsBy_27 rfl ?_
        refine G_bipush (v := 10) hX dX8_partsBy_28 rfl ?_
        obtain ⟨v8, h7, hf⟩ := bd1_some hf
        refine G_cS (as := [.int p5, .int 1, .int 10]) (rest := []) hX csX8_57 (mX8_in w h7) (Nat.le_of_ble_eq_true rfl) rfl rfl (Nat.le_of_ble_eq_true rfl) dX8_partsBy_30 (st' := [.int v8]) rfl ?_
        refine G_if_eq (tgt := 46) hX dX8_partsBy_33 rfl hf (fun hf => ?_) (fun hf => ?_)
        · refine G_iconst (v := (-1)) hX dX8_partsBy_46 rfl ?_
          obtain ⟨rfl, rfl⟩ := ret2 hf
          exact G_iret hX hR dX8_partsBy_47
        · refine G_iload hX dX8_partsBy_36 rfl ?_
          refine G_iconst (v := 0) hX dX8_partsBy_38 rfl ?_
          refine G_iconst (v := 1) hX dX8_partsBy_39 rfl ?_
          obtain ⟨v10, h9, hf⟩ := bd1_some hf
          refine G_cS (as := [.int p6, .int 0, .int 1]) (rest := []) hX csX8_57 (mX8_in w h9) (Nat.le_of_ble_eq_true rfl) rfl rfl (Nat.le_of_ble_eq_true rfl) dX8_partsBy_40 (st' := [.int v10]) rfl ?_
          refine G_if_ne (tgt := 48) hX dX8_partsBy_43 rfl hf (fun hf => ?_) (fun hf => ?_)
          · refine G_aload_n hX dX8_partsBy_48 rfl ?_
            refine G_iload_n hX dX8_partsBy_49 rfl ?_
            refine G_iload hX dX8_partsBy_50 rfl ?_
            refine G_iload hX dX8_partsBy_52 rfl ?_
            refine G_iconst (v := 2) hX dX8_partsBy_54 rfl ?_
            refine G_iload hX dX8_partsBy_55 rfl ?_
            refine G_imul hX dX8_partsBy_57 ?_
            obtain ⟨v12, h11, hf⟩ := bd1_some hf
            refine G_cV (as := [.int p2, .int p3, .int p4, .int (2 * p5)]) (rest := []) hX cvX8_221 (mX8_badRow w h11) (Nat.le_of_ble_eq_true rfl) kK117 (Nat.le_of_ble_eq_true rfl) (Nat.le_of_ble_eq_true rfl) rfl rfl (Nat.le_of_ble_eq_true rfl) dX8_partsBy_58 (st' := [.int v12]) rfl ?_
            refine G_istore (lv' := [some (.ref 117), some (.int p0), some (.int p1), some (.int p2), some (.int p3), some (.int p4), some (.int p5), some (.int p6), some (.int v12)]) hX dX8_partsBy_61 rfl (Nat.le_of_ble_eq_true rfl) rfl ?_
            refine G_iload hX dX8_partsBy_63 rfl ?_
            refine G_if_eq (tgt := 73) hX dX8_partsBy_65 rfl hf (fun hf => ?_) (fun hf => ?_)
            · refine G_aload_n hX dX8_partsBy_73 rfl ?_
              refine G_iload_n hX dX8_partsBy_74 rfl ?_
              refine G_iload_n hX dX8_partsBy_75 rfl ?_
              refine G_bipush (v := 24) hX dX8_partsBy_76 rfl ?_
              refine G_iload_n hX dX8_partsBy_78 rfl ?_
              refine G_imul hX dX8_partsBy_79 ?_
              refine G_iload hX dX8_partsBy_80 rfl ?_
              refine G_iadd hX dX8_partsBy_82 ?_
              refine G_iload hX dX8_partsBy_83 rfl ?_
              refine G_iload hX dX8_partsBy_85 rfl ?_
              obtain ⟨v14, u15, h13, hf⟩ := bd2_some hf
              refine G_cV (as := [.int p0, .int p1, .int ((24 * p2) + p4), .int p5, .int p6]) (rest := []) hX cvX8_241 (mX8_foundBy w h13) (Nat.le_of_ble_eq_true rfl) kK117 (Nat.le_of_ble_eq_true rfl) (Nat.le_of_ble_eq_true rfl) rfl rfl (Nat.le_of_ble_eq_true rfl) dX8_partsBy_87 (st' := [.int v14]) rfl ?_
              obtain ⟨rfl, rfl⟩ := ret2 hf
              exact G_iret hX hR dX8_partsBy_90
            · refine G_iload hX dX8_partsBy_68 rfl ?_
              refine G_goto (tgt := 90) hX dX8_partsBy_70 rfl ?_
              obtain ⟨rfl, rfl⟩ := ret2 hf
              exact G_iret hX hR dX8_partsBy_90
          · refine G_iconst (v := (-1)) hX dX8_partsBy_46 rfl ?_
            obtain ⟨rfl, rfl⟩ := ret2 hf
            exact G_iret hX hR dX8_partsBy_47
noncomputable def fX8_skills (p0 : Int32) (p1 : Int32) (p2 : Int32) (p3 : Int32) (p4 : Int32) (p5 : Int32) (u : Um) : Option (Int32 × Um) :=
  bd2 (fX8_partsBy p0 0 p1 p2 p3 p4 p5 u) fun v2 u3 =>
  some (v2, u3)
set_option maxHeartbeats 4000000 in
set_option maxRecDepth 100000 in
theorem mX8_skills (w : Wc) {p0 : Int32} {p1 : Int32} {p2 : Int32} {p3 : Int32} {p4 : Int32} {p5 : Int32}  {u : Um} {r : Int32} {u' : Um} (hf : fX8_skills p0 p1 p2 p3 p4 p5 u = some (r, u')) : MC w 6 qX8_skills [.ref 117, .int p0, .int p1, .int p2, .int p3, .int p4, .int p5] u (some (.int r)) u' := by
  unfold fX8_skills at hf
  refine MC_intro pnX8 (Nat.le_of_ble_eq_true rfl) (fun X hX hR _ _ => ?_)
  have hX : OKc w X RX8 cX8_skills 6 := hX
  have hR : RT w X (some .int) 0 0 Pst 133 false (some (.int r)) u' := hR
  refine G_eql (lv' := [some (.ref 117), some (.int p0), some (.int p1), some (.int p2), some (.int p3), some (.int p4), some (.int p5)]) rfl ?_
  refine G_aload_n hX dX8_skills_0 rfl ?_
  refine G_iload_n hX dX8_skills_1 rfl ?_
  refine G_iconst (v := 0) hX dX8_skills_2 rfl ?_
  refine G_iload_n hX dX8_skills_3 rfl ?_
  refine G_iload_n hX dX8_skills_4 rfl ?_
  refine G_iload hX dX8_skills_5 rfl ?_
  refine G_iload hX dX8_skills_7 rfl ?_
  refine G_iload hX dX8_skills_9 rfl ?_
  obtain ⟨v2, u3, h1, hf⟩ := bd2_some hf
  refine G_cV (as := [.int p0, .int 0, .int p1, .int p2, .int p3, .int p4, .int p5]) (rest := []) hX cvX8_245 (mX8_partsBy w h1) (Nat.le_of_ble_eq_true rfl) kK117 (Nat.le_of_ble_eq_true rfl) (Nat.le_of_ble_eq_true rfl) rfl rfl (Nat.le_of_ble_eq_true rfl) dX8_skills_11 (st' := [.int v2]) rfl ?_
  obtain ⟨rfl, rfl⟩ := ret2 hf
  exact G_iret hX hR dX8_skills_14
noncomputable def fX8_kinds (p0 : Int32) (p1 : Int32) (p2 : Int32) (p3 : Int32) (p4 : Int32) (p5 : Int32) (u : Um) : Option (Int32 × Um) :=
  bd2 (fX8_partsBy p0 1 p1 p2 p3 p4 p5 u) fun v2 u3 =>
  some (v2, u3)
set_option maxHeartbeats 4000000 in
set_option maxRecDepth 100000 in
theorem mX8_kinds (w : Wc) {p0 : Int32} {p1 : Int32} {p2 : Int32} {p3 : Int32} {p4 : Int32} {p5 : Int32}  {u : Um} {r : Int32} {u' : Um} (hf : fX8_kinds p0 p1 p2 p3 p4 p5 u = some (r, u')) : MC w 6 qX8_kinds [.ref 117, .int p0, .int p1, .int p2, .int p3, .int p4, .int p5] u (some (.int r)) u' := by
  unfold fX8_kinds at hf
  refine MC_intro pnX8 (Nat.le_of_ble_eq_true rfl) (fun X hX hR _ _ => ?_)
  have hX : OKc w X RX8 cX8_kinds 6 := hX
  have hR : RT w X (some .int) 0 0 Pst 133 false (some (.int r)) u' := hR
  refine G_eql (lv' := [some (.ref 117), some (.int p0), some (.int p1), some (.int p2), some (.int p3), some (.int p4), some (.int p5)]) rfl ?_
  refine G_aload_n hX dX8_kinds_0 rfl ?_
  refine G_iload_n hX dX8_kinds_1 rfl ?_
  refine G_iconst (v := 1) hX dX8_kinds_2 rfl ?_
  refine G_iload_n hX dX8_kinds_3 rfl ?_
  refine G_iload_n hX dX8_kinds_4 rfl ?_
  refine G_iload hX dX8_kinds_5 rfl ?_
  refine G_iload hX dX8_kinds_7 rfl ?_
  refine G_iload hX dX8_kinds_9 rfl ?_
  obtain ⟨v2, u3, h1, hf⟩ := bd2_some hf
  refine G_cV (as := [.int p0, .int 1, .int p1, .int p2, .int p3, .int p4, .int p5]) (rest := []) hX cvX8_245 (mX8_partsBy w h1) (Nat.le_of_ble_eq_true rfl) kK117 (Nat.le_of_ble_eq_true rfl) (Nat.le_of_ble_eq_true rfl) rfl rfl (Nat.le_of_ble_eq_true rfl) dX8_kinds_11 (st' := [.int v2]) rfl ?_
  obtain ⟨rfl, rfl⟩ := ret2 hf
  exact G_iret hX hR dX8_kinds_14
noncomputable def fX8_count_j100 (p0 : Int32) (j3 : Int32) (z0 : Int32) (z1 : Int32) (u : Um) : Option (Nat × Int32 × Int32) :=
  nm (z1 ||| z0) fun v1 =>
  nm (j3 + 1) fun v2 =>
  some (0, v1, v2)
set_option maxHeartbeats 4000000 in
set_option maxRecDepth 100000 in
theorem tX8_count_j100 {w : Wc} {X : MX} (hX : OKc w X RX8 cX8_count 2) {p0 : Int32} {j3 : Int32} {z0 : Int32} {z1 : Int32}  {u : Um} {e : Nat} {s' : Int32 × Int32} (K0 : e = 0 → G w X Zm 68 [some (.ref 117), none, some (.int s'.1), some (.int s'.2)] [] u) (K1 : e ≠ 0 → G w X Zm 108 [none, none, some (.int s'.1), none] [] u) (hf : fX8_count_j100 p0 j3 z0 z1 u = some (e, s')) : G w X Zm 100 [some (.ref 117), none, none, some (.int j3)] [.int z0, .int z1] u := by
  unfold fX8_count_j100 at hf
  refine G_ior hX dX8_count_100 ?_
  refine G_istore_nF (lvf := fun v1 => [some (.ref 117), none, some (.int v1), some (.int j3)]) hX dX8_count_101 rfl (Nat.le_of_ble_eq_true rfl) (fun _ => rfl) hf (fun v1 hf => ?_)
  refine G_iincF (lvf := fun v2 => [some (.ref 117), none, some (.int v1), some (.int v2)]) hX dX8_count_102 rfl rfl rfl (Nat.le_of_ble_eq_true rfl) (fun _ => rfl) hf (fun v2 hf => ?_)
  refine G_goto (tgt := 68) hX dX8_count_105 rfl ?_
  obtain ⟨rfl, rfl⟩ := ret2 hf
  refine G_mask (lv' := [some (.ref 117), none, some (.int v1), some (.int v2)]) [true, false, true, true] rfl rfl ?_
  exact K0 rfl
noncomputable def fX8_count_b68 (p0 : Int32) (s2 : Int32) (s3 : Int32) (u : Um) : Option (Nat × Int32 × Int32) :=
  if inb 2 83 = true then
  if (u.1 122 (2 : Int32).toNatClampNeg) ≤ s3 then
    some (1, s2, s3)
  else
    if inb (75 + s3) 83 = true then
    if (u.1 122 ((75 + s3)).toNatClampNeg) = (-4) then
      fX8_count_j100 p0 s3 ((1 : Int32) <<< (s3 &&& 31)) s2 u
    else
      fX8_count_j100 p0 s3 0 s2 u
    else none
  else none
set_option maxHeartbeats 4000000 in
set_option maxRecDepth 100000 in
theorem tX8_count_b68 {w : Wc} {X : MX} (hX : OKc w X RX8 cX8_count 2) {p0 : Int32} {s : Int32 × Int32} {e : Nat} {s' : Int32 × Int32} {u : Um} (hf : fX8_count_b68 p0 s.1 s.2 u = some (e, s')) (K0 : e = 0 → G w X Zm 68 [some (.ref 117), none, some (.int s'.1), some (.int s'.2)] [] u) (K1 : e ≠ 0 → G w X Zm 108 [none, none, some (.int s'.1), none] [] u) : G w X Zm 68 [some (.ref 117), none, some (.int s.1), some (.int s.2)] [] u := by
  obtain ⟨s2, s3⟩ := s
  unfold fX8_count_b68 at hf
  try dsimp only at hf ⊢
  refine G_iload_n hX dX8_count_68 rfl ?_
  refine G_aload_n hX dX8_count_69 rfl ?_
  refine G_getR (i := 6) (t := 122) hX kK117 (Nat.le_of_ble_eq_true rfl) (Nat.le_of_ble_eq_true rfl) rfl pK117_6 flX8_23 dX8_count_70 ?_
  refine G_iconst (v := 2) hX dX8_count_73 rfl ?_
  refine G_iald (n := 83) hX kK122 lK122 (Nat.le_of_ble_eq_true rfl) dX8_count_74 hf (fun hf => ?_)
  refine G_icmp_ge (tgt := 108) hX dX8_count_75 rfl hf (fun hf => ?_) (fun hf => ?_)
  · obtain ⟨rfl, rfl⟩ := ret2 hf
    refine G_mask (lv' := [none, none, some (.int s2), none]) [false, false, true, false] rfl rfl ?_
    exact K1 (by decide)
  · refine G_iload_n hX dX8_count_78 rfl ?_
    refine G_aload_n hX dX8_count_79 rfl ?_
    refine G_getR (i := 6) (t := 122) hX kK117 (Nat.le_of_ble_eq_true rfl) (Nat.le_of_ble_eq_true rfl) rfl pK117_6 flX8_23 dX8_count_80 ?_
    refine G_bipush (v := 75) hX dX8_count_83 rfl ?_
    refine G_iload_n hX dX8_count_85 rfl ?_
    refine G_iadd hX dX8_count_86 ?_
    refine G_iald (n := 83) hX kK122 lK122 (Nat.le_of_ble_eq_true rfl) dX8_count_87 hf (fun hf => ?_)
    refine G_bipush (v := (-4)) hX dX8_count_88 rfl ?_
    refine G_icmp_ne (tgt := 99) hX dX8_count_90 rfl hf (fun hf => ?_) (fun hf => ?_)
    · refine G_iconst (v := 0) hX dX8_count_99 rfl ?_
      refine G_mask (lv' := [some (.ref 117), none, none, some (.int s3)]) [true, false, false, true] rfl rfl ?_
      exact tX8_count_j100 hX  K0 K1 hf
    · refine G_iconst (v := 1) hX dX8_count_93 rfl ?_
      refine G_iload_n hX dX8_count_94 rfl ?_
      refine G_ishl hX dX8_count_95 ?_
      refine G_goto (tgt := 100) hX dX8_count_96 rfl ?_
      refine G_mask (lv' := [some (.ref 117), none, none, some (.int s3)]) [true, false, false, true] rfl rfl ?_
      exact tX8_count_j100 hX  K0 K1 hf
noncomputable def fX8_count_b119 (p0 : Int32) (s2 : Int32) (s3 : Int32) (u : Um) : Option (Nat × Int32 × Int32) :=
  if inb 1 83 = true then
  if (u.1 122 (1 : Int32).toNatClampNeg) ≤ s3 then
    some (1, s2, s3)
  else
    if inb (39 + s3) 83 = true then
    nm (s2 + (u.1 122 ((39 + s3)).toNatClampNeg)) fun v7 =>
    nm (s3 + 1) fun v8 =>
    some (0, v7, v8)
    else none
  else none
set_option maxHeartbeats 4000000 in
set_option maxRecDepth 100000 in
theorem tX8_count_b119 {w : Wc} {X : MX} (hX : OKc w X RX8 cX8_count 2) {p0 : Int32} {s : Int32 × Int32} {e : Nat} {s' : Int32 × Int32} {u : Um} (hf : fX8_count_b119 p0 s.1 s.2 u = some (e, s')) (K0 : e = 0 → G w X Zm 119 [some (.ref 117), none, some (.int s'.1), some (.int s'.2)] [] u) (K1 : e ≠ 0 → G w X Zm 147 [none, none, some (.int s'.1), none] [] u) : G w X Zm 119 [some (.ref 117), none, some (.int s.1), some (.int s.2)] [] u := by
  obtain ⟨s2, s3⟩ := s
  unfold fX8_count_b119 at hf
  try dsimp only at hf ⊢
  refine G_iload_n hX dX8_count_119 rfl ?_
  refine G_aload_n hX dX8_count_120 rfl ?_
  refine G_getR (i := 6) (t := 122) hX kK117 (Nat.le_of_ble_eq_true rfl) (Nat.le_of_ble_eq_true rfl) rfl pK117_6 flX8_23 dX8_count_121 ?_
  refine G_iconst (v := 1) hX dX8_count_124 rfl ?_
  refine G_iald (n := 83) hX kK122 lK122 (Nat.le_of_ble_eq_true rfl) dX8_count_125 hf (fun hf => ?_)
  refine G_icmp_ge (tgt := 147) hX dX8_count_126 rfl hf (fun hf => ?_) (fun hf => ?_)
  · obtain ⟨rfl, rfl⟩ := ret2 hf
    refine G_mask (lv' := [none, none, some (.int s2), none]) [false, false, true, false] rfl rfl ?_
    exact K1 (by decide)
  · refine G_iload_n hX dX8_count_129 rfl ?_
    refine G_aload_n hX dX8_count_130 rfl ?_
    refine G_getR (i := 6) (t := 122) hX kK117 (Nat.le_of_ble_eq_true rfl) (Nat.le_of_ble_eq_true rfl) rfl pK117_6 flX8_23 dX8_count_131 ?_
    refine G_bipush (v := 39) hX dX8_count_134 rfl ?_
    refine G_iload_n hX dX8_count_136 rfl ?_
    refine G_iadd hX dX8_count_137 ?_
    refine G_iald (n := 83) hX kK122 lK122 (Nat.le_of_ble_eq_true rfl) dX8_count_138 hf (fun hf => ?_)
    refine G_iadd hX dX8_count_139 ?_
    refine G_istore_nF (lvf := fun v7 => [some (.ref 117), none, some (.int v7), some (.int s3)]) hX dX8_count_140 rfl (Nat.le_of_ble_eq_true rfl) (fun _ => rfl) hf (fun v7 hf => ?_)
    refine G_iincF (lvf := fun v8 => [some (.ref 117), none, some (.int v7), some (.int v8)]) hX dX8_count_141 rfl rfl rfl (Nat.le_of_ble_eq_true rfl) (fun _ => rfl) hf (fun v8 hf => ?_)
    refine G_goto (tgt := 119) hX dX8_count_144 rfl ?_
    obtain ⟨rfl, rfl⟩ := ret2 hf
    refine G_mask (lv' := [some (.ref 117), none, some (.int v7), some (.int v8)]) [true, false, true, true] rfl rfl ?_
    exact K0 rfl
noncomputable def fX8_count_j197 (p0 : Int32) (j3 : Int32) (z0 : Int32) (z1 : Int32) (u : Um) : Option (Nat × Int32 × Int32) :=
  nm (z1 + z0) fun v15 =>
  nm (j3 + 1) fun v16 =>
  some (0, v15, v16)
set_option maxHeartbeats 4000000 in
set_option maxRecDepth 100000 in
theorem tX8_count_j197 {w : Wc} {X : MX} (hX : OKc w X RX8 cX8_count 2) {p0 : Int32} {j3 : Int32} {z0 : Int32} {z1 : Int32}  {u : Um} {e : Nat} {s' : Int32 × Int32} (K0 : e = 0 → G w X Zm 159 [some (.ref 117), none, some (.int s'.1), some (.int s'.2)] [] u) (K1 : e ≠ 0 → G w X Zm 205 [none, none, some (.int s'.1), none] [] u) (hf : fX8_count_j197 p0 j3 z0 z1 u = some (e, s')) : G w X Zm 197 [some (.ref 117), none, none, some (.int j3)] [.int z0, .int z1] u := by
  unfold fX8_count_j197 at hf
  refine G_iadd hX dX8_count_197 ?_
  refine G_istore_nF (lvf := fun v15 => [some (.ref 117), none, some (.int v15), some (.int j3)]) hX dX8_count_198 rfl (Nat.le_of_ble_eq_true rfl) (fun _ => rfl) hf (fun v15 hf => ?_)
  refine G_iincF (lvf := fun v16 => [some (.ref 117), none, some (.int v15), some (.int v16)]) hX dX8_count_199 rfl rfl rfl (Nat.le_of_ble_eq_true rfl) (fun _ => rfl) hf (fun v16 hf => ?_)
  refine G_goto (tgt := 159) hX dX8_count_202 rfl ?_
  obtain ⟨rfl, rfl⟩ := ret2 hf
  refine G_mask (lv' := [some (.ref 117), none, some (.int v15), some (.int v16)]) [true, false, true, true] rfl rfl ?_
  exact K0 rfl
noncomputable def fX8_count_b159 (p0 : Int32) (s2 : Int32) (s3 : Int32) (u : Um) : Option (Nat × Int32 × Int32) :=
  if inb 2 83 = true then
  if (u.1 122 (2 : Int32).toNatClampNeg) ≤ s3 then
    some (1, s2, s3)
  else
    if inb (75 + s3) 83 = true then
    if (u.1 122 ((75 + s3)).toNatClampNeg) = (-4) then
      if inb (67 + s3) 83 = true then
      fX8_count_j197 p0 s3 (u.1 122 ((67 + s3)).toNatClampNeg) s2 u
      else none
    else
      fX8_count_j197 p0 s3 0 s2 u
    else none
  else none
set_option maxHeartbeats 4000000 in
set_option maxRecDepth 100000 in
theorem tX8_count_b159 {w : Wc} {X : MX} (hX : OKc w X RX8 cX8_count 2) {p0 : Int32} {s : Int32 × Int32} {e : Nat} {s' : Int32 × Int32} {u : Um} (hf : fX8_count_b159 p0 s.1 s.2 u = some (e, s')) (K0 : e = 0 → G w X Zm 159 [some (.ref 117), none, some (.int s'.1), some (.int s'.2)] [] u) (K1 : e ≠ 0 → G w X Zm 205 [none, none, some (.int s'.1), none] [] u) : G w X Zm 159 [some (.ref 117), none, some (.int s.1), some (.int s.2)] [] u := by
  obtain ⟨s2, s3⟩ := s
  unfold fX8_count_b159 at hf
  try dsimp only at hf ⊢
  refine G_iload_n hX dX8_count_159 rfl ?_
  refine G_aload_n hX dX8_count_160 rfl ?_
  refine G_getR (i := 6) (t := 122) hX kK117 (Nat.le_of_ble_eq_true rfl) (Nat.le_of_ble_eq_true rfl) rfl pK117_6 flX8_23 dX8_count_161 ?_
  refine G_iconst (v := 2) hX dX8_count_164 rfl ?_
  refine G_iald (n := 83) hX kK122 lK122 (Nat.le_of_ble_eq_true rfl) dX8_count_165 hf (fun hf => ?_)
  refine G_icmp_ge (tgt := 205) hX dX8_count_166 rfl hf (fun hf => ?_) (fun hf => ?_)
  · obtain ⟨rfl, rfl⟩ := ret2 hf
    refine G_mask (lv' := [none, none, some (.int s2), none]) [false, false, true, false] rfl rfl ?_
    exact K1 (by decide)
  · refine G_iload_n hX dX8_count_169 rfl ?_
    refine G_aload_n hX dX8_count_170 rfl ?_
    refine G_getR (i := 6) (t := 122) hX kK117 (Nat.le_of_ble_eq_true rfl) (Nat.le_of_ble_eq_true rfl) rfl pK117_6 flX8_23 dX8_count_171 ?_
    refine G_bipush (v := 75) hX dX8_count_174 rfl ?_
    refine G_iload_n hX dX8_count_176 rfl ?_
    refine G_iadd hX dX8_count_177 ?_
    refine G_iald (n := 83) hX kK122 lK122 (Nat.le_of_ble_eq_true rfl) dX8_count_178 hf (fun hf => ?_)
    refine G_bipush (v := (-4)) hX dX8_count_179 rfl ?_
    refine G_icmp_ne (tgt := 196) hX dX8_count_181 rfl hf (fun hf => ?_) (fun hf => ?_)
    · refine G_iconst (v := 0) hX dX8_count_196 rfl ?_
      refine G_mask (lv' := [some (.ref 117), none, none, some (.int s3)]) [true, false, false, true] rfl rfl ?_
      exact tX8_count_j197 hX  K0 K1 hf
    · refine G_aload_n hX dX8_count_184 rfl ?_
      refine G_getR (i := 6) (t := 122) hX kK117 (Nat.le_of_ble_eq_true rfl) (Nat.le_of_ble_eq_true rfl) rfl pK117_6 flX8_23 dX8_count_185 ?_
      refine G_bipush (v := 67) hX dX8_count_188 rfl ?_
      refine G_iload_n hX dX8_count_190 rfl ?_
      refine G_iadd hX dX8_count_191 ?_
      refine G_iald (n := 83) hX kK122 lK122 (Nat.le_of_ble_eq_true rfl) dX8_count_192 hf (fun hf => ?_)
      refine G_goto (tgt := 197) hX dX8_count_193 rfl ?_
      refine G_mask (lv' := [some (.ref 117), none, none, some (.int s3)]) [true, false, false, true] rfl rfl ?_
      exact tX8_count_j197 hX  K0 K1 hf
noncomputable def fX8_count (p0 : Int32) (u : Um) : Option Int32 :=
  if p0 = 0 then
    if inb 1 83 = true then
    some (u.1 122 (1 : Int32).toNatClampNeg)
    else none
  else if p0 = 1 then
    if inb 2 83 = true then
    some (u.1 122 (2 : Int32).toNatClampNeg)
    else none
  else if p0 = 2 then
    bd3 (lp (fun s => fX8_count_b68 p0 s.1 s.2 u) fuel ((0 : Int32), (0 : Int32))) fun e5 v3 v4 =>
    some v3
  else if p0 = 3 then
    if inb 0 83 = true then
    some (u.1 122 (0 : Int32).toNatClampNeg)
    else none
  else if p0 = 4 then
    bd3 (lp (fun s => fX8_count_b119 p0 s.1 s.2 u) fuel ((0 : Int32), (0 : Int32))) fun e11 v9 v10 =>
    some v9
  else if p0 = 5 then
    bd1 (fX8_wonOnes 122 u) fun v14 =>
    some v14
  else if p0 = 6 then
    bd3 (lp (fun s => fX8_count_b159 p0 s.1 s.2 u) fuel ((0 : Int32), (0 : Int32))) fun e19 v17 v18 =>
    some v17
  else if p0 = 7 then
    some (u.1 117 12)
  else if p0 = 8 then
    some (u.1 117 3)
  else 
  some (-1)
set_option maxHeartbeats 4000000 in
set_option maxRecDepth 100000 in
theorem mX8_count (w : Wc) {p0 : Int32}  {u : Um} {r : Int32} (hf : fX8_count p0 u = some r) : MC w 2 qX8_count [.ref 117, .int p0] u (some (.int r)) u := by
  unfold fX8_count at hf
  refine MC_intro pnX8 (Nat.le_of_ble_eq_true rfl) (fun X hX hR _ _ => ?_)
  have hX : OKc w X RX8 cX8_count 2 := hX
  have hR : RT w X (some .int) 0 0 Pst 133 false (some (.int r)) u := hR
  refine G_eql (lv' := [some (.ref 117), some (.int p0), none, none]) rfl ?_
  refine G_iconst (v := 0) hX dX8_count_0 rfl ?_
  refine G_istore_n (lv' := [some (.ref 117), some (.int p0), some (.int 0), none]) hX dX8_count_1 rfl (Nat.le_of_ble_eq_true rfl) rfl ?_
  refine G_iload_n hX dX8_count_2 rfl ?_
  by_cases c3_0 : p0 = 0
  · rw [if_pos c3_0] at hf
    refine G_tswIn (tgt := 52) hX dX8_count_3 (by rw [c3_0]; decide) (by rw [c3_0]; decide) (by rw [c3_0]; rfl) rfl ?_
    refine G_aload_n hX dX8_count_52 rfl ?_
    refine G_getR (i := 6) (t := 122) hX kK117 (Nat.le_of_ble_eq_true rfl) (Nat.le_of_ble_eq_true rfl) rfl pK117_6 flX8_23 dX8_count_53 ?_
    refine G_iconst (v := 1) hX dX8_count_56 rfl ?_
    refine G_iald (n := 83) hX kK122 lK122 (Nat.le_of_ble_eq_true rfl) dX8_count_57 hf (fun hf => ?_)
    obtain rfl := Option.some.inj hf
    exact G_iret hX hR dX8_count_58
  rw [if_neg c3_0] at hf
  by_cases c3_1 : p0 = 1
  · rw [if_pos c3_1] at hf
    refine G_tswIn (tgt := 59) hX dX8_count_3 (by rw [c3_1]; decide) (by rw [c3_1]; decide) (by rw [c3_1]; rfl) rfl ?_
    refine G_aload_n hX dX8_count_59 rfl ?_
    refine G_getR (i := 6) (t := 122) hX kK117 (Nat.le_of_ble_eq_true rfl) (Nat.le_of_ble_eq_true rfl) rfl pK117_6 flX8_23 dX8_count_60 ?_
    refine G_iconst (v := 2) hX dX8_count_63 rfl ?_
    refine G_iald (n := 83) hX kK122 lK122 (Nat.le_of_ble_eq_true rfl) dX8_count_64 hf (fun hf => ?_)
    obtain rfl := Option.some.inj hf
    exact G_iret hX hR dX8_count_65
  rw [if_neg c3_1] at hf
  by_cases c3_2 : p0 = 2
  · rw [if_pos c3_2] at hf
    refine G_tswIn (tgt := 66) hX dX8_count_3 (by rw [c3_2]; decide) (by rw [c3_2]; decide) (by rw [c3_2]; rfl) rfl ?_
    refine G_iconst (v := 0) hX dX8_count_66 rfl ?_
    refine G_istore_n (lv' := [some (.ref 117), some (.int p0), some (.int 0), some (.int 0)]) hX dX8_count_67 rfl (Nat.le_of_ble_eq_true rfl) rfl ?_
    obtain ⟨e5, v3, v4, h6, hf⟩ := bd3_some hf
    refine G_mask (lv' := [some (.ref 117), none, some (.int 0), some (.int 0)]) [true, false, true, true] rfl rfl ?_
    refine lp_G (body := (fun s => fX8_count_b68 p0 s.1 s.2 u)) (Gh := fun s => G w X Zm 68 [some (.ref 117), none, some (.int s.1), some (.int s.2)] [] u) (Gx := fun e s => G w X Zm 108 [none, none, some (.int s.1), none] [] u) (fun s e s' hb K0 K1 => tX8_count_b68 (s := s) (e := e) (s' := s') hX   hb K0 K1) fuel ((0 : Int32), (0 : Int32)) (e5, v3, v4) h6 ?_
    refine G_iload_n hX dX8_count_108 rfl ?_
    obtain rfl := Option.some.inj hf
    exact G_iret hX hR dX8_count_109
  rw [if_neg c3_2] at hf
  by_cases c3_3 : p0 = 3
  · rw [if_pos c3_3] at hf
    refine G_tswIn (tgt := 110) hX dX8_count_3 (by rw [c3_3]; decide) (by rw [c3_3]; decide) (by rw [c3_3]; rfl) rfl ?_
    refine G_aload_n hX dX8_count_110 rfl ?_
    refine G_getR (i := 6) (t := 122) hX kK117 (Nat.le_of_ble_eq_true rfl) (Nat.le_of_ble_eq_true rfl) rfl pK117_6 flX8_23 dX8_count_111 ?_
    refine G_iconst (v := 0) hX dX8_count_114 rfl ?_
    refine G_iald (n := 83) hX kK122 lK122 (Nat.le_of_ble_eq_true rfl) dX8_count_115 hf (fun hf => ?_)
    obtain rfl := Option.some.inj hf
    exact G_iret hX hR dX8_count_116
  rw [if_neg c3_3] at hf
  by_cases c3_4 : p0 = 4
  · rw [if_pos c3_4] at hf
    refine G_tswIn (tgt := 117) hX dX8_count_3 (by rw [c3_4]; decide) (by rw [c3_4]; decide) (by rw [c3_4]; rfl) rfl ?_
    refine G_iconst (v := 0) hX dX8_count_117 rfl ?_
    refine G_istore_n (lv' := [some (.ref 117), some (.int p0), some (.int 0), some (.int 0)]) hX dX8_count_118 rfl (Nat.le_of_ble_eq_true rfl) rfl ?_
    obtain ⟨e11, v9, v10, h12, hf⟩ := bd3_some hf
    refine G_mask (lv' := [some (.ref 117), none, some (.int 0), some (.int 0)]) [true, false, true, true] rfl rfl ?_
    refine lp_G (body := (fun s => fX8_count_b119 p0 s.1 s.2 u)) (Gh := fun s => G w X Zm 119 [some (.ref 117), none, some (.int s.1), some (.int s.2)] [] u) (Gx := fun e s => G w X Zm 147 [none, none, some (.int s.1), none] [] u) (fun s e s' hb K0 K1 => tX8_count_b119 (s := s) (e := e) (s' := s') hX   hb K0 K1) fuel ((0 : Int32), (0 : Int32)) (e11, v9, v10) h12 ?_
    refine G_iload_n hX dX8_count_147 rfl ?_
    obtain rfl := Option.some.inj hf
    exact G_iret hX hR dX8_count_148
  rw [if_neg c3_4] at hf
  by_cases c3_5 : p0 = 5
  · rw [if_pos c3_5] at hf
    refine G_tswIn (tgt := 149) hX dX8_count_3 (by rw [c3_5]; decide) (by rw [c3_5]; decide) (by rw [c3_5]; rfl) rfl ?_
    refine G_aload_n hX dX8_count_149 rfl ?_
    refine G_getR (i := 6) (t := 122) hX kK117 (Nat.le_of_ble_eq_true rfl) (Nat.le_of_ble_eq_true rfl) rfl pK117_6 flX8_23 dX8_count_150 ?_
    obtain ⟨v14, h13, hf⟩ := bd1_some hf
    refine G_cS (as := [.ref 122]) (rest := []) hX csX8_210 (mX8_wonOnes w kK122 h13) (Nat.le_of_ble_eq_true rfl) rfl rfl (Nat.le_of_ble_eq_true rfl) dX8_count_153 (st' := [.int v14]) rfl ?_
    obtain rfl := Option.some.inj hf
    exact G_iret hX hR dX8_count_156
  rw [if_neg c3_5] at hf
  by_cases c3_6 : p0 = 6
  · rw [if_pos c3_6] at hf
    refine G_tswIn (tgt := 157) hX dX8_count_3 (by rw [c3_6]; decide) (by rw [c3_6]; decide) (by rw [c3_6]; rfl) rfl ?_
    refine G_iconst (v := 0) hX dX8_count_157 rfl ?_
    refine G_istore_n (lv' := [some (.ref 117), some (.int p0), some (.int 0), some (.int 0)]) hX dX8_count_158 rfl (Nat.le_of_ble_eq_true rfl) rfl ?_
    obtain ⟨e19, v17, v18, h20, hf⟩ := bd3_some hf
    refine G_mask (lv' := [some (.ref 117), none, some (.int 0), some (.int 0)]) [true, false, true, true] rfl rfl ?_
    refine lp_G (body := (fun s => fX8_count_b159 p0 s.1 s.2 u)) (Gh := fun s => G w X Zm 159 [some (.ref 117), none, some (.int s.1), some (.int s.2)] [] u) (Gx := fun e s => G w X Zm 205 [none, none, some (.int s.1), none] [] u) (fun s e s' hb K0 K1 => tX8_count_b159 (s := s) (e := e) (s' := s') hX   hb K0 K1) fuel ((0 : Int32), (0 : Int32)) (e19, v17, v18) h20 ?_
    refine G_iload_n hX dX8_count_205 rfl ?_
    obtain rfl := Option.some.inj hf
    exact G_iret hX hR dX8_count_206
  rw [if_neg c3_6] at hf
  by_cases c3_7 : p0 = 7
  · rw [if_pos c3_7] at hf
    refine G_tswIn (tgt := 207) hX dX8_count_3 (by rw [c3_7]; decide) (by rw [c3_7]; decide) (by rw [c3_7]; rfl) rfl ?_
    refine G_aload_n hX dX8_count_207 rfl ?_
    refine G_getI (i := 12) hX kK117 (Nat.le_of_ble_eq_true rfl) (Nat.le_of_ble_eq_true rfl) rfl flX8_102 dX8_count_208 ?_
    obtain rfl := Option.some.inj hf
    exact G_iret hX hR dX8_count_211
  rw [if_neg c3_7] at hf
  by_cases c3_8 : p0 = 8
  · rw [if_pos c3_8] at hf
    refine G_tswIn (tgt := 212) hX dX8_count_3 (by rw [c3_8]; decide) (by rw [c3_8]; decide) (by rw [c3_8]; rfl) rfl ?_
    refine G_aload_n hX dX8_count_212 rfl ?_
    refine G_getI (i := 3) hX kK117 (Nat.le_of_ble_eq_true rfl) (Nat.le_of_ble_eq_true rfl) rfl flX8_61 dX8_count_213 ?_
    obtain rfl := Option.some.inj hf
    exact G_iret hX hR dX8_count_216
  rw [if_neg c3_8] at hf
  have n3_0 := lv_neT (a := 0) c3_0 rfl
  have n3_1 := lv_neT (a := 1) c3_1 rfl
  have n3_2 := lv_neT (a := 2) c3_2 rfl
  have n3_3 := lv_neT (a := 3) c3_3 rfl
  have n3_4 := lv_neT (a := 4) c3_4 rfl
  have n3_5 := lv_neT (a := 5) c3_5 rfl
  have n3_6 := lv_neT (a := 6) c3_6 rfl
  have n3_7 := lv_neT (a := 7) c3_7 rfl
  have n3_8 := lv_neT (a := 8) c3_8 rfl
  refine G_tswOut (tgt := 217) hX dX8_count_3 (by omega) rfl ?_
  refine G_iconst (v := (-1)) hX dX8_count_217 rfl ?_
  obtain rfl := Option.some.inj hf
  exact G_iret hX hR dX8_count_218
