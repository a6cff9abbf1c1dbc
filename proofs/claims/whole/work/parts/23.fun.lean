noncomputable def fX0_chainRound_b20 (a : Nat) (p0 : Int32) (i2 : Int32) (s3 : Int32) (u : Um) : Option (Nat × Int32) :=
  if (u.1 a 2) ≤ s3 then
    some (1, s3)
  else
    bd1 (fX0_wantedAfter a i2 s3 u) fun v4 =>
    if v4 = i2 then
      some (1, s3)
    else
      nm (s3 + 1) fun v5 =>
      some (0, v5)
set_option maxHeartbeats 4000000 in
set_option maxRecDepth 100000 in
theorem tX0_chainRound_b20 {w : Wc} {X : MX} (hX : OKc w X RX0 cX0_chainRound 3) {a : Nat} {p0 : Int32} {i2 : Int32} (ha : kd a = 0) {s : Int32} {e : Nat} {s' : Int32} {u : Um} (hf : fX0_chainRound_b20 a p0 i2 s u = some (e, s')) (K0 : e = 0 → G w X Zm 20 [some (.ref a), none, some (.int i2), some (.int s')] [] u) (K1 : e ≠ 0 → G w X Zm 44 [none, none, none, some (.int s')] [] u) : G w X Zm 20 [some (.ref a), none, some (.int i2), some (.int s)] [] u := by
  obtain ⟨s3, rfl⟩ : ∃ z, z = s := ⟨_, rfl⟩
  unfold fX0_chainRound_b20 at hf
  try dsimp only at hf ⊢
  refine G_iload_n hX dX0_chainRound_20 rfl ?_
  refine G_aload_n hX dX0_chainRound_21 rfl ?_
  refine G_getI (i := 2) hX ha (Nat.le_of_ble_eq_true rfl) (kd_lt ha (Nat.le_of_ble_eq_true rfl)) rfl flX0_18 dX0_chainRound_22 ?_
  refine G_icmp_ge (tgt := 44) hX dX0_chainRound_25 rfl hf (fun hf => ?_) (fun hf => ?_)
  · obtain ⟨rfl, rfl⟩ := ret2 hf
    refine G_mask (lv' := [none, none, none, some (.int s3)]) [false, false, false, true] rfl rfl ?_
    exact K1 (by decide)
  · refine G_aload_n hX dX0_chainRound_28 rfl ?_
    refine G_iload_n hX dX0_chainRound_29 rfl ?_
    refine G_iload_n hX dX0_chainRound_30 rfl ?_
    obtain ⟨v4, h3, hf⟩ := bd1_some hf
    refine G_cV (as := [.int i2, .int s3]) (rest := []) hX cvX0_93 (mX0_wantedAfter w ha h3) (Nat.le_of_ble_eq_true rfl) ha (Nat.le_of_ble_eq_true rfl) (kd_lt ha (Nat.le_of_ble_eq_true rfl)) rfl rfl (Nat.le_of_ble_eq_true rfl) dX0_chainRound_31 (st' := [.int v4]) rfl ?_
    refine G_iload_n hX dX0_chainRound_34 rfl ?_
    refine G_icmp_eq (tgt := 44) hX dX0_chainRound_35 rfl hf (fun hf => ?_) (fun hf => ?_)
    · obtain ⟨rfl, rfl⟩ := ret2 hf
      refine G_mask (lv' := [none, none, none, some (.int s3)]) [false, false, false, true] rfl rfl ?_
      exact K1 (by decide)
    · refine G_iincF (lvf := fun v5 => [some (.ref a), none, some (.int i2), some (.int v5)]) hX dX0_chainRound_38 rfl rfl rfl (Nat.le_of_ble_eq_true rfl) (fun _ => rfl) hf (fun v5 hf => ?_)
      refine G_goto (tgt := 20) hX dX0_chainRound_41 rfl ?_
      obtain ⟨rfl, rfl⟩ := ret2 hf
      refine G_mask (lv' := [some (.ref a), none, some (.int i2), some (.int v5)]) [true, false, true, true] rfl rfl ?_
      exact K0 rfl
noncomputable def fX0_chainRound (a : Nat) (p0 : Int32) (u : Um) : Option Int32 :=
  bd1 (fX0_wantedAfter a p0 (u.1 a 2) u) fun v2 =>
  if v2 = (-4) then
    some 0
  else
    bd2 (lp (fun s => fX0_chainRound_b20 a p0 v2 s u) fuel (1 : Int32)) fun e7 v6 =>
    some v6
set_option maxHeartbeats 4000000 in
set_option maxRecDepth 100000 in
theorem mX0_chainRound (w : Wc) {a : Nat} {p0 : Int32} (ha : kd a = 0) {u : Um} {r : Int32} (hf : fX0_chainRound a p0 u = some r) : MC w 3 qX0_chainRound [.ref a, .int p0] u (some (.int r)) u := by
  unfold fX0_chainRound at hf
  refine MC_intro pnX0 (Nat.le_of_ble_eq_true rfl) (fun X hX hR _ _ => ?_)
  have hX : OKc w X RX0 cX0_chainRound 3 := hX
  have hR : RT w X (some .int) 0 0 Pst 133 false (some (.int r)) u := hR
  refine G_eql (lv' := [some (.ref a), some (.int p0), none, none]) rfl ?_
  refine G_aload_n hX dX0_chainRound_0 rfl ?_
  refine G_iload_n hX dX0_chainRound_1 rfl ?_
  refine G_aload_n hX dX0_chainRound_2 rfl ?_
  refine G_getI (i := 2) hX ha (Nat.le_of_ble_eq_true rfl) (kd_lt ha (Nat.le_of_ble_eq_true rfl)) rfl flX0_18 dX0_chainRound_3 ?_
  obtain ⟨v2, h1, hf⟩ := bd1_some hf
  refine G_cV (as := [.int p0, .int (u.1 a 2)]) (rest := []) hX cvX0_93 (mX0_wantedAfter w ha h1) (Nat.le_of_ble_eq_true rfl) ha (Nat.le_of_ble_eq_true rfl) (kd_lt ha (Nat.le_of_ble_eq_true rfl)) rfl rfl (Nat.le_of_ble_eq_true rfl) dX0_chainRound_6 (st' := [.int v2]) rfl ?_
  refine G_istore_n (lv' := [some (.ref a), some (.int p0), some (.int v2), none]) hX dX0_chainRound_9 rfl (Nat.le_of_ble_eq_true rfl) rfl ?_
  refine G_iload_n hX dX0_chainRound_10 rfl ?_
  refine G_bipush (v := (-4)) hX dX0_chainRound_11 rfl ?_
  refine G_icmp_ne (tgt := 18) hX dX0_chainRound_13 rfl hf (fun hf => ?_) (fun hf => ?_)
  · refine G_iconst (v := 1) hX dX0_chainRound_18 rfl ?_
    refine G_istore_n (lv' := [some (.ref a), some (.int p0), some (.int v2), some (.int 1)]) hX dX0_chainRound_19 rfl (Nat.le_of_ble_eq_true rfl) rfl ?_
    obtain ⟨e7, v6, h8, hf⟩ := bd2_some hf
    refine G_mask (lv' := [some (.ref a), none, some (.int v2), some (.int 1)]) [true, false, true, true] rfl rfl ?_
    refine lp_G (body := (fun s => fX0_chainRound_b20 a p0 v2 s u)) (Gh := fun s => G w X Zm 20 [some (.ref a), none, some (.int v2), some (.int s)] [] u) (Gx := fun e s => G w X Zm 44 [none, none, none, some (.int s)] [] u) (fun s e s' hb K0 K1 => tX0_chainRound_b20 (s := s) (e := e) (s' := s') hX ha  hb K0 K1) fuel (1 : Int32) (e7, v6) h8 ?_
    refine G_iload_n hX dX0_chainRound_44 rfl ?_
    obtain rfl := Option.some.inj hf
    exact G_iret hX hR dX0_chainRound_45
  · refine G_iconst (v := 0) hX dX0_chainRound_16 rfl ?_
    obtain rfl := Option.some.inj hf
    exact G_iret hX hR dX0_chainRound_17
noncomputable def fX0_chainAhead_j39 (a : Nat) (p0 : Int32) (i2 : Int32) (j3 : Int32) (z0 : Int32) (z1 : Int32) (u : Um) : Option (Nat × Int32) :=
  if z1 = z0 then
    some (1, j3)
  else
    nm (j3 + 1) fun v7 =>
    some (0, v7)
set_option maxHeartbeats 4000000 in
set_option maxRecDepth 100000 in
theorem tX0_chainAhead_j39 {w : Wc} {X : MX} (hX : OKc w X RX0 cX0_chainAhead 4) {a : Nat} {p0 : Int32} {i2 : Int32} {j3 : Int32} {z0 : Int32} {z1 : Int32} (ha : kd a = 0)  {u : Um} {e : Nat} {s' : Int32} (K0 : e = 0 → G w X Zm 8 [some (.ref a), some (.int p0), some (.int i2), some (.int s')] [] u) (K1 : e ≠ 0 → G w X Zm 48 [none, none, none, some (.int s')] [] u) (hf : fX0_chainAhead_j39 a p0 i2 j3 z0 z1 u = some (e, s')) : G w X Zm 39 [some (.ref a), some (.int p0), some (.int i2), some (.int j3)] [.int z0, .int z1] u := by
  unfold fX0_chainAhead_j39 at hf
  refine G_icmp_eq (tgt := 48) hX dX0_chainAhead_39 rfl hf (fun hf => ?_) (fun hf => ?_)
  · obtain ⟨rfl, rfl⟩ := ret2 hf
    refine G_mask (lv' := [none, none, none, some (.int j3)]) [false, false, false, true] rfl rfl ?_
    exact K1 (by decide)
  · refine G_iincF (lvf := fun v7 => [some (.ref a), some (.int p0), some (.int i2), some (.int v7)]) hX dX0_chainAhead_42 rfl rfl rfl (Nat.le_of_ble_eq_true rfl) (fun _ => rfl) hf (fun v7 hf => ?_)
    refine G_goto (tgt := 8) hX dX0_chainAhead_45 rfl ?_
    obtain ⟨rfl, rfl⟩ := ret2 hf
    refine G_mask (lv' := [some (.ref a), some (.int p0), some (.int i2), some (.int v7)]) [true, true, true, true] rfl rfl ?_
    exact K0 rfl
noncomputable def fX0_chainAhead_b8 (a : Nat) (p0 : Int32) (i2 : Int32) (s3 : Int32) (u : Um) : Option (Nat × Int32) :=
  if (u.1 a 2) ≤ s3 then
    some (1, s3)
  else
    bd1 (fX0_wantedAfter a p0 s3 u) fun v4 =>
    if i2 = 0 then
      fX0_chainAhead_j39 a p0 i2 s3 (-4) v4 u
    else
      bd1 (fX0_wantedAfter a p0 (s3 + i2) u) fun v6 =>
      fX0_chainAhead_j39 a p0 i2 s3 v6 v4 u
set_option maxHeartbeats 4000000 in
set_option maxRecDepth 100000 in
theorem tX0_chainAhead_b8 {w : Wc} {X : MX} (hX : OKc w X RX0 cX0_chainAhead 4) {a : Nat} {p0 : Int32} {i2 : Int32} (ha : kd a = 0) {s : Int32} {e : Nat} {s' : Int32} {u : Um} (hf : fX0_chainAhead_b8 a p0 i2 s u = some (e, s')) (K0 : e = 0 → G w X Zm 8 [some (.ref a), some (.int p0), some (.int i2), some (.int s')] [] u) (K1 : e ≠ 0 → G w X Zm 48 [none, none, none, some (.int s')] [] u) : G w X Zm 8 [some (.ref a), some (.int p0), some (.int i2), some (.int s)] [] u := by
  obtain ⟨s3, rfl⟩ : ∃ z, z = s := ⟨_, rfl⟩
  unfold fX0_chainAhead_b8 at hf
  try dsimp only at hf ⊢
  refine G_iload_n hX dX0_chainAhead_8 rfl ?_
  refine G_aload_n hX dX0_chainAhead_9 rfl ?_
  refine G_getI (i := 2) hX ha (Nat.le_of_ble_eq_true rfl) (kd_lt ha (Nat.le_of_ble_eq_true rfl)) rfl flX0_18 dX0_chainAhead_10 ?_
  refine G_icmp_ge (tgt := 48) hX dX0_chainAhead_13 rfl hf (fun hf => ?_) (fun hf => ?_)
  · obtain ⟨rfl, rfl⟩ := ret2 hf
    refine G_mask (lv' := [none, none, none, some (.int s3)]) [false, false, false, true] rfl rfl ?_
    exact K1 (by decide)
  · refine G_aload_n hX dX0_chainAhead_16 rfl ?_
    refine G_iload_n hX dX0_chainAhead_17 rfl ?_
    refine G_iload_n hX dX0_chainAhead_18 rfl ?_
    obtain ⟨v4, h3, hf⟩ := bd1_some hf
    refine G_cV (as := [.int p0, .int s3]) (rest := []) hX cvX0_93 (mX0_wantedAfter w ha h3) (Nat.le_of_ble_eq_true rfl) ha (Nat.le_of_ble_eq_true rfl) (kd_lt ha (Nat.le_of_ble_eq_true rfl)) rfl rfl (Nat.le_of_ble_eq_true rfl) dX0_chainAhead_19 (st' := [.int v4]) rfl ?_
    refine G_iload_n hX dX0_chainAhead_22 rfl ?_
    refine G_if_ne (tgt := 31) hX dX0_chainAhead_23 rfl hf (fun hf => ?_) (fun hf => ?_)
    · refine G_aload_n hX dX0_chainAhead_31 rfl ?_
      refine G_iload_n hX dX0_chainAhead_32 rfl ?_
      refine G_iload_n hX dX0_chainAhead_33 rfl ?_
      refine G_iload_n hX dX0_chainAhead_34 rfl ?_
      refine G_iadd hX dX0_chainAhead_35 ?_
      obtain ⟨v6, h5, hf⟩ := bd1_some hf
      refine G_cV (as := [.int p0, .int (s3 + i2)]) (rest := [.int v4]) hX cvX0_93 (mX0_wantedAfter w ha h5) (Nat.le_of_ble_eq_true rfl) ha (Nat.le_of_ble_eq_true rfl) (kd_lt ha (Nat.le_of_ble_eq_true rfl)) rfl rfl (Nat.le_of_ble_eq_true rfl) dX0_chainAhead_36 (st' := [.int v6, .int v4]) rfl ?_
      refine G_mask (lv' := [some (.ref a), some (.int p0), some (.int i2), some (.int s3)]) [true, true, true, true] rfl rfl ?_
      exact tX0_chainAhead_j39 hX ha K0 K1 hf
    · refine G_bipush (v := (-4)) hX dX0_chainAhead_26 rfl ?_
      refine G_goto (tgt := 39) hX dX0_chainAhead_28 rfl ?_
      refine G_mask (lv' := [some (.ref a), some (.int p0), some (.int i2), some (.int s3)]) [true, true, true, true] rfl rfl ?_
      exact tX0_chainAhead_j39 hX ha K0 K1 hf
noncomputable def fX0_chainAhead (a : Nat) (p0 : Int32) (u : Um) : Option Int32 :=
  bd1 (fX0_chainRound a p0 u) fun v2 =>
  bd2 (lp (fun s => fX0_chainAhead_b8 a p0 v2 s u) fuel (0 : Int32)) fun e9 v8 =>
  some v8
set_option maxHeartbeats 4000000 in
set_option maxRecDepth 100000 in
theorem mX0_chainAhead (w : Wc) {a : Nat} {p0 : Int32} (ha : kd a = 0) {u : Um} {r : Int32} (hf : fX0_chainAhead a p0 u = some r) : MC w 4 qX0_chainAhead [.ref a, .int p0] u (some (.int r)) u := by
  unfold fX0_chainAhead at hf
  refine MC_intro pnX0 (Nat.le_of_ble_eq_true rfl) (fun X hX hR _ _ => ?_)
  have hX : OKc w X RX0 cX0_chainAhead 4 := hX
  have hR : RT w X (some .int) 0 0 Pst 133 false (some (.int r)) u := hR
  refine G_eql (lv' := [some (.ref a), some (.int p0), none, none]) rfl ?_
  refine G_aload_n hX dX0_chainAhead_0 rfl ?_
  refine G_iload_n hX dX0_chainAhead_1 rfl ?_
  obtain ⟨v2, h1, hf⟩ := bd1_some hf
  refine G_cV (as := [.int p0]) (rest := []) hX cvX0_96 (mX0_chainRound w ha h1) (Nat.le_of_ble_eq_true rfl) ha (Nat.le_of_ble_eq_true rfl) (kd_lt ha (Nat.le_of_ble_eq_true rfl)) rfl rfl (Nat.le_of_ble_eq_true rfl) dX0_chainAhead_2 (st' := [.int v2]) rfl ?_
  refine G_istore_n (lv' := [some (.ref a), some (.int p0), some (.int v2), none]) hX dX0_chainAhead_5 rfl (Nat.le_of_ble_eq_true rfl) rfl ?_
  refine G_iconst (v := 0) hX dX0_chainAhead_6 rfl ?_
  refine G_istore_n (lv' := [some (.ref a), some (.int p0), some (.int v2), some (.int 0)]) hX dX0_chainAhead_7 rfl (Nat.le_of_ble_eq_true rfl) rfl ?_
  obtain ⟨e9, v8, h10, hf⟩ := bd2_some hf
  refine G_mask (lv' := [some (.ref a), some (.int p0), some (.int v2), some (.int 0)]) [true, true, true, true] rfl rfl ?_
  refine lp_G (body := (fun s => fX0_chainAhead_b8 a p0 v2 s u)) (Gh := fun s => G w X Zm 8 [some (.ref a), some (.int p0), some (.int v2), some (.int s)] [] u) (Gx := fun e s => G w X Zm 48 [none, none, none, some (.int s)] [] u) (fun s e s' hb K0 K1 => tX0_chainAhead_b8 (s := s) (e := e) (s' := s') hX ha  hb K0 K1) fuel (0 : Int32) (e9, v8) h10 ?_
  refine G_iload_n hX dX0_chainAhead_48 rfl ?_
  obtain rfl := Option.some.inj hf
  exact G_iret hX hR dX0_chainAhead_49
noncomputable def fX7_chain (p0 : Int32) (p1 : Int32) (u : Um) : Option Int32 :=
  bd1 (fX0_hasPerson 3 p0 u) fun v2 =>
  if v2 = 0 then
    some (-1)
  else
    if p1 < 0 then
      some (-1)
    else
      if p1 ≤ 1 then
        if p1 = 0 then
          bd1 (fX0_chainAhead 3 p0 u) fun v6 =>
          some v6
        else
          bd1 (fX0_chainRound 3 p0 u) fun v4 =>
          some v4
      else
        some (-1)
set_option maxHeartbeats 4000000 in
set_option maxRecDepth 100000 in
theorem mX7_chain (w : Wc) {p0 : Int32} {p1 : Int32}  {u : Um} {r : Int32} (hf : fX7_chain p0 p1 u = some r) : MC w 5 qX7_chain [.ref 0, .int p0, .int p1] u (some (.int r)) u := by
  unfold fX7_chain at hf
  refine MC_intro pnX7 (Nat.le_of_ble_eq_true rfl) (fun X hX hR _ _ => ?_)
  have hX : OKc w X RX7 cX7_chain 5 := hX
  have hR : RT w X (some .int) 0 0 Pst 133 false (some (.int r)) u := hR
  refine G_eql (lv' := [some (.ref 0), some (.int p0), some (.int p1)]) rfl ?_
  refine G_aload_n hX dX7_chain_0 rfl ?_
  refine G_getR (i := 1) (t := 3) hX kK0 (Nat.le_of_ble_eq_true rfl) (Nat.le_of_ble_eq_true rfl) rfl pK0_1 flX7_19 dX7_chain_1 ?_
  refine G_iload_n hX dX7_chain_4 rfl ?_
  obtain ⟨v2, h1, hf⟩ := bd1_some hf
  refine G_cV (as := [.int p0]) (rest := []) hX cvX7_90 (mX0_hasPerson w kK3 h1) (Nat.le_of_ble_eq_true rfl) kK3 (Nat.le_of_ble_eq_true rfl) (Nat.le_of_ble_eq_true rfl) rfl rfl (Nat.le_of_ble_eq_true rfl) dX7_chain_5 (st' := [.int v2]) rfl ?_
  refine G_if_eq (tgt := 20) hX dX7_chain_8 rfl hf (fun hf => ?_) (fun hf => ?_)
  · refine G_iconst (v := (-1)) hX dX7_chain_20 rfl ?_
    obtain rfl := Option.some.inj hf
    exact G_iret hX hR dX7_chain_21
  · refine G_iload_n hX dX7_chain_11 rfl ?_
    refine G_if_lt (tgt := 20) hX dX7_chain_12 rfl hf (fun hf => ?_) (fun hf => ?_)
    · refine G_iconst (v := (-1)) hX dX7_chain_20 rfl ?_
      obtain rfl := Option.some.inj hf
      exact G_iret hX hR dX7_chain_21
    · refine G_iload_n hX dX7_chain_15 rfl ?_
      refine G_iconst (v := 1) hX dX7_chain_16 rfl ?_
      refine G_icmp_le (tgt := 22) hX dX7_chain_17 rfl hf (fun hf => ?_) (fun hf => ?_)
      · refine G_iload_n hX dX7_chain_22 rfl ?_
        refine G_if_ne (tgt := 37) hX dX7_chain_23 rfl hf (fun hf => ?_) (fun hf => ?_)
        · refine G_aload_n hX dX7_chain_37 rfl ?_
          refine G_getR (i := 1) (t := 3) hX kK0 (Nat.le_of_ble_eq_true rfl) (Nat.le_of_ble_eq_true rfl) rfl pK0_1 flX7_19 dX7_chain_38 ?_
          refine G_iload_n hX dX7_chain_41 rfl ?_
          obtain ⟨v4, h3, hf⟩ := bd1_some hf
          refine G_cV (as := [.int p0]) (rest := []) hX cvX7_174 (mX0_chainRound w kK3 h3) (Nat.le_of_ble_eq_true rfl) kK3 (Nat.le_of_ble_eq_true rfl) (Nat.le_of_ble_eq_true rfl) rfl rfl (Nat.le_of_ble_eq_true rfl) dX7_chain_42 (st' := [.int v4]) rfl ?_
          obtain rfl := Option.some.inj hf
          exact G_iret hX hR dX7_chain_45
        · refine G_aload_n hX dX7_chain_26 rfl ?_
          refine G_getR (i := 1) (t := 3) hX kK0 (Nat.le_of_ble_eq_true rfl) (Nat.le_of_ble_eq_true rfl) rfl pK0_1 flX7_19 dX7_chain_27 ?_
          refine G_iload_n hX dX7_chain_30 rfl ?_
          obtain ⟨v6, h5, hf⟩ := bd1_some hf
          refine G_cV (as := [.int p0]) (rest := []) hX cvX7_171 (mX0_chainAhead w kK3 h5) (Nat.le_of_ble_eq_true rfl) kK3 (Nat.le_of_ble_eq_true rfl) (Nat.le_of_ble_eq_true rfl) rfl rfl (Nat.le_of_ble_eq_true rfl) dX7_chain_31 (st' := [.int v6]) rfl ?_
          refine G_goto (tgt := 45) hX dX7_chain_34 rfl ?_
          obtain rfl := Option.some.inj hf
          exact G_iret hX hR dX7_chain_45
      · refine G_iconst (v := (-1)) hX dX7_chain_20 rfl ?_
        obtain rfl := Option.some.inj hf
        exact G_iret hX hR dX7_chain_21
noncomputable def fX7_reachedNext_j64 (p0 : Int32) (p1 : Int32) (j2 : Int32) (i3 : Int32) (i4 : Int32) (j5 : Int32) (u : Um) : Option (Nat × Int32 × Int32) :=
  nm (j5 + 1) fun v5 =>
  some (0, j2, v5)
set_option maxHeartbeats 4000000 in
set_option maxRecDepth 100000 in
theorem tX7_reachedNext_j64 {w : Wc} {X : MX} (hX : OKc w X RX7 cX7_reachedNext 2) {p0 : Int32} {p1 : Int32} {j2 : Int32} {i3 : Int32} {i4 : Int32} {j5 : Int32}  {u : Um} {e : Nat} {s' : Int32 × Int32} (K0 : e = 0 → G w X Zm 40 [some (.int p0), some (.int p1), some (.int s'.1), some (.int i3), some (.int i4), some (.int s'.2)] [] u) (K1 : e ≠ 0 → G w X Zm 70 [some (.int p0), some (.int p1), some (.int s'.1), some (.int i3), none, none] [] u) (hf : fX7_reachedNext_j64 p0 p1 j2 i3 i4 j5 u = some (e, s')) : G w X Zm 64 [some (.int p0), some (.int p1), some (.int j2), some (.int i3), some (.int i4), some (.int j5)] [] u := by
  unfold fX7_reachedNext_j64 at hf
  refine G_iincF (lvf := fun v5 => [some (.int p0), some (.int p1), some (.int j2), some (.int i3), some (.int i4), some (.int v5)]) hX dX7_reachedNext_64 rfl rfl rfl (Nat.le_of_ble_eq_true rfl) (fun _ => rfl) hf (fun v5 hf => ?_)
  refine G_goto (tgt := 40) hX dX7_reachedNext_67 rfl ?_
  obtain ⟨rfl, rfl⟩ := ret2 hf
  refine G_mask (lv' := [some (.int p0), some (.int p1), some (.int j2), some (.int i3), some (.int i4), some (.int v5)]) [true, true, true, true, true, true] rfl rfl ?_
  exact K0 rfl
noncomputable def fX7_reachedNext_b40 (p0 : Int32) (p1 : Int32) (i3 : Int32) (i4 : Int32) (s2 : Int32) (s5 : Int32) (u : Um) : Option (Nat × Int32 × Int32) :=
  if i4 < s5 then
    some (1, s2, s5)
  else
    bd1 (fX7_isBarred i3 s5 p1 u) fun v4 =>
    if v4 = 0 then
      nm (s2 ||| ((1 : Int32) <<< (s5 &&& 31))) fun v6 =>
      fX7_reachedNext_j64 p0 p1 v6 i3 i4 s5 u
    else
      fX7_reachedNext_j64 p0 p1 s2 i3 i4 s5 u
set_option maxHeartbeats 4000000 in
set_option maxRecDepth 100000 in
theorem tX7_reachedNext_b40 {w : Wc} {X : MX} (hX : OKc w X RX7 cX7_reachedNext 2) {p0 : Int32} {p1 : Int32} {i3 : Int32} {i4 : Int32} {s : Int32 × Int32} {e : Nat} {s' : Int32 × Int32} {u : Um} (hf : fX7_reachedNext_b40 p0 p1 i3 i4 s.1 s.2 u = some (e, s')) (K0 : e = 0 → G w X Zm 40 [some (.int p0), some (.int p1), some (.int s'.1), some (.int i3), some (.int i4), some (.int s'.2)] [] u) (K1 : e ≠ 0 → G w X Zm 70 [some (.int p0), some (.int p1), some (.int s'.1), some (.int i3), none, none] [] u) : G w X Zm 40 [some (.int p0), some (.int p1), some (.int s.1), some (.int i3), some (.int i4), some (.int s.2)] [] u := by
  obtain ⟨s2, s5⟩ := s
  unfold fX7_reachedNext_b40 at hf
  try dsimp only at hf ⊢
  refine G_iload hX dX7_reachedNext_40 rfl ?_
  refine G_iload hX dX7_reachedNext_42 rfl ?_
  refine G_icmp_gt (tgt := 70) hX dX7_reachedNext_44 rfl hf (fun hf => ?_) (fun hf => ?_)
  · obtain ⟨rfl, rfl⟩ := ret2 hf
    refine G_mask (lv' := [some (.int p0), some (.int p1), some (.int s2), some (.int i3), none, none]) [true, true, true, true, false, false] rfl rfl ?_
    exact K1 (by decide)
  · refine G_iload_n hX dX7_reachedNext_47 rfl ?_
    refine G_iload hX dX7_reachedNext_48 rfl ?_
    refine G_iload_n hX dX7_reachedNext_50 rfl ?_
    obtain ⟨v4, h3, hf⟩ := bd1_some hf
    refine G_cS (as := [.int i3, .int s5, .int p1]) (rest := []) hX csX7_288 (mX7_isBarred w h3) (Nat.le_of_ble_eq_true rfl) rfl rfl (Nat.le_of_ble_eq_true rfl) dX7_reachedNext_51 (st' := [.int v4]) rfl ?_
    refine G_if_ne (tgt := 64) hX dX7_reachedNext_54 rfl hf (fun hf => ?_) (fun hf => ?_)
    · refine G_mask (lv' := [some (.int p0), some (.int p1), some (.int s2), some (.int i3), some (.int i4), some (.int s5)]) [true, true, true, true, true, true] rfl rfl ?_
      exact tX7_reachedNext_j64 hX  K0 K1 hf
    · refine G_iload_n hX dX7_reachedNext_57 rfl ?_
      refine G_iconst (v := 1) hX dX7_reachedNext_58 rfl ?_
      refine G_iload hX dX7_reachedNext_59 rfl ?_
      refine G_ishl hX dX7_reachedNext_61 ?_
      refine G_ior hX dX7_reachedNext_62 ?_
      refine G_istore_nF (lvf := fun v6 => [some (.int p0), some (.int p1), some (.int v6), some (.int i3), some (.int i4), some (.int s5)]) hX dX7_reachedNext_63 rfl (Nat.le_of_ble_eq_true rfl) (fun _ => rfl) hf (fun v6 hf => ?_)
      refine G_mask (lv' := [some (.int p0), some (.int p1), some (.int v6), some (.int i3), some (.int i4), some (.int s5)]) [true, true, true, true, true, true] rfl rfl ?_
      exact tX7_reachedNext_j64 hX  K0 K1 hf
noncomputable def fX7_reachedNext_j70 (p0 : Int32) (p1 : Int32) (j2 : Int32) (j3 : Int32) (u : Um) : Option (Nat × Int32 × Int32) :=
  nm (j3 + 1) fun v11 =>
  some (0, j2, v11)
set_option maxHeartbeats 4000000 in
set_option maxRecDepth 100000 in
theorem tX7_reachedNext_j70 {w : Wc} {X : MX} (hX : OKc w X RX7 cX7_reachedNext 2) {p0 : Int32} {p1 : Int32} {j2 : Int32} {j3 : Int32}  {u : Um} {e : Nat} {s' : Int32 × Int32} (K0 : e = 0 → G w X Zm 4 [some (.int p0), some (.int p1), some (.int s'.1), some (.int s'.2), none, none] [] u) (K1 : e ≠ 0 → G w X Zm 76 [none, none, some (.int s'.1), none, none, none] [] u) (hf : fX7_reachedNext_j70 p0 p1 j2 j3 u = some (e, s')) : G w X Zm 70 [some (.int p0), some (.int p1), some (.int j2), some (.int j3), none, none] [] u := by
  unfold fX7_reachedNext_j70 at hf
  refine G_iincF (lvf := fun v11 => [some (.int p0), some (.int p1), some (.int j2), some (.int v11), none, none]) hX dX7_reachedNext_70 rfl rfl rfl (Nat.le_of_ble_eq_true rfl) (fun _ => rfl) hf (fun v11 hf => ?_)
  refine G_goto (tgt := 4) hX dX7_reachedNext_73 rfl ?_
  obtain ⟨rfl, rfl⟩ := ret2 hf
  refine G_mask (lv' := [some (.int p0), some (.int p1), some (.int j2), some (.int v11), none, none]) [true, true, true, true, false, false] rfl rfl ?_
  exact K0 rfl
noncomputable def fX7_reachedNext_b4 (p0 : Int32) (p1 : Int32) (s2 : Int32) (s3 : Int32) (u : Um) : Option (Nat × Int32 × Int32) :=
  if 9 < s3 then
    some (1, s2, s3)
  else
    if ((p0 >>> (s3 &&& 31)) &&& 1) = 0 then
      fX7_reachedNext_j70 p0 p1 s2 s3 u
    else
      nm (mnI 9 (s3 + 3)) fun v1 =>
      nm (mxI 0 (s3 - 3)) fun v2 =>
      bd3 (lp (fun s => fX7_reachedNext_b40 p0 p1 s3 v1 s.1 s.2 u) fuel (s2, v2)) fun e9 v7 v8 =>
      fX7_reachedNext_j70 p0 p1 v7 s3 u
set_option maxHeartbeats 4000000 in
set_option maxRecDepth 100000 in
theorem tX7_reachedNext_b4 {w : Wc} {X : MX} (hX : OKc w X RX7 cX7_reachedNext 2) {p0 : Int32} {p1 : Int32} {s : Int32 × Int32} {e : Nat} {s' : Int32 × Int32} {u : Um} (hf : fX7_reachedNext_b4 p0 p1 s.1 s.2 u = some (e, s')) (K0 : e = 0 → G w X Zm 4 [some (.int p0), some (.int p1), some (.int s'.1), some (.int s'.2), none, none] [] u) (K1 : e ≠ 0 → G w X Zm 76 [none, none, some (.int s'.1), none, none, none] [] u) : G w X Zm 4 [some (.int p0), some (.int p1), some (.int s.1), some (.int s.2), none, none] [] u := by
  obtain ⟨s2, s3⟩ := s
  unfold fX7_reachedNext_b4 at hf
  try dsimp only at hf ⊢
  refine G_iload_n hX dX7_reachedNext_4 rfl ?_
  refine G_bipush (v := 9) hX dX7_reachedNext_5 rfl ?_
  refine G_icmp_gt (tgt := 76) hX dX7_reachedNext_7 rfl hf (fun hf => ?_) (fun hf => ?_)
  · obtain ⟨rfl, rfl⟩ := ret2 hf
    refine G_mask (lv' := [none, none, some (.int s2), none, none, none]) [false, false, true, false, false, false] rfl rfl ?_
    exact K1 (by decide)
  · refine G_iload_n hX dX7_reachedNext_10 rfl ?_
    refine G_iload_n hX dX7_reachedNext_11 rfl ?_
    refine G_ishr hX dX7_reachedNext_12 ?_
    refine G_iconst (v := 1) hX dX7_reachedNext_13 rfl ?_
    refine G_iand hX dX7_reachedNext_14 ?_
    refine G_if_ne (tgt := 21) hX dX7_reachedNext_15 rfl hf (fun hf => ?_) (fun hf => ?_)
    · refine G_bipush (v := 9) hX dX7_reachedNext_21 rfl ?_
      refine G_iload_n hX dX7_reachedNext_23 rfl ?_
      refine G_iconst (v := 3) hX dX7_reachedNext_24 rfl ?_
      refine G_iadd hX dX7_reachedNext_25 ?_
      refine G_min hX cmX7_280 (Nat.le_of_ble_eq_true rfl) (Nat.le_of_ble_eq_true rfl) dX7_reachedNext_26 ?_
      refine G_istoreF (lvf := fun v1 => [some (.int p0), some (.int p1), some (.int s2), some (.int s3), some (.int v1), none]) hX dX7_reachedNext_29 rfl (Nat.le_of_ble_eq_true rfl) (fun _ => rfl) hf (fun v1 hf => ?_)
      refine G_iconst (v := 0) hX dX7_reachedNext_31 rfl ?_
      refine G_iload_n hX dX7_reachedNext_32 rfl ?_
      refine G_iconst (v := 3) hX dX7_reachedNext_33 rfl ?_
      refine G_isub hX dX7_reachedNext_34 ?_
      refine G_max hX cmX7_285 (Nat.le_of_ble_eq_true rfl) (Nat.le_of_ble_eq_true rfl) dX7_reachedNext_35 ?_
      refine G_istoreF (lvf := fun v2 => [some (.int p0), some (.int p1), some (.int s2), some (.int s3), some (.int v1), some (.int v2)]) hX dX7_reachedNext_38 rfl (Nat.le_of_ble_eq_true rfl) (fun _ => rfl) hf (fun v2 hf => ?_)
      obtain ⟨e9, v7, v8, h10, hf⟩ := bd3_some hf
      refine G_mask (lv' := [some (.int p0), some (.int p1), some (.int s2), some (.int s3), some (.int v1), some (.int v2)]) [true, true, true, true, true, true] rfl rfl ?_
      refine lp_G (body := (fun s => fX7_reachedNext_b40 p0 p1 s3 v1 s.1 s.2 u)) (Gh := fun s => G w X Zm 40 [some (.int p0), some (.int p1), some (.int s.1), some (.int s3), some (.int v1), some (.int s.2)] [] u) (Gx := fun e s => G w X Zm 70 [some (.int p0), some (.int p1), some (.int s.1), some (.int s3), none, none] [] u) (fun s e s' hb K0 K1 => tX7_reachedNext_b40 (s := s) (e := e) (s' := s') hX   hb K0 K1) fuel (s2, v2) (e9, v7, v8) h10 ?_
      refine G_mask (lv' := [some (.int p0), some (.int p1), some (.int v7), some (.int s3), none, none]) [true, true, true, true, false, false] rfl rfl ?_
      exact tX7_reachedNext_j70 hX  K0 K1 hf
    · refine G_goto (tgt := 70) hX dX7_reachedNext_18 rfl ?_
      refine G_mask (lv' := [some (.int p0), some (.int p1), some (.int s2), some (.int s3), none, none]) [true, true, true, true, false, false] rfl rfl ?_
      exact tX7_reachedNext_j70 hX  K0 K1 hf
noncomputable def fX7_reachedNext (p0 : Int32) (p1 : Int32) (u : Um) : Option Int32 :=
  bd3 (lp (fun s => fX7_reachedNext_b4 p0 p1 s.1 s.2 u) fuel ((0 : Int32), (0 : Int32))) fun e14 v12 v13 =>
  some v12
set_option maxHeartbeats 4000000 in
set_option maxRecDepth 100000 in
theorem mX7_reachedNext (w : Wc) {p0 : Int32} {p1 : Int32}  {u : Um} {r : Int32} (hf : fX7_reachedNext p0 p1 u = some r) : MC w 2 qX7_reachedNext [.int p0, .int p1] u (some (.int r)) u := by
  unfold fX7_reachedNext at hf
  refine MC_intro pnX7 (Nat.le_of_ble_eq_true rfl) (fun X hX hR _ _ => ?_)
  have hX : OKc w X RX7 cX7_reachedNext 2 := hX
  have hR : RT w X (some .int) 0 0 Pst 133 false (some (.int r)) u := hR
  refine G_eql (lv' := [some (.int p0), some (.int p1), none, none, none, none]) rfl ?_
  refine G_iconst (v := 0) hX dX7_reachedNext_0 rfl ?_
  refine G_istore_n (lv' := [some (.int p0), some (.int p1), some (.int 0), none, none, none]) hX dX7_reachedNext_1 rfl (Nat.le_of_ble_eq_true rfl) rfl ?_
  refine G_iconst (v := 0) hX dX7_reachedNext_2 rfl ?_
  refine G_istore_n (lv' := [some (.int p0), some (.int p1), some (.int 0), some (.int 0), none, none]) hX dX7_reachedNext_3 rfl (Nat.le_of_ble_eq_true rfl) rfl ?_
  obtain ⟨e14, v12, v13, h15, hf⟩ := bd3_some hf
  refine G_mask (lv' := [some (.int p0), some (.int p1), some (.int 0), some (.int 0), none, none]) [true, true, true, true, false, false] rfl rfl ?_
  refine lp_G (body := (fun s => fX7_reachedNext_b4 p0 p1 s.1 s.2 u)) (Gh := fun s => G w X Zm 4 [some (.int p0), some (.int p1), some (.int s.1), some (.int s.2), none, none] [] u) (Gx := fun e s => G w X Zm 76 [none, none, some (.int s.1), none, none, none] [] u) (fun s e s' hb K0 K1 => tX7_reachedNext_b4 (s := s) (e := e) (s' := s') hX   hb K0 K1) fuel ((0 : Int32), (0 : Int32)) (e14, v12, v13) h15 ?_
  refine G_iload_n hX dX7_reachedNext_76 rfl ?_
  obtain rfl := Option.some.inj hf
  exact G_iret hX hR dX7_reachedNext_77
noncomputable def fX7_daysToReach_b7 (p0 : Int32) (p1 : Int32) (p2 : Int32) (s3 : Int32) (s4 : Int32) (u : Um) : Option (Nat × Int32 × Int32) :=
  if 18 ≤ s4 then
    some (1, s3, s4)
  else
    if ((s3 >>> (p1 &&& 31)) &&& 1) = 0 then
      bd1 (fX7_reachedNext s3 (p2 + s4) u) fun v3 =>
      nm (s4 + 1) fun v4 =>
      some (0, v3, v4)
    else
      some (2, s3, s4)
set_option maxHeartbeats 4000000 in
set_option maxRecDepth 100000 in
theorem tX7_daysToReach_b7 {w : Wc} {X : MX} (hX : OKc w X RX7 cX7_daysToReach 3) {p0 : Int32} {p1 : Int32} {p2 : Int32} {s : Int32 × Int32} {e : Nat} {s' : Int32 × Int32} {u : Um} (hf : fX7_daysToReach_b7 p0 p1 p2 s.1 s.2 u = some (e, s')) (K0 : e = 0 → G w X Zm 7 [none, some (.int p1), some (.int p2), some (.int s'.1), some (.int s'.2)] [] u) (K1 : e ≠ 0 → if e = 1 then G w X Zm 40 [none, none, none, none, none] [] u else G w X Zm 22 [none, none, none, none, some (.int s'.2)] [] u) : G w X Zm 7 [none, some (.int p1), some (.int p2), some (.int s.1), some (.int s.2)] [] u := by
  obtain ⟨s3, s4⟩ := s
  unfold fX7_daysToReach_b7 at hf
  try dsimp only at hf ⊢
  refine G_iload hX dX7_daysToReach_7 rfl ?_
  refine G_bipush (v := 18) hX dX7_daysToReach_9 rfl ?_
  refine G_icmp_ge (tgt := 40) hX dX7_daysToReach_11 rfl hf (fun hf => ?_) (fun hf => ?_)
  · obtain ⟨rfl, rfl⟩ := ret2 hf
    refine G_mask (lv' := [none, none, none, none, none]) [false, false, false, false, false] rfl rfl ?_
    exact gx_hit (K1 (by decide))
  · refine G_iload_n hX dX7_daysToReach_14 rfl ?_
    refine G_iload_n hX dX7_daysToReach_15 rfl ?_
    refine G_ishr hX dX7_daysToReach_16 ?_
    refine G_iconst (v := 1) hX dX7_daysToReach_17 rfl ?_
    refine G_iand hX dX7_daysToReach_18 ?_
    refine G_if_eq (tgt := 25) hX dX7_daysToReach_19 rfl hf (fun hf => ?_) (fun hf => ?_)
    · refine G_iload_n hX dX7_daysToReach_25 rfl ?_
      refine G_iload_n hX dX7_daysToReach_26 rfl ?_
      refine G_iload hX dX7_daysToReach_27 rfl ?_
      refine G_iadd hX dX7_daysToReach_29 ?_
      obtain ⟨v3, h2, hf⟩ := bd1_some hf
      refine G_cS (as := [.int s3, .int (p2 + s4)]) (rest := []) hX csX7_277 (mX7_reachedNext w h2) (Nat.le_of_ble_eq_true rfl) rfl rfl (Nat.le_of_ble_eq_true rfl) dX7_daysToReach_30 (st' := [.int v3]) rfl ?_
      refine G_istore_n (lv' := [none, some (.int p1), some (.int p2), some (.int v3), some (.int s4)]) hX dX7_daysToReach_33 rfl (Nat.le_of_ble_eq_true rfl) rfl ?_
      refine G_iincF (lvf := fun v4 => [none, some (.int p1), some (.int p2), some (.int v3), some (.int v4)]) hX dX7_daysToReach_34 rfl rfl rfl (Nat.le_of_ble_eq_true rfl) (fun _ => rfl) hf (fun v4 hf => ?_)
      refine G_goto (tgt := 7) hX dX7_daysToReach_37 rfl ?_
      obtain ⟨rfl, rfl⟩ := ret2 hf
      refine G_mask (lv' := [none, some (.int p1), some (.int p2), some (.int v3), some (.int v4)]) [false, true, true, true, true] rfl rfl ?_
      exact K0 rfl
    · obtain ⟨rfl, rfl⟩ := ret2 hf
      refine G_mask (lv' := [none, none, none, none, some (.int s4)]) [false, false, false, false, true] rfl rfl ?_
      exact gx_miss (by decide) (K1 (by decide))
noncomputable def fX7_daysToReach (p0 : Int32) (p1 : Int32) (p2 : Int32) (u : Um) : Option Int32 :=
  nm ((1 : Int32) <<< (p0 &&& 31)) fun v1 =>
  bd3 (lp (fun s => fX7_daysToReach_b7 p0 p1 p2 s.1 s.2 u) fuel (v1, (0 : Int32))) fun e7 v5 v6 =>
  if e7 = 1 then
    some (-4)
  else
  some v6
set_option maxHeartbeats 4000000 in
set_option maxRecDepth 100000 in
theorem mX7_daysToReach (w : Wc) {p0 : Int32} {p1 : Int32} {p2 : Int32}  {u : Um} {r : Int32} (hf : fX7_daysToReach p0 p1 p2 u = some r) : MC w 3 qX7_daysToReach [.int p0, .int p1, .int p2] u (some (.int r)) u := by
  unfold fX7_daysToReach at hf
  refine MC_intro pnX7 (Nat.le_of_ble_eq_true rfl) (fun X hX hR _ _ => ?_)
  have hX : OKc w X RX7 cX7_daysToReach 3 := hX
  have hR : RT w X (some .int) 0 0 Pst 133 false (some (.int r)) u := hR
  refine G_eql (lv' := [some (.int p0), some (.int p1), some (.int p2), none, none]) rfl ?_
  refine G_iconst (v := 1) hX dX7_daysToReach_0 rfl ?_
  refine G_iload_n hX dX7_daysToReach_1 rfl ?_
  refine G_ishl hX dX7_daysToReach_2 ?_
  refine G_istore_nF (lvf := fun v1 => [some (.int p0), some (.int p1), some (.int p2), some (.int v1), none]) hX dX7_daysToReach_3 rfl (Nat.le_of_ble_eq_true rfl) (fun _ => rfl) hf (fun v1 hf => ?_)
  refine G_iconst (v := 0) hX dX7_daysToReach_4 rfl ?_
  refine G_istore (lv' := [some (.int p0), some (.int p1), some (.int p2), some (.int v1), some (.int 0)]) hX dX7_daysToReach_5 rfl (Nat.le_of_ble_eq_true rfl) rfl ?_
  obtain ⟨e7, v5, v6, h8, hf⟩ := bd3_some hf
  refine G_mask (lv' := [none, some (.int p1), some (.int p2), some (.int v1), some (.int 0)]) [false, true, true, true, true] rfl rfl ?_
  refine lp_G (body := (fun s => fX7_daysToReach_b7 p0 p1 p2 s.1 s.2 u)) (Gh := fun s => G w X Zm 7 [none, some (.int p1), some (.int p2), some (.int s.1), some (.int s.2)] [] u) (Gx := fun e s => if e = 1 then G w X Zm 40 [none, none, none, none, none] [] u else G w X Zm 22 [none, none, none, none, some (.int s.2)] [] u) (fun s e s' hb K0 K1 => tX7_daysToReach_b7 (s := s) (e := e) (s' := s') hX   hb K0 K1) fuel (v1, (0 : Int32)) (e7, v5, v6) h8 ?_
  refine gx2 hf (fun hf => ?_) (fun hf => ?_)
  · refine G_bipush (v := (-4)) hX dX7_daysToReach_40 rfl ?_
    obtain rfl := Option.some.inj hf
    exact G_iret hX hR dX7_daysToReach_42
  refine G_iload hX dX7_daysToReach_22 rfl ?_
  obtain rfl := Option.some.inj hf
  exact G_iret hX hR dX7_daysToReach_24
noncomputable def fX7_reach (p0 : Int32) (p1 : Int32) (u : Um) : Option Int32 :=
  bd1 (fX0_hasPerson 3 p0 u) fun v2 =>
  if v2 = 0 then
    some (-1)
  else
    if p1 < 0 then
      some (-1)
    else
      if p1 ≤ 9 then
        bd1 (fX0_trait 3 p0 4 u) fun v4 =>
        bd1 (fX0_day 3 u) fun v6 =>
        bd1 (fX7_daysToReach v4 p1 v6 u) fun v8 =>
        some v8
      else
        some (-1)
set_option maxHeartbeats 4000000 in
set_option maxRecDepth 100000 in
theorem mX7_reach (w : Wc) {p0 : Int32} {p1 : Int32}  {u : Um} {r : Int32} (hf : fX7_reach p0 p1 u = some r) : MC w 4 qX7_reach [.ref 0, .int p0, .int p1] u (some (.int r)) u := by
  unfold fX7_reach at hf
  refine MC_intro pnX7 (Nat.le_of_ble_eq_true rfl) (fun X hX hR _ _ => ?_)
  have hX : OKc w X RX7 cX7_reach 4 := hX
  have hR : RT w X (some .int) 0 0 Pst 133 false (some (.int r)) u := hR
  refine G_eql (lv' := [some (.ref 0), some (.int p0), some (.int p1)]) rfl ?_
  refine G_aload_n hX dX7_reach_0 rfl ?_
  refine G_getR (i := 1) (t := 3) hX kK0 (Nat.le_of_ble_eq_true rfl) (Nat.le_of_ble_eq_true rfl) rfl pK0_1 flX7_19 dX7_reach_1 ?_
  refine G_iload_n hX dX7_reach_4 rfl ?_
  obtain ⟨v2, h1, hf⟩ := bd1_some hf
  refine G_cV (as := [.int p0]) (rest := []) hX cvX7_90 (mX0_hasPerson w kK3 h1) (Nat.le_of_ble_eq_true rfl) kK3 (Nat.le_of_ble_eq_true rfl) (Nat.le_of_ble_eq_true rfl) rfl rfl (Nat.le_of_ble_eq_true rfl) dX7_reach_5 (st' := [.int v2]) rfl ?_
  refine G_if_eq (tgt := 21) hX dX7_reach_8 rfl hf (fun hf => ?_) (fun hf => ?_)
  · refine G_iconst (v := (-1)) hX dX7_reach_21 rfl ?_
    obtain rfl := Option.some.inj hf
    exact G_iret hX hR dX7_reach_22
  · refine G_iload_n hX dX7_reach_11 rfl ?_
    refine G_if_lt (tgt := 21) hX dX7_reach_12 rfl hf (fun hf => ?_) (fun hf => ?_)
    · refine G_iconst (v := (-1)) hX dX7_reach_21 rfl ?_
      obtain rfl := Option.some.inj hf
      exact G_iret hX hR dX7_reach_22
    · refine G_iload_n hX dX7_reach_15 rfl ?_
      refine G_bipush (v := 9) hX dX7_reach_16 rfl ?_
      refine G_icmp_le (tgt := 23) hX dX7_reach_18 rfl hf (fun hf => ?_) (fun hf => ?_)
      · refine G_aload_n hX dX7_reach_23 rfl ?_
        refine G_getR (i := 1) (t := 3) hX kK0 (Nat.le_of_ble_eq_true rfl) (Nat.le_of_ble_eq_true rfl) rfl pK0_1 flX7_19 dX7_reach_24 ?_
        refine G_iload_n hX dX7_reach_27 rfl ?_
        refine G_iconst (v := 4) hX dX7_reach_28 rfl ?_
        obtain ⟨v4, h3, hf⟩ := bd1_some hf
        refine G_cV (as := [.int p0, .int 4]) (rest := []) hX cvX7_93 (mX0_trait w kK3 h3) (Nat.le_of_ble_eq_true rfl) kK3 (Nat.le_of_ble_eq_true rfl) (Nat.le_of_ble_eq_true rfl) rfl rfl (Nat.le_of_ble_eq_true rfl) dX7_reach_29 (st' := [.int v4]) rfl ?_
        refine G_iload_n hX dX7_reach_32 rfl ?_
        refine G_aload_n hX dX7_reach_33 rfl ?_
        refine G_getR (i := 1) (t := 3) hX kK0 (Nat.le_of_ble_eq_true rfl) (Nat.le_of_ble_eq_true rfl) rfl pK0_1 flX7_19 dX7_reach_34 ?_
        obtain ⟨v6, h5, hf⟩ := bd1_some hf
        refine G_cV (as := []) (rest := [.int p1, .int v4]) hX cvX7_118 (mX0_day w kK3 h5) (Nat.le_of_ble_eq_true rfl) kK3 (Nat.le_of_ble_eq_true rfl) (Nat.le_of_ble_eq_true rfl) rfl rfl (Nat.le_of_ble_eq_true rfl) dX7_reach_37 (st' := [.int v6, .int p1, .int v4]) rfl ?_
        obtain ⟨v8, h7, hf⟩ := bd1_some hf
        refine G_cS (as := [.int v4, .int p1, .int v6]) (rest := []) hX csX7_177 (mX7_daysToReach w h7) (Nat.le_of_ble_eq_true rfl) rfl rfl (Nat.le_of_ble_eq_true rfl) dX7_reach_40 (st' := [.int v8]) rfl ?_
        obtain rfl := Option.some.inj hf
        exact G_iret hX hR dX7_reach_43
      · refine G_iconst (v := (-1)) hX dX7_reach_21 rfl ?_
        obtain rfl := Option.some.inj hf
        exact G_iret hX hR dX7_reach_22
noncomputable def fX4_gainOf (p0 : Nat) (p1 : Int32) (u : Um) : Option Int32 :=
  if p1 = 99 then
    some 0
  else
    bd1 (fX0_mayCarry p0 (p1 / 10) (irm p1 10) u) fun v2 =>
    if v2 = 0 then
      some (-1)
    else
      bd1 (fX0_outcome p0 (p1 / 10) (irm p1 10) u) fun v4 =>
      if v4 ≤ 0 then
        some 0
      else
        some 1
set_option maxHeartbeats 4000000 in
set_option maxRecDepth 100000 in
theorem mX4_gainOf (w : Wc) {p0 : Nat} {p1 : Int32} (hp0 : kd p0 = 0) {u : Um} {r : Int32} (hf : fX4_gainOf p0 p1 u = some r) : MC w 5 qX4_gainOf [.ref p0, .int p1] u (some (.int r)) u := by
  unfold fX4_gainOf at hf
  refine MC_intro pnX4 (Nat.le_of_ble_eq_true rfl) (fun X hX hR _ _ => ?_)
  have hX : OKc w X RX4 cX4_gainOf 5 := hX
  have hR : RT w X (some .int) 0 0 Pst 133 false (some (.int r)) u := hR
  refine G_eql (lv' := [some (.ref p0), some (.int p1)]) rfl ?_
  refine G_iload_n hX dX4_gainOf_0 rfl ?_
  refine G_bipush (v := 99) hX dX4_gainOf_1 rfl ?_
  refine G_icmp_ne (tgt := 8) hX dX4_gainOf_3 rfl hf (fun hf => ?_) (fun hf => ?_)
  · refine G_aload_n hX dX4_gainOf_8 rfl ?_
    refine G_iload_n hX dX4_gainOf_9 rfl ?_
    refine G_bipush (v := 10) hX dX4_gainOf_10 rfl ?_
    refine G_idiv hX dX4_gainOf_12 (by decide) ?_
    refine G_iload_n hX dX4_gainOf_13 rfl ?_
    refine G_bipush (v := 10) hX dX4_gainOf_14 rfl ?_
    refine G_irem hX dX4_gainOf_16 (by decide) ?_
    obtain ⟨v2, h1, hf⟩ := bd1_some hf
    refine G_cV (as := [.int (p1 / 10), .int (irm p1 10)]) (rest := []) hX cvX4_49 (mX0_mayCarry w hp0 h1) (Nat.le_of_ble_eq_true rfl) hp0 (Nat.le_of_ble_eq_true rfl) (kd_lt hp0 (Nat.le_of_ble_eq_true rfl)) rfl rfl (Nat.le_of_ble_eq_true rfl) dX4_gainOf_17 (st' := [.int v2]) rfl ?_
    refine G_if_ne (tgt := 25) hX dX4_gainOf_20 rfl hf (fun hf => ?_) (fun hf => ?_)
    · refine G_aload_n hX dX4_gainOf_25 rfl ?_
      refine G_iload_n hX dX4_gainOf_26 rfl ?_
      refine G_bipush (v := 10) hX dX4_gainOf_27 rfl ?_
      refine G_idiv hX dX4_gainOf_29 (by decide) ?_
      refine G_iload_n hX dX4_gainOf_30 rfl ?_
      refine G_bipush (v := 10) hX dX4_gainOf_31 rfl ?_
      refine G_irem hX dX4_gainOf_33 (by decide) ?_
      obtain ⟨v4, h3, hf⟩ := bd1_some hf
      refine G_cV (as := [.int (p1 / 10), .int (irm p1 10)]) (rest := []) hX cvX4_53 (mX0_outcome w hp0 h3) (Nat.le_of_ble_eq_true rfl) hp0 (Nat.le_of_ble_eq_true rfl) (kd_lt hp0 (Nat.le_of_ble_eq_true rfl)) rfl rfl (Nat.le_of_ble_eq_true rfl) dX4_gainOf_34 (st' := [.int v4]) rfl ?_
      refine G_if_le (tgt := 44) hX dX4_gainOf_37 rfl hf (fun hf => ?_) (fun hf => ?_)
      · refine G_iconst (v := 0) hX dX4_gainOf_44 rfl ?_
        obtain rfl := Option.some.inj hf
        exact G_iret hX hR dX4_gainOf_45
      · refine G_iconst (v := 1) hX dX4_gainOf_40 rfl ?_
        refine G_goto (tgt := 45) hX dX4_gainOf_41 rfl ?_
        obtain rfl := Option.some.inj hf
        exact G_iret hX hR dX4_gainOf_45
    · refine G_iconst (v := (-1)) hX dX4_gainOf_23 rfl ?_
      obtain rfl := Option.some.inj hf
      exact G_iret hX hR dX4_gainOf_24
  · refine G_iconst (v := 0) hX dX4_gainOf_6 rfl ?_
    obtain rfl := Option.some.inj hf
    exact G_iret hX hR dX4_gainOf_7
noncomputable def fX4_bestBehind_L0_j72 (p0 : Nat) (p1 : Int32) (p2 : Int32) (p3 : Int32) (j5 : Nat) (u : Um) : Option (Int32 × Um) :=
  none
set_option maxHeartbeats 4000000 in
set_option maxRecDepth 100000 in
theorem tX4_bestBehind_L0_j72 {w : Wc} {X : MX} (hX : OKc w X RX4 cX4_bestBehind 6) {p0 : Nat} {p1 : Int32} {p2 : Int32} {p3 : Int32} {j5 : Nat} (hp0 : kd p0 = 0) (hj5 : kd j5 = 0) {u : Um} {r : Int32} {u' : Um} (hR : RT w X (some .int) 0 0 Pst 133 false (some (.int r)) u') (hf : fX4_bestBehind_L0_j72 p0 p1 p2 p3 j5 u = some (r, u')) : G w X Zm 72 [some (.ref 103), none, none, some (.int p2), some (.int p3), some (.ref j5)] [] u := by
  unfold fX4_bestBehind_L0_j72 at hf
  refine G_aload_n hX dX4_bestBehind_72 rfl ?_
  refine G_aload hX dX4_bestBehind_73 rfl ?_
  refine G_iload_n hX dX4_bestBehind_75 rfl ?_
  refine G_iconst (v := 1) hX dX4_bestBehind_76 rfl ?_
  refine G_iadd hX dX4_bestBehind_77 ?_
  refine G_iload hX dX4_bestBehind_78 rfl ?_
  refine G_iconst (v := 1) hX dX4_bestBehind_80 rfl ?_
  refine G_isub hX dX4_bestBehind_81 ?_
  cases hf
noncomputable def fX4_bestBehind_L0_j23 (p0 : Nat) (p1 : Int32) (p2 : Int32) (p3 : Int32) (z0 : Option Nat) (u : Um) : Option (Int32 × Um) :=
  spl z0 0
    (if p3 ≤ 1 then
      some (0, u)
    else
      some (0, u))
  (fun x1 =>
    if p3 ≤ 1 then
      some (0, u)
    else
      bd1 (fX0_copyFrom x1 p0 u) fun u4 =>
      if p1 = 99 then
        bd1 (fX0_nextDay x1 u4) fun u9 =>
        fX4_bestBehind_L0_j72 p0 p1 p2 p3 x1 u9
      else
        bd2 (fX0_deliver x1 (p1 / 10) (irm p1 10) u4) fun v6 u7 =>
        fX4_bestBehind_L0_j72 p0 p1 p2 p3 x1 u7)
set_option maxHeartbeats 4000000 in
set_option maxRecDepth 100000 in
theorem tX4_bestBehind_L0_j23 {w : Wc} {X : MX} (hX : OKc w X RX4 cX4_bestBehind 6) {p0 : Nat} {p1 : Int32} {p2 : Int32} {p3 : Int32} {z0 : Option Nat} (hp0 : kd p0 = 0) {u : Um} {r : Int32} {u' : Um} (hR : RT w X (some .int) 0 0 Pst 133 false (some (.int r)) u') (hf : fX4_bestBehind_L0_j23 p0 p1 p2 p3 z0 u = some (r, u')) : G w X Zm 23 [some (.ref 103), some (.ref p0), some (.int p1), some (.int p2), some (.int p3), none] [va_rf z0] u := by
  unfold fX4_bestBehind_L0_j23 at hf
  cases z0 with
  | none =>
    replace hf := spl_none hf
    refine G_eql (lv' := [some (.ref 103), some (.ref p0), some (.int p1), some (.int p2), some (.int p3), none]) rfl ?_
    refine G_eqs (st2 := [.null]) rfl ?_
    refine G_astoreN (lv' := [some (.ref 103), some (.ref p0), some (.int p1), some (.int p2), some (.int p3), some (.null)]) hX dX4_bestBehind_23 rfl (Nat.le_of_ble_eq_true rfl) rfl ?_
    refine G_iload hX dX4_bestBehind_25 rfl ?_
    refine G_iconst (v := 1) hX dX4_bestBehind_27 rfl ?_
    refine G_icmp_le (tgt := 36) hX dX4_bestBehind_28 rfl hf (fun hf => ?_) (fun hf => ?_)
    · refine G_iconst (v := 0) hX dX4_bestBehind_36 rfl ?_
      obtain ⟨rfl, rfl⟩ := ret2 hf
      exact G_iret hX hR dX4_bestBehind_37
    · refine G_aloadN hX dX4_bestBehind_31 rfl ?_
      refine G_ifnonnullN hX dX4_bestBehind_33 ?_
      refine G_iconst (v := 0) hX dX4_bestBehind_36 rfl ?_
      obtain ⟨rfl, rfl⟩ := ret2 hf
      exact G_iret hX hR dX4_bestBehind_37
  | some x1 =>
    obtain ⟨h2, hf⟩ := spl_some hf
    refine G_eql (lv' := [some (.ref 103), some (.ref p0), some (.int p1), some (.int p2), some (.int p3), none]) rfl ?_
    refine G_eqs (st2 := [.ref x1]) rfl ?_
    refine G_astore (lv' := [some (.ref 103), some (.ref p0), some (.int p1), some (.int p2), some (.int p3), some (.ref x1)]) hX dX4_bestBehind_23 rfl (Nat.le_of_ble_eq_true rfl) rfl ?_
    refine G_iload hX dX4_bestBehind_25 rfl ?_
    refine G_iconst (v := 1) hX dX4_bestBehind_27 rfl ?_
    refine G_icmp_le (tgt := 36) hX dX4_bestBehind_28 rfl hf (fun hf => ?_) (fun hf => ?_)
    · refine G_iconst (v := 0) hX dX4_bestBehind_36 rfl ?_
      obtain ⟨rfl, rfl⟩ := ret2 hf
      exact G_iret hX hR dX4_bestBehind_37
    · refine G_aload hX dX4_bestBehind_31 rfl ?_
      refine G_ifnonnull (tgt := 38) hX dX4_bestBehind_33 rfl ?_
      refine G_aload hX dX4_bestBehind_38 rfl ?_
      refine G_aload_n hX dX4_bestBehind_40 rfl ?_
      obtain ⟨u4, h3, hf⟩ := bd1_some hf
      refine G_cV (as := [.ref p0]) (rest := []) hX cvX4_34 (mX0_copyFrom w h2 hp0 h3) (Nat.le_of_ble_eq_true rfl) h2 (Nat.le_of_ble_eq_true rfl) (kd_lt h2 (Nat.le_of_ble_eq_true rfl)) rfl rfl (Nat.le_of_ble_eq_true rfl) dX4_bestBehind_41 (st' := []) rfl ?_
      refine G_iload_n hX dX4_bestBehind_44 rfl ?_
      refine G_bipush (v := 99) hX dX4_bestBehind_45 rfl ?_
      refine G_icmp_ne (tgt := 58) hX dX4_bestBehind_47 rfl hf (fun hf => ?_) (fun hf => ?_)
      · refine G_aload hX dX4_bestBehind_58 rfl ?_
        refine G_iload_n hX dX4_bestBehind_60 rfl ?_
        refine G_bipush (v := 10) hX dX4_bestBehind_61 rfl ?_
        refine G_idiv hX dX4_bestBehind_63 (by decide) ?_
        refine G_iload_n hX dX4_bestBehind_64 rfl ?_
        refine G_bipush (v := 10) hX dX4_bestBehind_65 rfl ?_
        refine G_irem hX dX4_bestBehind_67 (by decide) ?_
        obtain ⟨v6, u7, h5, hf⟩ := bd2_some hf
        refine G_cV (as := [.int (p1 / 10), .int (irm p1 10)]) (rest := []) hX cvX4_41 (mX0_deliver w h2 h5) (Nat.le_of_ble_eq_true rfl) h2 (Nat.le_of_ble_eq_true rfl) (kd_lt h2 (Nat.le_of_ble_eq_true rfl)) rfl rfl (Nat.le_of_ble_eq_true rfl) dX4_bestBehind_68 (st' := [.int v6]) rfl ?_
        refine G_pop hX dX4_bestBehind_71 rfl ?_
        refine G_mask (lv' := [some (.ref 103), none, none, some (.int p2), some (.int p3), some (.ref x1)]) [true, false, false, true, true, true] rfl rfl ?_
        exact tX4_bestBehind_L0_j72 hX hp0 h2 hR hf
      · refine G_aload hX dX4_bestBehind_50 rfl ?_
        obtain ⟨u9, h8, hf⟩ := bd1_some hf
        refine G_cV (as := []) (rest := []) hX cvX4_38 (mX0_nextDay w h2 h8) (Nat.le_of_ble_eq_true rfl) h2 (Nat.le_of_ble_eq_true rfl) (kd_lt h2 (Nat.le_of_ble_eq_true rfl)) rfl rfl (Nat.le_of_ble_eq_true rfl) dX4_bestBehind_52 (st' := []) rfl ?_
        refine G_goto (tgt := 72) hX dX4_bestBehind_55 rfl ?_
        refine G_mask (lv' := [some (.ref 103), none, none, some (.int p2), some (.int p3), some (.ref x1)]) [true, false, false, true, true, true] rfl rfl ?_
        exact tX4_bestBehind_L0_j72 hX hp0 h2 hR hf
noncomputable def fX4_bestBehind_L0_j13 (p0 : Nat) (p1 : Int32) (p2 : Int32) (p3 : Int32) (u : Um) : Option (Int32 × Um) :=
  fX4_bestBehind_L0_j23 p0 p1 p2 p3 none u
set_option maxHeartbeats 4000000 in
set_option maxRecDepth 100000 in
theorem tX4_bestBehind_L0_j13 {w : Wc} {X : MX} (hX : OKc w X RX4 cX4_bestBehind 6) {p0 : Nat} {p1 : Int32} {p2 : Int32} {p3 : Int32} (hp0 : kd p0 = 0) {u : Um} {r : Int32} {u' : Um} (hR : RT w X (some .int) 0 0 Pst 133 false (some (.int r)) u') (hf : fX4_bestBehind_L0_j13 p0 p1 p2 p3 u = some (r, u')) : G w X Zm 13 [some (.ref 103), some (.ref p0), some (.int p1), some (.int p2), some (.int p3), none] [] u := by
  unfold fX4_bestBehind_L0_j13 at hf
  refine G_null hX dX4_bestBehind_13 ?_
  refine G_goto (tgt := 23) hX dX4_bestBehind_14 rfl ?_
  refine G_mask (lv' := [some (.ref 103), some (.ref p0), some (.int p1), some (.int p2), some (.int p3), none]) [true, true, true, true, true, false] rfl rfl ?_
  exact tX4_bestBehind_L0_j23 hX hp0 hR hf
noncomputable def fX4_bestBehind_L0 (p0 : Nat) (p1 : Int32) (p2 : Int32) (p3 : Int32) (u : Um) : Option (Int32 × Um) :=
  if p2 < 0 then
    fX4_bestBehind_L0_j13 p0 p1 p2 p3 u
  else
    if p2 < 3 then
      if inb p2 3 = true then
      fX4_bestBehind_L0_j23 p0 p1 p2 p3 (some (105 + 3 * p2.toNatClampNeg)) u
      else none
    else
      fX4_bestBehind_L0_j13 p0 p1 p2 p3 u
abbrev qX4_bestBehind_L0 : MI := (yX4_bestBehind, cX4_bestBehind, 6, (some .int))
set_option maxHeartbeats 4000000 in
set_option maxRecDepth 100000 in
theorem mX4_bestBehind_L0 (w : Wc) {p0 : Nat} {p1 : Int32} {p2 : Int32} {p3 : Int32} (hp0 : kd p0 = 0) {u : Um} {r : Int32} {u' : Um} (hf : fX4_bestBehind_L0 p0 p1 p2 p3 u = some (r, u')) : MC w 6 qX4_bestBehind_L0 [.ref 103, .ref p0, .int p1, .int p2, .int p3] u (some (.int r)) u' := by
  unfold fX4_bestBehind_L0 at hf
  refine MC_intro pnX4 (Nat.le_of_ble_eq_true rfl) (fun X hX hR _ _ => ?_)
  have hX : OKc w X RX4 cX4_bestBehind 6 := hX
  have hR : RT w X (some .int) 0 0 Pst 133 false (some (.int r)) u' := hR
  refine G_eql (lv' := [some (.ref 103), some (.ref p0), some (.int p1), some (.int p2), some (.int p3), none]) rfl ?_
  refine G_iload_n hX dX4_bestBehind_0 rfl ?_
  refine G_if_lt (tgt := 13) hX dX4_bestBehind_1 rfl hf (fun hf => ?_) (fun hf => ?_)
  · refine G_mask (lv' := [some (.ref 103), some (.ref p0), some (.int p1), some (.int p2), some (.int p3), none]) [true, true, true, true, true, false] rfl rfl ?_
    exact tX4_bestBehind_L0_j13 hX hp0 hR hf
  · refine G_iload_n hX dX4_bestBehind_4 rfl ?_
    refine G_aload_n hX dX4_bestBehind_5 rfl ?_
    refine G_getR (i := 0) (t := 104) hX kK103 (Nat.le_of_ble_eq_true rfl) (Nat.le_of_ble_eq_true rfl) rfl pK103_0 flX4_12 dX4_bestBehind_6 ?_
    refine G_alenC (n := 3) (v := 3) hX kK104 lK104 (Nat.le_of_ble_eq_true rfl) dX4_bestBehind_9 rfl ?_
    refine G_icmp_lt (tgt := 17) hX dX4_bestBehind_10 rfl hf (fun hf => ?_) (fun hf => ?_)
    · refine G_aload_n hX dX4_bestBehind_17 rfl ?_
      refine G_getR (i := 0) (t := 104) hX kK103 (Nat.le_of_ble_eq_true rfl) (Nat.le_of_ble_eq_true rfl) rfl pK103_0 flX4_12 dX4_bestBehind_18 ?_
      refine G_iload_n hX dX4_bestBehind_21 rfl ?_
      refine G_aaldC (n := 3) (t := (105 + 3 * p2.toNatClampNeg)) hX kK104 lK104 (Nat.le_of_ble_eq_true rfl) (PaC kK104 lK104) dX4_bestBehind_22 hf (fun hf => ?_)
      refine G_mask (lv' := [some (.ref 103), some (.ref p0), some (.int p1), some (.int p2), some (.int p3), none]) [true, true, true, true, true, false] rfl rfl ?_
      exact tX4_bestBehind_L0_j23 hX hp0 hR hf
    · refine G_mask (lv' := [some (.ref 103), some (.ref p0), some (.int p1), some (.int p2), some (.int p3), none]) [true, true, true, true, true, false] rfl rfl ?_
      exact tX4_bestBehind_L0_j13 hX hp0 hR hf
noncomputable def fX4_keep (p0 : Int32) (p1 : Int32) (u : Um) : Option Um :=
  nm (p0 * 3) fun v1 =>
  nm (v1 + 3) fun v2 =>
  if v1 < 0 then
    some u
  else
    if (v2 + 3) ≤ 12 then
      if inb v1 12 = true then
      nm (sI u 114 v1.toNatClampNeg p1) fun u3 =>
      if cpOk v2 (v1 + 1) 2 12 12 = true then
      nm (sIr u3 114 (va_cpy (u3.1 114) (u3.1 114) v2.toNatClampNeg (v1 + 1).toNatClampNeg (2 : Int32).toNatClampNeg)) fun u4 =>
      some u4
      else none
      else none
    else
      some u
set_option maxHeartbeats 4000000 in
set_option maxRecDepth 100000 in
theorem mX4_keep (w : Wc) {p0 : Int32} {p1 : Int32}  {u : Um} {u' : Um} (hf : fX4_keep p0 p1 u = some u') : MC w 1 qX4_keep [.ref 103, .int p0, .int p1] u none u' := by
  unfold fX4_keep at hf
  refine MC_intro pnX4 (Nat.le_of_ble_eq_true rfl) (fun X hX hR _ _ => ?_)
  have hX : OKc w X RX4 cX4_keep 1 := hX
  have hR : RT w X none 0 0 Pst 133 false none u' := hR
  refine G_eql (lv' := [some (.ref 103), some (.int p0), some (.int p1), none, none]) rfl ?_
  refine G_iload_n hX dX4_keep_0 rfl ?_
  refine G_iconst (v := 3) hX dX4_keep_1 rfl ?_
  refine G_imul hX dX4_keep_2 ?_
  refine G_istore_nF (lvf := fun v1 => [some (.ref 103), some (.int p0), some (.int p1), some (.int v1), none]) hX dX4_keep_3 rfl (Nat.le_of_ble_eq_true rfl) (fun _ => rfl) hf (fun v1 hf => ?_)
  refine G_iload_n hX dX4_keep_4 rfl ?_
  refine G_iconst (v := 3) hX dX4_keep_5 rfl ?_
  refine G_iadd hX dX4_keep_6 ?_
  refine G_istoreF (lvf := fun v2 => [some (.ref 103), some (.int p0), some (.int p1), some (.int v1), some (.int v2)]) hX dX4_keep_7 rfl (Nat.le_of_ble_eq_true rfl) (fun _ => rfl) hf (fun v2 hf => ?_)
  refine G_iload_n hX dX4_keep_9 rfl ?_
  refine G_if_lt (tgt := 25) hX dX4_keep_10 rfl hf (fun hf => ?_) (fun hf => ?_)
  · obtain rfl := Option.some.inj hf
    exact G_vret hX hR dX4_keep_25
  · refine G_iload hX dX4_keep_13 rfl ?_
    refine G_iconst (v := 3) hX dX4_keep_15 rfl ?_
    refine G_iadd hX dX4_keep_16 ?_
    refine G_aload_n hX dX4_keep_17 rfl ?_
    refine G_getR (i := 1) (t := 114) hX kK103 (Nat.le_of_ble_eq_true rfl) (Nat.le_of_ble_eq_true rfl) rfl pK103_1 flX4_18 dX4_keep_18 ?_
    refine G_alenI (n := 12) (v := 12) hX kK114 lK114 (Nat.le_of_ble_eq_true rfl) dX4_keep_21 rfl ?_
    refine G_icmp_le (tgt := 26) hX dX4_keep_22 rfl hf (fun hf => ?_) (fun hf => ?_)
    · refine G_aload_n hX dX4_keep_26 rfl ?_
      refine G_getR (i := 1) (t := 114) hX kK103 (Nat.le_of_ble_eq_true rfl) (Nat.le_of_ble_eq_true rfl) rfl pK103_1 flX4_18 dX4_keep_27 ?_
      refine G_iload_n hX dX4_keep_30 rfl ?_
      refine G_iload_n hX dX4_keep_31 rfl ?_
      refine G_iast (n := 12) hX kK114 lK114 (Nat.le_of_ble_eq_true rfl) rfl dX4_keep_32 hf (fun u3 hf => ?_)
      refine G_aload_n hX dX4_keep_33 rfl ?_
      refine G_getR (i := 1) (t := 114) hX kK103 (Nat.le_of_ble_eq_true rfl) (Nat.le_of_ble_eq_true rfl) rfl pK103_1 flX4_18 dX4_keep_34 ?_
      refine G_iload hX dX4_keep_37 rfl ?_
      refine G_aload_n hX dX4_keep_39 rfl ?_
      refine G_getR (i := 1) (t := 114) hX kK103 (Nat.le_of_ble_eq_true rfl) (Nat.le_of_ble_eq_true rfl) rfl pK103_1 flX4_18 dX4_keep_40 ?_
      refine G_iload_n hX dX4_keep_43 rfl ?_
      refine G_iconst (v := 1) hX dX4_keep_44 rfl ?_
      refine G_iadd hX dX4_keep_45 ?_
      refine G_iconst (v := 2) hX dX4_keep_46 rfl ?_
      refine G_copyI (n0 := 12) (n1 := 12) hX caX4_56 kK114 lK114 (Nat.le_of_ble_eq_true rfl) kK114 lK114 (Nat.le_of_ble_eq_true rfl) rfl (Nat.le_of_ble_eq_true rfl) (Nat.le_of_ble_eq_true rfl) dX4_keep_47 hf (fun u4 hf => ?_)
      obtain rfl := Option.some.inj hf
      exact G_vret hX hR dX4_keep_50
    · obtain rfl := Option.some.inj hf
      exact G_vret hX hR dX4_keep_25
noncomputable def fX4_bestFrom_L0_j94 (p0 : Nat) (p1 : Int32) (p2 : Int32) (j4 : Int32) (j5 : Int32) (u : Um) : Option (Nat × Int32 × Int32 × Um) :=
  nm (j5 + 1) fun v3 =>
  some (0, j4, v3, u)
set_option maxHeartbeats 4000000 in
set_option maxRecDepth 100000 in
theorem tX4_bestFrom_L0_j94 {w : Wc} {X : MX} (hX : OKc w X RX4 cX4_bestFrom 7) {p0 : Nat} {p1 : Int32} {p2 : Int32} {j4 : Int32} {j5 : Int32} (hp0 : kd p0 = 0)  {u : Um} {e : Nat} {s' : Int32 × Int32 × Um} (K0 : e = 0 → G w X Zm 22 [some (.ref 103), some (.ref p0), some (.int p1), some (.int p2), some (.int s'.1), some (.int s'.2.1), none, none] [] s'.2.2) (K1 : e ≠ 0 → G w X Zm 100 [none, none, none, none, some (.int s'.1), none, none, none] [] s'.2.2) (hf : fX4_bestFrom_L0_j94 p0 p1 p2 j4 j5 u = some (e, s')) : G w X Zm 94 [some (.ref 103), some (.ref p0), some (.int p1), some (.int p2), some (.int j4), some (.int j5), none, none] [] u := by
  unfold fX4_bestFrom_L0_j94 at hf
  refine G_iincF (lvf := fun v3 => [some (.ref 103), some (.ref p0), some (.int p1), some (.int p2), some (.int j4), some (.int v3), none, none]) hX dX4_bestFrom_94 rfl rfl rfl (Nat.le_of_ble_eq_true rfl) (fun _ => rfl) hf (fun v3 hf => ?_)
  refine G_goto (tgt := 22) hX dX4_bestFrom_97 rfl ?_
  obtain ⟨rfl, rfl⟩ := ret2 hf
  refine G_mask (lv' := [some (.ref 103), some (.ref p0), some (.int p1), some (.int p2), some (.int j4), some (.int v3), none, none]) [true, true, true, true, true, true, false, false] rfl rfl ?_
  exact K0 rfl
noncomputable def fX4_bestFrom_L0_b22 (p0 : Nat) (p1 : Int32) (p2 : Int32) (s4 : Int32) (s5 : Int32) (u : Um) : Option (Nat × Int32 × Int32 × Um) :=
  if 99 < s5 then
    some (1, s4, s5, u)
  else
    if p2 ≤ s4 then
      some (1, s4, s5, u)
    else
      bd1 (fX4_gainOf p0 s5 u) fun v2 =>
      if v2 < 0 then
        fX4_bestFrom_L0_j94 p0 p1 p2 s4 s5 u
      else
        if s4 < ((v2 + p2) - 1) then
          bd2 (fX4_bestBehind_L0 p0 s5 p1 p2 u) fun v5 u6 =>
          nm (v2 + v5) fun v7 =>
          if v7 ≤ s4 then
            fX4_bestFrom_L0_j94 p0 p1 p2 s4 s5 u6
          else
            bd1 (fX4_keep p1 s5 u6) fun u9 =>
            fX4_bestFrom_L0_j94 p0 p1 p2 v7 s5 u9
        else
          fX4_bestFrom_L0_j94 p0 p1 p2 s4 s5 u
set_option maxHeartbeats 4000000 in
set_option maxRecDepth 100000 in
theorem tX4_bestFrom_L0_b22 {w : Wc} {X : MX} (hX : OKc w X RX4 cX4_bestFrom 7) {p0 : Nat} {p1 : Int32} {p2 : Int32} (hp0 : kd p0 = 0) {s : Int32 × Int32 × Um} {e : Nat} {s' : Int32 × Int32 × Um} (hf : fX4_bestFrom_L0_b22 p0 p1 p2 s.1 s.2.1 s.2.2 = some (e, s')) (K0 : e = 0 → G w X Zm 22 [some (.ref 103), some (.ref p0), some (.int p1), some (.int p2), some (.int s'.1), some (.int s'.2.1), none, none] [] s'.2.2) (K1 : e ≠ 0 → G w X Zm 100 [none, none, none, none, some (.int s'.1), none, none, none] [] s'.2.2) : G w X Zm 22 [some (.ref 103), some (.ref p0), some (.int p1), some (.int p2), some (.int s.1), some (.int s.2.1), none, none] [] s.2.2 := by
  obtain ⟨s4, s5, u⟩ := s
  unfold fX4_bestFrom_L0_b22 at hf
  try dsimp only at hf ⊢
  refine G_iload hX dX4_bestFrom_22 rfl ?_
  refine G_bipush (v := 99) hX dX4_bestFrom_24 rfl ?_
  refine G_icmp_gt (tgt := 100) hX dX4_bestFrom_26 rfl hf (fun hf => ?_) (fun hf => ?_)
  · obtain ⟨rfl, rfl⟩ := ret2 hf
    refine G_mask (lv' := [none, none, none, none, some (.int s4), none, none, none]) [false, false, false, false, true, false, false, false] rfl rfl ?_
    exact K1 (by decide)
  · refine G_iload hX dX4_bestFrom_29 rfl ?_
    refine G_iload_n hX dX4_bestFrom_31 rfl ?_
    refine G_icmp_ge (tgt := 100) hX dX4_bestFrom_32 rfl hf (fun hf => ?_) (fun hf => ?_)
    · obtain ⟨rfl, rfl⟩ := ret2 hf
      refine G_mask (lv' := [none, none, none, none, some (.int s4), none, none, none]) [false, false, false, false, true, false, false, false] rfl rfl ?_
      exact K1 (by decide)
    · refine G_aload_n hX dX4_bestFrom_35 rfl ?_
      refine G_iload hX dX4_bestFrom_36 rfl ?_
      obtain ⟨v2, h1, hf⟩ := bd1_some hf
      refine G_cS (as := [.ref p0, .int s5]) (rest := []) hX csX4_22 (mX4_gainOf w hp0 h1) (Nat.le_of_ble_eq_true rfl) rfl rfl (Nat.le_of_ble_eq_true rfl) dX4_bestFrom_38 (st' := [.int v2]) rfl ?_
      refine G_istore (lv' := [some (.ref 103), some (.ref p0), some (.int p1), some (.int p2), some (.int s4), some (.int s5), some (.int v2), none]) hX dX4_bestFrom_41 rfl (Nat.le_of_ble_eq_true rfl) rfl ?_
      refine G_iload hX dX4_bestFrom_43 rfl ?_
      refine G_if_lt (tgt := 94) hX dX4_bestFrom_45 rfl hf (fun hf => ?_) (fun hf => ?_)
      · refine G_mask (lv' := [some (.ref 103), some (.ref p0), some (.int p1), some (.int p2), some (.int s4), some (.int s5), none, none]) [true, true, true, true, true, true, false, false] rfl rfl ?_
        exact tX4_bestFrom_L0_j94 hX hp0 K0 K1 hf
      · refine G_iload hX dX4_bestFrom_48 rfl ?_
        refine G_iload_n hX dX4_bestFrom_50 rfl ?_
        refine G_iadd hX dX4_bestFrom_51 ?_
        refine G_iconst (v := 1) hX dX4_bestFrom_52 rfl ?_
        refine G_isub hX dX4_bestFrom_53 ?_
        refine G_iload hX dX4_bestFrom_54 rfl ?_
        refine G_icmp_gt (tgt := 62) hX dX4_bestFrom_56 rfl hf (fun hf => ?_) (fun hf => ?_)
        · refine G_iload hX dX4_bestFrom_62 rfl ?_
          refine G_aload_n hX dX4_bestFrom_64 rfl ?_
          refine G_aload_n hX dX4_bestFrom_65 rfl ?_
          refine G_iload hX dX4_bestFrom_66 rfl ?_
          refine G_iload_n hX dX4_bestFrom_68 rfl ?_
          refine G_iload_n hX dX4_bestFrom_69 rfl ?_
          obtain ⟨v5, u6, h4, hf⟩ := bd2_some hf
          refine G_cV (as := [.ref p0, .int s5, .int p1, .int p2]) (rest := [.int v2]) hX cvX4_26 (mX4_bestBehind_L0 w hp0 h4) (Nat.le_of_ble_eq_true rfl) kK103 (Nat.le_of_ble_eq_true rfl) (Nat.le_of_ble_eq_true rfl) rfl rfl (Nat.le_of_ble_eq_true rfl) dX4_bestFrom_70 (st' := [.int v5, .int v2]) rfl ?_
          refine G_iadd hX dX4_bestFrom_73 ?_
          refine G_istoreF (lvf := fun v7 => [some (.ref 103), some (.ref p0), some (.int p1), some (.int p2), some (.int s4), some (.int s5), some (.int v2), some (.int v7)]) hX dX4_bestFrom_74 rfl (Nat.le_of_ble_eq_true rfl) (fun _ => rfl) hf (fun v7 hf => ?_)
          refine G_iload hX dX4_bestFrom_76 rfl ?_
          refine G_iload hX dX4_bestFrom_78 rfl ?_
          refine G_icmp_le (tgt := 94) hX dX4_bestFrom_80 rfl hf (fun hf => ?_) (fun hf => ?_)
          · refine G_mask (lv' := [some (.ref 103), some (.ref p0), some (.int p1), some (.int p2), some (.int s4), some (.int s5), none, none]) [true, true, true, true, true, true, false, false] rfl rfl ?_
            exact tX4_bestFrom_L0_j94 hX hp0 K0 K1 hf
          · refine G_iload hX dX4_bestFrom_83 rfl ?_
            refine G_istore (lv' := [some (.ref 103), some (.ref p0), some (.int p1), some (.int p2), some (.int v7), some (.int s5), some (.int v2), some (.int v7)]) hX dX4_bestFrom_85 rfl (Nat.le_of_ble_eq_true rfl) rfl ?_
            refine G_aload_n hX dX4_bestFrom_87 rfl ?_
            refine G_iload_n hX dX4_bestFrom_88 rfl ?_
            refine G_iload hX dX4_bestFrom_89 rfl ?_
            obtain ⟨u9, h8, hf⟩ := bd1_some hf
            refine G_cV (as := [.int p1, .int s5]) (rest := []) hX cvX4_30 (mX4_keep w h8) (Nat.le_of_ble_eq_true rfl) kK103 (Nat.le_of_ble_eq_true rfl) (Nat.le_of_ble_eq_true rfl) rfl rfl (Nat.le_of_ble_eq_true rfl) dX4_bestFrom_91 (st' := []) rfl ?_
            refine G_mask (lv' := [some (.ref 103), some (.ref p0), some (.int p1), some (.int p2), some (.int v7), some (.int s5), none, none]) [true, true, true, true, true, true, false, false] rfl rfl ?_
            exact tX4_bestFrom_L0_j94 hX hp0 K0 K1 hf
        · refine G_goto (tgt := 94) hX dX4_bestFrom_59 rfl ?_
          refine G_mask (lv' := [some (.ref 103), some (.ref p0), some (.int p1), some (.int p2), some (.int s4), some (.int s5), none, none]) [true, true, true, true, true, true, false, false] rfl rfl ?_
          exact tX4_bestFrom_L0_j94 hX hp0 K0 K1 hf
noncomputable def fX4_bestFrom_L0 (p0 : Nat) (p1 : Int32) (p2 : Int32) (u : Um) : Option (Int32 × Um) :=
  if p2 < 1 then
    some (0, u)
  else
    if p1 < 0 then
      some (0, u)
    else
      if p1 < 3 then
        bd4 (lp (fun s => fX4_bestFrom_L0_b22 p0 p1 p2 s.1 s.2.1 s.2.2) fuel (((-1) : Int32), (0 : Int32), u)) fun e13 v10 v11 u12 =>
        some (v10, u12)
      else
        some (0, u)
abbrev qX4_bestFrom_L0 : MI := (yX4_bestFrom, cX4_bestFrom, 8, (some .int))
set_option maxHeartbeats 4000000 in
set_option maxRecDepth 100000 in
theorem mX4_bestFrom_L0 (w : Wc) {p0 : Nat} {p1 : Int32} {p2 : Int32} (hp0 : kd p0 = 0) {u : Um} {r : Int32} {u' : Um} (hf : fX4_bestFrom_L0 p0 p1 p2 u = some (r, u')) : MC w 7 qX4_bestFrom_L0 [.ref 103, .ref p0, .int p1, .int p2] u (some (.int r)) u' := by
  unfold fX4_bestFrom_L0 at hf
  refine MC_intro pnX4 (Nat.le_of_ble_eq_true rfl) (fun X hX hR _ _ => ?_)
  have hX : OKc w X RX4 cX4_bestFrom 7 := hX
  have hR : RT w X (some .int) 0 0 Pst 133 false (some (.int r)) u' := hR
  refine G_eql (lv' := [some (.ref 103), some (.ref p0), some (.int p1), some (.int p2), none, none, none, none]) rfl ?_
  refine G_iload_n hX dX4_bestFrom_0 rfl ?_
  refine G_iconst (v := 1) hX dX4_bestFrom_1 rfl ?_
  refine G_icmp_lt (tgt := 14) hX dX4_bestFrom_2 rfl hf (fun hf => ?_) (fun hf => ?_)
  · refine G_iconst (v := 0) hX dX4_bestFrom_14 rfl ?_
    obtain ⟨rfl, rfl⟩ := ret2 hf
    exact G_iret hX hR dX4_bestFrom_15
  · refine G_iload_n hX dX4_bestFrom_5 rfl ?_
    refine G_if_lt (tgt := 14) hX dX4_bestFrom_6 rfl hf (fun hf => ?_) (fun hf => ?_)
    · refine G_iconst (v := 0) hX dX4_bestFrom_14 rfl ?_
      obtain ⟨rfl, rfl⟩ := ret2 hf
      exact G_iret hX hR dX4_bestFrom_15
    · refine G_iload_n hX dX4_bestFrom_9 rfl ?_
      refine G_iconst (v := 3) hX dX4_bestFrom_10 rfl ?_
      refine G_icmp_lt (tgt := 16) hX dX4_bestFrom_11 rfl hf (fun hf => ?_) (fun hf => ?_)
      · refine G_iconst (v := (-1)) hX dX4_bestFrom_16 rfl ?_
        refine G_istore (lv' := [some (.ref 103), some (.ref p0), some (.int p1), some (.int p2), some (.int (-1)), none, none, none]) hX dX4_bestFrom_17 rfl (Nat.le_of_ble_eq_true rfl) rfl ?_
        refine G_iconst (v := 0) hX dX4_bestFrom_19 rfl ?_
        refine G_istore (lv' := [some (.ref 103), some (.ref p0), some (.int p1), some (.int p2), some (.int (-1)), some (.int 0), none, none]) hX dX4_bestFrom_20 rfl (Nat.le_of_ble_eq_true rfl) rfl ?_
        obtain ⟨e13, v10, v11, u12, h14, hf⟩ := bd4_some hf
        refine G_mask (lv' := [some (.ref 103), some (.ref p0), some (.int p1), some (.int p2), some (.int (-1)), some (.int 0), none, none]) [true, true, true, true, true, true, false, false] rfl rfl ?_
        refine lp_G (body := (fun s => fX4_bestFrom_L0_b22 p0 p1 p2 s.1 s.2.1 s.2.2)) (Gh := fun s => G w X Zm 22 [some (.ref 103), some (.ref p0), some (.int p1), some (.int p2), some (.int s.1), some (.int s.2.1), none, none] [] s.2.2) (Gx := fun e s => G w X Zm 100 [none, none, none, none, some (.int s.1), none, none, none] [] s.2.2) (fun s e s' hb K0 K1 => tX4_bestFrom_L0_b22 (s := s) (e := e) (s' := s') hX hp0  hb K0 K1) fuel (((-1) : Int32), (0 : Int32), u) (e13, v10, v11, u12) h14 ?_
        refine G_iload hX dX4_bestFrom_100 rfl ?_
        obtain ⟨rfl, rfl⟩ := ret2 hf
        exact G_iret hX hR dX4_bestFrom_102
      · refine G_iconst (v := 0) hX dX4_bestFrom_14 rfl ?_
        obtain ⟨rfl, rfl⟩ := ret2 hf
        exact G_iret hX hR dX4_bestFrom_15
noncomputable def fX4_bestBehind_L1_j72 (p0 : Nat) (p1 : Int32) (p2 : Int32) (p3 : Int32) (j5 : Nat) (u : Um) : Option (Int32 × Um) :=
  bd2 (fX4_bestFrom_L0 j5 (p2 + 1) (p3 - 1) u) fun v9 u10 =>
  some (v9, u10)
set_option maxHeartbeats 4000000 in
set_option maxRecDepth 100000 in
theorem tX4_bestBehind_L1_j72 {w : Wc} {X : MX} (hX : OKc w X RX4 cX4_bestBehind 8) {p0 : Nat} {p1 : Int32} {p2 : Int32} {p3 : Int32} {j5 : Nat} (hp0 : kd p0 = 0) (hj5 : kd j5 = 0) {u : Um} {r : Int32} {u' : Um} (hR : RT w X (some .int) 0 0 Pst 133 false (some (.int r)) u') (hf : fX4_bestBehind_L1_j72 p0 p1 p2 p3 j5 u = some (r, u')) : G w X Zm 72 [some (.ref 103), none, none, some (.int p2), some (.int p3), some (.ref j5)] [] u := by
  unfold fX4_bestBehind_L1_j72 at hf
  refine G_aload_n hX dX4_bestBehind_72 rfl ?_
  refine G_aload hX dX4_bestBehind_73 rfl ?_
  refine G_iload_n hX dX4_bestBehind_75 rfl ?_
  refine G_iconst (v := 1) hX dX4_bestBehind_76 rfl ?_
  refine G_iadd hX dX4_bestBehind_77 ?_
  refine G_iload hX dX4_bestBehind_78 rfl ?_
  refine G_iconst (v := 1) hX dX4_bestBehind_80 rfl ?_
  refine G_isub hX dX4_bestBehind_81 ?_
  obtain ⟨v9, u10, h8, hf⟩ := bd2_some hf
  refine G_cV (as := [.ref j5, .int (p2 + 1), .int (p3 - 1)]) (rest := []) hX cvX4_45 (mX4_bestFrom_L0 w hj5 h8) (Nat.le_of_ble_eq_true rfl) kK103 (Nat.le_of_ble_eq_true rfl) (Nat.le_of_ble_eq_true rfl) rfl rfl (Nat.le_of_ble_eq_true rfl) dX4_bestBehind_82 (st' := [.int v9]) rfl ?_
  obtain ⟨rfl, rfl⟩ := ret2 hf
  exact G_iret hX hR dX4_bestBehind_85
noncomputable def fX4_bestBehind_L1_j23 (p0 : Nat) (p1 : Int32) (p2 : Int32) (p3 : Int32) (z0 : Option Nat) (u : Um) : Option (Int32 × Um) :=
  spl z0 0
    (if p3 ≤ 1 then
      some (0, u)
    else
      some (0, u))
  (fun x1 =>
    if p3 ≤ 1 then
      some (0, u)
    else
      bd1 (fX0_copyFrom x1 p0 u) fun u4 =>
      if p1 = 99 then
        bd1 (fX0_nextDay x1 u4) fun u12 =>
        fX4_bestBehind_L1_j72 p0 p1 p2 p3 x1 u12
      else
        bd2 (fX0_deliver x1 (p1 / 10) (irm p1 10) u4) fun v6 u7 =>
        fX4_bestBehind_L1_j72 p0 p1 p2 p3 x1 u7)
set_option maxHeartbeats 4000000 in
set_option maxRecDepth 100000 in
theorem tX4_bestBehind_L1_j23 {w : Wc} {X : MX} (hX : OKc w X RX4 cX4_bestBehind 8) {p0 : Nat} {p1 : Int32} {p2 : Int32} {p3 : Int32} {z0 : Option Nat} (hp0 : kd p0 = 0) {u : Um} {r : Int32} {u' : Um} (hR : RT w X (some .int) 0 0 Pst 133 false (some (.int r)) u') (hf : fX4_bestBehind_L1_j23 p0 p1 p2 p3 z0 u = some (r, u')) : G w X Zm 23 [some (.ref 103), some (.ref p0), some (.int p1), some (.int p2), some (.int p3), none] [va_rf z0] u := by
  unfold fX4_bestBehind_L1_j23 at hf
  cases z0 with
  | none =>
    replace hf := spl_none hf
    refine G_eql (lv' := [some (.ref 103), some (.ref p0), some (.int p1), some (.int p2), some (.int p3), none]) rfl ?_
    refine G_eqs (st2 := [.null]) rfl ?_
    refine G_astoreN (lv' := [some (.ref 103), some (.ref p0), some (.int p1), some (.int p2), some (.int p3), some (.null)]) hX dX4_bestBehind_23 rfl (Nat.le_of_ble_eq_true rfl) rfl ?_
    refine G_iload hX dX4_bestBehind_25 rfl ?_
    refine G_iconst (v := 1) hX dX4_bestBehind_27 rfl ?_
    refine G_icmp_le (tgt := 36) hX dX4_bestBehind_28 rfl hf (fun hf => ?_) (fun hf => ?_)
    · refine G_iconst (v := 0) hX dX4_bestBehind_36 rfl ?_
      obtain ⟨rfl, rfl⟩ := ret2 hf
      exact G_iret hX hR dX4_bestBehind_37
    · refine G_aloadN hX dX4_bestBehind_31 rfl ?_
      refine G_ifnonnullN hX dX4_bestBehind_33 ?_
      refine G_iconst (v := 0) hX dX4_bestBehind_36 rfl ?_
      obtain ⟨rfl, rfl⟩ := ret2 hf
      exact G_iret hX hR dX4_bestBehind_37
  | some x1 =>
    obtain ⟨h2, hf⟩ := spl_some hf
    refine G_eql (lv' := [some (.ref 103), some (.ref p0), some (.int p1), some (.int p2), some (.int p3), none]) rfl ?_
    refine G_eqs (st2 := [.ref x1]) rfl ?_
    refine G_astore (lv' := [some (.ref 103), some (.ref p0), some (.int p1), some (.int p2), some (.int p3), some (.ref x1)]) hX dX4_bestBehind_23 rfl (Nat.le_of_ble_eq_true rfl) rfl ?_
    refine G_iload hX dX4_bestBehind_25 rfl ?_
    refine G_iconst (v := 1) hX dX4_bestBehind_27 rfl ?_
    refine G_icmp_le (tgt := 36) hX dX4_bestBehind_28 rfl hf (fun hf => ?_) (fun hf => ?_)
    · refine G_iconst (v := 0) hX dX4_bestBehind_36 rfl ?_
      obtain ⟨rfl, rfl⟩ := ret2 hf
      exact G_iret hX hR dX4_bestBehind_37
    · refine G_aload hX dX4_bestBehind_31 rfl ?_
      refine G_ifnonnull (tgt := 38) hX dX4_bestBehind_33 rfl ?_
      refine G_aload hX dX4_bestBehind_38 rfl ?_
      refine G_aload_n hX dX4_bestBehind_40 rfl ?_
      obtain ⟨u4, h3, hf⟩ := bd1_some hf
      refine G_cV (as := [.ref p0]) (rest := []) hX cvX4_34 (mX0_copyFrom w h2 hp0 h3) (Nat.le_of_ble_eq_true rfl) h2 (Nat.le_of_ble_eq_true rfl) (kd_lt h2 (Nat.le_of_ble_eq_true rfl)) rfl rfl (Nat.le_of_ble_eq_true rfl) dX4_bestBehind_41 (st' := []) rfl ?_
      refine G_iload_n hX dX4_bestBehind_44 rfl ?_
      refine G_bipush (v := 99) hX dX4_bestBehind_45 rfl ?_
      refine G_icmp_ne (tgt := 58) hX dX4_bestBehind_47 rfl hf (fun hf => ?_) (fun hf => ?_)
      · refine G_aload hX dX4_bestBehind_58 rfl ?_
        refine G_iload_n hX dX4_bestBehind_60 rfl ?_
        refine G_bipush (v := 10) hX dX4_bestBehind_61 rfl ?_
        refine G_idiv hX dX4_bestBehind_63 (by decide) ?_
        refine G_iload_n hX dX4_bestBehind_64 rfl ?_
        refine G_bipush (v := 10) hX dX4_bestBehind_65 rfl ?_
        refine G_irem hX dX4_bestBehind_67 (by decide) ?_
        obtain ⟨v6, u7, h5, hf⟩ := bd2_some hf
        refine G_cV (as := [.int (p1 / 10), .int (irm p1 10)]) (rest := []) hX cvX4_41 (mX0_deliver w h2 h5) (Nat.le_of_ble_eq_true rfl) h2 (Nat.le_of_ble_eq_true rfl) (kd_lt h2 (Nat.le_of_ble_eq_true rfl)) rfl rfl (Nat.le_of_ble_eq_true rfl) dX4_bestBehind_68 (st' := [.int v6]) rfl ?_
        refine G_pop hX dX4_bestBehind_71 rfl ?_
        refine G_mask (lv' := [some (.ref 103), none, none, some (.int p2), some (.int p3), some (.ref x1)]) [true, false, false, true, true, true] rfl rfl ?_
        exact tX4_bestBehind_L1_j72 hX hp0 h2 hR hf
      · refine G_aload hX dX4_bestBehind_50 rfl ?_
        obtain ⟨u12, h11, hf⟩ := bd1_some hf
        refine G_cV (as := []) (rest := []) hX cvX4_38 (mX0_nextDay w h2 h11) (Nat.le_of_ble_eq_true rfl) h2 (Nat.le_of_ble_eq_true rfl) (kd_lt h2 (Nat.le_of_ble_eq_true rfl)) rfl rfl (Nat.le_of_ble_eq_true rfl) dX4_bestBehind_52 (st' := []) rfl ?_
        refine G_goto (tgt := 72) hX dX4_bestBehind_55 rfl ?_
        refine G_mask (lv' := [some (.ref 103), none, none, some (.int p2), some (.int p3), some (.ref x1)]) [true, false, false, true, true, true] rfl rfl ?_
        exact tX4_bestBehind_L1_j72 hX hp0 h2 hR hf
noncomputable def fX4_bestBehind_L1_j13 (p0 : Nat) (p1 : Int32) (p2 : Int32) (p3 : Int32) (u : Um) : Option (Int32 × Um) :=
  fX4_bestBehind_L1_j23 p0 p1 p2 p3 none u
set_option maxHeartbeats 4000000 in
set_option maxRecDepth 100000 in
theorem tX4_bestBehind_L1_j13 {w : Wc} {X : MX} (hX : OKc w X RX4 cX4_bestBehind 8) {p0 : Nat} {p1 : Int32} {p2 : Int32} {p3 : Int32} (hp0 : kd p0 = 0) {u : Um} {r : Int32} {u' : Um} (hR : RT w X (some .int) 0 0 Pst 133 false (some (.int r)) u') (hf : fX4_bestBehind_L1_j13 p0 p1 p2 p3 u = some (r, u')) : G w X Zm 13 [some (.ref 103), some (.ref p0), some (.int p1), some (.int p2), some (.int p3), none] [] u := by
  unfold fX4_bestBehind_L1_j13 at hf
  refine G_null hX dX4_bestBehind_13 ?_
  refine G_goto (tgt := 23) hX dX4_bestBehind_14 rfl ?_
  refine G_mask (lv' := [some (.ref 103), some (.ref p0), some (.int p1), some (.int p2), some (.int p3), none]) [true, true, true, true, true, false] rfl rfl ?_
  exact tX4_bestBehind_L1_j23 hX hp0 hR hf
noncomputable def fX4_bestBehind_L1 (p0 : Nat) (p1 : Int32) (p2 : Int32) (p3 : Int32) (u : Um) : Option (Int32 × Um) :=
  if p2 < 0 then
    fX4_bestBehind_L1_j13 p0 p1 p2 p3 u
  else
    if p2 < 3 then
      if inb p2 3 = true then
      fX4_bestBehind_L1_j23 p0 p1 p2 p3 (some (105 + 3 * p2.toNatClampNeg)) u
      else none
    else
      fX4_bestBehind_L1_j13 p0 p1 p2 p3 u
abbrev qX4_bestBehind_L1 : MI := (yX4_bestBehind, cX4_bestBehind, 6, (some .int))
set_option maxHeartbeats 4000000 in
set_option maxRecDepth 100000 in
theorem mX4_bestBehind_L1 (w : Wc) {p0 : Nat} {p1 : Int32} {p2 : Int32} {p3 : Int32} (hp0 : kd p0 = 0) {u : Um} {r : Int32} {u' : Um} (hf : fX4_bestBehind_L1 p0 p1 p2 p3 u = some (r, u')) : MC w 8 qX4_bestBehind_L1 [.ref 103, .ref p0, .int p1, .int p2, .int p3] u (some (.int r)) u' := by
  unfold fX4_bestBehind_L1 at hf
  refine MC_intro pnX4 (Nat.le_of_ble_eq_true rfl) (fun X hX hR _ _ => ?_)
  have hX : OKc w X RX4 cX4_bestBehind 8 := hX
  have hR : RT w X (some .int) 0 0 Pst 133 false (some (.int r)) u' := hR
  refine G_eql (lv' := [some (.ref 103), some (.ref p0), some (.int p1), some (.int p2), some (.int p3), none]) rfl ?_
  refine G_iload_n hX dX4_bestBehind_0 rfl ?_
  refine G_if_lt (tgt := 13) hX dX4_bestBehind_1 rfl hf (fun hf => ?_) (fun hf => ?_)
  · refine G_mask (lv' := [some (.ref 103), some (.ref p0), some (.int p1), some (.int p2), some (.int p3), none]) [true, true, true, true, true, false] rfl rfl ?_
    exact tX4_bestBehind_L1_j13 hX hp0 hR hf
  · refine G_iload_n hX dX4_bestBehind_4 rfl ?_
    refine G_aload_n hX dX4_bestBehind_5 rfl ?_
    refine G_getR (i := 0) (t := 104) hX kK103 (Nat.le_of_ble_eq_true rfl) (Nat.le_of_ble_eq_true rfl) rfl pK103_0 flX4_12 dX4_bestBehind_6 ?_
    refine G_alenC (n := 3) (v := 3) hX kK104 lK104 (Nat.le_of_ble_eq_true rfl) dX4_bestBehind_9 rfl ?_
    refine G_icmp_lt (tgt := 17) hX dX4_bestBehind_10 rfl hf (fun hf => ?_) (fun hf => ?_)
    · refine G_aload_n hX dX4_bestBehind_17 rfl ?_
      refine G_getR (i := 0) (t := 104) hX kK103 (Nat.le_of_ble_eq_true rfl) (Nat.le_of_ble_eq_true rfl) rfl pK103_0 flX4_12 dX4_bestBehind_18 ?_
      refine G_iload_n hX dX4_bestBehind_21 rfl ?_
      refine G_aaldC (n := 3) (t := (105 + 3 * p2.toNatClampNeg)) hX kK104 lK104 (Nat.le_of_ble_eq_true rfl) (PaC kK104 lK104) dX4_bestBehind_22 hf (fun hf => ?_)
      refine G_mask (lv' := [some (.ref 103), some (.ref p0), some (.int p1), some (.int p2), some (.int p3), none]) [true, true, true, true, true, false] rfl rfl ?_
      exact tX4_bestBehind_L1_j23 hX hp0 hR hf
    · refine G_mask (lv' := [some (.ref 103), some (.ref p0), some (.int p1), some (.int p2), some (.int p3), none]) [true, true, true, true, true, false] rfl rfl ?_
      exact tX4_bestBehind_L1_j13 hX hp0 hR hf
noncomputable def fX4_bestFrom_L1_j94 (p0 : Nat) (p1 : Int32) (p2 : Int32) (j4 : Int32) (j5 : Int32) (u : Um) : Option (Nat × Int32 × Int32 × Um) :=
  nm (j5 + 1) fun v3 =>
  some (0, j4, v3, u)
set_option maxHeartbeats 4000000 in
set_option maxRecDepth 100000 in
theorem tX4_bestFrom_L1_j94 {w : Wc} {X : MX} (hX : OKc w X RX4 cX4_bestFrom 9) {p0 : Nat} {p1 : Int32} {p2 : Int32} {j4 : Int32} {j5 : Int32} (hp0 : kd p0 = 0)  {u : Um} {e : Nat} {s' : Int32 × Int32 × Um} (K0 : e = 0 → G w X Zm 22 [some (.ref 103), some (.ref p0), some (.int p1), some (.int p2), some (.int s'.1), some (.int s'.2.1), none, none] [] s'.2.2) (K1 : e ≠ 0 → G w X Zm 100 [none, none, none, none, some (.int s'.1), none, none, none] [] s'.2.2) (hf : fX4_bestFrom_L1_j94 p0 p1 p2 j4 j5 u = some (e, s')) : G w X Zm 94 [some (.ref 103), some (.ref p0), some (.int p1), some (.int p2), some (.int j4), some (.int j5), none, none] [] u := by
  unfold fX4_bestFrom_L1_j94 at hf
  refine G_iincF (lvf := fun v3 => [some (.ref 103), some (.ref p0), some (.int p1), some (.int p2), some (.int j4), some (.int v3), none, none]) hX dX4_bestFrom_94 rfl rfl rfl (Nat.le_of_ble_eq_true rfl) (fun _ => rfl) hf (fun v3 hf => ?_)
  refine G_goto (tgt := 22) hX dX4_bestFrom_97 rfl ?_
  obtain ⟨rfl, rfl⟩ := ret2 hf
  refine G_mask (lv' := [some (.ref 103), some (.ref p0), some (.int p1), some (.int p2), some (.int j4), some (.int v3), none, none]) [true, true, true, true, true, true, false, false] rfl rfl ?_
  exact K0 rfl
noncomputable def fX4_bestFrom_L1_b22 (p0 : Nat) (p1 : Int32) (p2 : Int32) (s4 : Int32) (s5 : Int32) (u : Um) : Option (Nat × Int32 × Int32 × Um) :=
  if 99 < s5 then
    some (1, s4, s5, u)
  else
    if p2 ≤ s4 then
      some (1, s4, s5, u)
    else
      bd1 (fX4_gainOf p0 s5 u) fun v2 =>
      if v2 < 0 then
        fX4_bestFrom_L1_j94 p0 p1 p2 s4 s5 u
      else
        if s4 < ((v2 + p2) - 1) then
          bd2 (fX4_bestBehind_L1 p0 s5 p1 p2 u) fun v5 u6 =>
          nm (v2 + v5) fun v7 =>
          if v7 ≤ s4 then
            fX4_bestFrom_L1_j94 p0 p1 p2 s4 s5 u6
          else
            bd1 (fX4_keep p1 s5 u6) fun u9 =>
            fX4_bestFrom_L1_j94 p0 p1 p2 v7 s5 u9
        else
          fX4_bestFrom_L1_j94 p0 p1 p2 s4 s5 u
set_option maxHeartbeats 4000000 in
set_option maxRecDepth 100000 in
theorem tX4_bestFrom_L1_b22 {w : Wc} {X : MX} (hX : OKc w X RX4 cX4_bestFrom 9) {p0 : Nat} {p1 : Int32} {p2 : Int32} (hp0 : kd p0 = 0) {s : Int32 × Int32 × Um} {e : Nat} {s' : Int32 × Int32 × Um} (hf : fX4_bestFrom_L1_b22 p0 p1 p2 s.1 s.2.1 s.2.2 = some (e, s')) (K0 : e = 0 → G w X Zm 22 [some (.ref 103), some (.ref p0), some (.int p1), some (.int p2), some (.int s'.1), some (.int s'.2.1), none, none] [] s'.2.2) (K1 : e ≠ 0 → G w X Zm 100 [none, none, none, none, some (.int s'.1), none, none, none] [] s'.2.2) : G w X Zm 22 [some (.ref 103), some (.ref p0), some (.int p1), some (.int p2), some (.int s.1), some (.int s.2.1), none, none] [] s.2.2 := by
  obtain ⟨s4, s5, u⟩ := s
  unfold fX4_bestFrom_L1_b22 at hf
  try dsimp only at hf ⊢
  refine G_iload hX dX4_bestFrom_22 rfl ?_
  refine G_bipush (v := 99) hX dX4_bestFrom_24 rfl ?_
  refine G_icmp_gt (tgt := 100) hX dX4_bestFrom_26 rfl hf (fun hf => ?_) (fun hf => ?_)
  · obtain ⟨rfl, rfl⟩ := ret2 hf
    refine G_mask (lv' := [none, none, none, none, some (.int s4), none, none, none]) [false, false, false, false, true, false, false, false] rfl rfl ?_
    exact K1 (by decide)
  · refine G_iload hX dX4_bestFrom_29 rfl ?_
    refine G_iload_n hX dX4_bestFrom_31 rfl ?_
    refine G_icmp_ge (tgt := 100) hX dX4_bestFrom_32 rfl hf (fun hf => ?_) (fun hf => ?_)
    · obtain ⟨rfl, rfl⟩ := ret2 hf
      refine G_mask (lv' := [none, none, none, none, some (.int s4), none, none, none]) [false, false, false, false, true, false, false, false] rfl rfl ?_
      exact K1 (by decide)
    · refine G_aload_n hX dX4_bestFrom_35 rfl ?_
      refine G_iload hX dX4_bestFrom_36 rfl ?_
      obtain ⟨v2, h1, hf⟩ := bd1_some hf
      refine G_cS (as := [.ref p0, .int s5]) (rest := []) hX csX4_22 (mX4_gainOf w hp0 h1) (Nat.le_of_ble_eq_true rfl) rfl rfl (Nat.le_of_ble_eq_true rfl) dX4_bestFrom_38 (st' := [.int v2]) rfl ?_
      refine G_istore (lv' := [some (.ref 103), some (.ref p0), some (.int p1), some (.int p2), some (.int s4), some (.int s5), some (.int v2), none]) hX dX4_bestFrom_41 rfl (Nat.le_of_ble_eq_true rfl) rfl ?_
      refine G_iload hX dX4_bestFrom_43 rfl ?_
      refine G_if_lt (tgt := 94) hX dX4_bestFrom_45 rfl hf (fun hf => ?_) (fun hf => ?_)
      · refine G_mask (lv' := [some (.ref 103), some (.ref p0), some (.int p1), some (.int p2), some (.int s4), some (.int s5), none, none]) [true, true, true, true, true, true, false, false] rfl rfl ?_
        exact tX4_bestFrom_L1_j94 hX hp0 K0 K1 hf
      · refine G_iload hX dX4_bestFrom_48 rfl ?_
        refine G_iload_n hX dX4_bestFrom_50 rfl ?_
        refine G_iadd hX dX4_bestFrom_51 ?_
        refine G_iconst (v := 1) hX dX4_bestFrom_52 rfl ?_
        refine G_isub hX dX4_bestFrom_53 ?_
        refine G_iload hX dX4_bestFrom_54 rfl ?_
        refine G_icmp_gt (tgt := 62) hX dX4_bestFrom_56 rfl hf (fun hf => ?_) (fun hf => ?_)
        · refine G_iload hX dX4_bestFrom_62 rfl ?_
          refine G_aload_n hX dX4_bestFrom_64 rfl ?_
          refine G_aload_n hX dX4_bestFrom_65 rfl ?_
          refine G_iload hX dX4_bestFrom_66 rfl ?_
          refine G_iload_n hX dX4_bestFrom_68 rfl ?_
          refine G_iload_n hX dX4_bestFrom_69 rfl ?_
          obtain ⟨v5, u6, h4, hf⟩ := bd2_some hf
          refine G_cV (as := [.ref p0, .int s5, .int p1, .int p2]) (rest := [.int v2]) hX cvX4_26 (mX4_bestBehind_L1 w hp0 h4) (Nat.le_of_ble_eq_true rfl) kK103 (Nat.le_of_ble_eq_true rfl) (Nat.le_of_ble_eq_true rfl) rfl rfl (Nat.le_of_ble_eq_true rfl) dX4_bestFrom_70 (st' := [.int v5, .int v2]) rfl ?_
          refine G_iadd hX dX4_bestFrom_73 ?_
          refine G_istoreF (lvf := fun v7 => [some (.ref 103), some (.ref p0), some (.int p1), some (.int p2), some (.int s4), some (.int s5), some (.int v2), some (.int v7)]) hX dX4_bestFrom_74 rfl (Nat.le_of_ble_eq_true rfl) (fun _ => rfl) hf (fun v7 hf => ?_)
          refine G_iload hX dX4_bestFrom_76 rfl ?_
          refine G_iload hX dX4_bestFrom_78 rfl ?_
          refine G_icmp_le (tgt := 94) hX dX4_bestFrom_80 rfl hf (fun hf => ?_) (fun hf => ?_)
          · refine G_mask (lv' := [some (.ref 103), some (.ref p0), some (.int p1), some (.int p2), some (.int s4), some (.int s5), none, none]) [true, true, true, true, true, true, false, false] rfl rfl ?_
            exact tX4_bestFrom_L1_j94 hX hp0 K0 K1 hf
          · refine G_iload hX dX4_bestFrom_83 rfl ?_
            refine G_istore (lv' := [some (.ref 103), some (.ref p0), some (.int p1), some (.int p2), some (.int v7), some (.int s5), some (.int v2), some (.int v7)]) hX dX4_bestFrom_85 rfl (Nat.le_of_ble_eq_true rfl) rfl ?_
            refine G_aload_n hX dX4_bestFrom_87 rfl ?_
            refine G_iload_n hX dX4_bestFrom_88 rfl ?_
            refine G_iload hX dX4_bestFrom_89 rfl ?_
            obtain ⟨u9, h8, hf⟩ := bd1_some hf
            refine G_cV (as := [.int p1, .int s5]) (rest := []) hX cvX4_30 (mX4_keep w h8) (Nat.le_of_ble_eq_true rfl) kK103 (Nat.le_of_ble_eq_true rfl) (Nat.le_of_ble_eq_true rfl) rfl rfl (Nat.le_of_ble_eq_true rfl) dX4_bestFrom_91 (st' := []) rfl ?_
            refine G_mask (lv' := [some (.ref 103), some (.ref p0), some (.int p1), some (.int p2), some (.int v7), some (.int s5), none, none]) [true, true, true, true, true, true, false, false] rfl rfl ?_
            exact tX4_bestFrom_L1_j94 hX hp0 K0 K1 hf
        · refine G_goto (tgt := 94) hX dX4_bestFrom_59 rfl ?_
          refine G_mask (lv' := [some (.ref 103), some (.ref p0), some (.int p1), some (.int p2), some (.int s4), some (.int s5), none, none]) [true, true, true, true, true, true, false, false] rfl rfl ?_
          exact tX4_bestFrom_L1_j94 hX hp0 K0 K1 hf
noncomputable def fX4_bestFrom_L1 (p0 : Nat) (p1 : Int32) (p2 : Int32) (u : Um) : Option (Int32 × Um) :=
  if p2 < 1 then
    some (0, u)
  else
    if p1 < 0 then
      some (0, u)
    else
      if p1 < 3 then
        bd4 (lp (fun s => fX4_bestFrom_L1_b22 p0 p1 p2 s.1 s.2.1 s.2.2) fuel (((-1) : Int32), (0 : Int32), u)) fun e13 v10 v11 u12 =>
        some (v10, u12)
      else
        some (0, u)
abbrev qX4_bestFrom_L1 : MI := (yX4_bestFrom, cX4_bestFrom, 8, (some .int))
set_option maxHeartbeats 4000000 in
set_option maxRecDepth 100000 in
theorem mX4_bestFrom_L1 (w : Wc) {p0 : Nat} {p1 : Int32} {p2 : Int32} (hp0 : kd p0 = 0) {u : Um} {r : Int32} {u' : Um} (hf : fX4_bestFrom_L1 p0 p1 p2 u = some (r, u')) : MC w 9 qX4_bestFrom_L1 [.ref 103, .ref p0, .int p1, .int p2] u (some (.int r)) u' := by
  unfold fX4_bestFrom_L1 at hf
  refine MC_intro pnX4 (Nat.le_of_ble_eq_true rfl) (fun X hX hR _ _ => ?_)
  have hX : OKc w X RX4 cX4_bestFrom 9 := hX
  have hR : RT w X (some .int) 0 0 Pst 133 false (some (.int r)) u' := hR
  refine G_eql (lv' := [some (.ref 103), some (.ref p0), some (.int p1), some (.int p2), none, none, none, none]) rfl ?_
  refine G_iload_n hX dX4_bestFrom_0 rfl ?_
  refine G_iconst (v := 1) hX dX4_bestFrom_1 rfl ?_
  refine G_icmp_lt (tgt := 14) hX dX4_bestFrom_2 rfl hf (fun hf => ?_) (fun hf => ?_)
  · refine G_iconst (v := 0) hX dX4_bestFrom_14 rfl ?_
    obtain ⟨rfl, rfl⟩ := ret2 hf
    exact G_iret hX hR dX4_bestFrom_15
  · refine G_iload_n hX dX4_bestFrom_5 rfl ?_
    refine G_if_lt (tgt := 14) hX dX4_bestFrom_6 rfl hf (fun hf => ?_) (fun hf => ?_)
    · refine G_iconst (v := 0) hX dX4_bestFrom_14 rfl ?_
      obtain ⟨rfl, rfl⟩ := ret2 hf
      exact G_iret hX hR dX4_bestFrom_15
    · refine G_iload_n hX dX4_bestFrom_9 rfl ?_
      refine G_iconst (v := 3) hX dX4_bestFrom_10 rfl ?_
      refine G_icmp_lt (tgt := 16) hX dX4_bestFrom_11 rfl hf (fun hf => ?_) (fun hf => ?_)
      · refine G_iconst (v := (-1)) hX dX4_bestFrom_16 rfl ?_
        refine G_istore (lv' := [some (.ref 103), some (.ref p0), some (.int p1), some (.int p2), some (.int (-1)), none, none, none]) hX dX4_bestFrom_17 rfl (Nat.le_of_ble_eq_true rfl) rfl ?_
        refine G_iconst (v := 0) hX dX4_bestFrom_19 rfl ?_
        refine G_istore (lv' := [some (.ref 103), some (.ref p0), some (.int p1), some (.int p2), some (.int (-1)), some (.int 0), none, none]) hX dX4_bestFrom_20 rfl (Nat.le_of_ble_eq_true rfl) rfl ?_
        obtain ⟨e13, v10, v11, u12, h14, hf⟩ := bd4_some hf
        refine G_mask (lv' := [some (.ref 103), some (.ref p0), some (.int p1), some (.int p2), some (.int (-1)), some (.int 0), none, none]) [true, true, true, true, true, true, false, false] rfl rfl ?_
        refine lp_G (body := (fun s => fX4_bestFrom_L1_b22 p0 p1 p2 s.1 s.2.1 s.2.2)) (Gh := fun s => G w X Zm 22 [some (.ref 103), some (.ref p0), some (.int p1), some (.int p2), some (.int s.1), some (.int s.2.1), none, none] [] s.2.2) (Gx := fun e s => G w X Zm 100 [none, none, none, none, some (.int s.1), none, none, none] [] s.2.2) (fun s e s' hb K0 K1 => tX4_bestFrom_L1_b22 (s := s) (e := e) (s' := s') hX hp0  hb K0 K1) fuel (((-1) : Int32), (0 : Int32), u) (e13, v10, v11, u12) h14 ?_
        refine G_iload hX dX4_bestFrom_100 rfl ?_
        obtain ⟨rfl, rfl⟩ := ret2 hf
        exact G_iret hX hR dX4_bestFrom_102
      · refine G_iconst (v := 0) hX dX4_bestFrom_14 rfl ?_
        obtain ⟨rfl, rfl⟩ := ret2 hf
        exact G_iret hX hR dX4_bestFrom_15
