/-! X8_feed, labels [] -/
set_option maxRecDepth 100000 in
set_option maxHeartbeats 4000000 in
theorem B_X8_feed_0 {mc ms : Nat} {z : Zt} {I : It} {Q : Option Value → Zt → It → Prop} {x1 : Int32} {pa pb : Nat} (hz : isZ z pa pb)
    (k : ((x1 < 0) → Q (some (.int (-1000000002))) z I) ∧
    ((¬ x1 < 0) → ((x1 ≤ 255) → (((I 2 1) < 200) → ∃ j1 : Nat, (I 2 1) = nI j1 ∧ j1 < 200 ∧ ∀ I2 : It, I2 = e_st I 3 j1 x1 → ∀ I3 : It, I3 = e_st I2 2 1 ((I2 2 1) + 1) → Q (some (.int (I3 2 1))) z I3) ∧
    ((¬ (I 2 1) < 200) → Q (some (.int (-1000000004))) z I)) ∧
    ((¬ x1 ≤ 255) → Q (some (.int (-1000000002))) z I))) :
    E mX8_feed mc ms 0 [some (.ref 1), some (.int x1)] [] z I Q := by
  refine E_iload_n (pc := 0) (x := x1) ddX8_feed_0 rfl rfl ?_
  refine E_if_lt (pc := 1) (tgt := 11) ddX8_feed_1 (by decide) (fun h => ?_) (fun h => ?_)
  · have k := k.1 h
    refine E_ldc (pc := 11) (v := (-1000000002)) ddX8_feed_11 w_2_43 ?_
    exact E_iret (pc := 13) ddX8_feed_13 rfl k
  · have k := k.2 h
    refine E_iload_n (pc := 4) (x := x1) ddX8_feed_4 rfl rfl ?_
    refine E_sipush (pc := 5) (v := 255) ddX8_feed_5 rfl ?_
    refine E_icmp_le (pc := 8) (tgt := 14) ddX8_feed_8 (by decide) (fun h => ?_) (fun h => ?_)
    · have k := k.1 h
      refine E_aload_n (pc := 14) (x := 1) ddX8_feed_14 rfl rfl ?_
      refine E_getR (pc := 15) (x := 2) ddX8_feed_15 ec_7 0 (Nat.le_of_ble_eq_true rfl) rfl w_2_8 hz.s0 hz.r0 (by decide) ?_
      refine E_iload_n (pc := 18) (x := x1) ddX8_feed_18 rfl rfl ?_
      refine E_callV (pc := 19) (As := [.int x1]) (st := []) (a := 2) ddX8_feed_19 hX7_addLetter ⟨(Nat.le_of_ble_eq_true rfl), (Nat.le_of_ble_eq_true rfl)⟩ w_2_44 (ci := 6) rfl rfl hz.rd.s0 rfl rfl (Nat.le_of_ble_eq_true rfl) (e_cc rfl e_cn) (Nat.le_of_ble_eq_true rfl) ?_
      refine (show E mX7_addLetter 0 0 0 [some (.ref 2), some (.int x1)] [] z I _ from ?_)
      refine E_aload_n (pc := 0) (x := 2) ddX7_addLetter_0 rfl rfl ?_
      refine E_getI (pc := 1) ddX7_addLetter_1 ec_6 1 (Nat.le_of_ble_eq_true rfl) rfl w_1_28 hz.rd.s0 ?_
      refine E_sipush (pc := 4) (v := 200) ddX7_addLetter_4 rfl ?_
      refine E_icmp_lt (pc := 7) (tgt := 13) ddX7_addLetter_7 (by decide) (fun h => ?_) (fun h => ?_)
      · have k := k.1 h
        refine E_aload_n (pc := 13) (x := 2) ddX7_addLetter_13 rfl rfl ?_
        refine E_getR (pc := 14) (x := 3) ddX7_addLetter_14 ec_6 0 (Nat.le_of_ble_eq_true rfl) rfl w_1_27 hz.rd.s0 hz.rd.r0 (by decide) ?_
        refine E_aload_n (pc := 17) (x := 2) ddX7_addLetter_17 rfl rfl ?_
        refine E_getI (pc := 18) ddX7_addLetter_18 ec_6 1 (Nat.le_of_ble_eq_true rfl) rfl w_1_28 hz.rd.s0 ?_
        refine E_iload_n (pc := 21) (x := x1) ddX7_addLetter_21 rfl rfl ?_
        obtain ⟨j1, ij1, lj1, k⟩ := k
        obtain ⟨I2, eI2⟩ : ∃ y : It, y = e_st I 3 j1 x1 := ⟨_, rfl⟩
        have k := k I2 eI2
        refine E_iastN (pc := 22) (j := j1) ddX7_addLetter_22 hz.rd.s1 (by decide) ij1 lj1 (Nat.le_of_ble_eq_true rfl) ?_
        rw [← eI2]
        refine E_aload_n (pc := 23) (x := 2) ddX7_addLetter_23 rfl rfl ?_
        refine E_dupr (pc := 24) ddX7_addLetter_24 ?_
        refine E_getI (pc := 25) ddX7_addLetter_25 ec_6 1 (Nat.le_of_ble_eq_true rfl) rfl w_1_28 hz.rd.s0 ?_
        refine E_iconst (pc := 28) (v := 1) ddX7_addLetter_28 rfl ?_
        refine E_iadd (pc := 29) ddX7_addLetter_29 ?_
        obtain ⟨I3, eI3⟩ : ∃ y : It, y = e_st I2 2 1 ((I2 2 1) + 1) := ⟨_, rfl⟩
        have k := k I3 eI3
        refine E_putI (pc := 30) ddX7_addLetter_30 ec_6 1 (Nat.le_of_ble_eq_true rfl) rfl w_1_28 hz.rd.s0 rfl rfl ?_
        rw [← eI3]
        refine E_aload_n (pc := 33) (x := 2) ddX7_addLetter_33 rfl rfl ?_
        refine E_getI (pc := 34) ddX7_addLetter_34 ec_6 1 (Nat.le_of_ble_eq_true rfl) rfl w_1_28 hz.rd.s0 ?_
        refine E_iret (pc := 37) ddX7_addLetter_37 rfl ?_
        refine (show E mX8_feed mc ms 22 [some (.ref 1), some (.int x1)] [.int (I3 2 1)] z I3 Q from ?_)
        exact E_iret (pc := 22) ddX8_feed_22 rfl k
      · have k := k.2 h
        refine E_ldc (pc := 10) (v := (-1000000004)) ddX7_addLetter_10 w_2_48 ?_
        refine E_iret (pc := 12) ddX7_addLetter_12 rfl ?_
        refine (show E mX8_feed mc ms 22 [some (.ref 1), some (.int x1)] [.int (-1000000004)] z I Q from ?_)
        exact E_iret (pc := 22) ddX8_feed_22 rfl k
    · have k := k.2 h
      refine E_ldc (pc := 11) (v := (-1000000002)) ddX8_feed_11 w_2_43 ?_
      exact E_iret (pc := 13) ddX8_feed_13 rfl k
/-! X8_wires, labels [11, 57] -/
set_option maxRecDepth 100000 in
set_option maxHeartbeats 4000000 in
theorem B_X8_wires_0 {mc ms : Nat} {z : Zt} {I : It} {Q : Option Value → Zt → It → Prop} {pa pb : Nat} (hz : isZ z pa pb)
    (k : E mX7_readInto 0 0 0 [some (.ref 2), some (.ref pb), none] [] z I (fun r z' I' => E mX8_wires mc ms 11 [some (.ref 1), none, none] (r.toList ++ []) z' I' Q)) :
    E mX8_wires mc ms 0 [some (.ref 1), none, none] [] z I Q := by
  refine E_aload_n (pc := 0) (x := 1) ddX8_wires_0 rfl rfl ?_
  refine E_getR (pc := 1) (x := 2) ddX8_wires_1 ec_7 0 (Nat.le_of_ble_eq_true rfl) rfl w_2_8 hz.s0 hz.r0 (by decide) ?_
  refine E_aload_n (pc := 4) (x := 1) ddX8_wires_4 rfl rfl ?_
  refine E_getR (pc := 5) (x := pb) ddX8_wires_5 ec_7 2 (Nat.le_of_ble_eq_true rfl) rfl w_2_10 hz.s0 hz.r2 hz.npb ?_
  exact E_callV (pc := 8) (As := [.ref pb]) (st := []) (a := 2) ddX8_wires_8 hX7_readInto ⟨(Nat.le_of_ble_eq_true rfl), (Nat.le_of_ble_eq_true rfl)⟩ w_2_53 (ci := 6) rfl rfl hz.rd.s0 rfl rfl (Nat.le_of_ble_eq_true rfl) (e_cc rfl e_cn) (Nat.le_of_ble_eq_true rfl) k
set_option maxRecDepth 100000 in
set_option maxHeartbeats 4000000 in
theorem B_X8_wires_11 {mc ms : Nat} {z : Zt} {I : It} {Q : Option Value → Zt → It → Prop} {y0 : Int32} {pa pb : Nat} (hz : isZ z pa pb)
    (k : ∀ I1 : It, I1 = e_st I 2 1 0 → ((y0 = 0) → ∀ z1 : Zt, z1 = (z_rf (z_rf z 1 2 pa) 1 1 pb) → E mX4_begin 0 0 0 [some (.ref 20), some (.ref pb), none] [] z1 I1 (fun r z' I' => E mX8_wires mc ms 57 [some (.ref 1), none, none] (r.toList ++ []) z' I' Q)) ∧
    ((¬ y0 = 0) → Q (some (.int ((-10) - y0))) z I1)) :
    E mX8_wires mc ms 11 [some (.ref 1), none, none] [.int y0] z I Q := by
  refine E_istore_n (pc := 11) (ls' := [some (.ref 1), some (.int y0), none]) ddX8_wires_11 rfl (Nat.le_of_ble_eq_true rfl) rfl rfl ?_
  refine E_aload_n (pc := 12) (x := 1) ddX8_wires_12 rfl rfl ?_
  refine E_getR (pc := 13) (x := 2) ddX8_wires_13 ec_7 0 (Nat.le_of_ble_eq_true rfl) rfl w_2_8 hz.s0 hz.r0 (by decide) ?_
  refine E_callV (pc := 16) (As := []) (st := []) (a := 2) ddX8_wires_16 hX7_dropText ⟨(Nat.le_of_ble_eq_true rfl), (Nat.le_of_ble_eq_true rfl)⟩ w_2_104 (ci := 6) rfl rfl hz.rd.s0 rfl rfl (Nat.le_of_ble_eq_true rfl) e_cn (Nat.le_of_ble_eq_true rfl) ?_
  refine (show E mX7_dropText 0 0 0 [some (.ref 2)] [] z I _ from ?_)
  refine E_aload_n (pc := 0) (x := 2) ddX7_dropText_0 rfl rfl ?_
  refine E_iconst (pc := 1) (v := 0) ddX7_dropText_1 rfl ?_
  obtain ⟨I1, eI1⟩ : ∃ y : It, y = e_st I 2 1 0 := ⟨_, rfl⟩
  have k := k I1 eI1
  refine E_putI (pc := 2) ddX7_dropText_2 ec_6 1 (Nat.le_of_ble_eq_true rfl) rfl w_1_28 hz.rd.s0 rfl rfl ?_
  rw [← eI1]
  refine E_vret (pc := 5) ddX7_dropText_5 rfl ?_
  refine (show E mX8_wires mc ms 19 [some (.ref 1), some (.int y0), none] [] z I1 Q from ?_)
  refine E_iload_n (pc := 19) (x := y0) ddX8_wires_19 rfl rfl ?_
  refine E_if_eq (pc := 20) (tgt := 28) ddX8_wires_20 (by decide) (fun h => ?_) (fun h => ?_)
  · have k := k.1 h
    refine E_aload_n (pc := 28) (x := 1) ddX8_wires_28 rfl rfl ?_
    refine E_getR (pc := 29) (x := pb) ddX8_wires_29 ec_7 2 (Nat.le_of_ble_eq_true rfl) rfl w_2_10 hz.s0 hz.r2 hz.npb ?_
    refine E_astore_n (pc := 32) (ls' := [some (.ref 1), some (.int y0), some (.ref pb)]) ddX8_wires_32 rfl (Nat.le_of_ble_eq_true rfl) rfl rfl ?_
    refine E_aload_n (pc := 33) (x := 1) ddX8_wires_33 rfl rfl ?_
    refine E_aload_n (pc := 34) (x := 1) ddX8_wires_34 rfl rfl ?_
    refine E_getR (pc := 35) (x := pa) ddX8_wires_35 ec_7 1 (Nat.le_of_ble_eq_true rfl) rfl w_2_9 hz.s0 hz.r1 hz.npa ?_
    refine E_putR (pc := 38) ddX8_wires_38 ec_7 2 (Nat.le_of_ble_eq_true rfl) rfl w_2_10 hz.s0 rfl (fun _ => rfl) (fun _ => rfl) hz.npa ?_
    refine E_aload_n (pc := 41) (x := 1) ddX8_wires_41 rfl rfl ?_
    refine E_aload_n (pc := 42) (x := pb) ddX8_wires_42 rfl rfl ?_
    obtain ⟨z1, ez1⟩ : ∃ y : Zt, y = (z_rf (z_rf z 1 2 pa) 1 1 pb) := ⟨_, rfl⟩
    have k := k z1 ez1
    refine E_putR (pc := 43) ddX8_wires_43 ec_7 1 (Nat.le_of_ble_eq_true rfl) rfl w_2_9 hz.s0 rfl (fun _ => rfl) (fun _ => rfl) hz.npb ?_
    rw [← ez1]
    have hz1 : isZ z1 pb pa := by rw [ez1]; exact hz.swap
    refine E_aload_n (pc := 46) (x := 1) ddX8_wires_46 rfl rfl ?_
    refine E_getR (pc := 47) (x := 20) ddX8_wires_47 ec_7 3 (Nat.le_of_ble_eq_true rfl) rfl w_2_11 hz1.s0 hz1.r3 (by decide) ?_
    refine E_aload_n (pc := 50) (x := 1) ddX8_wires_50 rfl rfl ?_
    refine E_getR (pc := 51) (x := pb) ddX8_wires_51 ec_7 1 (Nat.le_of_ble_eq_true rfl) rfl w_2_9 hz1.s0 hz1.r1 hz1.npa ?_
    exact E_callV (pc := 54) (As := [.ref pb]) (st := []) (a := 20) ddX8_wires_54 hX4_begin ⟨(Nat.le_of_ble_eq_true rfl), (Nat.le_of_ble_eq_true rfl)⟩ w_2_108 (ci := 3) rfl rfl hz1.now.s0 rfl rfl (Nat.le_of_ble_eq_true rfl) (e_cc rfl e_cn) (Nat.le_of_ble_eq_true rfl) (E.mono k fun _ _ _ q => E.forget q ⟨rfl, trivial⟩)
  · have k := k.2 h
    refine E_bipush (pc := 23) (v := (-10)) ddX8_wires_23 rfl ?_
    refine E_iload_n (pc := 25) (x := y0) ddX8_wires_25 rfl rfl ?_
    refine E_isub (pc := 26) ddX8_wires_26 ?_
    exact E_iret (pc := 27) ddX8_wires_27 rfl k
set_option maxRecDepth 100000 in
set_option maxHeartbeats 4000000 in
theorem B_X8_wires_57 {mc ms : Nat} {z : Zt} {I : It} {Q : Option Value → Zt → It → Prop} {pa pb : Nat} (hz : isZ z pa pb)
    (k : ∀ I1 : It, I1 = e_st I 48 2 0 → ∀ I2 : It, I2 = e_st I1 274 2 0 → ∀ I3 : It, I3 = e_st I2 289 2 0 → ∀ I4 : It, I4 = e_st I3 304 2 0 → Q (some (.int (I4 pa 0))) z I4) :
    E mX8_wires mc ms 57 [some (.ref 1), none, none] [] z I Q := by
  refine E_aload_n (pc := 57) (x := 1) ddX8_wires_57 rfl rfl ?_
  refine E_getR (pc := 58) (x := 48) ddX8_wires_58 ec_7 5 (Nat.le_of_ble_eq_true rfl) rfl w_2_13 hz.s0 hz.r5 (by decide) ?_
  refine E_callV (pc := 61) (As := []) (st := []) (a := 48) ddX8_wires_61 hX5_forget ⟨(Nat.le_of_ble_eq_true rfl), (Nat.le_of_ble_eq_true rfl)⟩ w_2_139 (ci := 4) rfl rfl hz.past.s0 rfl rfl (Nat.le_of_ble_eq_true rfl) e_cn (Nat.le_of_ble_eq_true rfl) ?_
  refine (show E mX5_forget 0 0 0 [some (.ref 48)] [] z I _ from ?_)
  refine E_aload_n (pc := 0) (x := 48) ddX5_forget_0 rfl rfl ?_
  refine E_iconst (pc := 1) (v := 0) ddX5_forget_1 rfl ?_
  obtain ⟨I1, eI1⟩ : ∃ y : It, y = e_st I 48 2 0 := ⟨_, rfl⟩
  have k := k I1 eI1
  refine E_putI (pc := 2) ddX5_forget_2 ec_4 2 (Nat.le_of_ble_eq_true rfl) rfl w_1_191 hz.past.s0 rfl rfl ?_
  rw [← eI1]
  refine E_vret (pc := 5) ddX5_forget_5 rfl ?_
  refine (show E mX8_wires mc ms 64 [some (.ref 1), none, none] [] z I1 Q from ?_)
  refine E_aload_n (pc := 64) (x := 1) ddX8_wires_64 rfl rfl ?_
  refine E_getR (pc := 65) (x := 274) ddX8_wires_65 ec_7 6 (Nat.le_of_ble_eq_true rfl) rfl w_2_14 hz.s0 hz.r6 (by decide) ?_
  refine E_callV (pc := 68) (As := []) (st := []) (a := 274) ddX8_wires_68 hX2_forget ⟨(Nat.le_of_ble_eq_true rfl), (Nat.le_of_ble_eq_true rfl)⟩ w_2_143 (ci := 2) rfl rfl hz.im1.s0 rfl rfl (Nat.le_of_ble_eq_true rfl) e_cn (Nat.le_of_ble_eq_true rfl) ?_
  refine (show E mX2_forget 0 0 0 [some (.ref 274)] [] z I1 _ from ?_)
  refine E_aload_n (pc := 0) (x := 274) ddX2_forget_0 rfl rfl ?_
  refine E_iconst (pc := 1) (v := 0) ddX2_forget_1 rfl ?_
  obtain ⟨I2, eI2⟩ : ∃ y : It, y = e_st I1 274 2 0 := ⟨_, rfl⟩
  have k := k I2 eI2
  refine E_putZ (pc := 2) ddX2_forget_2 ec_2 2 (Nat.le_of_ble_eq_true rfl) rfl w_1_210 hz.im1.s0 rfl rfl (by decide) ?_
  rw [← eI2]
  refine E_vret (pc := 5) ddX2_forget_5 rfl ?_
  refine (show E mX8_wires mc ms 71 [some (.ref 1), none, none] [] z I2 Q from ?_)
  refine E_aload_n (pc := 71) (x := 1) ddX8_wires_71 rfl rfl ?_
  refine E_getR (pc := 72) (x := 289) ddX8_wires_72 ec_7 7 (Nat.le_of_ble_eq_true rfl) rfl w_2_15 hz.s0 hz.r7 (by decide) ?_
  refine E_callV (pc := 75) (As := []) (st := []) (a := 289) ddX8_wires_75 hX2_forget ⟨(Nat.le_of_ble_eq_true rfl), (Nat.le_of_ble_eq_true rfl)⟩ w_2_143 (ci := 2) rfl rfl hz.im2.s0 rfl rfl (Nat.le_of_ble_eq_true rfl) e_cn (Nat.le_of_ble_eq_true rfl) ?_
  refine (show E mX2_forget 0 0 0 [some (.ref 289)] [] z I2 _ from ?_)
  refine E_aload_n (pc := 0) (x := 289) ddX2_forget_0 rfl rfl ?_
  refine E_iconst (pc := 1) (v := 0) ddX2_forget_1 rfl ?_
  obtain ⟨I3, eI3⟩ : ∃ y : It, y = e_st I2 289 2 0 := ⟨_, rfl⟩
  have k := k I3 eI3
  refine E_putZ (pc := 2) ddX2_forget_2 ec_2 2 (Nat.le_of_ble_eq_true rfl) rfl w_1_210 hz.im2.s0 rfl rfl (by decide) ?_
  rw [← eI3]
  refine E_vret (pc := 5) ddX2_forget_5 rfl ?_
  refine (show E mX8_wires mc ms 78 [some (.ref 1), none, none] [] z I3 Q from ?_)
  refine E_aload_n (pc := 78) (x := 1) ddX8_wires_78 rfl rfl ?_
  refine E_getR (pc := 79) (x := 304) ddX8_wires_79 ec_7 8 (Nat.le_of_ble_eq_true rfl) rfl w_2_16 hz.s0 hz.r8 (by decide) ?_
  refine E_callV (pc := 82) (As := []) (st := []) (a := 304) ddX8_wires_82 hX0_empty ⟨(Nat.le_of_ble_eq_true rfl), (Nat.le_of_ble_eq_true rfl)⟩ w_2_147 (ci := 0) rfl rfl hz.book.s0 rfl rfl (Nat.le_of_ble_eq_true rfl) e_cn (Nat.le_of_ble_eq_true rfl) ?_
  refine (show E mX0_empty 0 0 0 [some (.ref 304)] [] z I3 _ from ?_)
  refine E_aload_n (pc := 0) (x := 304) ddX0_empty_0 rfl rfl ?_
  refine E_iconst (pc := 1) (v := 0) ddX0_empty_1 rfl ?_
  obtain ⟨I4, eI4⟩ : ∃ y : It, y = e_st I3 304 2 0 := ⟨_, rfl⟩
  have k := k I4 eI4
  refine E_putI (pc := 2) ddX0_empty_2 ec_0 2 (Nat.le_of_ble_eq_true rfl) rfl w_1_227 hz.book.s0 rfl rfl ?_
  rw [← eI4]
  refine E_vret (pc := 5) ddX0_empty_5 rfl ?_
  refine (show E mX8_wires mc ms 85 [some (.ref 1), none, none] [] z I4 Q from ?_)
  refine E_aload_n (pc := 85) (x := 1) ddX8_wires_85 rfl rfl ?_
  refine E_getR (pc := 86) (x := pa) ddX8_wires_86 ec_7 1 (Nat.le_of_ble_eq_true rfl) rfl w_2_9 hz.s0 hz.r1 hz.npa ?_
  refine E_getI (pc := 89) ddX8_wires_89 ec_5 0 (Nat.le_of_ble_eq_true rfl) rfl w_1_56 hz.pa.s0 ?_
  exact E_iret (pc := 92) ddX8_wires_92 rfl k
/-! X8_fault, labels [] -/
set_option maxRecDepth 100000 in
set_option maxHeartbeats 4000000 in
theorem B_X8_fault_0 {mc ms : Nat} {z : Zt} {I : It} {Q : Option Value → Zt → It → Prop} {pa pb : Nat} (hz : isZ z pa pb)
    (k : Q (some (.int (I 2 2))) z I) :
    E mX8_fault mc ms 0 [some (.ref 1)] [] z I Q := by
  refine E_aload_n (pc := 0) (x := 1) ddX8_fault_0 rfl rfl ?_
  refine E_getR (pc := 1) (x := 2) ddX8_fault_1 ec_7 0 (Nat.le_of_ble_eq_true rfl) rfl w_2_8 hz.s0 hz.r0 (by decide) ?_
  refine E_getI (pc := 4) ddX8_fault_4 ec_6 2 (Nat.le_of_ble_eq_true rfl) rfl w_1_31 hz.rd.s0 ?_
  exact E_iret (pc := 7) ddX8_fault_7 rfl k
/-! X8_told, labels [135, 155, 168, 200] -/
set_option maxRecDepth 100000 in
set_option maxHeartbeats 4000000 in
theorem B_X8_told_0 {mc ms : Nat} {z : Zt} {I : It} {Q : Option Value → Zt → It → Prop} {x1 : Int32} {pa pb : Nat} (hz : isZ z pa pb)
    (k : (x1 = 0 → Q (some (.int (I pa 0))) z I) ∧
    (x1 = 1 → Q (some (.int (I pa 1))) z I) ∧
    (x1 = 2 → Q (some (.int (I 2 1))) z I) ∧
    (x1 = 3 → Q (some (.int (I 20 0))) z I) ∧
    (x1 = 4 → Q (some (.int (I 20 1))) z I) ∧
    (x1 = 5 → (((I 20 2) = 0) → Q (some (.int 0)) z I) ∧
    ((¬ (I 20 2) = 0) → Q (some (.int 1)) z I)) ∧
    (x1 = 6 → E mX4_isStill 0 0 0 [some (.ref 20)] [] z I (fun r z' I' => E mX8_told mc ms 135 [none, none] (r.toList ++ []) z' I' Q)) ∧
    (x1 = 7 → E mX4_holdingGates 0 0 0 [some (.ref 20), some (.ref pa), none, none] [] z I (fun r z' I' => E mX8_told mc ms 155 [none, none] (r.toList ++ []) z' I' Q)) ∧
    (x1 = 8 → Q (some (.int (I 20 3))) z I) ∧
    (x1 = 9 → E mX8_stepsTillStill 0 0 0 [some (.ref 1), none] [] z I (fun r z' I' => E mX8_told mc ms 168 [none, none] (r.toList ++ []) z' I' Q)) ∧
    (x1 = 10 → Q (some (.int (I 20 14))) z I) ∧
    (x1 = 11 → Q (some (.int (I 304 2))) z I) ∧
    (x1 = 12 → E mX0_firstWrong 0 0 0 [some (.ref 304), some (.ref pa), some (.ref 20), none, none] [] z I (fun r z' I' => E mX8_told mc ms 200 [none, none] (r.toList ++ []) z' I' Q)) ∧
    (x1 = 13 → Q (some (.int (I 48 2))) z I) ∧
    (¬ x1 = 0 → ¬ x1 = 1 → ¬ x1 = 2 → ¬ x1 = 3 → ¬ x1 = 4 → ¬ x1 = 5 → ¬ x1 = 6 → ¬ x1 = 7 → ¬ x1 = 8 → ¬ x1 = 9 → ¬ x1 = 10 → ¬ x1 = 11 → ¬ x1 = 12 → ¬ x1 = 13 → Q (some (.int (-1000000002))) z I)) :
    E mX8_told mc ms 0 [some (.ref 1), some (.int x1)] [] z I Q := by
  refine E_iload_n (pc := 0) (x := x1) ddX8_told_0 rfl rfl ?_
  by_cases h0 : x1 = 0
  · have k := k.1 h0
    refine E_tswIn (pc := 1) (v := 0) (tgt := 72) ddX8_told_1 (by rw [h0]; rfl) (by decide) (by decide) rfl (by decide) ?_
    refine E_aload_n (pc := 72) (x := 1) ddX8_told_72 rfl rfl ?_
    refine E_getR (pc := 73) (x := pa) ddX8_told_73 ec_7 1 (Nat.le_of_ble_eq_true rfl) rfl w_2_9 hz.s0 hz.r1 hz.npa ?_
    refine E_getI (pc := 76) ddX8_told_76 ec_5 0 (Nat.le_of_ble_eq_true rfl) rfl w_1_56 hz.pa.s0 ?_
    exact E_iret (pc := 79) ddX8_told_79 rfl k
  by_cases h1 : x1 = 1
  · have k := k.2.1 h1
    refine E_tswIn (pc := 1) (v := 1) (tgt := 80) ddX8_told_1 (by rw [h1]; rfl) (by decide) (by decide) rfl (by decide) ?_
    refine E_aload_n (pc := 80) (x := 1) ddX8_told_80 rfl rfl ?_
    refine E_getR (pc := 81) (x := pa) ddX8_told_81 ec_7 1 (Nat.le_of_ble_eq_true rfl) rfl w_2_9 hz.s0 hz.r1 hz.npa ?_
    refine E_getI (pc := 84) ddX8_told_84 ec_5 1 (Nat.le_of_ble_eq_true rfl) rfl w_1_61 hz.pa.s0 ?_
    exact E_iret (pc := 87) ddX8_told_87 rfl k
  by_cases h2 : x1 = 2
  · have k := k.2.2.1 h2
    refine E_tswIn (pc := 1) (v := 2) (tgt := 88) ddX8_told_1 (by rw [h2]; rfl) (by decide) (by decide) rfl (by decide) ?_
    refine E_aload_n (pc := 88) (x := 1) ddX8_told_88 rfl rfl ?_
    refine E_getR (pc := 89) (x := 2) ddX8_told_89 ec_7 0 (Nat.le_of_ble_eq_true rfl) rfl w_2_8 hz.s0 hz.r0 (by decide) ?_
    refine E_getI (pc := 92) ddX8_told_92 ec_6 1 (Nat.le_of_ble_eq_true rfl) rfl w_1_29 hz.rd.s0 ?_
    exact E_iret (pc := 95) ddX8_told_95 rfl k
  by_cases h3 : x1 = 3
  · have k := k.2.2.2.1 h3
    refine E_tswIn (pc := 1) (v := 3) (tgt := 96) ddX8_told_1 (by rw [h3]; rfl) (by decide) (by decide) rfl (by decide) ?_
    refine E_aload_n (pc := 96) (x := 1) ddX8_told_96 rfl rfl ?_
    refine E_getR (pc := 97) (x := 20) ddX8_told_97 ec_7 3 (Nat.le_of_ble_eq_true rfl) rfl w_2_11 hz.s0 hz.r3 (by decide) ?_
    refine E_getI (pc := 100) ddX8_told_100 ec_3 0 (Nat.le_of_ble_eq_true rfl) rfl w_1_115 hz.now.s0 ?_
    exact E_iret (pc := 103) ddX8_told_103 rfl k
  by_cases h4 : x1 = 4
  · have k := k.2.2.2.2.1 h4
    refine E_tswIn (pc := 1) (v := 4) (tgt := 104) ddX8_told_1 (by rw [h4]; rfl) (by decide) (by decide) rfl (by decide) ?_
    refine E_aload_n (pc := 104) (x := 1) ddX8_told_104 rfl rfl ?_
    refine E_getR (pc := 105) (x := 20) ddX8_told_105 ec_7 3 (Nat.le_of_ble_eq_true rfl) rfl w_2_11 hz.s0 hz.r3 (by decide) ?_
    refine E_getI (pc := 108) ddX8_told_108 ec_3 1 (Nat.le_of_ble_eq_true rfl) rfl w_1_117 hz.now.s0 ?_
    exact E_iret (pc := 111) ddX8_told_111 rfl k
  by_cases h5 : x1 = 5
  · have k := k.2.2.2.2.2.1 h5
    refine E_tswIn (pc := 1) (v := 5) (tgt := 112) ddX8_told_1 (by rw [h5]; rfl) (by decide) (by decide) rfl (by decide) ?_
    refine E_aload_n (pc := 112) (x := 1) ddX8_told_112 rfl rfl ?_
    refine E_getR (pc := 113) (x := 20) ddX8_told_113 ec_7 3 (Nat.le_of_ble_eq_true rfl) rfl w_2_11 hz.s0 hz.r3 (by decide) ?_
    refine E_getI (pc := 116) ddX8_told_116 ec_3 2 (Nat.le_of_ble_eq_true rfl) rfl w_1_119 hz.now.s0 ?_
    refine E_if_eq (pc := 119) (tgt := 126) ddX8_told_119 (by decide) (fun h => ?_) (fun h => ?_)
    · have k := k.1 h
      refine E_iconst (pc := 126) (v := 0) ddX8_told_126 rfl ?_
      exact E_iret (pc := 127) ddX8_told_127 rfl k
    · have k := k.2 h
      refine E_iconst (pc := 122) (v := 1) ddX8_told_122 rfl ?_
      refine E_goto (pc := 123) (tgt := 127) ddX8_told_123 (by decide) ?_
      exact E_iret (pc := 127) ddX8_told_127 rfl k
  by_cases h6 : x1 = 6
  · have k := k.2.2.2.2.2.2.1 h6
    refine E_tswIn (pc := 1) (v := 6) (tgt := 128) ddX8_told_1 (by rw [h6]; rfl) (by decide) (by decide) rfl (by decide) ?_
    refine E_aload_n (pc := 128) (x := 1) ddX8_told_128 rfl rfl ?_
    refine E_getR (pc := 129) (x := 20) ddX8_told_129 ec_7 3 (Nat.le_of_ble_eq_true rfl) rfl w_2_11 hz.s0 hz.r3 (by decide) ?_
    exact E_callV (pc := 132) (As := []) (st := []) (a := 20) ddX8_told_132 hX4_isStill ⟨(Nat.le_of_ble_eq_true rfl), (Nat.le_of_ble_eq_true rfl)⟩ w_2_159 (ci := 3) rfl rfl hz.now.s0 rfl rfl (Nat.le_of_ble_eq_true rfl) e_cn (Nat.le_of_ble_eq_true rfl) (E.mono k fun _ _ _ q => E.forget q trivial)
  by_cases h7 : x1 = 7
  · have k := k.2.2.2.2.2.2.2.1 h7
    refine E_tswIn (pc := 1) (v := 7) (tgt := 144) ddX8_told_1 (by rw [h7]; rfl) (by decide) (by decide) rfl (by decide) ?_
    refine E_aload_n (pc := 144) (x := 1) ddX8_told_144 rfl rfl ?_
    refine E_getR (pc := 145) (x := 20) ddX8_told_145 ec_7 3 (Nat.le_of_ble_eq_true rfl) rfl w_2_11 hz.s0 hz.r3 (by decide) ?_
    refine E_aload_n (pc := 148) (x := 1) ddX8_told_148 rfl rfl ?_
    refine E_getR (pc := 149) (x := pa) ddX8_told_149 ec_7 1 (Nat.le_of_ble_eq_true rfl) rfl w_2_9 hz.s0 hz.r1 hz.npa ?_
    exact E_callV (pc := 152) (As := [.ref pa]) (st := []) (a := 20) ddX8_told_152 hX4_holdingGates ⟨(Nat.le_of_ble_eq_true rfl), (Nat.le_of_ble_eq_true rfl)⟩ w_2_171 (ci := 3) rfl rfl hz.now.s0 rfl rfl (Nat.le_of_ble_eq_true rfl) (e_cc rfl e_cn) (Nat.le_of_ble_eq_true rfl) (E.mono k fun _ _ _ q => E.forget q trivial)
  by_cases h8 : x1 = 8
  · have k := k.2.2.2.2.2.2.2.2.1 h8
    refine E_tswIn (pc := 1) (v := 8) (tgt := 156) ddX8_told_1 (by rw [h8]; rfl) (by decide) (by decide) rfl (by decide) ?_
    refine E_aload_n (pc := 156) (x := 1) ddX8_told_156 rfl rfl ?_
    refine E_getR (pc := 157) (x := 20) ddX8_told_157 ec_7 3 (Nat.le_of_ble_eq_true rfl) rfl w_2_11 hz.s0 hz.r3 (by decide) ?_
    refine E_getI (pc := 160) ddX8_told_160 ec_3 3 (Nat.le_of_ble_eq_true rfl) rfl w_1_121 hz.now.s0 ?_
    exact E_iret (pc := 163) ddX8_told_163 rfl k
  by_cases h9 : x1 = 9
  · have k := k.2.2.2.2.2.2.2.2.2.1 h9
    refine E_tswIn (pc := 1) (v := 9) (tgt := 164) ddX8_told_1 (by rw [h9]; rfl) (by decide) (by decide) rfl (by decide) ?_
    refine E_aload_n (pc := 164) (x := 1) ddX8_told_164 rfl rfl ?_
    exact E_callV (pc := 165) (As := []) (st := []) (a := 1) ddX8_told_165 hX8_stepsTillStill ⟨(Nat.le_of_ble_eq_true rfl), (Nat.le_of_ble_eq_true rfl)⟩ w_2_175 (ci := 7) rfl rfl hz.s0 rfl rfl (Nat.le_of_ble_eq_true rfl) e_cn (Nat.le_of_ble_eq_true rfl) (E.mono k fun _ _ _ q => E.forget q trivial)
  by_cases h10 : x1 = 10
  · have k := k.2.2.2.2.2.2.2.2.2.2.1 h10
    refine E_tswIn (pc := 1) (v := 10) (tgt := 169) ddX8_told_1 (by rw [h10]; rfl) (by decide) (by decide) rfl (by decide) ?_
    refine E_aload_n (pc := 169) (x := 1) ddX8_told_169 rfl rfl ?_
    refine E_getR (pc := 170) (x := 20) ddX8_told_170 ec_7 3 (Nat.le_of_ble_eq_true rfl) rfl w_2_11 hz.s0 hz.r3 (by decide) ?_
    refine E_getI (pc := 173) ddX8_told_173 ec_3 14 (Nat.le_of_ble_eq_true rfl) rfl w_1_139 hz.now.s0 ?_
    exact E_iret (pc := 176) ddX8_told_176 rfl k
  by_cases h11 : x1 = 11
  · have k := k.2.2.2.2.2.2.2.2.2.2.2.1 h11
    refine E_tswIn (pc := 1) (v := 11) (tgt := 177) ddX8_told_1 (by rw [h11]; rfl) (by decide) (by decide) rfl (by decide) ?_
    refine E_aload_n (pc := 177) (x := 1) ddX8_told_177 rfl rfl ?_
    refine E_getR (pc := 178) (x := 304) ddX8_told_178 ec_7 8 (Nat.le_of_ble_eq_true rfl) rfl w_2_16 hz.s0 hz.r8 (by decide) ?_
    refine E_getI (pc := 181) ddX8_told_181 ec_0 2 (Nat.le_of_ble_eq_true rfl) rfl w_1_228 hz.book.s0 ?_
    exact E_iret (pc := 184) ddX8_told_184 rfl k
  by_cases h12 : x1 = 12
  · have k := k.2.2.2.2.2.2.2.2.2.2.2.2.1 h12
    refine E_tswIn (pc := 1) (v := 12) (tgt := 185) ddX8_told_1 (by rw [h12]; rfl) (by decide) (by decide) rfl (by decide) ?_
    refine E_aload_n (pc := 185) (x := 1) ddX8_told_185 rfl rfl ?_
    refine E_getR (pc := 186) (x := 304) ddX8_told_186 ec_7 8 (Nat.le_of_ble_eq_true rfl) rfl w_2_16 hz.s0 hz.r8 (by decide) ?_
    refine E_aload_n (pc := 189) (x := 1) ddX8_told_189 rfl rfl ?_
    refine E_getR (pc := 190) (x := pa) ddX8_told_190 ec_7 1 (Nat.le_of_ble_eq_true rfl) rfl w_2_9 hz.s0 hz.r1 hz.npa ?_
    refine E_aload_n (pc := 193) (x := 1) ddX8_told_193 rfl rfl ?_
    refine E_getR (pc := 194) (x := 20) ddX8_told_194 ec_7 3 (Nat.le_of_ble_eq_true rfl) rfl w_2_11 hz.s0 hz.r3 (by decide) ?_
    exact E_callV (pc := 197) (As := [.ref pa, .ref 20]) (st := []) (a := 304) ddX8_told_197 hX0_firstWrong ⟨(Nat.le_of_ble_eq_true rfl), (Nat.le_of_ble_eq_true rfl)⟩ w_2_225 (ci := 0) rfl rfl hz.book.s0 rfl rfl (Nat.le_of_ble_eq_true rfl) (e_cc rfl (e_cc rfl e_cn)) (Nat.le_of_ble_eq_true rfl) (E.mono k fun _ _ _ q => E.forget q trivial)
  by_cases h13 : x1 = 13
  · have k := k.2.2.2.2.2.2.2.2.2.2.2.2.2.1 h13
    refine E_tswIn (pc := 1) (v := 13) (tgt := 201) ddX8_told_1 (by rw [h13]; rfl) (by decide) (by decide) rfl (by decide) ?_
    refine E_aload_n (pc := 201) (x := 1) ddX8_told_201 rfl rfl ?_
    refine E_getR (pc := 202) (x := 48) ddX8_told_202 ec_7 5 (Nat.le_of_ble_eq_true rfl) rfl w_2_13 hz.s0 hz.r5 (by decide) ?_
    refine E_getI (pc := 205) ddX8_told_205 ec_4 2 (Nat.le_of_ble_eq_true rfl) rfl w_1_192 hz.past.s0 ?_
    exact E_iret (pc := 208) ddX8_told_208 rfl k
  have k := k.2.2.2.2.2.2.2.2.2.2.2.2.2.2 h0 h1 h2 h3 h4 h5 h6 h7 h8 h9 h10 h11 h12 h13
  have q0 := lv_neT h0 (a := 0) rfl
  have q1 := lv_neT h1 (a := 1) rfl
  have q2 := lv_neT h2 (a := 2) rfl
  have q3 := lv_neT h3 (a := 3) rfl
  have q4 := lv_neT h4 (a := 4) rfl
  have q5 := lv_neT h5 (a := 5) rfl
  have q6 := lv_neT h6 (a := 6) rfl
  have q7 := lv_neT h7 (a := 7) rfl
  have q8 := lv_neT h8 (a := 8) rfl
  have q9 := lv_neT h9 (a := 9) rfl
  have q10 := lv_neT h10 (a := 10) rfl
  have q11 := lv_neT h11 (a := 11) rfl
  have q12 := lv_neT h12 (a := 12) rfl
  have q13 := lv_neT h13 (a := 13) rfl
  refine E_tswOut (pc := 1) (tgt := 209) ddX8_told_1 (by omega) (by decide) ?_
  refine E_ldc (pc := 209) (v := (-1000000002)) ddX8_told_209 w_2_43 ?_
  exact E_iret (pc := 211) ddX8_told_211 rfl k
set_option maxRecDepth 100000 in
set_option maxHeartbeats 4000000 in
theorem B_X8_told_135 {mc ms : Nat} {z : Zt} {I : It} {Q : Option Value → Zt → It → Prop} {y0 : Int32}
    (k : ((y0 = 0) → Q (some (.int 0)) z I) ∧
    ((¬ y0 = 0) → Q (some (.int 1)) z I)) :
    E mX8_told mc ms 135 [none, none] [.int y0] z I Q := by
  refine E_if_eq (pc := 135) (tgt := 142) ddX8_told_135 (by decide) (fun h => ?_) (fun h => ?_)
  · have k := k.1 h
    refine E_iconst (pc := 142) (v := 0) ddX8_told_142 rfl ?_
    exact E_iret (pc := 143) ddX8_told_143 rfl k
  · have k := k.2 h
    refine E_iconst (pc := 138) (v := 1) ddX8_told_138 rfl ?_
    refine E_goto (pc := 139) (tgt := 143) ddX8_told_139 (by decide) ?_
    exact E_iret (pc := 143) ddX8_told_143 rfl k
set_option maxRecDepth 100000 in
set_option maxHeartbeats 4000000 in
theorem B_X8_told_155 {mc ms : Nat} {z : Zt} {I : It} {Q : Option Value → Zt → It → Prop} {y0 : Int32}
    (k : Q (some (.int y0)) z I) :
    E mX8_told mc ms 155 [none, none] [.int y0] z I Q := by
  exact E_iret (pc := 155) ddX8_told_155 rfl k
set_option maxRecDepth 100000 in
set_option maxHeartbeats 4000000 in
theorem B_X8_told_168 {mc ms : Nat} {z : Zt} {I : It} {Q : Option Value → Zt → It → Prop} {y0 : Int32}
    (k : Q (some (.int y0)) z I) :
    E mX8_told mc ms 168 [none, none] [.int y0] z I Q := by
  exact E_iret (pc := 168) ddX8_told_168 rfl k
set_option maxRecDepth 100000 in
set_option maxHeartbeats 4000000 in
theorem B_X8_told_200 {mc ms : Nat} {z : Zt} {I : It} {Q : Option Value → Zt → It → Prop} {y0 : Int32}
    (k : Q (some (.int y0)) z I) :
    E mX8_told mc ms 200 [none, none] [.int y0] z I Q := by
  exact E_iret (pc := 200) ddX8_told_200 rfl k
/-! X8_wire, labels [66, 95] -/
set_option maxRecDepth 100000 in
set_option maxHeartbeats 4000000 in
theorem B_X8_wire_0 {mc ms : Nat} {z : Zt} {I : It} {Q : Option Value → Zt → It → Prop} {x1 x2 : Int32} {pa pb : Nat} (hz : isZ z pa pb)
    (k : ((x1 < 0) → Q (some (.int (-1000000001))) z I) ∧
    ((¬ x1 < 0) → (((I pa 0) ≤ x1) → Q (some (.int (-1000000001))) z I) ∧
    ((¬ (I pa 0) ≤ x1) → (x2 = 0 → ∃ j1 : Nat, x1 = nI j1 ∧ j1 < 8 ∧ Q (some (.int (I 21 j1))) z I) ∧
    (x2 = 1 → E mX6_driversOf 0 0 0 [some (.ref pa), some (.int x1), none, none] [] z I (fun r z' I' => E mX8_wire mc ms 66 [none, none, none] (r.toList ++ []) z' I' Q)) ∧
    (x2 = 2 → ∃ j1 : Nat, x1 = nI j1 ∧ j1 < 8 ∧ Q (some (.int (I 22 j1))) z I) ∧
    (x2 = 3 → ∃ j1 : Nat, x1 = nI j1 ∧ j1 < 8 ∧ Q (some (.int (I 23 j1))) z I) ∧
    (x2 = 4 → E mX6_lookersAt 0 0 0 [some (.ref pa), some (.int x1), none, none] [] z I (fun r z' I' => E mX8_wire mc ms 95 [none, none, none] (r.toList ++ []) z' I' Q)) ∧
    (¬ x2 = 0 → ¬ x2 = 1 → ¬ x2 = 2 → ¬ x2 = 3 → ¬ x2 = 4 → Q (some (.int (-1000000002))) z I)))) :
    E mX8_wire mc ms 0 [some (.ref 1), some (.int x1), some (.int x2)] [] z I Q := by
  refine E_aload_n (pc := 0) (x := 1) ddX8_wire_0 rfl rfl ?_
  refine E_getR (pc := 1) (x := pa) ddX8_wire_1 ec_7 1 (Nat.le_of_ble_eq_true rfl) rfl w_2_9 hz.s0 hz.r1 hz.npa ?_
  refine E_iload_n (pc := 4) (x := x1) ddX8_wire_4 rfl rfl ?_
  refine E_callV (pc := 5) (As := [.int x1]) (st := []) (a := pa) ddX8_wire_5 hX6_hasWire ⟨(Nat.le_of_ble_eq_true rfl), (Nat.le_of_ble_eq_true rfl)⟩ w_2_237 (ci := 5) rfl rfl hz.pa.s0 rfl rfl (Nat.le_of_ble_eq_true rfl) (e_cc rfl e_cn) (Nat.le_of_ble_eq_true rfl) ?_
  refine (show E mX6_hasWire 0 0 0 [some (.ref pa), some (.int x1)] [] z I _ from ?_)
  refine E_iload_n (pc := 0) (x := x1) ddX6_hasWire_0 rfl rfl ?_
  refine E_if_lt (pc := 1) (tgt := 16) ddX6_hasWire_1 (by decide) (fun h => ?_) (fun h => ?_)
  · have k := k.1 h
    refine E_iconst (pc := 16) (v := 0) ddX6_hasWire_16 rfl ?_
    refine E_zret (pc := 17) ddX6_hasWire_17 rfl (by decide) ?_
    refine (show E mX8_wire mc ms 8 [some (.ref 1), some (.int x1), some (.int x2)] [.int 0] z I Q from ?_)
    refine E_if_ne (pc := 8) (tgt := 14) ddX8_wire_8 (by decide) (fun h => absurd h (by decide)) (fun _ => ?_)
    refine E_ldc (pc := 11) (v := (-1000000001)) ddX8_wire_11 w_2_238 ?_
    exact E_iret (pc := 13) ddX8_wire_13 rfl k
  · have k := k.2 h
    refine E_iload_n (pc := 4) (x := x1) ddX6_hasWire_4 rfl rfl ?_
    refine E_aload_n (pc := 5) (x := pa) ddX6_hasWire_5 rfl rfl ?_
    refine E_getI (pc := 6) ddX6_hasWire_6 ec_5 0 (Nat.le_of_ble_eq_true rfl) rfl w_1_55 hz.pa.s0 ?_
    refine E_icmp_ge (pc := 9) (tgt := 16) ddX6_hasWire_9 (by decide) (fun h => ?_) (fun h => ?_)
    · have k := k.1 h
      refine E_iconst (pc := 16) (v := 0) ddX6_hasWire_16 rfl ?_
      refine E_zret (pc := 17) ddX6_hasWire_17 rfl (by decide) ?_
      refine (show E mX8_wire mc ms 8 [some (.ref 1), some (.int x1), some (.int x2)] [.int 0] z I Q from ?_)
      refine E_if_ne (pc := 8) (tgt := 14) ddX8_wire_8 (by decide) (fun h => absurd h (by decide)) (fun _ => ?_)
      refine E_ldc (pc := 11) (v := (-1000000001)) ddX8_wire_11 w_2_238 ?_
      exact E_iret (pc := 13) ddX8_wire_13 rfl k
    · have k := k.2 h
      refine E_iconst (pc := 12) (v := 1) ddX6_hasWire_12 rfl ?_
      refine E_goto (pc := 13) (tgt := 17) ddX6_hasWire_13 (by decide) ?_
      refine E_zret (pc := 17) ddX6_hasWire_17 rfl (by decide) ?_
      refine (show E mX8_wire mc ms 8 [some (.ref 1), some (.int x1), some (.int x2)] [.int 1] z I Q from ?_)
      refine E_if_ne (pc := 8) (tgt := 14) ddX8_wire_8 (by decide) (fun _ => ?_) (fun h => absurd h (by decide))
      refine E_iload_n (pc := 14) (x := x2) ddX8_wire_14 rfl rfl ?_
      by_cases h0 : x2 = 0
      · have k := k.1 h0
        refine E_tswIn (pc := 15) (v := 0) (tgt := 48) ddX8_wire_15 (by rw [h0]; rfl) (by decide) (by decide) rfl (by decide) ?_
        refine E_aload_n (pc := 48) (x := 1) ddX8_wire_48 rfl rfl ?_
        refine E_getR (pc := 49) (x := 20) ddX8_wire_49 ec_7 3 (Nat.le_of_ble_eq_true rfl) rfl w_2_11 hz.s0 hz.r3 (by decide) ?_
        refine E_getR (pc := 52) (x := 21) ddX8_wire_52 ec_3 4 (Nat.le_of_ble_eq_true rfl) rfl w_1_124 hz.now.s0 hz.now.r4 (by decide) ?_
        refine E_iload_n (pc := 55) (x := x1) ddX8_wire_55 rfl rfl ?_
        obtain ⟨j1, ij1, lj1, k⟩ := k
        refine E_ialdN (pc := 56) (j := j1) ddX8_wire_56 hz.now.s1 ij1 lj1 (Nat.le_of_ble_eq_true rfl) ?_
        exact E_iret (pc := 57) ddX8_wire_57 rfl k
      by_cases h1 : x2 = 1
      · have k := k.2.1 h1
        refine E_tswIn (pc := 15) (v := 1) (tgt := 58) ddX8_wire_15 (by rw [h1]; rfl) (by decide) (by decide) rfl (by decide) ?_
        refine E_aload_n (pc := 58) (x := 1) ddX8_wire_58 rfl rfl ?_
        refine E_getR (pc := 59) (x := pa) ddX8_wire_59 ec_7 1 (Nat.le_of_ble_eq_true rfl) rfl w_2_9 hz.s0 hz.r1 hz.npa ?_
        refine E_iload_n (pc := 62) (x := x1) ddX8_wire_62 rfl rfl ?_
        exact E_callV (pc := 63) (As := [.int x1]) (st := []) (a := pa) ddX8_wire_63 hX6_driversOf ⟨(Nat.le_of_ble_eq_true rfl), (Nat.le_of_ble_eq_true rfl)⟩ w_2_239 (ci := 5) rfl rfl hz.pa.s0 rfl rfl (Nat.le_of_ble_eq_true rfl) (e_cc rfl e_cn) (Nat.le_of_ble_eq_true rfl) (E.mono k fun _ _ _ q => E.forget q trivial)
      by_cases h2 : x2 = 2
      · have k := k.2.2.1 h2
        refine E_tswIn (pc := 15) (v := 2) (tgt := 67) ddX8_wire_15 (by rw [h2]; rfl) (by decide) (by decide) rfl (by decide) ?_
        refine E_aload_n (pc := 67) (x := 1) ddX8_wire_67 rfl rfl ?_
        refine E_getR (pc := 68) (x := 20) ddX8_wire_68 ec_7 3 (Nat.le_of_ble_eq_true rfl) rfl w_2_11 hz.s0 hz.r3 (by decide) ?_
        refine E_getR (pc := 71) (x := 22) ddX8_wire_71 ec_3 5 (Nat.le_of_ble_eq_true rfl) rfl w_1_126 hz.now.s0 hz.now.r5 (by decide) ?_
        refine E_iload_n (pc := 74) (x := x1) ddX8_wire_74 rfl rfl ?_
        obtain ⟨j1, ij1, lj1, k⟩ := k
        refine E_ialdN (pc := 75) (j := j1) ddX8_wire_75 hz.now.s2 ij1 lj1 (Nat.le_of_ble_eq_true rfl) ?_
        exact E_iret (pc := 76) ddX8_wire_76 rfl k
      by_cases h3 : x2 = 3
      · have k := k.2.2.2.1 h3
        refine E_tswIn (pc := 15) (v := 3) (tgt := 77) ddX8_wire_15 (by rw [h3]; rfl) (by decide) (by decide) rfl (by decide) ?_
        refine E_aload_n (pc := 77) (x := 1) ddX8_wire_77 rfl rfl ?_
        refine E_getR (pc := 78) (x := 20) ddX8_wire_78 ec_7 3 (Nat.le_of_ble_eq_true rfl) rfl w_2_11 hz.s0 hz.r3 (by decide) ?_
        refine E_getR (pc := 81) (x := 23) ddX8_wire_81 ec_3 6 (Nat.le_of_ble_eq_true rfl) rfl w_1_128 hz.now.s0 hz.now.r6 (by decide) ?_
        refine E_iload_n (pc := 84) (x := x1) ddX8_wire_84 rfl rfl ?_
        obtain ⟨j1, ij1, lj1, k⟩ := k
        refine E_ialdN (pc := 85) (j := j1) ddX8_wire_85 hz.now.s3 ij1 lj1 (Nat.le_of_ble_eq_true rfl) ?_
        exact E_iret (pc := 86) ddX8_wire_86 rfl k
      by_cases h4 : x2 = 4
      · have k := k.2.2.2.2.1 h4
        refine E_tswIn (pc := 15) (v := 4) (tgt := 87) ddX8_wire_15 (by rw [h4]; rfl) (by decide) (by decide) rfl (by decide) ?_
        refine E_aload_n (pc := 87) (x := 1) ddX8_wire_87 rfl rfl ?_
        refine E_getR (pc := 88) (x := pa) ddX8_wire_88 ec_7 1 (Nat.le_of_ble_eq_true rfl) rfl w_2_9 hz.s0 hz.r1 hz.npa ?_
        refine E_iload_n (pc := 91) (x := x1) ddX8_wire_91 rfl rfl ?_
        exact E_callV (pc := 92) (As := [.int x1]) (st := []) (a := pa) ddX8_wire_92 hX6_lookersAt ⟨(Nat.le_of_ble_eq_true rfl), (Nat.le_of_ble_eq_true rfl)⟩ w_3_3 (ci := 5) rfl rfl hz.pa.s0 rfl rfl (Nat.le_of_ble_eq_true rfl) (e_cc rfl e_cn) (Nat.le_of_ble_eq_true rfl) (E.mono k fun _ _ _ q => E.forget q trivial)
      have k := k.2.2.2.2.2 h0 h1 h2 h3 h4
      have q0 := lv_neT h0 (a := 0) rfl
      have q1 := lv_neT h1 (a := 1) rfl
      have q2 := lv_neT h2 (a := 2) rfl
      have q3 := lv_neT h3 (a := 3) rfl
      have q4 := lv_neT h4 (a := 4) rfl
      refine E_tswOut (pc := 15) (tgt := 96) ddX8_wire_15 (by omega) (by decide) ?_
      refine E_ldc (pc := 96) (v := (-1000000002)) ddX8_wire_96 w_2_43 ?_
      exact E_iret (pc := 98) ddX8_wire_98 rfl k
set_option maxRecDepth 100000 in
set_option maxHeartbeats 4000000 in
theorem B_X8_wire_66 {mc ms : Nat} {z : Zt} {I : It} {Q : Option Value → Zt → It → Prop} {y0 : Int32}
    (k : Q (some (.int y0)) z I) :
    E mX8_wire mc ms 66 [none, none, none] [.int y0] z I Q := by
  exact E_iret (pc := 66) ddX8_wire_66 rfl k
set_option maxRecDepth 100000 in
set_option maxHeartbeats 4000000 in
theorem B_X8_wire_95 {mc ms : Nat} {z : Zt} {I : It} {Q : Option Value → Zt → It → Prop} {y0 : Int32}
    (k : Q (some (.int y0)) z I) :
    E mX8_wire mc ms 95 [none, none, none] [.int y0] z I Q := by
  exact E_iret (pc := 95) ddX8_wire_95 rfl k
/-! X8_wave, labels [] -/
set_option maxRecDepth 100000 in
set_option maxHeartbeats 4000000 in
theorem B_X8_wave_0 {mc ms : Nat} {z : Zt} {I : It} {Q : Option Value → Zt → It → Prop} {x1 x2 x3 : Int32} {pa pb : Nat} (hz : isZ z pa pb)
    (k : ((x1 < 0) → Q (some (.int (-1000000001))) z I) ∧
    ((¬ x1 < 0) → (((I pa 0) ≤ x1) → Q (some (.int (-1000000001))) z I) ∧
    ((¬ (I pa 0) ≤ x1) → (x3 = 0 → ((x2 < 0) → Q (some (.int (-1))) z I) ∧
    ((¬ x2 < 0) → ∃ j1 : Nat, x1 = nI j1 ∧ j1 < 8 ∧ (((if 8 < (I 22 j1) then 8 else (I 22 j1)) ≤ x2) → Q (some (.int (-1))) z I) ∧
    ((¬ (if 8 < (I 22 j1) then 8 else (I 22 j1)) ≤ x2) → ∃ j2 : Nat, ((x1 * 8) + (f_J9_floorMod_7cf53 (((I 24 j1) - 1) - x2) 8)) = nI j2 ∧ j2 < 64 ∧ Q (some (.int (I 25 j2))) z I))) ∧
    (x3 = 1 → ((x2 < 0) → Q (some (.int (-1))) z I) ∧
    ((¬ x2 < 0) → ∃ j1 : Nat, x1 = nI j1 ∧ j1 < 8 ∧ (((if 8 < (I 22 j1) then 8 else (I 22 j1)) ≤ x2) → Q (some (.int (-1))) z I) ∧
    ((¬ (if 8 < (I 22 j1) then 8 else (I 22 j1)) ≤ x2) → ∃ j2 : Nat, ((x1 * 8) + (f_J9_floorMod_7cf53 (((I 24 j1) - 1) - x2) 8)) = nI j2 ∧ j2 < 64 ∧ Q (some (.int (I 26 j2))) z I))) ∧
    (¬ x3 = 0 → ¬ x3 = 1 → Q (some (.int (-1000000002))) z I)))) :
    E mX8_wave mc ms 0 [some (.ref 1), some (.int x1), some (.int x2), some (.int x3)] [] z I Q := by
  refine E_aload_n (pc := 0) (x := 1) ddX8_wave_0 rfl rfl ?_
  refine E_getR (pc := 1) (x := pa) ddX8_wave_1 ec_7 1 (Nat.le_of_ble_eq_true rfl) rfl w_2_9 hz.s0 hz.r1 hz.npa ?_
  refine E_iload_n (pc := 4) (x := x1) ddX8_wave_4 rfl rfl ?_
  refine E_callV (pc := 5) (As := [.int x1]) (st := []) (a := pa) ddX8_wave_5 hX6_hasWire ⟨(Nat.le_of_ble_eq_true rfl), (Nat.le_of_ble_eq_true rfl)⟩ w_2_237 (ci := 5) rfl rfl hz.pa.s0 rfl rfl (Nat.le_of_ble_eq_true rfl) (e_cc rfl e_cn) (Nat.le_of_ble_eq_true rfl) ?_
  refine (show E mX6_hasWire 0 0 0 [some (.ref pa), some (.int x1)] [] z I _ from ?_)
  refine E_iload_n (pc := 0) (x := x1) ddX6_hasWire_0 rfl rfl ?_
  refine E_if_lt (pc := 1) (tgt := 16) ddX6_hasWire_1 (by decide) (fun h => ?_) (fun h => ?_)
  · have k := k.1 h
    refine E_iconst (pc := 16) (v := 0) ddX6_hasWire_16 rfl ?_
    refine E_zret (pc := 17) ddX6_hasWire_17 rfl (by decide) ?_
    refine (show E mX8_wave mc ms 8 [some (.ref 1), some (.int x1), some (.int x2), some (.int x3)] [.int 0] z I Q from ?_)
    refine E_if_ne (pc := 8) (tgt := 14) ddX8_wave_8 (by decide) (fun h => absurd h (by decide)) (fun _ => ?_)
    refine E_ldc (pc := 11) (v := (-1000000001)) ddX8_wave_11 w_2_238 ?_
    exact E_iret (pc := 13) ddX8_wave_13 rfl k
  · have k := k.2 h
    refine E_iload_n (pc := 4) (x := x1) ddX6_hasWire_4 rfl rfl ?_
    refine E_aload_n (pc := 5) (x := pa) ddX6_hasWire_5 rfl rfl ?_
    refine E_getI (pc := 6) ddX6_hasWire_6 ec_5 0 (Nat.le_of_ble_eq_true rfl) rfl w_1_55 hz.pa.s0 ?_
    refine E_icmp_ge (pc := 9) (tgt := 16) ddX6_hasWire_9 (by decide) (fun h => ?_) (fun h => ?_)
    · have k := k.1 h
      refine E_iconst (pc := 16) (v := 0) ddX6_hasWire_16 rfl ?_
      refine E_zret (pc := 17) ddX6_hasWire_17 rfl (by decide) ?_
      refine (show E mX8_wave mc ms 8 [some (.ref 1), some (.int x1), some (.int x2), some (.int x3)] [.int 0] z I Q from ?_)
      refine E_if_ne (pc := 8) (tgt := 14) ddX8_wave_8 (by decide) (fun h => absurd h (by decide)) (fun _ => ?_)
      refine E_ldc (pc := 11) (v := (-1000000001)) ddX8_wave_11 w_2_238 ?_
      exact E_iret (pc := 13) ddX8_wave_13 rfl k
    · have k := k.2 h
      refine E_iconst (pc := 12) (v := 1) ddX6_hasWire_12 rfl ?_
      refine E_goto (pc := 13) (tgt := 17) ddX6_hasWire_13 (by decide) ?_
      refine E_zret (pc := 17) ddX6_hasWire_17 rfl (by decide) ?_
      refine (show E mX8_wave mc ms 8 [some (.ref 1), some (.int x1), some (.int x2), some (.int x3)] [.int 1] z I Q from ?_)
      refine E_if_ne (pc := 8) (tgt := 14) ddX8_wave_8 (by decide) (fun _ => ?_) (fun h => absurd h (by decide))
      refine E_iload_n (pc := 14) (x := x3) ddX8_wave_14 rfl rfl ?_
      by_cases h0 : x3 = 0
      · have k := k.1 h0
        refine E_lsw (pc := 15) (off := 25) (tgt := 40) ddX8_wave_15 (by decide) (by rw [h0]; rfl) (by decide) ?_
        refine E_aload_n (pc := 40) (x := 1) ddX8_wave_40 rfl rfl ?_
        refine E_getR (pc := 41) (x := 20) ddX8_wave_41 ec_7 3 (Nat.le_of_ble_eq_true rfl) rfl w_2_11 hz.s0 hz.r3 (by decide) ?_
        refine E_iload_n (pc := 44) (x := x1) ddX8_wave_44 rfl rfl ?_
        refine E_iload_n (pc := 45) (x := x2) ddX8_wave_45 rfl rfl ?_
        refine E_callV (pc := 46) (As := [.int x1, .int x2]) (st := []) (a := 20) ddX8_wave_46 hX4_changeTime ⟨(Nat.le_of_ble_eq_true rfl), (Nat.le_of_ble_eq_true rfl)⟩ w_3_12 (ci := 3) rfl rfl hz.now.s0 rfl rfl (Nat.le_of_ble_eq_true rfl) (e_cc rfl (e_cc rfl e_cn)) (Nat.le_of_ble_eq_true rfl) ?_
        refine (show E mX4_changeTime 0 0 0 [some (.ref 20), some (.int x1), some (.int x2)] [] z I _ from ?_)
        refine E_aload_n (pc := 0) (x := 20) ddX4_changeTime_0 rfl rfl ?_
        refine E_iload_n (pc := 1) (x := x1) ddX4_changeTime_1 rfl rfl ?_
        refine E_iload_n (pc := 2) (x := x2) ddX4_changeTime_2 rfl rfl ?_
        refine E_callV (pc := 3) (As := [.int x1, .int x2]) (st := []) (a := 20) ddX4_changeTime_3 hX4_hasChange ⟨(Nat.le_of_ble_eq_true rfl), (Nat.le_of_ble_eq_true rfl)⟩ w_3_16 (ci := 3) rfl rfl hz.now.s0 rfl rfl (Nat.le_of_ble_eq_true rfl) (e_cc rfl (e_cc rfl e_cn)) (Nat.le_of_ble_eq_true rfl) ?_
        refine (show E mX4_hasChange 0 0 0 [some (.ref 20), some (.int x1), some (.int x2)] [] z I _ from ?_)
        refine E_iload_n (pc := 0) (x := x2) ddX4_hasChange_0 rfl rfl ?_
        refine E_if_lt (pc := 1) (tgt := 23) ddX4_hasChange_1 (by decide) (fun h => ?_) (fun h => ?_)
        · have k := k.1 h
          refine E_iconst (pc := 23) (v := 0) ddX4_hasChange_23 rfl ?_
          refine E_zret (pc := 24) ddX4_hasChange_24 rfl (by decide) ?_
          refine (show E mX4_changeTime 0 0 6 [some (.ref 20), some (.int x1), some (.int x2)] [.int 0] z I _ from ?_)
          refine E_if_eq (pc := 6) (tgt := 23) ddX4_changeTime_6 (by decide) (fun _ => ?_) (fun h => absurd h (by decide))
          refine E_iconst (pc := 23) (v := (-1)) ddX4_changeTime_23 rfl ?_
          refine E_iret (pc := 24) ddX4_changeTime_24 rfl ?_
          refine (show E mX8_wave mc ms 49 [some (.ref 1), some (.int x1), some (.int x2), some (.int x3)] [.int (-1)] z I Q from ?_)
          exact E_iret (pc := 49) ddX8_wave_49 rfl k
        · have k := k.2 h
          refine E_iload_n (pc := 4) (x := x2) ddX4_hasChange_4 rfl rfl ?_
          refine E_aload_n (pc := 5) (x := 20) ddX4_hasChange_5 rfl rfl ?_
          refine E_getR (pc := 6) (x := 22) ddX4_hasChange_6 ec_3 5 (Nat.le_of_ble_eq_true rfl) rfl w_1_125 hz.now.s0 hz.now.r5 (by decide) ?_
          refine E_iload_n (pc := 9) (x := x1) ddX4_hasChange_9 rfl rfl ?_
          obtain ⟨j1, ij1, lj1, k⟩ := k
          refine E_ialdN (pc := 10) (j := j1) ddX4_hasChange_10 hz.now.s2 ij1 lj1 (Nat.le_of_ble_eq_true rfl) ?_
          refine E_bipush (pc := 11) (v := 8) ddX4_hasChange_11 rfl ?_
          refine E_mmin (pc := 13) ddX4_hasChange_13 w_2_168 w_2_169 w_1_11 w_2_170 (Nat.le_of_ble_eq_true rfl) (Nat.le_of_ble_eq_true rfl) ?_
          refine E_icmp_ge (pc := 16) (tgt := 23) ddX4_hasChange_16 (by decide) (fun h => ?_) (fun h => ?_)
          · have k := k.1 h
            refine E_iconst (pc := 23) (v := 0) ddX4_hasChange_23 rfl ?_
            refine E_zret (pc := 24) ddX4_hasChange_24 rfl (by decide) ?_
            refine (show E mX4_changeTime 0 0 6 [some (.ref 20), some (.int x1), some (.int x2)] [.int 0] z I _ from ?_)
            refine E_if_eq (pc := 6) (tgt := 23) ddX4_changeTime_6 (by decide) (fun _ => ?_) (fun h => absurd h (by decide))
            refine E_iconst (pc := 23) (v := (-1)) ddX4_changeTime_23 rfl ?_
            refine E_iret (pc := 24) ddX4_changeTime_24 rfl ?_
            refine (show E mX8_wave mc ms 49 [some (.ref 1), some (.int x1), some (.int x2), some (.int x3)] [.int (-1)] z I Q from ?_)
            exact E_iret (pc := 49) ddX8_wave_49 rfl k
          · have k := k.2 h
            refine E_iconst (pc := 19) (v := 1) ddX4_hasChange_19 rfl ?_
            refine E_goto (pc := 20) (tgt := 24) ddX4_hasChange_20 (by decide) ?_
            refine E_zret (pc := 24) ddX4_hasChange_24 rfl (by decide) ?_
            refine (show E mX4_changeTime 0 0 6 [some (.ref 20), some (.int x1), some (.int x2)] [.int 1] z I _ from ?_)
            refine E_if_eq (pc := 6) (tgt := 23) ddX4_changeTime_6 (by decide) (fun h => absurd h (by decide)) (fun _ => ?_)
            refine E_aload_n (pc := 9) (x := 20) ddX4_changeTime_9 rfl rfl ?_
            refine E_getR (pc := 10) (x := 25) ddX4_changeTime_10 ec_3 8 (Nat.le_of_ble_eq_true rfl) rfl w_1_130 hz.now.s0 hz.now.r8 (by decide) ?_
            refine E_aload_n (pc := 13) (x := 20) ddX4_changeTime_13 rfl rfl ?_
            refine E_iload_n (pc := 14) (x := x1) ddX4_changeTime_14 rfl rfl ?_
            refine E_iload_n (pc := 15) (x := x2) ddX4_changeTime_15 rfl rfl ?_
            refine E_callV (pc := 16) (As := [.int x1, .int x2]) (st := [.ref 25]) (a := 20) ddX4_changeTime_16 hX4_wavePlace ⟨(Nat.le_of_ble_eq_true rfl), (Nat.le_of_ble_eq_true rfl)⟩ w_3_20 (ci := 3) rfl rfl hz.now.s0 rfl rfl (Nat.le_of_ble_eq_true rfl) (e_cc rfl (e_cc rfl e_cn)) (Nat.le_of_ble_eq_true rfl) ?_
            refine (show E mX4_wavePlace 0 0 0 [some (.ref 20), some (.int x1), some (.int x2)] [] z I _ from ?_)
            refine E_iload_n (pc := 0) (x := x1) ddX4_wavePlace_0 rfl rfl ?_
            refine E_bipush (pc := 1) (v := 8) ddX4_wavePlace_1 rfl ?_
            refine E_imul (pc := 3) ddX4_wavePlace_3 ?_
            refine E_aload_n (pc := 4) (x := 20) ddX4_wavePlace_4 rfl rfl ?_
            refine E_getR (pc := 5) (x := 24) ddX4_wavePlace_5 ec_3 7 (Nat.le_of_ble_eq_true rfl) rfl w_1_129 hz.now.s0 hz.now.r7 (by decide) ?_
            refine E_iload_n (pc := 8) (x := x1) ddX4_wavePlace_8 rfl rfl ?_
            refine E_ialdN (pc := 9) (j := j1) ddX4_wavePlace_9 hz.now.s4 ij1 lj1 (Nat.le_of_ble_eq_true rfl) ?_
            refine E_iconst (pc := 10) (v := 1) ddX4_wavePlace_10 rfl ?_
            refine E_isub (pc := 11) ddX4_wavePlace_11 ?_
            refine E_iload_n (pc := 12) (x := x2) ddX4_wavePlace_12 rfl rfl ?_
            refine E_isub (pc := 13) ddX4_wavePlace_13 ?_
            refine E_bipush (pc := 14) (v := 8) ddX4_wavePlace_14 rfl ?_
            refine E_callS (pc := 16) (As := [.int (((I 24 j1) - 1) - x2), .int 8]) (st := [.int (x1 * 8)]) ddX4_wavePlace_16 hJ9_floorMod_7cf53 ⟨(Nat.le_of_ble_eq_true rfl), (Nat.le_of_ble_eq_true rfl)⟩ w_3_24 rfl rfl (Nat.le_of_ble_eq_true rfl) (e_cc rfl (e_cc rfl e_cn)) (Nat.le_of_ble_eq_true rfl) (C_J9_floorMod_7cf53 (by decide) ?_)
            refine (show E mX4_wavePlace 0 0 19 [some (.ref 20), some (.int x1), some (.int x2)] [.int (f_J9_floorMod_7cf53 (((I 24 j1) - 1) - x2) 8), .int (x1 * 8)] z I _ from ?_)
            refine E_iadd (pc := 19) ddX4_wavePlace_19 ?_
            refine E_iret (pc := 20) ddX4_wavePlace_20 rfl ?_
            refine (show E mX4_changeTime 0 0 19 [some (.ref 20), some (.int x1), some (.int x2)] [.int ((x1 * 8) + (f_J9_floorMod_7cf53 (((I 24 j1) - 1) - x2) 8)), .ref 25] z I _ from ?_)
            obtain ⟨j2, ij2, lj2, k⟩ := k
            refine E_ialdN (pc := 19) (j := j2) ddX4_changeTime_19 hz.now.s5 ij2 lj2 (Nat.le_of_ble_eq_true rfl) ?_
            refine E_goto (pc := 20) (tgt := 24) ddX4_changeTime_20 (by decide) ?_
            refine E_iret (pc := 24) ddX4_changeTime_24 rfl ?_
            refine (show E mX8_wave mc ms 49 [some (.ref 1), some (.int x1), some (.int x2), some (.int x3)] [.int (I 25 j2)] z I Q from ?_)
            exact E_iret (pc := 49) ddX8_wave_49 rfl k
      by_cases h1 : x3 = 1
      · have k := k.2.1 h1
        refine E_lsw (pc := 15) (off := 35) (tgt := 50) ddX8_wave_15 (by decide) (by rw [h1]; rfl) (by decide) ?_
        refine E_aload_n (pc := 50) (x := 1) ddX8_wave_50 rfl rfl ?_
        refine E_getR (pc := 51) (x := 20) ddX8_wave_51 ec_7 3 (Nat.le_of_ble_eq_true rfl) rfl w_2_11 hz.s0 hz.r3 (by decide) ?_
        refine E_iload_n (pc := 54) (x := x1) ddX8_wave_54 rfl rfl ?_
        refine E_iload_n (pc := 55) (x := x2) ddX8_wave_55 rfl rfl ?_
        refine E_callV (pc := 56) (As := [.int x1, .int x2]) (st := []) (a := 20) ddX8_wave_56 hX4_changeLevel ⟨(Nat.le_of_ble_eq_true rfl), (Nat.le_of_ble_eq_true rfl)⟩ w_3_27 (ci := 3) rfl rfl hz.now.s0 rfl rfl (Nat.le_of_ble_eq_true rfl) (e_cc rfl (e_cc rfl e_cn)) (Nat.le_of_ble_eq_true rfl) ?_
        refine (show E mX4_changeLevel 0 0 0 [some (.ref 20), some (.int x1), some (.int x2)] [] z I _ from ?_)
        refine E_aload_n (pc := 0) (x := 20) ddX4_changeLevel_0 rfl rfl ?_
        refine E_iload_n (pc := 1) (x := x1) ddX4_changeLevel_1 rfl rfl ?_
        refine E_iload_n (pc := 2) (x := x2) ddX4_changeLevel_2 rfl rfl ?_
        refine E_callV (pc := 3) (As := [.int x1, .int x2]) (st := []) (a := 20) ddX4_changeLevel_3 hX4_hasChange ⟨(Nat.le_of_ble_eq_true rfl), (Nat.le_of_ble_eq_true rfl)⟩ w_3_16 (ci := 3) rfl rfl hz.now.s0 rfl rfl (Nat.le_of_ble_eq_true rfl) (e_cc rfl (e_cc rfl e_cn)) (Nat.le_of_ble_eq_true rfl) ?_
        refine (show E mX4_hasChange 0 0 0 [some (.ref 20), some (.int x1), some (.int x2)] [] z I _ from ?_)
        refine E_iload_n (pc := 0) (x := x2) ddX4_hasChange_0 rfl rfl ?_
        refine E_if_lt (pc := 1) (tgt := 23) ddX4_hasChange_1 (by decide) (fun h => ?_) (fun h => ?_)
        · have k := k.1 h
          refine E_iconst (pc := 23) (v := 0) ddX4_hasChange_23 rfl ?_
          refine E_zret (pc := 24) ddX4_hasChange_24 rfl (by decide) ?_
          refine (show E mX4_changeLevel 0 0 6 [some (.ref 20), some (.int x1), some (.int x2)] [.int 0] z I _ from ?_)
          refine E_if_eq (pc := 6) (tgt := 23) ddX4_changeLevel_6 (by decide) (fun _ => ?_) (fun h => absurd h (by decide))
          refine E_iconst (pc := 23) (v := (-1)) ddX4_changeLevel_23 rfl ?_
          refine E_iret (pc := 24) ddX4_changeLevel_24 rfl ?_
          refine (show E mX8_wave mc ms 59 [some (.ref 1), some (.int x1), some (.int x2), some (.int x3)] [.int (-1)] z I Q from ?_)
          exact E_iret (pc := 59) ddX8_wave_59 rfl k
        · have k := k.2 h
          refine E_iload_n (pc := 4) (x := x2) ddX4_hasChange_4 rfl rfl ?_
          refine E_aload_n (pc := 5) (x := 20) ddX4_hasChange_5 rfl rfl ?_
          refine E_getR (pc := 6) (x := 22) ddX4_hasChange_6 ec_3 5 (Nat.le_of_ble_eq_true rfl) rfl w_1_125 hz.now.s0 hz.now.r5 (by decide) ?_
          refine E_iload_n (pc := 9) (x := x1) ddX4_hasChange_9 rfl rfl ?_
          obtain ⟨j1, ij1, lj1, k⟩ := k
          refine E_ialdN (pc := 10) (j := j1) ddX4_hasChange_10 hz.now.s2 ij1 lj1 (Nat.le_of_ble_eq_true rfl) ?_
          refine E_bipush (pc := 11) (v := 8) ddX4_hasChange_11 rfl ?_
          refine E_mmin (pc := 13) ddX4_hasChange_13 w_2_168 w_2_169 w_1_11 w_2_170 (Nat.le_of_ble_eq_true rfl) (Nat.le_of_ble_eq_true rfl) ?_
          refine E_icmp_ge (pc := 16) (tgt := 23) ddX4_hasChange_16 (by decide) (fun h => ?_) (fun h => ?_)
          · have k := k.1 h
            refine E_iconst (pc := 23) (v := 0) ddX4_hasChange_23 rfl ?_
            refine E_zret (pc := 24) ddX4_hasChange_24 rfl (by decide) ?_
            refine (show E mX4_changeLevel 0 0 6 [some (.ref 20), some (.int x1), some (.int x2)] [.int 0] z I _ from ?_)
            refine E_if_eq (pc := 6) (tgt := 23) ddX4_changeLevel_6 (by decide) (fun _ => ?_) (fun h => absurd h (by decide))
            refine E_iconst (pc := 23) (v := (-1)) ddX4_changeLevel_23 rfl ?_
            refine E_iret (pc := 24) ddX4_changeLevel_24 rfl ?_
            refine (show E mX8_wave mc ms 59 [some (.ref 1), some (.int x1), some (.int x2), some (.int x3)] [.int (-1)] z I Q from ?_)
            exact E_iret (pc := 59) ddX8_wave_59 rfl k
          · have k := k.2 h
            refine E_iconst (pc := 19) (v := 1) ddX4_hasChange_19 rfl ?_
            refine E_goto (pc := 20) (tgt := 24) ddX4_hasChange_20 (by decide) ?_
            refine E_zret (pc := 24) ddX4_hasChange_24 rfl (by decide) ?_
            refine (show E mX4_changeLevel 0 0 6 [some (.ref 20), some (.int x1), some (.int x2)] [.int 1] z I _ from ?_)
            refine E_if_eq (pc := 6) (tgt := 23) ddX4_changeLevel_6 (by decide) (fun h => absurd h (by decide)) (fun _ => ?_)
            refine E_aload_n (pc := 9) (x := 20) ddX4_changeLevel_9 rfl rfl ?_
            refine E_getR (pc := 10) (x := 26) ddX4_changeLevel_10 ec_3 9 (Nat.le_of_ble_eq_true rfl) rfl w_1_131 hz.now.s0 hz.now.r9 (by decide) ?_
            refine E_aload_n (pc := 13) (x := 20) ddX4_changeLevel_13 rfl rfl ?_
            refine E_iload_n (pc := 14) (x := x1) ddX4_changeLevel_14 rfl rfl ?_
            refine E_iload_n (pc := 15) (x := x2) ddX4_changeLevel_15 rfl rfl ?_
            refine E_callV (pc := 16) (As := [.int x1, .int x2]) (st := [.ref 26]) (a := 20) ddX4_changeLevel_16 hX4_wavePlace ⟨(Nat.le_of_ble_eq_true rfl), (Nat.le_of_ble_eq_true rfl)⟩ w_3_20 (ci := 3) rfl rfl hz.now.s0 rfl rfl (Nat.le_of_ble_eq_true rfl) (e_cc rfl (e_cc rfl e_cn)) (Nat.le_of_ble_eq_true rfl) ?_
            refine (show E mX4_wavePlace 0 0 0 [some (.ref 20), some (.int x1), some (.int x2)] [] z I _ from ?_)
            refine E_iload_n (pc := 0) (x := x1) ddX4_wavePlace_0 rfl rfl ?_
            refine E_bipush (pc := 1) (v := 8) ddX4_wavePlace_1 rfl ?_
            refine E_imul (pc := 3) ddX4_wavePlace_3 ?_
            refine E_aload_n (pc := 4) (x := 20) ddX4_wavePlace_4 rfl rfl ?_
            refine E_getR (pc := 5) (x := 24) ddX4_wavePlace_5 ec_3 7 (Nat.le_of_ble_eq_true rfl) rfl w_1_129 hz.now.s0 hz.now.r7 (by decide) ?_
            refine E_iload_n (pc := 8) (x := x1) ddX4_wavePlace_8 rfl rfl ?_
            refine E_ialdN (pc := 9) (j := j1) ddX4_wavePlace_9 hz.now.s4 ij1 lj1 (Nat.le_of_ble_eq_true rfl) ?_
            refine E_iconst (pc := 10) (v := 1) ddX4_wavePlace_10 rfl ?_
            refine E_isub (pc := 11) ddX4_wavePlace_11 ?_
            refine E_iload_n (pc := 12) (x := x2) ddX4_wavePlace_12 rfl rfl ?_
            refine E_isub (pc := 13) ddX4_wavePlace_13 ?_
            refine E_bipush (pc := 14) (v := 8) ddX4_wavePlace_14 rfl ?_
            refine E_callS (pc := 16) (As := [.int (((I 24 j1) - 1) - x2), .int 8]) (st := [.int (x1 * 8)]) ddX4_wavePlace_16 hJ9_floorMod_7cf53 ⟨(Nat.le_of_ble_eq_true rfl), (Nat.le_of_ble_eq_true rfl)⟩ w_3_24 rfl rfl (Nat.le_of_ble_eq_true rfl) (e_cc rfl (e_cc rfl e_cn)) (Nat.le_of_ble_eq_true rfl) (C_J9_floorMod_7cf53 (by decide) ?_)
            refine (show E mX4_wavePlace 0 0 19 [some (.ref 20), some (.int x1), some (.int x2)] [.int (f_J9_floorMod_7cf53 (((I 24 j1) - 1) - x2) 8), .int (x1 * 8)] z I _ from ?_)
            refine E_iadd (pc := 19) ddX4_wavePlace_19 ?_
            refine E_iret (pc := 20) ddX4_wavePlace_20 rfl ?_
            refine (show E mX4_changeLevel 0 0 19 [some (.ref 20), some (.int x1), some (.int x2)] [.int ((x1 * 8) + (f_J9_floorMod_7cf53 (((I 24 j1) - 1) - x2) 8)), .ref 26] z I _ from ?_)
            obtain ⟨j2, ij2, lj2, k⟩ := k
            refine E_ialdN (pc := 19) (j := j2) ddX4_changeLevel_19 hz.now.s6 ij2 lj2 (Nat.le_of_ble_eq_true rfl) ?_
            refine E_goto (pc := 20) (tgt := 24) ddX4_changeLevel_20 (by decide) ?_
            refine E_iret (pc := 24) ddX4_changeLevel_24 rfl ?_
            refine (show E mX8_wave mc ms 59 [some (.ref 1), some (.int x1), some (.int x2), some (.int x3)] [.int (I 26 j2)] z I Q from ?_)
            exact E_iret (pc := 59) ddX8_wave_59 rfl k
      have k := k.2.2 h0 h1
      refine E_lsw (pc := 15) (off := 45) (tgt := 60) ddX8_wave_15 (by decide) ((lv_osw (k := 0) h0 rfl).trans ((lv_osw (k := 1) h1 rfl).trans (rfl))) (by decide) ?_
      refine E_ldc (pc := 60) (v := (-1000000002)) ddX8_wave_60 w_2_43 ?_
      exact E_iret (pc := 62) ddX8_wave_62 rfl k
/-! X8_gate, labels [150, 182] -/
set_option maxRecDepth 100000 in
set_option maxHeartbeats 4000000 in
theorem B_X8_gate_0 {mc ms : Nat} {z : Zt} {I : It} {Q : Option Value → Zt → It → Prop} {x1 x2 : Int32} {pa pb : Nat} (hz : isZ z pa pb)
    (k : ((x1 < 0) → Q (some (.int (-1000000001))) z I) ∧
    ((¬ x1 < 0) → (((I pa 1) ≤ x1) → Q (some (.int (-1000000001))) z I) ∧
    ((¬ (I pa 1) ≤ x1) → (x2 = 0 → ∃ j1 : Nat, x1 = nI j1 ∧ j1 < 8 ∧ Q (some (.int (I (pa + 2) j1))) z I) ∧
    (x2 = 1 → ∃ j1 : Nat, x1 = nI j1 ∧ j1 < 8 ∧ Q (some (.int (I (pa + 3) j1))) z I) ∧
    (x2 = 2 → ∃ j1 : Nat, x1 = nI j1 ∧ j1 < 8 ∧ Q (some (.int (I (pa + 4) j1))) z I) ∧
    (x2 = 3 → ∃ j1 : Nat, x1 = nI j1 ∧ j1 < 8 ∧ Q (some (.int (I (pa + 5) j1))) z I) ∧
    (x2 = 4 → ∃ j1 : Nat, x1 = nI j1 ∧ j1 < 8 ∧ Q (some (.int (I (pa + 6) j1))) z I) ∧
    (x2 = 5 → ∃ j1 : Nat, x1 = nI j1 ∧ j1 < 8 ∧ Q (some (.int (I (pa + 7) j1))) z I) ∧
    (x2 = 6 → ∃ j1 : Nat, x1 = nI j1 ∧ j1 < 8 ∧ Q (some (.int (I 27 j1))) z I) ∧
    (x2 = 7 → E mX4_outcomeOf 0 0 0 [some (.ref 20), some (.ref pa), some (.int x1)] [] z I (fun r z' I' => E mX8_gate mc ms 150 [none, none, none] (r.toList ++ []) z' I' Q)) ∧
    (x2 = 8 → ∃ j1 : Nat, x1 = nI j1 ∧ j1 < 8 ∧ Q (some (.int (I 28 j1))) z I) ∧
    (x2 = 9 → ∃ j1 : Nat, x1 = nI j1 ∧ j1 < 8 ∧ E mX4_drivenLevel 0 0 0 [some (.ref 20), some (.ref pa), some (.int (I (pa + 5) j1)), some (.int x1), none, none] [] z I (fun r z' I' => E mX8_gate mc ms 182 [none, none, none] (r.toList ++ []) z' I' Q)) ∧
    (¬ x2 = 0 → ¬ x2 = 1 → ¬ x2 = 2 → ¬ x2 = 3 → ¬ x2 = 4 → ¬ x2 = 5 → ¬ x2 = 6 → ¬ x2 = 7 → ¬ x2 = 8 → ¬ x2 = 9 → Q (some (.int (-1000000002))) z I)))) :
    E mX8_gate mc ms 0 [some (.ref 1), some (.int x1), some (.int x2)] [] z I Q := by
  refine E_aload_n (pc := 0) (x := 1) ddX8_gate_0 rfl rfl ?_
  refine E_getR (pc := 1) (x := pa) ddX8_gate_1 ec_7 1 (Nat.le_of_ble_eq_true rfl) rfl w_2_9 hz.s0 hz.r1 hz.npa ?_
  refine E_iload_n (pc := 4) (x := x1) ddX8_gate_4 rfl rfl ?_
  refine E_callV (pc := 5) (As := [.int x1]) (st := []) (a := pa) ddX8_gate_5 hX6_hasGate ⟨(Nat.le_of_ble_eq_true rfl), (Nat.le_of_ble_eq_true rfl)⟩ w_3_35 (ci := 5) rfl rfl hz.pa.s0 rfl rfl (Nat.le_of_ble_eq_true rfl) (e_cc rfl e_cn) (Nat.le_of_ble_eq_true rfl) ?_
  refine (show E mX6_hasGate 0 0 0 [some (.ref pa), some (.int x1)] [] z I _ from ?_)
  refine E_iload_n (pc := 0) (x := x1) ddX6_hasGate_0 rfl rfl ?_
  refine E_if_lt (pc := 1) (tgt := 16) ddX6_hasGate_1 (by decide) (fun h => ?_) (fun h => ?_)
  · have k := k.1 h
    refine E_iconst (pc := 16) (v := 0) ddX6_hasGate_16 rfl ?_
    refine E_zret (pc := 17) ddX6_hasGate_17 rfl (by decide) ?_
    refine (show E mX8_gate mc ms 8 [some (.ref 1), some (.int x1), some (.int x2)] [.int 0] z I Q from ?_)
    refine E_if_ne (pc := 8) (tgt := 14) ddX8_gate_8 (by decide) (fun h => absurd h (by decide)) (fun _ => ?_)
    refine E_ldc (pc := 11) (v := (-1000000001)) ddX8_gate_11 w_2_238 ?_
    exact E_iret (pc := 13) ddX8_gate_13 rfl k
  · have k := k.2 h
    refine E_iload_n (pc := 4) (x := x1) ddX6_hasGate_4 rfl rfl ?_
    refine E_aload_n (pc := 5) (x := pa) ddX6_hasGate_5 rfl rfl ?_
    refine E_getI (pc := 6) ddX6_hasGate_6 ec_5 1 (Nat.le_of_ble_eq_true rfl) rfl w_1_59 hz.pa.s0 ?_
    refine E_icmp_ge (pc := 9) (tgt := 16) ddX6_hasGate_9 (by decide) (fun h => ?_) (fun h => ?_)
    · have k := k.1 h
      refine E_iconst (pc := 16) (v := 0) ddX6_hasGate_16 rfl ?_
      refine E_zret (pc := 17) ddX6_hasGate_17 rfl (by decide) ?_
      refine (show E mX8_gate mc ms 8 [some (.ref 1), some (.int x1), some (.int x2)] [.int 0] z I Q from ?_)
      refine E_if_ne (pc := 8) (tgt := 14) ddX8_gate_8 (by decide) (fun h => absurd h (by decide)) (fun _ => ?_)
      refine E_ldc (pc := 11) (v := (-1000000001)) ddX8_gate_11 w_2_238 ?_
      exact E_iret (pc := 13) ddX8_gate_13 rfl k
    · have k := k.2 h
      refine E_iconst (pc := 12) (v := 1) ddX6_hasGate_12 rfl ?_
      refine E_goto (pc := 13) (tgt := 17) ddX6_hasGate_13 (by decide) ?_
      refine E_zret (pc := 17) ddX6_hasGate_17 rfl (by decide) ?_
      refine (show E mX8_gate mc ms 8 [some (.ref 1), some (.int x1), some (.int x2)] [.int 1] z I Q from ?_)
      refine E_if_ne (pc := 8) (tgt := 14) ddX8_gate_8 (by decide) (fun _ => ?_) (fun h => absurd h (by decide))
      refine E_iload_n (pc := 14) (x := x2) ddX8_gate_14 rfl rfl ?_
      by_cases h0 : x2 = 0
      · have k := k.1 h0
        refine E_tswIn (pc := 15) (v := 0) (tgt := 68) ddX8_gate_15 (by rw [h0]; rfl) (by decide) (by decide) rfl (by decide) ?_
        refine E_aload_n (pc := 68) (x := 1) ddX8_gate_68 rfl rfl ?_
        refine E_getR (pc := 69) (x := pa) ddX8_gate_69 ec_7 1 (Nat.le_of_ble_eq_true rfl) rfl w_2_9 hz.s0 hz.r1 hz.npa ?_
        refine E_getR (pc := 72) (x := (pa + 2)) ddX8_gate_72 ec_5 3 (Nat.le_of_ble_eq_true rfl) rfl w_1_68 hz.pa.s0 hz.pa.r3 (Nat.succ_ne_zero _) ?_
        refine E_iload_n (pc := 75) (x := x1) ddX8_gate_75 rfl rfl ?_
        obtain ⟨j1, ij1, lj1, k⟩ := k
        refine E_ialdN (pc := 76) (j := j1) ddX8_gate_76 hz.pa.s2 ij1 lj1 (Nat.le_of_ble_eq_true rfl) ?_
        exact E_iret (pc := 77) ddX8_gate_77 rfl k
      by_cases h1 : x2 = 1
      · have k := k.2.1 h1
        refine E_tswIn (pc := 15) (v := 1) (tgt := 78) ddX8_gate_15 (by rw [h1]; rfl) (by decide) (by decide) rfl (by decide) ?_
        refine E_aload_n (pc := 78) (x := 1) ddX8_gate_78 rfl rfl ?_
        refine E_getR (pc := 79) (x := pa) ddX8_gate_79 ec_7 1 (Nat.le_of_ble_eq_true rfl) rfl w_2_9 hz.s0 hz.r1 hz.npa ?_
        refine E_getR (pc := 82) (x := (pa + 3)) ddX8_gate_82 ec_5 4 (Nat.le_of_ble_eq_true rfl) rfl w_1_72 hz.pa.s0 hz.pa.r4 (Nat.succ_ne_zero _) ?_
        refine E_iload_n (pc := 85) (x := x1) ddX8_gate_85 rfl rfl ?_
        obtain ⟨j1, ij1, lj1, k⟩ := k
        refine E_ialdN (pc := 86) (j := j1) ddX8_gate_86 hz.pa.s3 ij1 lj1 (Nat.le_of_ble_eq_true rfl) ?_
        exact E_iret (pc := 87) ddX8_gate_87 rfl k
      by_cases h2 : x2 = 2
      · have k := k.2.2.1 h2
        refine E_tswIn (pc := 15) (v := 2) (tgt := 88) ddX8_gate_15 (by rw [h2]; rfl) (by decide) (by decide) rfl (by decide) ?_
        refine E_aload_n (pc := 88) (x := 1) ddX8_gate_88 rfl rfl ?_
        refine E_getR (pc := 89) (x := pa) ddX8_gate_89 ec_7 1 (Nat.le_of_ble_eq_true rfl) rfl w_2_9 hz.s0 hz.r1 hz.npa ?_
        refine E_getR (pc := 92) (x := (pa + 4)) ddX8_gate_92 ec_5 5 (Nat.le_of_ble_eq_true rfl) rfl w_1_76 hz.pa.s0 hz.pa.r5 (Nat.succ_ne_zero _) ?_
        refine E_iload_n (pc := 95) (x := x1) ddX8_gate_95 rfl rfl ?_
        obtain ⟨j1, ij1, lj1, k⟩ := k
        refine E_ialdN (pc := 96) (j := j1) ddX8_gate_96 hz.pa.s4 ij1 lj1 (Nat.le_of_ble_eq_true rfl) ?_
        exact E_iret (pc := 97) ddX8_gate_97 rfl k
      by_cases h3 : x2 = 3
      · have k := k.2.2.2.1 h3
        refine E_tswIn (pc := 15) (v := 3) (tgt := 98) ddX8_gate_15 (by rw [h3]; rfl) (by decide) (by decide) rfl (by decide) ?_
        refine E_aload_n (pc := 98) (x := 1) ddX8_gate_98 rfl rfl ?_
        refine E_getR (pc := 99) (x := pa) ddX8_gate_99 ec_7 1 (Nat.le_of_ble_eq_true rfl) rfl w_2_9 hz.s0 hz.r1 hz.npa ?_
        refine E_getR (pc := 102) (x := (pa + 5)) ddX8_gate_102 ec_5 6 (Nat.le_of_ble_eq_true rfl) rfl w_1_80 hz.pa.s0 hz.pa.r6 (Nat.succ_ne_zero _) ?_
        refine E_iload_n (pc := 105) (x := x1) ddX8_gate_105 rfl rfl ?_
        obtain ⟨j1, ij1, lj1, k⟩ := k
        refine E_ialdN (pc := 106) (j := j1) ddX8_gate_106 hz.pa.s5 ij1 lj1 (Nat.le_of_ble_eq_true rfl) ?_
        exact E_iret (pc := 107) ddX8_gate_107 rfl k
      by_cases h4 : x2 = 4
      · have k := k.2.2.2.2.1 h4
        refine E_tswIn (pc := 15) (v := 4) (tgt := 108) ddX8_gate_15 (by rw [h4]; rfl) (by decide) (by decide) rfl (by decide) ?_
        refine E_aload_n (pc := 108) (x := 1) ddX8_gate_108 rfl rfl ?_
        refine E_getR (pc := 109) (x := pa) ddX8_gate_109 ec_7 1 (Nat.le_of_ble_eq_true rfl) rfl w_2_9 hz.s0 hz.r1 hz.npa ?_
        refine E_getR (pc := 112) (x := (pa + 6)) ddX8_gate_112 ec_5 7 (Nat.le_of_ble_eq_true rfl) rfl w_1_83 hz.pa.s0 hz.pa.r7 (Nat.succ_ne_zero _) ?_
        refine E_iload_n (pc := 115) (x := x1) ddX8_gate_115 rfl rfl ?_
        obtain ⟨j1, ij1, lj1, k⟩ := k
        refine E_ialdN (pc := 116) (j := j1) ddX8_gate_116 hz.pa.s6 ij1 lj1 (Nat.le_of_ble_eq_true rfl) ?_
        exact E_iret (pc := 117) ddX8_gate_117 rfl k
      by_cases h5 : x2 = 5
      · have k := k.2.2.2.2.2.1 h5
        refine E_tswIn (pc := 15) (v := 5) (tgt := 118) ddX8_gate_15 (by rw [h5]; rfl) (by decide) (by decide) rfl (by decide) ?_
        refine E_aload_n (pc := 118) (x := 1) ddX8_gate_118 rfl rfl ?_
        refine E_getR (pc := 119) (x := pa) ddX8_gate_119 ec_7 1 (Nat.le_of_ble_eq_true rfl) rfl w_2_9 hz.s0 hz.r1 hz.npa ?_
        refine E_getR (pc := 122) (x := (pa + 7)) ddX8_gate_122 ec_5 8 (Nat.le_of_ble_eq_true rfl) rfl w_1_87 hz.pa.s0 hz.pa.r8 (Nat.succ_ne_zero _) ?_
        refine E_iload_n (pc := 125) (x := x1) ddX8_gate_125 rfl rfl ?_
        obtain ⟨j1, ij1, lj1, k⟩ := k
        refine E_ialdN (pc := 126) (j := j1) ddX8_gate_126 hz.pa.s7 ij1 lj1 (Nat.le_of_ble_eq_true rfl) ?_
        exact E_iret (pc := 127) ddX8_gate_127 rfl k
      by_cases h6 : x2 = 6
      · have k := k.2.2.2.2.2.2.1 h6
        refine E_tswIn (pc := 15) (v := 6) (tgt := 128) ddX8_gate_15 (by rw [h6]; rfl) (by decide) (by decide) rfl (by decide) ?_
        refine E_aload_n (pc := 128) (x := 1) ddX8_gate_128 rfl rfl ?_
        refine E_getR (pc := 129) (x := 20) ddX8_gate_129 ec_7 3 (Nat.le_of_ble_eq_true rfl) rfl w_2_11 hz.s0 hz.r3 (by decide) ?_
        refine E_getR (pc := 132) (x := 27) ddX8_gate_132 ec_3 10 (Nat.le_of_ble_eq_true rfl) rfl w_1_133 hz.now.s0 hz.now.r10 (by decide) ?_
        refine E_iload_n (pc := 135) (x := x1) ddX8_gate_135 rfl rfl ?_
        obtain ⟨j1, ij1, lj1, k⟩ := k
        refine E_ialdN (pc := 136) (j := j1) ddX8_gate_136 hz.now.s7 ij1 lj1 (Nat.le_of_ble_eq_true rfl) ?_
        exact E_iret (pc := 137) ddX8_gate_137 rfl k
      by_cases h7 : x2 = 7
      · have k := k.2.2.2.2.2.2.2.1 h7
        refine E_tswIn (pc := 15) (v := 7) (tgt := 138) ddX8_gate_15 (by rw [h7]; rfl) (by decide) (by decide) rfl (by decide) ?_
        refine E_aload_n (pc := 138) (x := 1) ddX8_gate_138 rfl rfl ?_
        refine E_getR (pc := 139) (x := 20) ddX8_gate_139 ec_7 3 (Nat.le_of_ble_eq_true rfl) rfl w_2_11 hz.s0 hz.r3 (by decide) ?_
        refine E_aload_n (pc := 142) (x := 1) ddX8_gate_142 rfl rfl ?_
        refine E_getR (pc := 143) (x := pa) ddX8_gate_143 ec_7 1 (Nat.le_of_ble_eq_true rfl) rfl w_2_9 hz.s0 hz.r1 hz.npa ?_
        refine E_iload_n (pc := 146) (x := x1) ddX8_gate_146 rfl rfl ?_
        exact E_callV (pc := 147) (As := [.ref pa, .int x1]) (st := []) (a := 20) ddX8_gate_147 hX4_outcomeOf ⟨(Nat.le_of_ble_eq_true rfl), (Nat.le_of_ble_eq_true rfl)⟩ w_3_39 (ci := 3) rfl rfl hz.now.s0 rfl rfl (Nat.le_of_ble_eq_true rfl) (e_cc rfl (e_cc rfl e_cn)) (Nat.le_of_ble_eq_true rfl) (E.mono k fun _ _ _ q => E.forget q trivial)
      by_cases h8 : x2 = 8
      · have k := k.2.2.2.2.2.2.2.2.1 h8
        refine E_tswIn (pc := 15) (v := 8) (tgt := 151) ddX8_gate_15 (by rw [h8]; rfl) (by decide) (by decide) rfl (by decide) ?_
        refine E_aload_n (pc := 151) (x := 1) ddX8_gate_151 rfl rfl ?_
        refine E_getR (pc := 152) (x := 20) ddX8_gate_152 ec_7 3 (Nat.le_of_ble_eq_true rfl) rfl w_2_11 hz.s0 hz.r3 (by decide) ?_
        refine E_getR (pc := 155) (x := 28) ddX8_gate_155 ec_3 11 (Nat.le_of_ble_eq_true rfl) rfl w_1_135 hz.now.s0 hz.now.r11 (by decide) ?_
        refine E_iload_n (pc := 158) (x := x1) ddX8_gate_158 rfl rfl ?_
        obtain ⟨j1, ij1, lj1, k⟩ := k
        refine E_ialdN (pc := 159) (j := j1) ddX8_gate_159 hz.now.s8 ij1 lj1 (Nat.le_of_ble_eq_true rfl) ?_
        exact E_iret (pc := 160) ddX8_gate_160 rfl k
      by_cases h9 : x2 = 9
      · have k := k.2.2.2.2.2.2.2.2.2.1 h9
        refine E_tswIn (pc := 15) (v := 9) (tgt := 161) ddX8_gate_15 (by rw [h9]; rfl) (by decide) (by decide) rfl (by decide) ?_
        refine E_aload_n (pc := 161) (x := 1) ddX8_gate_161 rfl rfl ?_
        refine E_getR (pc := 162) (x := 20) ddX8_gate_162 ec_7 3 (Nat.le_of_ble_eq_true rfl) rfl w_2_11 hz.s0 hz.r3 (by decide) ?_
        refine E_aload_n (pc := 165) (x := 1) ddX8_gate_165 rfl rfl ?_
        refine E_getR (pc := 166) (x := pa) ddX8_gate_166 ec_7 1 (Nat.le_of_ble_eq_true rfl) rfl w_2_9 hz.s0 hz.r1 hz.npa ?_
        refine E_aload_n (pc := 169) (x := 1) ddX8_gate_169 rfl rfl ?_
        refine E_getR (pc := 170) (x := pa) ddX8_gate_170 ec_7 1 (Nat.le_of_ble_eq_true rfl) rfl w_2_9 hz.s0 hz.r1 hz.npa ?_
        refine E_getR (pc := 173) (x := (pa + 5)) ddX8_gate_173 ec_5 6 (Nat.le_of_ble_eq_true rfl) rfl w_1_80 hz.pa.s0 hz.pa.r6 (Nat.succ_ne_zero _) ?_
        refine E_iload_n (pc := 176) (x := x1) ddX8_gate_176 rfl rfl ?_
        obtain ⟨j1, ij1, lj1, k⟩ := k
        refine E_ialdN (pc := 177) (j := j1) ddX8_gate_177 hz.pa.s5 ij1 lj1 (Nat.le_of_ble_eq_true rfl) ?_
        refine E_iload_n (pc := 178) (x := x1) ddX8_gate_178 rfl rfl ?_
        exact E_callV (pc := 179) (As := [.ref pa, .int (I (pa + 5) j1), .int x1]) (st := []) (a := 20) ddX8_gate_179 hX4_drivenLevel ⟨(Nat.le_of_ble_eq_true rfl), (Nat.le_of_ble_eq_true rfl)⟩ w_3_40 (ci := 3) rfl rfl hz.now.s0 rfl rfl (Nat.le_of_ble_eq_true rfl) (e_cc rfl (e_cc rfl (e_cc rfl e_cn))) (Nat.le_of_ble_eq_true rfl) (E.mono k fun _ _ _ q => E.forget q trivial)
      have k := k.2.2.2.2.2.2.2.2.2.2 h0 h1 h2 h3 h4 h5 h6 h7 h8 h9
      have q0 := lv_neT h0 (a := 0) rfl
      have q1 := lv_neT h1 (a := 1) rfl
      have q2 := lv_neT h2 (a := 2) rfl
      have q3 := lv_neT h3 (a := 3) rfl
      have q4 := lv_neT h4 (a := 4) rfl
      have q5 := lv_neT h5 (a := 5) rfl
      have q6 := lv_neT h6 (a := 6) rfl
      have q7 := lv_neT h7 (a := 7) rfl
      have q8 := lv_neT h8 (a := 8) rfl
      have q9 := lv_neT h9 (a := 9) rfl
      refine E_tswOut (pc := 15) (tgt := 183) ddX8_gate_15 (by omega) (by decide) ?_
      refine E_ldc (pc := 183) (v := (-1000000002)) ddX8_gate_183 w_2_43 ?_
      exact E_iret (pc := 185) ddX8_gate_185 rfl k
set_option maxRecDepth 100000 in
set_option maxHeartbeats 4000000 in
theorem B_X8_gate_150 {mc ms : Nat} {z : Zt} {I : It} {Q : Option Value → Zt → It → Prop} {y0 : Int32}
    (k : Q (some (.int y0)) z I) :
    E mX8_gate mc ms 150 [none, none, none] [.int y0] z I Q := by
  exact E_iret (pc := 150) ddX8_gate_150 rfl k
set_option maxRecDepth 100000 in
set_option maxHeartbeats 4000000 in
theorem B_X8_gate_182 {mc ms : Nat} {z : Zt} {I : It} {Q : Option Value → Zt → It → Prop} {y0 : Int32}
    (k : Q (some (.int y0)) z I) :
    E mX8_gate mc ms 182 [none, none, none] [.int y0] z I Q := by
  exact E_iret (pc := 182) ddX8_gate_182 rfl k
/-! X8_queue, labels [] -/
set_option maxRecDepth 100000 in
set_option maxHeartbeats 4000000 in
theorem B_X8_queue_0 {mc ms : Nat} {z : Zt} {I : It} {Q : Option Value → Zt → It → Prop} {x1 x2 x3 : Int32} {pa pb : Nat} (hz : isZ z pa pb)
    (k : ((x1 < 0) → Q (some (.int (-1000000001))) z I) ∧
    ((¬ x1 < 0) → (((I pa 1) ≤ x1) → Q (some (.int (-1000000001))) z I) ∧
    ((¬ (I pa 1) ≤ x1) → (x3 = 0 → ((x2 < 0) → Q (some (.int (-1))) z I) ∧
    ((¬ x2 < 0) → ∃ j1 : Nat, x1 = nI j1 ∧ j1 < 8 ∧ (((I 28 j1) ≤ x2) → Q (some (.int (-1))) z I) ∧
    ((¬ (I 28 j1) ≤ x2) → ∃ j2 : Nat, ((x1 * 8) + x2) = nI j2 ∧ j2 < 64 ∧ Q (some (.int (I 29 j2))) z I))) ∧
    (x3 = 1 → ((x2 < 0) → Q (some (.int (-1))) z I) ∧
    ((¬ x2 < 0) → ∃ j1 : Nat, x1 = nI j1 ∧ j1 < 8 ∧ (((I 28 j1) ≤ x2) → Q (some (.int (-1))) z I) ∧
    ((¬ (I 28 j1) ≤ x2) → ∃ j2 : Nat, ((x1 * 8) + x2) = nI j2 ∧ j2 < 64 ∧ Q (some (.int (I 30 j2))) z I))) ∧
    (¬ x3 = 0 → ¬ x3 = 1 → Q (some (.int (-1000000002))) z I)))) :
    E mX8_queue mc ms 0 [some (.ref 1), some (.int x1), some (.int x2), some (.int x3)] [] z I Q := by
  refine E_aload_n (pc := 0) (x := 1) ddX8_queue_0 rfl rfl ?_
  refine E_getR (pc := 1) (x := pa) ddX8_queue_1 ec_7 1 (Nat.le_of_ble_eq_true rfl) rfl w_2_9 hz.s0 hz.r1 hz.npa ?_
  refine E_iload_n (pc := 4) (x := x1) ddX8_queue_4 rfl rfl ?_
  refine E_callV (pc := 5) (As := [.int x1]) (st := []) (a := pa) ddX8_queue_5 hX6_hasGate ⟨(Nat.le_of_ble_eq_true rfl), (Nat.le_of_ble_eq_true rfl)⟩ w_3_35 (ci := 5) rfl rfl hz.pa.s0 rfl rfl (Nat.le_of_ble_eq_true rfl) (e_cc rfl e_cn) (Nat.le_of_ble_eq_true rfl) ?_
  refine (show E mX6_hasGate 0 0 0 [some (.ref pa), some (.int x1)] [] z I _ from ?_)
  refine E_iload_n (pc := 0) (x := x1) ddX6_hasGate_0 rfl rfl ?_
  refine E_if_lt (pc := 1) (tgt := 16) ddX6_hasGate_1 (by decide) (fun h => ?_) (fun h => ?_)
  · have k := k.1 h
    refine E_iconst (pc := 16) (v := 0) ddX6_hasGate_16 rfl ?_
    refine E_zret (pc := 17) ddX6_hasGate_17 rfl (by decide) ?_
    refine (show E mX8_queue mc ms 8 [some (.ref 1), some (.int x1), some (.int x2), some (.int x3)] [.int 0] z I Q from ?_)
    refine E_if_ne (pc := 8) (tgt := 14) ddX8_queue_8 (by decide) (fun h => absurd h (by decide)) (fun _ => ?_)
    refine E_ldc (pc := 11) (v := (-1000000001)) ddX8_queue_11 w_2_238 ?_
    exact E_iret (pc := 13) ddX8_queue_13 rfl k
  · have k := k.2 h
    refine E_iload_n (pc := 4) (x := x1) ddX6_hasGate_4 rfl rfl ?_
    refine E_aload_n (pc := 5) (x := pa) ddX6_hasGate_5 rfl rfl ?_
    refine E_getI (pc := 6) ddX6_hasGate_6 ec_5 1 (Nat.le_of_ble_eq_true rfl) rfl w_1_59 hz.pa.s0 ?_
    refine E_icmp_ge (pc := 9) (tgt := 16) ddX6_hasGate_9 (by decide) (fun h => ?_) (fun h => ?_)
    · have k := k.1 h
      refine E_iconst (pc := 16) (v := 0) ddX6_hasGate_16 rfl ?_
      refine E_zret (pc := 17) ddX6_hasGate_17 rfl (by decide) ?_
      refine (show E mX8_queue mc ms 8 [some (.ref 1), some (.int x1), some (.int x2), some (.int x3)] [.int 0] z I Q from ?_)
      refine E_if_ne (pc := 8) (tgt := 14) ddX8_queue_8 (by decide) (fun h => absurd h (by decide)) (fun _ => ?_)
      refine E_ldc (pc := 11) (v := (-1000000001)) ddX8_queue_11 w_2_238 ?_
      exact E_iret (pc := 13) ddX8_queue_13 rfl k
    · have k := k.2 h
      refine E_iconst (pc := 12) (v := 1) ddX6_hasGate_12 rfl ?_
      refine E_goto (pc := 13) (tgt := 17) ddX6_hasGate_13 (by decide) ?_
      refine E_zret (pc := 17) ddX6_hasGate_17 rfl (by decide) ?_
      refine (show E mX8_queue mc ms 8 [some (.ref 1), some (.int x1), some (.int x2), some (.int x3)] [.int 1] z I Q from ?_)
      refine E_if_ne (pc := 8) (tgt := 14) ddX8_queue_8 (by decide) (fun _ => ?_) (fun h => absurd h (by decide))
      refine E_iload_n (pc := 14) (x := x3) ddX8_queue_14 rfl rfl ?_
      by_cases h0 : x3 = 0
      · have k := k.1 h0
        refine E_lsw (pc := 15) (off := 25) (tgt := 40) ddX8_queue_15 (by decide) (by rw [h0]; rfl) (by decide) ?_
        refine E_aload_n (pc := 40) (x := 1) ddX8_queue_40 rfl rfl ?_
        refine E_getR (pc := 41) (x := 20) ddX8_queue_41 ec_7 3 (Nat.le_of_ble_eq_true rfl) rfl w_2_11 hz.s0 hz.r3 (by decide) ?_
        refine E_iload_n (pc := 44) (x := x1) ddX8_queue_44 rfl rfl ?_
        refine E_iload_n (pc := 45) (x := x2) ddX8_queue_45 rfl rfl ?_
        refine E_callV (pc := 46) (As := [.int x1, .int x2]) (st := []) (a := 20) ddX8_queue_46 hX4_waitingTime ⟨(Nat.le_of_ble_eq_true rfl), (Nat.le_of_ble_eq_true rfl)⟩ w_3_45 (ci := 3) rfl rfl hz.now.s0 rfl rfl (Nat.le_of_ble_eq_true rfl) (e_cc rfl (e_cc rfl e_cn)) (Nat.le_of_ble_eq_true rfl) ?_
        refine (show E mX4_waitingTime 0 0 0 [some (.ref 20), some (.int x1), some (.int x2)] [] z I _ from ?_)
        refine E_aload_n (pc := 0) (x := 20) ddX4_waitingTime_0 rfl rfl ?_
        refine E_iload_n (pc := 1) (x := x1) ddX4_waitingTime_1 rfl rfl ?_
        refine E_iload_n (pc := 2) (x := x2) ddX4_waitingTime_2 rfl rfl ?_
        refine E_callV (pc := 3) (As := [.int x1, .int x2]) (st := []) (a := 20) ddX4_waitingTime_3 hX4_hasWaiting ⟨(Nat.le_of_ble_eq_true rfl), (Nat.le_of_ble_eq_true rfl)⟩ w_3_49 (ci := 3) rfl rfl hz.now.s0 rfl rfl (Nat.le_of_ble_eq_true rfl) (e_cc rfl (e_cc rfl e_cn)) (Nat.le_of_ble_eq_true rfl) ?_
        refine (show E mX4_hasWaiting 0 0 0 [some (.ref 20), some (.int x1), some (.int x2)] [] z I _ from ?_)
        refine E_iload_n (pc := 0) (x := x2) ddX4_hasWaiting_0 rfl rfl ?_
        refine E_if_lt (pc := 1) (tgt := 18) ddX4_hasWaiting_1 (by decide) (fun h => ?_) (fun h => ?_)
        · have k := k.1 h
          refine E_iconst (pc := 18) (v := 0) ddX4_hasWaiting_18 rfl ?_
          refine E_zret (pc := 19) ddX4_hasWaiting_19 rfl (by decide) ?_
          refine (show E mX4_waitingTime 0 0 6 [some (.ref 20), some (.int x1), some (.int x2)] [.int 0] z I _ from ?_)
          refine E_if_eq (pc := 6) (tgt := 23) ddX4_waitingTime_6 (by decide) (fun _ => ?_) (fun h => absurd h (by decide))
          refine E_iconst (pc := 23) (v := (-1)) ddX4_waitingTime_23 rfl ?_
          refine E_iret (pc := 24) ddX4_waitingTime_24 rfl ?_
          refine (show E mX8_queue mc ms 49 [some (.ref 1), some (.int x1), some (.int x2), some (.int x3)] [.int (-1)] z I Q from ?_)
          exact E_iret (pc := 49) ddX8_queue_49 rfl k
        · have k := k.2 h
          refine E_iload_n (pc := 4) (x := x2) ddX4_hasWaiting_4 rfl rfl ?_
          refine E_aload_n (pc := 5) (x := 20) ddX4_hasWaiting_5 rfl rfl ?_
          refine E_getR (pc := 6) (x := 28) ddX4_hasWaiting_6 ec_3 11 (Nat.le_of_ble_eq_true rfl) rfl w_1_134 hz.now.s0 hz.now.r11 (by decide) ?_
          refine E_iload_n (pc := 9) (x := x1) ddX4_hasWaiting_9 rfl rfl ?_
          obtain ⟨j1, ij1, lj1, k⟩ := k
          refine E_ialdN (pc := 10) (j := j1) ddX4_hasWaiting_10 hz.now.s8 ij1 lj1 (Nat.le_of_ble_eq_true rfl) ?_
          refine E_icmp_ge (pc := 11) (tgt := 18) ddX4_hasWaiting_11 (by decide) (fun h => ?_) (fun h => ?_)
          · have k := k.1 h
            refine E_iconst (pc := 18) (v := 0) ddX4_hasWaiting_18 rfl ?_
            refine E_zret (pc := 19) ddX4_hasWaiting_19 rfl (by decide) ?_
            refine (show E mX4_waitingTime 0 0 6 [some (.ref 20), some (.int x1), some (.int x2)] [.int 0] z I _ from ?_)
            refine E_if_eq (pc := 6) (tgt := 23) ddX4_waitingTime_6 (by decide) (fun _ => ?_) (fun h => absurd h (by decide))
            refine E_iconst (pc := 23) (v := (-1)) ddX4_waitingTime_23 rfl ?_
            refine E_iret (pc := 24) ddX4_waitingTime_24 rfl ?_
            refine (show E mX8_queue mc ms 49 [some (.ref 1), some (.int x1), some (.int x2), some (.int x3)] [.int (-1)] z I Q from ?_)
            exact E_iret (pc := 49) ddX8_queue_49 rfl k
          · have k := k.2 h
            refine E_iconst (pc := 14) (v := 1) ddX4_hasWaiting_14 rfl ?_
            refine E_goto (pc := 15) (tgt := 19) ddX4_hasWaiting_15 (by decide) ?_
            refine E_zret (pc := 19) ddX4_hasWaiting_19 rfl (by decide) ?_
            refine (show E mX4_waitingTime 0 0 6 [some (.ref 20), some (.int x1), some (.int x2)] [.int 1] z I _ from ?_)
            refine E_if_eq (pc := 6) (tgt := 23) ddX4_waitingTime_6 (by decide) (fun h => absurd h (by decide)) (fun _ => ?_)
            refine E_aload_n (pc := 9) (x := 20) ddX4_waitingTime_9 rfl rfl ?_
            refine E_getR (pc := 10) (x := 29) ddX4_waitingTime_10 ec_3 12 (Nat.le_of_ble_eq_true rfl) rfl w_1_136 hz.now.s0 hz.now.r12 (by decide) ?_
            refine E_iload_n (pc := 13) (x := x1) ddX4_waitingTime_13 rfl rfl ?_
            refine E_bipush (pc := 14) (v := 8) ddX4_waitingTime_14 rfl ?_
            refine E_imul (pc := 16) ddX4_waitingTime_16 ?_
            refine E_iload_n (pc := 17) (x := x2) ddX4_waitingTime_17 rfl rfl ?_
            refine E_iadd (pc := 18) ddX4_waitingTime_18 ?_
            obtain ⟨j2, ij2, lj2, k⟩ := k
            refine E_ialdN (pc := 19) (j := j2) ddX4_waitingTime_19 hz.now.s9 ij2 lj2 (Nat.le_of_ble_eq_true rfl) ?_
            refine E_goto (pc := 20) (tgt := 24) ddX4_waitingTime_20 (by decide) ?_
            refine E_iret (pc := 24) ddX4_waitingTime_24 rfl ?_
            refine (show E mX8_queue mc ms 49 [some (.ref 1), some (.int x1), some (.int x2), some (.int x3)] [.int (I 29 j2)] z I Q from ?_)
            exact E_iret (pc := 49) ddX8_queue_49 rfl k
      by_cases h1 : x3 = 1
      · have k := k.2.1 h1
        refine E_lsw (pc := 15) (off := 35) (tgt := 50) ddX8_queue_15 (by decide) (by rw [h1]; rfl) (by decide) ?_
        refine E_aload_n (pc := 50) (x := 1) ddX8_queue_50 rfl rfl ?_
        refine E_getR (pc := 51) (x := 20) ddX8_queue_51 ec_7 3 (Nat.le_of_ble_eq_true rfl) rfl w_2_11 hz.s0 hz.r3 (by decide) ?_
        refine E_iload_n (pc := 54) (x := x1) ddX8_queue_54 rfl rfl ?_
        refine E_iload_n (pc := 55) (x := x2) ddX8_queue_55 rfl rfl ?_
        refine E_callV (pc := 56) (As := [.int x1, .int x2]) (st := []) (a := 20) ddX8_queue_56 hX4_waitingLevel ⟨(Nat.le_of_ble_eq_true rfl), (Nat.le_of_ble_eq_true rfl)⟩ w_3_53 (ci := 3) rfl rfl hz.now.s0 rfl rfl (Nat.le_of_ble_eq_true rfl) (e_cc rfl (e_cc rfl e_cn)) (Nat.le_of_ble_eq_true rfl) ?_
        refine (show E mX4_waitingLevel 0 0 0 [some (.ref 20), some (.int x1), some (.int x2)] [] z I _ from ?_)
        refine E_aload_n (pc := 0) (x := 20) ddX4_waitingLevel_0 rfl rfl ?_
        refine E_iload_n (pc := 1) (x := x1) ddX4_waitingLevel_1 rfl rfl ?_
        refine E_iload_n (pc := 2) (x := x2) ddX4_waitingLevel_2 rfl rfl ?_
        refine E_callV (pc := 3) (As := [.int x1, .int x2]) (st := []) (a := 20) ddX4_waitingLevel_3 hX4_hasWaiting ⟨(Nat.le_of_ble_eq_true rfl), (Nat.le_of_ble_eq_true rfl)⟩ w_3_49 (ci := 3) rfl rfl hz.now.s0 rfl rfl (Nat.le_of_ble_eq_true rfl) (e_cc rfl (e_cc rfl e_cn)) (Nat.le_of_ble_eq_true rfl) ?_
        refine (show E mX4_hasWaiting 0 0 0 [some (.ref 20), some (.int x1), some (.int x2)] [] z I _ from ?_)
        refine E_iload_n (pc := 0) (x := x2) ddX4_hasWaiting_0 rfl rfl ?_
        refine E_if_lt (pc := 1) (tgt := 18) ddX4_hasWaiting_1 (by decide) (fun h => ?_) (fun h => ?_)
        · have k := k.1 h
          refine E_iconst (pc := 18) (v := 0) ddX4_hasWaiting_18 rfl ?_
          refine E_zret (pc := 19) ddX4_hasWaiting_19 rfl (by decide) ?_
          refine (show E mX4_waitingLevel 0 0 6 [some (.ref 20), some (.int x1), some (.int x2)] [.int 0] z I _ from ?_)
          refine E_if_eq (pc := 6) (tgt := 23) ddX4_waitingLevel_6 (by decide) (fun _ => ?_) (fun h => absurd h (by decide))
          refine E_iconst (pc := 23) (v := (-1)) ddX4_waitingLevel_23 rfl ?_
          refine E_iret (pc := 24) ddX4_waitingLevel_24 rfl ?_
          refine (show E mX8_queue mc ms 59 [some (.ref 1), some (.int x1), some (.int x2), some (.int x3)] [.int (-1)] z I Q from ?_)
          exact E_iret (pc := 59) ddX8_queue_59 rfl k
        · have k := k.2 h
          refine E_iload_n (pc := 4) (x := x2) ddX4_hasWaiting_4 rfl rfl ?_
          refine E_aload_n (pc := 5) (x := 20) ddX4_hasWaiting_5 rfl rfl ?_
          refine E_getR (pc := 6) (x := 28) ddX4_hasWaiting_6 ec_3 11 (Nat.le_of_ble_eq_true rfl) rfl w_1_134 hz.now.s0 hz.now.r11 (by decide) ?_
          refine E_iload_n (pc := 9) (x := x1) ddX4_hasWaiting_9 rfl rfl ?_
          obtain ⟨j1, ij1, lj1, k⟩ := k
          refine E_ialdN (pc := 10) (j := j1) ddX4_hasWaiting_10 hz.now.s8 ij1 lj1 (Nat.le_of_ble_eq_true rfl) ?_
          refine E_icmp_ge (pc := 11) (tgt := 18) ddX4_hasWaiting_11 (by decide) (fun h => ?_) (fun h => ?_)
          · have k := k.1 h
            refine E_iconst (pc := 18) (v := 0) ddX4_hasWaiting_18 rfl ?_
            refine E_zret (pc := 19) ddX4_hasWaiting_19 rfl (by decide) ?_
            refine (show E mX4_waitingLevel 0 0 6 [some (.ref 20), some (.int x1), some (.int x2)] [.int 0] z I _ from ?_)
            refine E_if_eq (pc := 6) (tgt := 23) ddX4_waitingLevel_6 (by decide) (fun _ => ?_) (fun h => absurd h (by decide))
            refine E_iconst (pc := 23) (v := (-1)) ddX4_waitingLevel_23 rfl ?_
            refine E_iret (pc := 24) ddX4_waitingLevel_24 rfl ?_
            refine (show E mX8_queue mc ms 59 [some (.ref 1), some (.int x1), some (.int x2), some (.int x3)] [.int (-1)] z I Q from ?_)
            exact E_iret (pc := 59) ddX8_queue_59 rfl k
          · have k := k.2 h
            refine E_iconst (pc := 14) (v := 1) ddX4_hasWaiting_14 rfl ?_
            refine E_goto (pc := 15) (tgt := 19) ddX4_hasWaiting_15 (by decide) ?_
            refine E_zret (pc := 19) ddX4_hasWaiting_19 rfl (by decide) ?_
            refine (show E mX4_waitingLevel 0 0 6 [some (.ref 20), some (.int x1), some (.int x2)] [.int 1] z I _ from ?_)
            refine E_if_eq (pc := 6) (tgt := 23) ddX4_waitingLevel_6 (by decide) (fun h => absurd h (by decide)) (fun _ => ?_)
            refine E_aload_n (pc := 9) (x := 20) ddX4_waitingLevel_9 rfl rfl ?_
            refine E_getR (pc := 10) (x := 30) ddX4_waitingLevel_10 ec_3 13 (Nat.le_of_ble_eq_true rfl) rfl w_1_137 hz.now.s0 hz.now.r13 (by decide) ?_
            refine E_iload_n (pc := 13) (x := x1) ddX4_waitingLevel_13 rfl rfl ?_
            refine E_bipush (pc := 14) (v := 8) ddX4_waitingLevel_14 rfl ?_
            refine E_imul (pc := 16) ddX4_waitingLevel_16 ?_
            refine E_iload_n (pc := 17) (x := x2) ddX4_waitingLevel_17 rfl rfl ?_
            refine E_iadd (pc := 18) ddX4_waitingLevel_18 ?_
            obtain ⟨j2, ij2, lj2, k⟩ := k
            refine E_ialdN (pc := 19) (j := j2) ddX4_waitingLevel_19 hz.now.s10 ij2 lj2 (Nat.le_of_ble_eq_true rfl) ?_
            refine E_goto (pc := 20) (tgt := 24) ddX4_waitingLevel_20 (by decide) ?_
            refine E_iret (pc := 24) ddX4_waitingLevel_24 rfl ?_
            refine (show E mX8_queue mc ms 59 [some (.ref 1), some (.int x1), some (.int x2), some (.int x3)] [.int (I 30 j2)] z I Q from ?_)
            exact E_iret (pc := 59) ddX8_queue_59 rfl k
      have k := k.2.2 h0 h1
      refine E_lsw (pc := 15) (off := 45) (tgt := 60) ddX8_queue_15 (by decide) ((lv_osw (k := 0) h0 rfl).trans ((lv_osw (k := 1) h1 rfl).trans (rfl))) (by decide) ?_
      refine E_ldc (pc := 60) (v := (-1000000002)) ddX8_queue_60 w_2_43 ?_
      exact E_iret (pc := 62) ddX8_queue_62 rfl k
/-! X8_resolved, labels [] -/
set_option maxRecDepth 100000 in
set_option maxHeartbeats 4000000 in
theorem B_X8_resolved_0 {mc ms : Nat} {z : Zt} {I : It} {Q : Option Value → Zt → It → Prop} {x1 x2 : Int32} {pa pb : Nat} (hz : isZ z pa pb)
    (k : ((x1 < 0) → Q (some (.int (-1000000001))) z I) ∧
    ((¬ x1 < 0) → ((3 < x1) → Q (some (.int (-1000000001))) z I) ∧
    ((¬ 3 < x1) → ((x2 < 0) → Q (some (.int (-1000000001))) z I) ∧
    ((¬ x2 < 0) → ((3 < x2) → Q (some (.int (-1000000001))) z I) ∧
    ((¬ 3 < x2) → Q (some (.int (f_X3_join x1 x2))) z I))))) :
    E mX8_resolved mc ms 0 [some (.ref 1), some (.int x1), some (.int x2)] [] z I Q := by
  refine E_iload_n (pc := 0) (x := x1) ddX8_resolved_0 rfl rfl ?_
  refine E_callS (pc := 1) (As := [.int x1]) (st := []) ddX8_resolved_1 hX3_isLevel ⟨(Nat.le_of_ble_eq_true rfl), (Nat.le_of_ble_eq_true rfl)⟩ w_3_61 rfl rfl (Nat.le_of_ble_eq_true rfl) (e_cc rfl e_cn) (Nat.le_of_ble_eq_true rfl) ?_
  refine (show E mX3_isLevel 0 0 0 [some (.int x1)] [] z I _ from ?_)
  refine E_iload_n (pc := 0) (x := x1) ddX3_isLevel_0 rfl rfl ?_
  refine E_if_lt (pc := 1) (tgt := 13) ddX3_isLevel_1 (by decide) (fun h => ?_) (fun h => ?_)
  · have k := k.1 h
    refine E_iconst (pc := 13) (v := 0) ddX3_isLevel_13 rfl ?_
    refine E_zret (pc := 14) ddX3_isLevel_14 rfl (by decide) ?_
    refine (show E mX8_resolved mc ms 4 [some (.ref 1), some (.int x1), some (.int x2)] [.int 0] z I Q from ?_)
    refine E_if_eq (pc := 4) (tgt := 14) ddX8_resolved_4 (by decide) (fun _ => ?_) (fun h => absurd h (by decide))
    refine E_ldc (pc := 14) (v := (-1000000001)) ddX8_resolved_14 w_2_238 ?_
    exact E_iret (pc := 16) ddX8_resolved_16 rfl k
  · have k := k.2 h
    refine E_iload_n (pc := 4) (x := x1) ddX3_isLevel_4 rfl rfl ?_
    refine E_iconst (pc := 5) (v := 3) ddX3_isLevel_5 rfl ?_
    refine E_icmp_gt (pc := 6) (tgt := 13) ddX3_isLevel_6 (by decide) (fun h => ?_) (fun h => ?_)
    · have k := k.1 h
      refine E_iconst (pc := 13) (v := 0) ddX3_isLevel_13 rfl ?_
      refine E_zret (pc := 14) ddX3_isLevel_14 rfl (by decide) ?_
      refine (show E mX8_resolved mc ms 4 [some (.ref 1), some (.int x1), some (.int x2)] [.int 0] z I Q from ?_)
      refine E_if_eq (pc := 4) (tgt := 14) ddX8_resolved_4 (by decide) (fun _ => ?_) (fun h => absurd h (by decide))
      refine E_ldc (pc := 14) (v := (-1000000001)) ddX8_resolved_14 w_2_238 ?_
      exact E_iret (pc := 16) ddX8_resolved_16 rfl k
    · have k := k.2 h
      refine E_iconst (pc := 9) (v := 1) ddX3_isLevel_9 rfl ?_
      refine E_goto (pc := 10) (tgt := 14) ddX3_isLevel_10 (by decide) ?_
      refine E_zret (pc := 14) ddX3_isLevel_14 rfl (by decide) ?_
      refine (show E mX8_resolved mc ms 4 [some (.ref 1), some (.int x1), some (.int x2)] [.int 1] z I Q from ?_)
      refine E_if_eq (pc := 4) (tgt := 14) ddX8_resolved_4 (by decide) (fun h => absurd h (by decide)) (fun _ => ?_)
      refine E_iload_n (pc := 7) (x := x2) ddX8_resolved_7 rfl rfl ?_
      refine E_callS (pc := 8) (As := [.int x2]) (st := []) ddX8_resolved_8 hX3_isLevel ⟨(Nat.le_of_ble_eq_true rfl), (Nat.le_of_ble_eq_true rfl)⟩ w_3_61 rfl rfl (Nat.le_of_ble_eq_true rfl) (e_cc rfl e_cn) (Nat.le_of_ble_eq_true rfl) ?_
      refine (show E mX3_isLevel 0 0 0 [some (.int x2)] [] z I _ from ?_)
      refine E_iload_n (pc := 0) (x := x2) ddX3_isLevel_0 rfl rfl ?_
      refine E_if_lt (pc := 1) (tgt := 13) ddX3_isLevel_1 (by decide) (fun h => ?_) (fun h => ?_)
      · have k := k.1 h
        refine E_iconst (pc := 13) (v := 0) ddX3_isLevel_13 rfl ?_
        refine E_zret (pc := 14) ddX3_isLevel_14 rfl (by decide) ?_
        refine (show E mX8_resolved mc ms 11 [some (.ref 1), some (.int x1), some (.int x2)] [.int 0] z I Q from ?_)
        refine E_if_ne (pc := 11) (tgt := 17) ddX8_resolved_11 (by decide) (fun h => absurd h (by decide)) (fun _ => ?_)
        refine E_ldc (pc := 14) (v := (-1000000001)) ddX8_resolved_14 w_2_238 ?_
        exact E_iret (pc := 16) ddX8_resolved_16 rfl k
      · have k := k.2 h
        refine E_iload_n (pc := 4) (x := x2) ddX3_isLevel_4 rfl rfl ?_
        refine E_iconst (pc := 5) (v := 3) ddX3_isLevel_5 rfl ?_
        refine E_icmp_gt (pc := 6) (tgt := 13) ddX3_isLevel_6 (by decide) (fun h => ?_) (fun h => ?_)
        · have k := k.1 h
          refine E_iconst (pc := 13) (v := 0) ddX3_isLevel_13 rfl ?_
          refine E_zret (pc := 14) ddX3_isLevel_14 rfl (by decide) ?_
          refine (show E mX8_resolved mc ms 11 [some (.ref 1), some (.int x1), some (.int x2)] [.int 0] z I Q from ?_)
          refine E_if_ne (pc := 11) (tgt := 17) ddX8_resolved_11 (by decide) (fun h => absurd h (by decide)) (fun _ => ?_)
          refine E_ldc (pc := 14) (v := (-1000000001)) ddX8_resolved_14 w_2_238 ?_
          exact E_iret (pc := 16) ddX8_resolved_16 rfl k
        · have k := k.2 h
          refine E_iconst (pc := 9) (v := 1) ddX3_isLevel_9 rfl ?_
          refine E_goto (pc := 10) (tgt := 14) ddX3_isLevel_10 (by decide) ?_
          refine E_zret (pc := 14) ddX3_isLevel_14 rfl (by decide) ?_
          refine (show E mX8_resolved mc ms 11 [some (.ref 1), some (.int x1), some (.int x2)] [.int 1] z I Q from ?_)
          refine E_if_ne (pc := 11) (tgt := 17) ddX8_resolved_11 (by decide) (fun _ => ?_) (fun h => absurd h (by decide))
          refine E_iload_n (pc := 17) (x := x1) ddX8_resolved_17 rfl rfl ?_
          refine E_iload_n (pc := 18) (x := x2) ddX8_resolved_18 rfl rfl ?_
          refine E_callS (pc := 19) (As := [.int x1, .int x2]) (st := []) ddX8_resolved_19 hX3_join ⟨(Nat.le_of_ble_eq_true rfl), (Nat.le_of_ble_eq_true rfl)⟩ w_3_64 rfl rfl (Nat.le_of_ble_eq_true rfl) (e_cc rfl (e_cc rfl e_cn)) (Nat.le_of_ble_eq_true rfl) (C_X3_join ?_)
          refine (show E mX8_resolved mc ms 22 [some (.ref 1), some (.int x1), some (.int x2)] [.int (f_X3_join x1 x2)] z I Q from ?_)
          exact E_iret (pc := 22) ddX8_resolved_22 rfl k
/-! X8_comes, labels [] -/
set_option maxRecDepth 100000 in
set_option maxHeartbeats 4000000 in
theorem B_X8_comes_0 {mc ms : Nat} {z : Zt} {I : It} {Q : Option Value → Zt → It → Prop} {x1 x2 x3 : Int32} {pa pb : Nat} (hz : isZ z pa pb)
    (k : ((x2 < 0) → Q (some (.int (-1000000001))) z I) ∧
    ((¬ x2 < 0) → ((3 < x2) → Q (some (.int (-1000000001))) z I) ∧
    ((¬ 3 < x2) → ((x3 < 0) → Q (some (.int (-1000000001))) z I) ∧
    ((¬ x3 < 0) → ((3 < x3) → Q (some (.int (-1000000001))) z I) ∧
    ((¬ 3 < x3) → ((x1 < 0) → Q (some (.int (-1000000002))) z I) ∧
    ((¬ x1 < 0) → ((x1 ≤ 4) → Q (some (.int (f_X3_outcome x1 x2 x3 2))) z I) ∧
    ((¬ x1 ≤ 4) → Q (some (.int (-1000000002))) z I))))))) :
    E mX8_comes mc ms 0 [some (.ref 1), some (.int x1), some (.int x2), some (.int x3)] [] z I Q := by
  refine E_iload_n (pc := 0) (x := x2) ddX8_comes_0 rfl rfl ?_
  refine E_callS (pc := 1) (As := [.int x2]) (st := []) ddX8_comes_1 hX3_isLevel ⟨(Nat.le_of_ble_eq_true rfl), (Nat.le_of_ble_eq_true rfl)⟩ w_3_61 rfl rfl (Nat.le_of_ble_eq_true rfl) (e_cc rfl e_cn) (Nat.le_of_ble_eq_true rfl) ?_
  refine (show E mX3_isLevel 0 0 0 [some (.int x2)] [] z I _ from ?_)
  refine E_iload_n (pc := 0) (x := x2) ddX3_isLevel_0 rfl rfl ?_
  refine E_if_lt (pc := 1) (tgt := 13) ddX3_isLevel_1 (by decide) (fun h => ?_) (fun h => ?_)
  · have k := k.1 h
    refine E_iconst (pc := 13) (v := 0) ddX3_isLevel_13 rfl ?_
    refine E_zret (pc := 14) ddX3_isLevel_14 rfl (by decide) ?_
    refine (show E mX8_comes mc ms 4 [some (.ref 1), some (.int x1), some (.int x2), some (.int x3)] [.int 0] z I Q from ?_)
    refine E_if_eq (pc := 4) (tgt := 14) ddX8_comes_4 (by decide) (fun _ => ?_) (fun h => absurd h (by decide))
    refine E_ldc (pc := 14) (v := (-1000000001)) ddX8_comes_14 w_2_238 ?_
    exact E_iret (pc := 16) ddX8_comes_16 rfl k
  · have k := k.2 h
    refine E_iload_n (pc := 4) (x := x2) ddX3_isLevel_4 rfl rfl ?_
    refine E_iconst (pc := 5) (v := 3) ddX3_isLevel_5 rfl ?_
    refine E_icmp_gt (pc := 6) (tgt := 13) ddX3_isLevel_6 (by decide) (fun h => ?_) (fun h => ?_)
    · have k := k.1 h
      refine E_iconst (pc := 13) (v := 0) ddX3_isLevel_13 rfl ?_
      refine E_zret (pc := 14) ddX3_isLevel_14 rfl (by decide) ?_
      refine (show E mX8_comes mc ms 4 [some (.ref 1), some (.int x1), some (.int x2), some (.int x3)] [.int 0] z I Q from ?_)
      refine E_if_eq (pc := 4) (tgt := 14) ddX8_comes_4 (by decide) (fun _ => ?_) (fun h => absurd h (by decide))
      refine E_ldc (pc := 14) (v := (-1000000001)) ddX8_comes_14 w_2_238 ?_
      exact E_iret (pc := 16) ddX8_comes_16 rfl k
    · have k := k.2 h
      refine E_iconst (pc := 9) (v := 1) ddX3_isLevel_9 rfl ?_
      refine E_goto (pc := 10) (tgt := 14) ddX3_isLevel_10 (by decide) ?_
      refine E_zret (pc := 14) ddX3_isLevel_14 rfl (by decide) ?_
      refine (show E mX8_comes mc ms 4 [some (.ref 1), some (.int x1), some (.int x2), some (.int x3)] [.int 1] z I Q from ?_)
      refine E_if_eq (pc := 4) (tgt := 14) ddX8_comes_4 (by decide) (fun h => absurd h (by decide)) (fun _ => ?_)
      refine E_iload_n (pc := 7) (x := x3) ddX8_comes_7 rfl rfl ?_
      refine E_callS (pc := 8) (As := [.int x3]) (st := []) ddX8_comes_8 hX3_isLevel ⟨(Nat.le_of_ble_eq_true rfl), (Nat.le_of_ble_eq_true rfl)⟩ w_3_61 rfl rfl (Nat.le_of_ble_eq_true rfl) (e_cc rfl e_cn) (Nat.le_of_ble_eq_true rfl) ?_
      refine (show E mX3_isLevel 0 0 0 [some (.int x3)] [] z I _ from ?_)
      refine E_iload_n (pc := 0) (x := x3) ddX3_isLevel_0 rfl rfl ?_
      refine E_if_lt (pc := 1) (tgt := 13) ddX3_isLevel_1 (by decide) (fun h => ?_) (fun h => ?_)
      · have k := k.1 h
        refine E_iconst (pc := 13) (v := 0) ddX3_isLevel_13 rfl ?_
        refine E_zret (pc := 14) ddX3_isLevel_14 rfl (by decide) ?_
        refine (show E mX8_comes mc ms 11 [some (.ref 1), some (.int x1), some (.int x2), some (.int x3)] [.int 0] z I Q from ?_)
        refine E_if_ne (pc := 11) (tgt := 17) ddX8_comes_11 (by decide) (fun h => absurd h (by decide)) (fun _ => ?_)
        refine E_ldc (pc := 14) (v := (-1000000001)) ddX8_comes_14 w_2_238 ?_
        exact E_iret (pc := 16) ddX8_comes_16 rfl k
      · have k := k.2 h
        refine E_iload_n (pc := 4) (x := x3) ddX3_isLevel_4 rfl rfl ?_
        refine E_iconst (pc := 5) (v := 3) ddX3_isLevel_5 rfl ?_
        refine E_icmp_gt (pc := 6) (tgt := 13) ddX3_isLevel_6 (by decide) (fun h => ?_) (fun h => ?_)
        · have k := k.1 h
          refine E_iconst (pc := 13) (v := 0) ddX3_isLevel_13 rfl ?_
          refine E_zret (pc := 14) ddX3_isLevel_14 rfl (by decide) ?_
          refine (show E mX8_comes mc ms 11 [some (.ref 1), some (.int x1), some (.int x2), some (.int x3)] [.int 0] z I Q from ?_)
          refine E_if_ne (pc := 11) (tgt := 17) ddX8_comes_11 (by decide) (fun h => absurd h (by decide)) (fun _ => ?_)
          refine E_ldc (pc := 14) (v := (-1000000001)) ddX8_comes_14 w_2_238 ?_
          exact E_iret (pc := 16) ddX8_comes_16 rfl k
        · have k := k.2 h
          refine E_iconst (pc := 9) (v := 1) ddX3_isLevel_9 rfl ?_
          refine E_goto (pc := 10) (tgt := 14) ddX3_isLevel_10 (by decide) ?_
          refine E_zret (pc := 14) ddX3_isLevel_14 rfl (by decide) ?_
          refine (show E mX8_comes mc ms 11 [some (.ref 1), some (.int x1), some (.int x2), some (.int x3)] [.int 1] z I Q from ?_)
          refine E_if_ne (pc := 11) (tgt := 17) ddX8_comes_11 (by decide) (fun _ => ?_) (fun h => absurd h (by decide))
          refine E_iload_n (pc := 17) (x := x1) ddX8_comes_17 rfl rfl ?_
          refine E_if_lt (pc := 18) (tgt := 26) ddX8_comes_18 (by decide) (fun h => ?_) (fun h => ?_)
          · have k := k.1 h
            refine E_ldc (pc := 26) (v := (-1000000002)) ddX8_comes_26 w_2_43 ?_
            exact E_iret (pc := 28) ddX8_comes_28 rfl k
          · have k := k.2 h
            refine E_iload_n (pc := 21) (x := x1) ddX8_comes_21 rfl rfl ?_
            refine E_iconst (pc := 22) (v := 4) ddX8_comes_22 rfl ?_
            refine E_icmp_le (pc := 23) (tgt := 29) ddX8_comes_23 (by decide) (fun h => ?_) (fun h => ?_)
            · have k := k.1 h
              refine E_iload_n (pc := 29) (x := x1) ddX8_comes_29 rfl rfl ?_
              refine E_iload_n (pc := 30) (x := x2) ddX8_comes_30 rfl rfl ?_
              refine E_iload_n (pc := 31) (x := x3) ddX8_comes_31 rfl rfl ?_
              refine E_iconst (pc := 32) (v := 2) ddX8_comes_32 rfl ?_
              refine E_callS (pc := 33) (As := [.int x1, .int x2, .int x3, .int 2]) (st := []) ddX8_comes_33 hX3_outcome ⟨(Nat.le_of_ble_eq_true rfl), (Nat.le_of_ble_eq_true rfl)⟩ w_3_69 rfl rfl (Nat.le_of_ble_eq_true rfl) (e_cc rfl (e_cc rfl (e_cc rfl (e_cc rfl e_cn)))) (Nat.le_of_ble_eq_true rfl) (C_X3_outcome ?_)
              refine (show E mX8_comes mc ms 36 [some (.ref 1), some (.int x1), some (.int x2), some (.int x3)] [.int (f_X3_outcome x1 x2 x3 2)] z I Q from ?_)
              exact E_iret (pc := 36) ddX8_comes_36 rfl k
            · have k := k.2 h
              refine E_ldc (pc := 26) (v := (-1000000002)) ddX8_comes_26 w_2_43 ?_
              exact E_iret (pc := 28) ddX8_comes_28 rfl k
/-! X8_step, labels [17, 34, 45] -/
set_option maxRecDepth 100000 in
set_option maxHeartbeats 4000000 in
theorem B_X8_step_0 {mc ms : Nat} {z : Zt} {I : It} {Q : Option Value → Zt → It → Prop} {pa pb : Nat} (hz : isZ z pa pb)
    (k : ((¬ (I 20 2) = 0) → Q (some (.int (-1000000003))) z I) ∧
    (((I 20 2) = 0) → E mX4_isStill 0 0 0 [some (.ref 20)] [] z I (fun r z' I' => E mX8_step mc ms 17 [some (.ref 1)] (r.toList ++ []) z' I' Q))) :
    E mX8_step mc ms 0 [some (.ref 1)] [] z I Q := by
  refine E_aload_n (pc := 0) (x := 1) ddX8_step_0 rfl rfl ?_
  refine E_getR (pc := 1) (x := 20) ddX8_step_1 ec_7 3 (Nat.le_of_ble_eq_true rfl) rfl w_2_11 hz.s0 hz.r3 (by decide) ?_
  refine E_getI (pc := 4) ddX8_step_4 ec_3 2 (Nat.le_of_ble_eq_true rfl) rfl w_1_119 hz.now.s0 ?_
  refine E_if_ne (pc := 7) (tgt := 20) ddX8_step_7 (by decide) (fun h => ?_) (fun h => ?_)
  · have k := k.1 h
    refine E_ldc (pc := 20) (v := (-1000000003)) ddX8_step_20 w_3_74 ?_
    exact E_iret (pc := 22) ddX8_step_22 rfl k
  · have k := k.2 h
    refine E_aload_n (pc := 10) (x := 1) ddX8_step_10 rfl rfl ?_
    refine E_getR (pc := 11) (x := 20) ddX8_step_11 ec_7 3 (Nat.le_of_ble_eq_true rfl) rfl w_2_11 hz.s0 hz.r3 (by decide) ?_
    exact E_callV (pc := 14) (As := []) (st := []) (a := 20) ddX8_step_14 hX4_isStill ⟨(Nat.le_of_ble_eq_true rfl), (Nat.le_of_ble_eq_true rfl)⟩ w_2_159 (ci := 3) rfl rfl hz.now.s0 rfl rfl (Nat.le_of_ble_eq_true rfl) e_cn (Nat.le_of_ble_eq_true rfl) k
set_option maxRecDepth 100000 in
set_option maxHeartbeats 4000000 in
theorem B_X8_step_17 {mc ms : Nat} {z : Zt} {I : It} {Q : Option Value → Zt → It → Prop} {y0 : Int32} {pa pb : Nat} (hz : isZ z pa pb)
    (k : ((y0 = 0) → E mX5_remember 0 0 0 [some (.ref 48), some (.ref 20), none] [] z I (fun r z' I' => E mX8_step mc ms 34 [some (.ref 1)] (r.toList ++ []) z' I' Q)) ∧
    ((¬ y0 = 0) → Q (some (.int (-1000000003))) z I)) :
    E mX8_step mc ms 17 [some (.ref 1)] [.int y0] z I Q := by
  refine E_if_eq (pc := 17) (tgt := 23) ddX8_step_17 (by decide) (fun h => ?_) (fun h => ?_)
  · have k := k.1 h
    refine E_aload_n (pc := 23) (x := 1) ddX8_step_23 rfl rfl ?_
    refine E_getR (pc := 24) (x := 48) ddX8_step_24 ec_7 5 (Nat.le_of_ble_eq_true rfl) rfl w_2_13 hz.s0 hz.r5 (by decide) ?_
    refine E_aload_n (pc := 27) (x := 1) ddX8_step_27 rfl rfl ?_
    refine E_getR (pc := 28) (x := 20) ddX8_step_28 ec_7 3 (Nat.le_of_ble_eq_true rfl) rfl w_2_11 hz.s0 hz.r3 (by decide) ?_
    exact E_callV (pc := 31) (As := [.ref 20]) (st := []) (a := 48) ddX8_step_31 hX5_remember ⟨(Nat.le_of_ble_eq_true rfl), (Nat.le_of_ble_eq_true rfl)⟩ w_3_75 (ci := 4) rfl rfl hz.past.s0 rfl rfl (Nat.le_of_ble_eq_true rfl) (e_cc rfl e_cn) (Nat.le_of_ble_eq_true rfl) k
  · have k := k.2 h
    refine E_ldc (pc := 20) (v := (-1000000003)) ddX8_step_20 w_3_74 ?_
    exact E_iret (pc := 22) ddX8_step_22 rfl k
set_option maxRecDepth 100000 in
set_option maxHeartbeats 4000000 in
theorem B_X8_step_34 {mc ms : Nat} {z : Zt} {I : It} {Q : Option Value → Zt → It → Prop} {pa pb : Nat} (hz : isZ z pa pb)
    (k : E mX4_advance 0 0 0 [some (.ref 20), some (.ref pa), none, none] [] z I (fun r z' I' => E mX8_step mc ms 45 [some (.ref 1)] (r.toList ++ []) z' I' Q)) :
    E mX8_step mc ms 34 [some (.ref 1)] [] z I Q := by
  refine E_aload_n (pc := 34) (x := 1) ddX8_step_34 rfl rfl ?_
  refine E_getR (pc := 35) (x := 20) ddX8_step_35 ec_7 3 (Nat.le_of_ble_eq_true rfl) rfl w_2_11 hz.s0 hz.r3 (by decide) ?_
  refine E_aload_n (pc := 38) (x := 1) ddX8_step_38 rfl rfl ?_
  refine E_getR (pc := 39) (x := pa) ddX8_step_39 ec_7 1 (Nat.le_of_ble_eq_true rfl) rfl w_2_9 hz.s0 hz.r1 hz.npa ?_
  exact E_callV (pc := 42) (As := [.ref pa]) (st := []) (a := 20) ddX8_step_42 hX4_advance ⟨(Nat.le_of_ble_eq_true rfl), (Nat.le_of_ble_eq_true rfl)⟩ w_2_189 (ci := 3) rfl rfl hz.now.s0 rfl rfl (Nat.le_of_ble_eq_true rfl) (e_cc rfl e_cn) (Nat.le_of_ble_eq_true rfl) k
set_option maxRecDepth 100000 in
set_option maxHeartbeats 4000000 in
theorem B_X8_step_45 {mc ms : Nat} {z : Zt} {I : It} {Q : Option Value → Zt → It → Prop} {pa pb : Nat} (hz : isZ z pa pb)
    (k : Q (some (.int (I 20 0))) z I) :
    E mX8_step mc ms 45 [some (.ref 1)] [] z I Q := by
  refine E_aload_n (pc := 45) (x := 1) ddX8_step_45 rfl rfl ?_
  refine E_getR (pc := 46) (x := 20) ddX8_step_46 ec_7 3 (Nat.le_of_ble_eq_true rfl) rfl w_2_11 hz.s0 hz.r3 (by decide) ?_
  refine E_getI (pc := 49) ddX8_step_49 ec_3 0 (Nat.le_of_ble_eq_true rfl) rfl w_1_115 hz.now.s0 ?_
  exact E_iret (pc := 52) ddX8_step_52 rfl k
/-! X8_run, labels [39, 59] -/
set_option maxRecDepth 100000 in
set_option maxHeartbeats 4000000 in
theorem B_X8_run_0 {mc ms : Nat} {z : Zt} {I : It} {Q : Option Value → Zt → It → Prop} {x1 : Int32} {pa pb : Nat} (hz : isZ z pa pb)
    (k : ((x1 < 1) → Q (some (.int (-1000000002))) z I) ∧
    ((¬ x1 < 1) → ((x1 ≤ 200) → (((I 20 2) = 0) → E mX5_remember 0 0 0 [some (.ref 48), some (.ref 20), none] [] z I (fun r z' I' => E mX8_run mc ms 39 [some (.ref 1), some (.int x1)] (r.toList ++ []) z' I' Q)) ∧
    ((¬ (I 20 2) = 0) → Q (some (.int (-1000000003))) z I)) ∧
    ((¬ x1 ≤ 200) → Q (some (.int (-1000000002))) z I))) :
    E mX8_run mc ms 0 [some (.ref 1), some (.int x1)] [] z I Q := by
  refine E_iload_n (pc := 0) (x := x1) ddX8_run_0 rfl rfl ?_
  refine E_iconst (pc := 1) (v := 1) ddX8_run_1 rfl ?_
  refine E_icmp_lt (pc := 2) (tgt := 12) ddX8_run_2 (by decide) (fun h => ?_) (fun h => ?_)
  · have k := k.1 h
    refine E_ldc (pc := 12) (v := (-1000000002)) ddX8_run_12 w_2_43 ?_
    exact E_iret (pc := 14) ddX8_run_14 rfl k
  · have k := k.2 h
    refine E_iload_n (pc := 5) (x := x1) ddX8_run_5 rfl rfl ?_
    refine E_sipush (pc := 6) (v := 200) ddX8_run_6 rfl ?_
    refine E_icmp_le (pc := 9) (tgt := 15) ddX8_run_9 (by decide) (fun h => ?_) (fun h => ?_)
    · have k := k.1 h
      refine E_aload_n (pc := 15) (x := 1) ddX8_run_15 rfl rfl ?_
      refine E_getR (pc := 16) (x := 20) ddX8_run_16 ec_7 3 (Nat.le_of_ble_eq_true rfl) rfl w_2_11 hz.s0 hz.r3 (by decide) ?_
      refine E_getI (pc := 19) ddX8_run_19 ec_3 2 (Nat.le_of_ble_eq_true rfl) rfl w_1_119 hz.now.s0 ?_
      refine E_if_eq (pc := 22) (tgt := 28) ddX8_run_22 (by decide) (fun h => ?_) (fun h => ?_)
      · have k := k.1 h
        refine E_aload_n (pc := 28) (x := 1) ddX8_run_28 rfl rfl ?_
        refine E_getR (pc := 29) (x := 48) ddX8_run_29 ec_7 5 (Nat.le_of_ble_eq_true rfl) rfl w_2_13 hz.s0 hz.r5 (by decide) ?_
        refine E_aload_n (pc := 32) (x := 1) ddX8_run_32 rfl rfl ?_
        refine E_getR (pc := 33) (x := 20) ddX8_run_33 ec_7 3 (Nat.le_of_ble_eq_true rfl) rfl w_2_11 hz.s0 hz.r3 (by decide) ?_
        exact E_callV (pc := 36) (As := [.ref 20]) (st := []) (a := 48) ddX8_run_36 hX5_remember ⟨(Nat.le_of_ble_eq_true rfl), (Nat.le_of_ble_eq_true rfl)⟩ w_3_75 (ci := 4) rfl rfl hz.past.s0 rfl rfl (Nat.le_of_ble_eq_true rfl) (e_cc rfl e_cn) (Nat.le_of_ble_eq_true rfl) k
      · have k := k.2 h
        refine E_ldc (pc := 25) (v := (-1000000003)) ddX8_run_25 w_3_74 ?_
        exact E_iret (pc := 27) ddX8_run_27 rfl k
    · have k := k.2 h
      refine E_ldc (pc := 12) (v := (-1000000002)) ddX8_run_12 w_2_43 ?_
      exact E_iret (pc := 14) ddX8_run_14 rfl k
set_option maxRecDepth 100000 in
set_option maxHeartbeats 4000000 in
theorem B_X8_run_39 {mc ms : Nat} {z : Zt} {I : It} {Q : Option Value → Zt → It → Prop} {x1 : Int32} {pa pb : Nat} (hz : isZ z pa pb)
    (k : E mX4_advanceTo 0 0 0 [some (.ref 20), some (.ref pa), some (.int ((I 20 0) + x1)), none] [] z I (fun r z' I' => E mX8_run mc ms 59 [none, none] (r.toList ++ []) z' I' Q)) :
    E mX8_run mc ms 39 [some (.ref 1), some (.int x1)] [] z I Q := by
  refine E_aload_n (pc := 39) (x := 1) ddX8_run_39 rfl rfl ?_
  refine E_getR (pc := 40) (x := 20) ddX8_run_40 ec_7 3 (Nat.le_of_ble_eq_true rfl) rfl w_2_11 hz.s0 hz.r3 (by decide) ?_
  refine E_aload_n (pc := 43) (x := 1) ddX8_run_43 rfl rfl ?_
  refine E_getR (pc := 44) (x := pa) ddX8_run_44 ec_7 1 (Nat.le_of_ble_eq_true rfl) rfl w_2_9 hz.s0 hz.r1 hz.npa ?_
  refine E_aload_n (pc := 47) (x := 1) ddX8_run_47 rfl rfl ?_
  refine E_getR (pc := 48) (x := 20) ddX8_run_48 ec_7 3 (Nat.le_of_ble_eq_true rfl) rfl w_2_11 hz.s0 hz.r3 (by decide) ?_
  refine E_getI (pc := 51) ddX8_run_51 ec_3 0 (Nat.le_of_ble_eq_true rfl) rfl w_1_115 hz.now.s0 ?_
  refine E_iload_n (pc := 54) (x := x1) ddX8_run_54 rfl rfl ?_
  refine E_iadd (pc := 55) ddX8_run_55 ?_
  exact E_callV (pc := 56) (As := [.ref pa, .int ((I 20 0) + x1)]) (st := []) (a := 20) ddX8_run_56 hX4_advanceTo ⟨(Nat.le_of_ble_eq_true rfl), (Nat.le_of_ble_eq_true rfl)⟩ w_3_85 (ci := 3) rfl rfl hz.now.s0 rfl rfl (Nat.le_of_ble_eq_true rfl) (e_cc rfl (e_cc rfl e_cn)) (Nat.le_of_ble_eq_true rfl) (E.mono k fun _ _ _ q => E.forget q trivial)
set_option maxRecDepth 100000 in
set_option maxHeartbeats 4000000 in
theorem B_X8_run_59 {mc ms : Nat} {z : Zt} {I : It} {Q : Option Value → Zt → It → Prop} {y0 : Int32}
    (k : Q (some (.int y0)) z I) :
    E mX8_run mc ms 59 [none, none] [.int y0] z I Q := by
  exact E_iret (pc := 59) ddX8_run_59 rfl k
/-! X8_set, labels [39, 69, 87] -/
set_option maxRecDepth 100000 in
set_option maxHeartbeats 4000000 in
theorem B_X8_set_0 {mc ms : Nat} {z : Zt} {I : It} {Q : Option Value → Zt → It → Prop} {x1 x2 x3 : Int32} {pa pb : Nat} (hz : isZ z pa pb)
    (k : ((x1 < 0) → Q (some (.int (-1000000001))) z I) ∧
    ((¬ x1 < 0) → (((I pa 0) ≤ x1) → Q (some (.int (-1000000001))) z I) ∧
    ((¬ (I pa 0) ≤ x1) → ((x2 < 0) → Q (some (.int (-1000000001))) z I) ∧
    ((¬ x2 < 0) → ((3 < x2) → Q (some (.int (-1000000001))) z I) ∧
    ((¬ 3 < x2) → ((x3 < 0) → Q (some (.int (-1000000002))) z I) ∧
    ((¬ x3 < 0) → ((x3 ≤ 20) → E mX8_maySetByHand 0 0 0 [some (.ref 1), some (.int x1)] [] z I (fun r z' I' => E mX8_set mc ms 39 [some (.ref 1), some (.int x1), some (.int x2), some (.int x3)] (r.toList ++ []) z' I' Q)) ∧
    ((¬ x3 ≤ 20) → Q (some (.int (-1000000002))) z I))))))) :
    E mX8_set mc ms 0 [some (.ref 1), some (.int x1), some (.int x2), some (.int x3)] [] z I Q := by
  refine E_aload_n (pc := 0) (x := 1) ddX8_set_0 rfl rfl ?_
  refine E_getR (pc := 1) (x := pa) ddX8_set_1 ec_7 1 (Nat.le_of_ble_eq_true rfl) rfl w_2_9 hz.s0 hz.r1 hz.npa ?_
  refine E_iload_n (pc := 4) (x := x1) ddX8_set_4 rfl rfl ?_
  refine E_callV (pc := 5) (As := [.int x1]) (st := []) (a := pa) ddX8_set_5 hX6_hasWire ⟨(Nat.le_of_ble_eq_true rfl), (Nat.le_of_ble_eq_true rfl)⟩ w_2_237 (ci := 5) rfl rfl hz.pa.s0 rfl rfl (Nat.le_of_ble_eq_true rfl) (e_cc rfl e_cn) (Nat.le_of_ble_eq_true rfl) ?_
  refine (show E mX6_hasWire 0 0 0 [some (.ref pa), some (.int x1)] [] z I _ from ?_)
  refine E_iload_n (pc := 0) (x := x1) ddX6_hasWire_0 rfl rfl ?_
  refine E_if_lt (pc := 1) (tgt := 16) ddX6_hasWire_1 (by decide) (fun h => ?_) (fun h => ?_)
  · have k := k.1 h
    refine E_iconst (pc := 16) (v := 0) ddX6_hasWire_16 rfl ?_
    refine E_zret (pc := 17) ddX6_hasWire_17 rfl (by decide) ?_
    refine (show E mX8_set mc ms 8 [some (.ref 1), some (.int x1), some (.int x2), some (.int x3)] [.int 0] z I Q from ?_)
    refine E_if_eq (pc := 8) (tgt := 18) ddX8_set_8 (by decide) (fun _ => ?_) (fun h => absurd h (by decide))
    refine E_ldc (pc := 18) (v := (-1000000001)) ddX8_set_18 w_2_238 ?_
    exact E_iret (pc := 20) ddX8_set_20 rfl k
  · have k := k.2 h
    refine E_iload_n (pc := 4) (x := x1) ddX6_hasWire_4 rfl rfl ?_
    refine E_aload_n (pc := 5) (x := pa) ddX6_hasWire_5 rfl rfl ?_
    refine E_getI (pc := 6) ddX6_hasWire_6 ec_5 0 (Nat.le_of_ble_eq_true rfl) rfl w_1_55 hz.pa.s0 ?_
    refine E_icmp_ge (pc := 9) (tgt := 16) ddX6_hasWire_9 (by decide) (fun h => ?_) (fun h => ?_)
    · have k := k.1 h
      refine E_iconst (pc := 16) (v := 0) ddX6_hasWire_16 rfl ?_
      refine E_zret (pc := 17) ddX6_hasWire_17 rfl (by decide) ?_
      refine (show E mX8_set mc ms 8 [some (.ref 1), some (.int x1), some (.int x2), some (.int x3)] [.int 0] z I Q from ?_)
      refine E_if_eq (pc := 8) (tgt := 18) ddX8_set_8 (by decide) (fun _ => ?_) (fun h => absurd h (by decide))
      refine E_ldc (pc := 18) (v := (-1000000001)) ddX8_set_18 w_2_238 ?_
      exact E_iret (pc := 20) ddX8_set_20 rfl k
    · have k := k.2 h
      refine E_iconst (pc := 12) (v := 1) ddX6_hasWire_12 rfl ?_
      refine E_goto (pc := 13) (tgt := 17) ddX6_hasWire_13 (by decide) ?_
      refine E_zret (pc := 17) ddX6_hasWire_17 rfl (by decide) ?_
      refine (show E mX8_set mc ms 8 [some (.ref 1), some (.int x1), some (.int x2), some (.int x3)] [.int 1] z I Q from ?_)
      refine E_if_eq (pc := 8) (tgt := 18) ddX8_set_8 (by decide) (fun h => absurd h (by decide)) (fun _ => ?_)
      refine E_iload_n (pc := 11) (x := x2) ddX8_set_11 rfl rfl ?_
      refine E_callS (pc := 12) (As := [.int x2]) (st := []) ddX8_set_12 hX3_isLevel ⟨(Nat.le_of_ble_eq_true rfl), (Nat.le_of_ble_eq_true rfl)⟩ w_3_61 rfl rfl (Nat.le_of_ble_eq_true rfl) (e_cc rfl e_cn) (Nat.le_of_ble_eq_true rfl) ?_
      refine (show E mX3_isLevel 0 0 0 [some (.int x2)] [] z I _ from ?_)
      refine E_iload_n (pc := 0) (x := x2) ddX3_isLevel_0 rfl rfl ?_
      refine E_if_lt (pc := 1) (tgt := 13) ddX3_isLevel_1 (by decide) (fun h => ?_) (fun h => ?_)
      · have k := k.1 h
        refine E_iconst (pc := 13) (v := 0) ddX3_isLevel_13 rfl ?_
        refine E_zret (pc := 14) ddX3_isLevel_14 rfl (by decide) ?_
        refine (show E mX8_set mc ms 15 [some (.ref 1), some (.int x1), some (.int x2), some (.int x3)] [.int 0] z I Q from ?_)
        refine E_if_ne (pc := 15) (tgt := 21) ddX8_set_15 (by decide) (fun h => absurd h (by decide)) (fun _ => ?_)
        refine E_ldc (pc := 18) (v := (-1000000001)) ddX8_set_18 w_2_238 ?_
        exact E_iret (pc := 20) ddX8_set_20 rfl k
      · have k := k.2 h
        refine E_iload_n (pc := 4) (x := x2) ddX3_isLevel_4 rfl rfl ?_
        refine E_iconst (pc := 5) (v := 3) ddX3_isLevel_5 rfl ?_
        refine E_icmp_gt (pc := 6) (tgt := 13) ddX3_isLevel_6 (by decide) (fun h => ?_) (fun h => ?_)
        · have k := k.1 h
          refine E_iconst (pc := 13) (v := 0) ddX3_isLevel_13 rfl ?_
          refine E_zret (pc := 14) ddX3_isLevel_14 rfl (by decide) ?_
          refine (show E mX8_set mc ms 15 [some (.ref 1), some (.int x1), some (.int x2), some (.int x3)] [.int 0] z I Q from ?_)
          refine E_if_ne (pc := 15) (tgt := 21) ddX8_set_15 (by decide) (fun h => absurd h (by decide)) (fun _ => ?_)
          refine E_ldc (pc := 18) (v := (-1000000001)) ddX8_set_18 w_2_238 ?_
          exact E_iret (pc := 20) ddX8_set_20 rfl k
        · have k := k.2 h
          refine E_iconst (pc := 9) (v := 1) ddX3_isLevel_9 rfl ?_
          refine E_goto (pc := 10) (tgt := 14) ddX3_isLevel_10 (by decide) ?_
          refine E_zret (pc := 14) ddX3_isLevel_14 rfl (by decide) ?_
          refine (show E mX8_set mc ms 15 [some (.ref 1), some (.int x1), some (.int x2), some (.int x3)] [.int 1] z I Q from ?_)
          refine E_if_ne (pc := 15) (tgt := 21) ddX8_set_15 (by decide) (fun _ => ?_) (fun h => absurd h (by decide))
          refine E_iload_n (pc := 21) (x := x3) ddX8_set_21 rfl rfl ?_
          refine E_if_lt (pc := 22) (tgt := 31) ddX8_set_22 (by decide) (fun h => ?_) (fun h => ?_)
          · have k := k.1 h
            refine E_ldc (pc := 31) (v := (-1000000002)) ddX8_set_31 w_2_43 ?_
            exact E_iret (pc := 33) ddX8_set_33 rfl k
          · have k := k.2 h
            refine E_iload_n (pc := 25) (x := x3) ddX8_set_25 rfl rfl ?_
            refine E_bipush (pc := 26) (v := 20) ddX8_set_26 rfl ?_
            refine E_icmp_le (pc := 28) (tgt := 34) ddX8_set_28 (by decide) (fun h => ?_) (fun h => ?_)
            · have k := k.1 h
              refine E_aload_n (pc := 34) (x := 1) ddX8_set_34 rfl rfl ?_
              refine E_iload_n (pc := 35) (x := x1) ddX8_set_35 rfl rfl ?_
              exact E_callV (pc := 36) (As := [.int x1]) (st := []) (a := 1) ddX8_set_36 hX8_maySetByHand ⟨(Nat.le_of_ble_eq_true rfl), (Nat.le_of_ble_eq_true rfl)⟩ w_3_94 (ci := 7) rfl rfl hz.s0 rfl rfl (Nat.le_of_ble_eq_true rfl) (e_cc rfl e_cn) (Nat.le_of_ble_eq_true rfl) k
            · have k := k.2 h
              refine E_ldc (pc := 31) (v := (-1000000002)) ddX8_set_31 w_2_43 ?_
              exact E_iret (pc := 33) ddX8_set_33 rfl k
set_option maxRecDepth 100000 in
set_option maxHeartbeats 4000000 in
theorem B_X8_set_39 {mc ms : Nat} {z : Zt} {I : It} {Q : Option Value → Zt → It → Prop} {x1 x2 x3 y0 : Int32} {pa pb : Nat} (hz : isZ z pa pb)
    (k : ((¬ y0 = 0) → (((I 20 14) < 8) → E mX5_remember 0 0 0 [some (.ref 48), some (.ref 20), none] [] z I (fun r z' I' => E mX8_set mc ms 69 [some (.ref 1), some (.int x1), some (.int x2), some (.int x3)] (r.toList ++ []) z' I' Q)) ∧
    ((¬ (I 20 14) < 8) → Q (some (.int (-1000000004))) z I)) ∧
    ((y0 = 0) → Q (some (.int (-1000000003))) z I)) :
    E mX8_set mc ms 39 [some (.ref 1), some (.int x1), some (.int x2), some (.int x3)] [.int y0] z I Q := by
  refine E_if_ne (pc := 39) (tgt := 45) ddX8_set_39 (by decide) (fun h => ?_) (fun h => ?_)
  · have k := k.1 h
    refine E_aload_n (pc := 45) (x := 1) ddX8_set_45 rfl rfl ?_
    refine E_getR (pc := 46) (x := 20) ddX8_set_46 ec_7 3 (Nat.le_of_ble_eq_true rfl) rfl w_2_11 hz.s0 hz.r3 (by decide) ?_
    refine E_callV (pc := 49) (As := []) (st := []) (a := 20) ddX8_set_49 hX4_handIsFull ⟨(Nat.le_of_ble_eq_true rfl), (Nat.le_of_ble_eq_true rfl)⟩ w_3_98 (ci := 3) rfl rfl hz.now.s0 rfl rfl (Nat.le_of_ble_eq_true rfl) e_cn (Nat.le_of_ble_eq_true rfl) ?_
    refine (show E mX4_handIsFull 0 0 0 [some (.ref 20)] [] z I _ from ?_)
    refine E_aload_n (pc := 0) (x := 20) ddX4_handIsFull_0 rfl rfl ?_
    refine E_getI (pc := 1) ddX4_handIsFull_1 ec_3 14 (Nat.le_of_ble_eq_true rfl) rfl w_1_138 hz.now.s0 ?_
    refine E_bipush (pc := 4) (v := 8) ddX4_handIsFull_4 rfl ?_
    refine E_icmp_lt (pc := 6) (tgt := 13) ddX4_handIsFull_6 (by decide) (fun h => ?_) (fun h => ?_)
    · have k := k.1 h
      refine E_iconst (pc := 13) (v := 0) ddX4_handIsFull_13 rfl ?_
      refine E_zret (pc := 14) ddX4_handIsFull_14 rfl (by decide) ?_
      refine (show E mX8_set mc ms 52 [some (.ref 1), some (.int x1), some (.int x2), some (.int x3)] [.int 0] z I Q from ?_)
      refine E_if_eq (pc := 52) (tgt := 58) ddX8_set_52 (by decide) (fun _ => ?_) (fun h => absurd h (by decide))
      refine E_aload_n (pc := 58) (x := 1) ddX8_set_58 rfl rfl ?_
      refine E_getR (pc := 59) (x := 48) ddX8_set_59 ec_7 5 (Nat.le_of_ble_eq_true rfl) rfl w_2_13 hz.s0 hz.r5 (by decide) ?_
      refine E_aload_n (pc := 62) (x := 1) ddX8_set_62 rfl rfl ?_
      refine E_getR (pc := 63) (x := 20) ddX8_set_63 ec_7 3 (Nat.le_of_ble_eq_true rfl) rfl w_2_11 hz.s0 hz.r3 (by decide) ?_
      exact E_callV (pc := 66) (As := [.ref 20]) (st := []) (a := 48) ddX8_set_66 hX5_remember ⟨(Nat.le_of_ble_eq_true rfl), (Nat.le_of_ble_eq_true rfl)⟩ w_3_75 (ci := 4) rfl rfl hz.past.s0 rfl rfl (Nat.le_of_ble_eq_true rfl) (e_cc rfl e_cn) (Nat.le_of_ble_eq_true rfl) k
    · have k := k.2 h
      refine E_iconst (pc := 9) (v := 1) ddX4_handIsFull_9 rfl ?_
      refine E_goto (pc := 10) (tgt := 14) ddX4_handIsFull_10 (by decide) ?_
      refine E_zret (pc := 14) ddX4_handIsFull_14 rfl (by decide) ?_
      refine (show E mX8_set mc ms 52 [some (.ref 1), some (.int x1), some (.int x2), some (.int x3)] [.int 1] z I Q from ?_)
      refine E_if_eq (pc := 52) (tgt := 58) ddX8_set_52 (by decide) (fun h => absurd h (by decide)) (fun _ => ?_)
      refine E_ldc (pc := 55) (v := (-1000000004)) ddX8_set_55 w_3_102 ?_
      exact E_iret (pc := 57) ddX8_set_57 rfl k
  · have k := k.2 h
    refine E_ldc (pc := 42) (v := (-1000000003)) ddX8_set_42 w_3_74 ?_
    exact E_iret (pc := 44) ddX8_set_44 rfl k
set_option maxRecDepth 100000 in
set_option maxHeartbeats 4000000 in
theorem B_X8_set_69 {mc ms : Nat} {z : Zt} {I : It} {Q : Option Value → Zt → It → Prop} {x1 x2 x3 : Int32} {pa pb : Nat} (hz : isZ z pa pb)
    (k : E mX4_addByHand 0 0 0 [some (.ref 20), some (.int x1), some (.int x2), some (.int ((I 20 0) + x3)), none] [] z I (fun r z' I' => E mX8_set mc ms 87 [some (.ref 1), none, none, none] (r.toList ++ []) z' I' Q)) :
    E mX8_set mc ms 69 [some (.ref 1), some (.int x1), some (.int x2), some (.int x3)] [] z I Q := by
  refine E_aload_n (pc := 69) (x := 1) ddX8_set_69 rfl rfl ?_
  refine E_getR (pc := 70) (x := 20) ddX8_set_70 ec_7 3 (Nat.le_of_ble_eq_true rfl) rfl w_2_11 hz.s0 hz.r3 (by decide) ?_
  refine E_iload_n (pc := 73) (x := x1) ddX8_set_73 rfl rfl ?_
  refine E_iload_n (pc := 74) (x := x2) ddX8_set_74 rfl rfl ?_
  refine E_aload_n (pc := 75) (x := 1) ddX8_set_75 rfl rfl ?_
  refine E_getR (pc := 76) (x := 20) ddX8_set_76 ec_7 3 (Nat.le_of_ble_eq_true rfl) rfl w_2_11 hz.s0 hz.r3 (by decide) ?_
  refine E_getI (pc := 79) ddX8_set_79 ec_3 0 (Nat.le_of_ble_eq_true rfl) rfl w_1_115 hz.now.s0 ?_
  refine E_iload_n (pc := 82) (x := x3) ddX8_set_82 rfl rfl ?_
  refine E_iadd (pc := 83) ddX8_set_83 ?_
  exact E_callV (pc := 84) (As := [.int x1, .int x2, .int ((I 20 0) + x3)]) (st := []) (a := 20) ddX8_set_84 hX4_addByHand ⟨(Nat.le_of_ble_eq_true rfl), (Nat.le_of_ble_eq_true rfl)⟩ w_3_103 (ci := 3) rfl rfl hz.now.s0 rfl rfl (Nat.le_of_ble_eq_true rfl) (e_cc rfl (e_cc rfl (e_cc rfl e_cn))) (Nat.le_of_ble_eq_true rfl) (E.mono k fun _ _ _ q => E.forget q ⟨rfl, trivial⟩)
set_option maxRecDepth 100000 in
set_option maxHeartbeats 4000000 in
theorem B_X8_set_87 {mc ms : Nat} {z : Zt} {I : It} {Q : Option Value → Zt → It → Prop} {pa pb : Nat} (hz : isZ z pa pb)
    (k : Q (some (.int (I 20 14))) z I) :
    E mX8_set mc ms 87 [some (.ref 1), none, none, none] [] z I Q := by
  refine E_aload_n (pc := 87) (x := 1) ddX8_set_87 rfl rfl ?_
  refine E_getR (pc := 88) (x := 20) ddX8_set_88 ec_7 3 (Nat.le_of_ble_eq_true rfl) rfl w_2_11 hz.s0 hz.r3 (by decide) ?_
  refine E_getI (pc := 91) ddX8_set_91 ec_3 14 (Nat.le_of_ble_eq_true rfl) rfl w_1_139 hz.now.s0 ?_
  exact E_iret (pc := 94) ddX8_set_94 rfl k
/-! X8_calm, labels [24, 43] -/
set_option maxRecDepth 100000 in
set_option maxHeartbeats 4000000 in
theorem B_X8_calm_0 {mc ms : Nat} {z : Zt} {I : It} {Q : Option Value → Zt → It → Prop} {pa pb : Nat} (hz : isZ z pa pb)
    (k : ((¬ (I 20 2) = 0) → E mX5_remember 0 0 0 [some (.ref 48), some (.ref 20), none] [] z I (fun r z' I' => E mX8_calm mc ms 24 [some (.ref 1)] (r.toList ++ []) z' I' Q)) ∧
    (((I 20 2) = 0) → Q (some (.int (-1000000003))) z I)) :
    E mX8_calm mc ms 0 [some (.ref 1)] [] z I Q := by
  refine E_aload_n (pc := 0) (x := 1) ddX8_calm_0 rfl rfl ?_
  refine E_getR (pc := 1) (x := 20) ddX8_calm_1 ec_7 3 (Nat.le_of_ble_eq_true rfl) rfl w_2_11 hz.s0 hz.r3 (by decide) ?_
  refine E_getI (pc := 4) ddX8_calm_4 ec_3 2 (Nat.le_of_ble_eq_true rfl) rfl w_1_119 hz.now.s0 ?_
  refine E_if_ne (pc := 7) (tgt := 13) ddX8_calm_7 (by decide) (fun h => ?_) (fun h => ?_)
  · have k := k.1 h
    refine E_aload_n (pc := 13) (x := 1) ddX8_calm_13 rfl rfl ?_
    refine E_getR (pc := 14) (x := 48) ddX8_calm_14 ec_7 5 (Nat.le_of_ble_eq_true rfl) rfl w_2_13 hz.s0 hz.r5 (by decide) ?_
    refine E_aload_n (pc := 17) (x := 1) ddX8_calm_17 rfl rfl ?_
    refine E_getR (pc := 18) (x := 20) ddX8_calm_18 ec_7 3 (Nat.le_of_ble_eq_true rfl) rfl w_2_11 hz.s0 hz.r3 (by decide) ?_
    exact E_callV (pc := 21) (As := [.ref 20]) (st := []) (a := 48) ddX8_calm_21 hX5_remember ⟨(Nat.le_of_ble_eq_true rfl), (Nat.le_of_ble_eq_true rfl)⟩ w_3_75 (ci := 4) rfl rfl hz.past.s0 rfl rfl (Nat.le_of_ble_eq_true rfl) (e_cc rfl e_cn) (Nat.le_of_ble_eq_true rfl) k
  · have k := k.2 h
    refine E_ldc (pc := 10) (v := (-1000000003)) ddX8_calm_10 w_3_74 ?_
    exact E_iret (pc := 12) ddX8_calm_12 rfl k
set_option maxRecDepth 100000 in
set_option maxHeartbeats 4000000 in
theorem B_X8_calm_24 {mc ms : Nat} {z : Zt} {I : It} {Q : Option Value → Zt → It → Prop} {pa pb : Nat} (hz : isZ z pa pb)
    (k : ∀ I1 : It, I1 = e_st I 20 2 0 → E mX4_tellAll 0 0 0 [some (.ref 20), some (.ref pa), none] [] z I1 (fun r z' I' => E mX8_calm mc ms 43 [some (.ref 1)] (r.toList ++ []) z' I' Q)) :
    E mX8_calm mc ms 24 [some (.ref 1)] [] z I Q := by
  refine E_aload_n (pc := 24) (x := 1) ddX8_calm_24 rfl rfl ?_
  refine E_getR (pc := 25) (x := 20) ddX8_calm_25 ec_7 3 (Nat.le_of_ble_eq_true rfl) rfl w_2_11 hz.s0 hz.r3 (by decide) ?_
  refine E_iconst (pc := 28) (v := 0) ddX8_calm_28 rfl ?_
  obtain ⟨I1, eI1⟩ : ∃ y : It, y = e_st I 20 2 0 := ⟨_, rfl⟩
  have k := k I1 eI1
  refine E_putZ (pc := 29) ddX8_calm_29 ec_3 2 (Nat.le_of_ble_eq_true rfl) rfl w_1_119 hz.now.s0 rfl rfl (by decide) ?_
  rw [← eI1]
  refine E_aload_n (pc := 32) (x := 1) ddX8_calm_32 rfl rfl ?_
  refine E_getR (pc := 33) (x := 20) ddX8_calm_33 ec_7 3 (Nat.le_of_ble_eq_true rfl) rfl w_2_11 hz.s0 hz.r3 (by decide) ?_
  refine E_aload_n (pc := 36) (x := 1) ddX8_calm_36 rfl rfl ?_
  refine E_getR (pc := 37) (x := pa) ddX8_calm_37 ec_7 1 (Nat.le_of_ble_eq_true rfl) rfl w_2_9 hz.s0 hz.r1 hz.npa ?_
  exact E_callV (pc := 40) (As := [.ref pa]) (st := []) (a := 20) ddX8_calm_40 hX4_tellAll ⟨(Nat.le_of_ble_eq_true rfl), (Nat.le_of_ble_eq_true rfl)⟩ w_3_112 (ci := 3) rfl rfl hz.now.s0 rfl rfl (Nat.le_of_ble_eq_true rfl) (e_cc rfl e_cn) (Nat.le_of_ble_eq_true rfl) k
set_option maxRecDepth 100000 in
set_option maxHeartbeats 4000000 in
theorem B_X8_calm_43 {mc ms : Nat} {z : Zt} {I : It} {Q : Option Value → Zt → It → Prop} {pa pb : Nat} (hz : isZ z pa pb)
    (k : Q (some (.int (I 20 0))) z I) :
    E mX8_calm mc ms 43 [some (.ref 1)] [] z I Q := by
  refine E_aload_n (pc := 43) (x := 1) ddX8_calm_43 rfl rfl ?_
  refine E_getR (pc := 44) (x := 20) ddX8_calm_44 ec_7 3 (Nat.le_of_ble_eq_true rfl) rfl w_2_11 hz.s0 hz.r3 (by decide) ?_
  refine E_getI (pc := 47) ddX8_calm_47 ec_3 0 (Nat.le_of_ble_eq_true rfl) rfl w_1_115 hz.now.s0 ?_
  exact E_iret (pc := 50) ddX8_calm_50 rfl k
/-! X8_drift, labels [26, 35] -/
set_option maxRecDepth 100000 in
set_option maxHeartbeats 4000000 in
theorem B_X8_drift_0 {mc ms : Nat} {z : Zt} {I : It} {Q : Option Value → Zt → It → Prop} {x1 : Int32} {pa pb : Nat} (hz : isZ z pa pb)
    (k : ((x1 < 1) → Q (some (.int (-1000000002))) z I) ∧
    ((¬ x1 < 1) → ((x1 ≤ 16) → (((I pa 0) ≤ 0) → Q (some (.int (I 20 0))) z I) ∧
    ((¬ (I pa 0) ≤ 0) → E mX8_drift mc ms 26 [some (.ref 1), some (.int x1), some (.int 0)] [] z I Q)) ∧
    ((¬ x1 ≤ 16) → Q (some (.int (-1000000002))) z I))) :
    E mX8_drift mc ms 0 [some (.ref 1), some (.int x1), none] [] z I Q := by
  refine E_iload_n (pc := 0) (x := x1) ddX8_drift_0 rfl rfl ?_
  refine E_iconst (pc := 1) (v := 1) ddX8_drift_1 rfl ?_
  refine E_icmp_lt (pc := 2) (tgt := 11) ddX8_drift_2 (by decide) (fun h => ?_) (fun h => ?_)
  · have k := k.1 h
    refine E_ldc (pc := 11) (v := (-1000000002)) ddX8_drift_11 w_2_43 ?_
    exact E_iret (pc := 13) ddX8_drift_13 rfl k
  · have k := k.2 h
    refine E_iload_n (pc := 5) (x := x1) ddX8_drift_5 rfl rfl ?_
    refine E_bipush (pc := 6) (v := 16) ddX8_drift_6 rfl ?_
    refine E_icmp_le (pc := 8) (tgt := 14) ddX8_drift_8 (by decide) (fun h => ?_) (fun h => ?_)
    · have k := k.1 h
      refine E_aload_n (pc := 14) (x := 1) ddX8_drift_14 rfl rfl ?_
      refine E_getR (pc := 15) (x := pa) ddX8_drift_15 ec_7 1 (Nat.le_of_ble_eq_true rfl) rfl w_2_9 hz.s0 hz.r1 hz.npa ?_
      refine E_getI (pc := 18) ddX8_drift_18 ec_5 0 (Nat.le_of_ble_eq_true rfl) rfl w_1_56 hz.pa.s0 ?_
      refine E_if_le (pc := 21) (tgt := 41) ddX8_drift_21 (by decide) (fun h => ?_) (fun h => ?_)
      · have k := k.1 h
        refine E_aload_n (pc := 41) (x := 1) ddX8_drift_41 rfl rfl ?_
        refine E_getR (pc := 42) (x := 20) ddX8_drift_42 ec_7 3 (Nat.le_of_ble_eq_true rfl) rfl w_2_11 hz.s0 hz.r3 (by decide) ?_
        refine E_getI (pc := 45) ddX8_drift_45 ec_3 0 (Nat.le_of_ble_eq_true rfl) rfl w_1_115 hz.now.s0 ?_
        exact E_iret (pc := 48) ddX8_drift_48 rfl k
      · have k := k.2 h
        refine E_iconst (pc := 24) (v := 0) ddX8_drift_24 rfl ?_
        refine E_istore_n (pc := 25) (ls' := [some (.ref 1), some (.int x1), some (.int 0)]) ddX8_drift_25 rfl (Nat.le_of_ble_eq_true rfl) rfl rfl ?_
        exact k
    · have k := k.2 h
      refine E_ldc (pc := 11) (v := (-1000000002)) ddX8_drift_11 w_2_43 ?_
      exact E_iret (pc := 13) ddX8_drift_13 rfl k
set_option maxRecDepth 100000 in
set_option maxHeartbeats 4000000 in
theorem B_X8_drift_26 {mc ms : Nat} {z : Zt} {I : It} {Q : Option Value → Zt → It → Prop} {x1 x2 : Int32} {pa pb : Nat} (hz : isZ z pa pb)
    (k : ((x1 ≤ x2) → Q (some (.int (I 20 0))) z I) ∧
    ((¬ x1 ≤ x2) → E mX8_driftOnce 0 0 0 [some (.ref 1), none, none, none] [] z I (fun r z' I' => E mX8_drift mc ms 35 [some (.ref 1), some (.int x1), some (.int x2)] (r.toList ++ []) z' I' Q))) :
    E mX8_drift mc ms 26 [some (.ref 1), some (.int x1), some (.int x2)] [] z I Q := by
  refine E_iload_n (pc := 26) (x := x2) ddX8_drift_26 rfl rfl ?_
  refine E_iload_n (pc := 27) (x := x1) ddX8_drift_27 rfl rfl ?_
  refine E_icmp_ge (pc := 28) (tgt := 41) ddX8_drift_28 (by decide) (fun h => ?_) (fun h => ?_)
  · have k := k.1 h
    refine E_aload_n (pc := 41) (x := 1) ddX8_drift_41 rfl rfl ?_
    refine E_getR (pc := 42) (x := 20) ddX8_drift_42 ec_7 3 (Nat.le_of_ble_eq_true rfl) rfl w_2_11 hz.s0 hz.r3 (by decide) ?_
    refine E_getI (pc := 45) ddX8_drift_45 ec_3 0 (Nat.le_of_ble_eq_true rfl) rfl w_1_115 hz.now.s0 ?_
    exact E_iret (pc := 48) ddX8_drift_48 rfl k
  · have k := k.2 h
    refine E_aload_n (pc := 31) (x := 1) ddX8_drift_31 rfl rfl ?_
    exact E_callV (pc := 32) (As := []) (st := []) (a := 1) ddX8_drift_32 hX8_driftOnce ⟨(Nat.le_of_ble_eq_true rfl), (Nat.le_of_ble_eq_true rfl)⟩ w_3_117 (ci := 7) rfl rfl hz.s0 rfl rfl (Nat.le_of_ble_eq_true rfl) e_cn (Nat.le_of_ble_eq_true rfl) k
set_option maxRecDepth 100000 in
set_option maxHeartbeats 4000000 in
theorem B_X8_drift_35 {mc ms : Nat} {z : Zt} {I : It} {Q : Option Value → Zt → It → Prop} {x1 x2 : Int32} {pa pb : Nat} (hz : isZ z pa pb)
    (k : E mX8_drift mc ms 26 [some (.ref 1), some (.int x1), some (.int (x2 + 1))] [] z I Q) :
    E mX8_drift mc ms 35 [some (.ref 1), some (.int x1), some (.int x2)] [] z I Q := by
  refine E_iinc (pc := 35) (v := (x2 + 1)) (ls' := [some (.ref 1), some (.int x1), some (.int (x2 + 1))]) ddX8_drift_35 rfl rfl (Nat.le_of_ble_eq_true rfl) rfl rfl ?_
  refine E_goto (pc := 38) (tgt := 26) ddX8_drift_38 (by decide) ?_
  exact k
/-! X8_undo, labels [40] -/
set_option maxRecDepth 100000 in
set_option maxHeartbeats 4000000 in
theorem B_X8_undo_0 {mc ms : Nat} {z : Zt} {I : It} {Q : Option Value → Zt → It → Prop} {x1 : Int32} {pa pb : Nat} (hz : isZ z pa pb)
    (k : ((x1 < 1) → Q (some (.int (-1000000002))) z I) ∧
    ((¬ x1 < 1) → ((x1 ≤ 16) → ((x1 ≤ (I 48 2)) → E mX5_bringBack 0 0 0 [some (.ref 48), some (.int x1), some (.ref 20), none] [] z I (fun r z' I' => E mX8_undo mc ms 40 [some (.ref 1), none] (r.toList ++ []) z' I' Q)) ∧
    ((¬ x1 ≤ (I 48 2)) → Q (some (.int (-1000000003))) z I)) ∧
    ((¬ x1 ≤ 16) → Q (some (.int (-1000000002))) z I))) :
    E mX8_undo mc ms 0 [some (.ref 1), some (.int x1)] [] z I Q := by
  refine E_iload_n (pc := 0) (x := x1) ddX8_undo_0 rfl rfl ?_
  refine E_iconst (pc := 1) (v := 1) ddX8_undo_1 rfl ?_
  refine E_icmp_lt (pc := 2) (tgt := 11) ddX8_undo_2 (by decide) (fun h => ?_) (fun h => ?_)
  · have k := k.1 h
    refine E_ldc (pc := 11) (v := (-1000000002)) ddX8_undo_11 w_2_43 ?_
    exact E_iret (pc := 13) ddX8_undo_13 rfl k
  · have k := k.2 h
    refine E_iload_n (pc := 5) (x := x1) ddX8_undo_5 rfl rfl ?_
    refine E_bipush (pc := 6) (v := 16) ddX8_undo_6 rfl ?_
    refine E_icmp_le (pc := 8) (tgt := 14) ddX8_undo_8 (by decide) (fun h => ?_) (fun h => ?_)
    · have k := k.1 h
      refine E_iload_n (pc := 14) (x := x1) ddX8_undo_14 rfl rfl ?_
      refine E_aload_n (pc := 15) (x := 1) ddX8_undo_15 rfl rfl ?_
      refine E_getR (pc := 16) (x := 48) ddX8_undo_16 ec_7 5 (Nat.le_of_ble_eq_true rfl) rfl w_2_13 hz.s0 hz.r5 (by decide) ?_
      refine E_getI (pc := 19) ddX8_undo_19 ec_4 2 (Nat.le_of_ble_eq_true rfl) rfl w_1_192 hz.past.s0 ?_
      refine E_icmp_le (pc := 22) (tgt := 28) ddX8_undo_22 (by decide) (fun h => ?_) (fun h => ?_)
      · have k := k.1 h
        refine E_aload_n (pc := 28) (x := 1) ddX8_undo_28 rfl rfl ?_
        refine E_getR (pc := 29) (x := 48) ddX8_undo_29 ec_7 5 (Nat.le_of_ble_eq_true rfl) rfl w_2_13 hz.s0 hz.r5 (by decide) ?_
        refine E_iload_n (pc := 32) (x := x1) ddX8_undo_32 rfl rfl ?_
        refine E_aload_n (pc := 33) (x := 1) ddX8_undo_33 rfl rfl ?_
        refine E_getR (pc := 34) (x := 20) ddX8_undo_34 ec_7 3 (Nat.le_of_ble_eq_true rfl) rfl w_2_11 hz.s0 hz.r3 (by decide) ?_
        exact E_callV (pc := 37) (As := [.int x1, .ref 20]) (st := []) (a := 48) ddX8_undo_37 hX5_bringBack ⟨(Nat.le_of_ble_eq_true rfl), (Nat.le_of_ble_eq_true rfl)⟩ w_3_133 (ci := 4) rfl rfl hz.past.s0 rfl rfl (Nat.le_of_ble_eq_true rfl) (e_cc rfl (e_cc rfl e_cn)) (Nat.le_of_ble_eq_true rfl) (E.mono k fun _ _ _ q => E.forget q ⟨rfl, trivial⟩)
      · have k := k.2 h
        refine E_ldc (pc := 25) (v := (-1000000003)) ddX8_undo_25 w_3_74 ?_
        exact E_iret (pc := 27) ddX8_undo_27 rfl k
    · have k := k.2 h
      refine E_ldc (pc := 11) (v := (-1000000002)) ddX8_undo_11 w_2_43 ?_
      exact E_iret (pc := 13) ddX8_undo_13 rfl k
set_option maxRecDepth 100000 in
set_option maxHeartbeats 4000000 in
theorem B_X8_undo_40 {mc ms : Nat} {z : Zt} {I : It} {Q : Option Value → Zt → It → Prop} {pa pb : Nat} (hz : isZ z pa pb)
    (k : Q (some (.int (I 20 0))) z I) :
    E mX8_undo mc ms 40 [some (.ref 1), none] [] z I Q := by
  refine E_aload_n (pc := 40) (x := 1) ddX8_undo_40 rfl rfl ?_
  refine E_getR (pc := 41) (x := 20) ddX8_undo_41 ec_7 3 (Nat.le_of_ble_eq_true rfl) rfl w_2_11 hz.s0 hz.r3 (by decide) ?_
  refine E_getI (pc := 44) ddX8_undo_44 ec_3 0 (Nat.le_of_ble_eq_true rfl) rfl w_1_115 hz.now.s0 ?_
  exact E_iret (pc := 47) ddX8_undo_47 rfl k
/-! X8_write, labels [] -/
set_option maxRecDepth 100000 in
set_option maxHeartbeats 4000000 in
theorem B_X8_write_0 {mc ms : Nat} {z : Zt} {I : It} {Q : Option Value → Zt → It → Prop} {x1 x2 : Int32} {pa pb : Nat} (hz : isZ z pa pb)
    (k : ((x1 < 0) → Q (some (.int (-1000000001))) z I) ∧
    ((¬ x1 < 0) → (((I pa 0) ≤ x1) → Q (some (.int (-1000000001))) z I) ∧
    ((¬ (I pa 0) ≤ x1) → ((x2 < 0) → Q (some (.int (-1000000001))) z I) ∧
    ((¬ x2 < 0) → ((3 < x2) → Q (some (.int (-1000000001))) z I) ∧
    ((¬ 3 < x2) → (((I 304 2) < 20) → ∃ j1 : Nat, (I 304 2) = nI j1 ∧ j1 < 20 ∧ ∀ I2 : It, I2 = e_st I 305 j1 x1 → ∃ j3 : Nat, (I2 304 2) = nI j3 ∧ j3 < 20 ∧ ∀ I4 : It, I4 = e_st I2 306 j3 x2 → ∀ I5 : It, I5 = e_st I4 304 2 ((I4 304 2) + 1) → Q (some (.int (I5 304 2))) z I5) ∧
    ((¬ (I 304 2) < 20) → Q (some (.int (-1000000004))) z I)))))) :
    E mX8_write mc ms 0 [some (.ref 1), some (.int x1), some (.int x2)] [] z I Q := by
  refine E_aload_n (pc := 0) (x := 1) ddX8_write_0 rfl rfl ?_
  refine E_getR (pc := 1) (x := pa) ddX8_write_1 ec_7 1 (Nat.le_of_ble_eq_true rfl) rfl w_2_9 hz.s0 hz.r1 hz.npa ?_
  refine E_iload_n (pc := 4) (x := x1) ddX8_write_4 rfl rfl ?_
  refine E_callV (pc := 5) (As := [.int x1]) (st := []) (a := pa) ddX8_write_5 hX6_hasWire ⟨(Nat.le_of_ble_eq_true rfl), (Nat.le_of_ble_eq_true rfl)⟩ w_2_237 (ci := 5) rfl rfl hz.pa.s0 rfl rfl (Nat.le_of_ble_eq_true rfl) (e_cc rfl e_cn) (Nat.le_of_ble_eq_true rfl) ?_
  refine (show E mX6_hasWire 0 0 0 [some (.ref pa), some (.int x1)] [] z I _ from ?_)
  refine E_iload_n (pc := 0) (x := x1) ddX6_hasWire_0 rfl rfl ?_
  refine E_if_lt (pc := 1) (tgt := 16) ddX6_hasWire_1 (by decide) (fun h => ?_) (fun h => ?_)
  · have k := k.1 h
    refine E_iconst (pc := 16) (v := 0) ddX6_hasWire_16 rfl ?_
    refine E_zret (pc := 17) ddX6_hasWire_17 rfl (by decide) ?_
    refine (show E mX8_write mc ms 8 [some (.ref 1), some (.int x1), some (.int x2)] [.int 0] z I Q from ?_)
    refine E_if_eq (pc := 8) (tgt := 18) ddX8_write_8 (by decide) (fun _ => ?_) (fun h => absurd h (by decide))
    refine E_ldc (pc := 18) (v := (-1000000001)) ddX8_write_18 w_2_238 ?_
    exact E_iret (pc := 20) ddX8_write_20 rfl k
  · have k := k.2 h
    refine E_iload_n (pc := 4) (x := x1) ddX6_hasWire_4 rfl rfl ?_
    refine E_aload_n (pc := 5) (x := pa) ddX6_hasWire_5 rfl rfl ?_
    refine E_getI (pc := 6) ddX6_hasWire_6 ec_5 0 (Nat.le_of_ble_eq_true rfl) rfl w_1_55 hz.pa.s0 ?_
    refine E_icmp_ge (pc := 9) (tgt := 16) ddX6_hasWire_9 (by decide) (fun h => ?_) (fun h => ?_)
    · have k := k.1 h
      refine E_iconst (pc := 16) (v := 0) ddX6_hasWire_16 rfl ?_
      refine E_zret (pc := 17) ddX6_hasWire_17 rfl (by decide) ?_
      refine (show E mX8_write mc ms 8 [some (.ref 1), some (.int x1), some (.int x2)] [.int 0] z I Q from ?_)
      refine E_if_eq (pc := 8) (tgt := 18) ddX8_write_8 (by decide) (fun _ => ?_) (fun h => absurd h (by decide))
      refine E_ldc (pc := 18) (v := (-1000000001)) ddX8_write_18 w_2_238 ?_
      exact E_iret (pc := 20) ddX8_write_20 rfl k
    · have k := k.2 h
      refine E_iconst (pc := 12) (v := 1) ddX6_hasWire_12 rfl ?_
      refine E_goto (pc := 13) (tgt := 17) ddX6_hasWire_13 (by decide) ?_
      refine E_zret (pc := 17) ddX6_hasWire_17 rfl (by decide) ?_
      refine (show E mX8_write mc ms 8 [some (.ref 1), some (.int x1), some (.int x2)] [.int 1] z I Q from ?_)
      refine E_if_eq (pc := 8) (tgt := 18) ddX8_write_8 (by decide) (fun h => absurd h (by decide)) (fun _ => ?_)
      refine E_iload_n (pc := 11) (x := x2) ddX8_write_11 rfl rfl ?_
      refine E_callS (pc := 12) (As := [.int x2]) (st := []) ddX8_write_12 hX3_isLevel ⟨(Nat.le_of_ble_eq_true rfl), (Nat.le_of_ble_eq_true rfl)⟩ w_3_61 rfl rfl (Nat.le_of_ble_eq_true rfl) (e_cc rfl e_cn) (Nat.le_of_ble_eq_true rfl) ?_
      refine (show E mX3_isLevel 0 0 0 [some (.int x2)] [] z I _ from ?_)
      refine E_iload_n (pc := 0) (x := x2) ddX3_isLevel_0 rfl rfl ?_
      refine E_if_lt (pc := 1) (tgt := 13) ddX3_isLevel_1 (by decide) (fun h => ?_) (fun h => ?_)
      · have k := k.1 h
        refine E_iconst (pc := 13) (v := 0) ddX3_isLevel_13 rfl ?_
        refine E_zret (pc := 14) ddX3_isLevel_14 rfl (by decide) ?_
        refine (show E mX8_write mc ms 15 [some (.ref 1), some (.int x1), some (.int x2)] [.int 0] z I Q from ?_)
        refine E_if_ne (pc := 15) (tgt := 21) ddX8_write_15 (by decide) (fun h => absurd h (by decide)) (fun _ => ?_)
        refine E_ldc (pc := 18) (v := (-1000000001)) ddX8_write_18 w_2_238 ?_
        exact E_iret (pc := 20) ddX8_write_20 rfl k
      · have k := k.2 h
        refine E_iload_n (pc := 4) (x := x2) ddX3_isLevel_4 rfl rfl ?_
        refine E_iconst (pc := 5) (v := 3) ddX3_isLevel_5 rfl ?_
        refine E_icmp_gt (pc := 6) (tgt := 13) ddX3_isLevel_6 (by decide) (fun h => ?_) (fun h => ?_)
        · have k := k.1 h
          refine E_iconst (pc := 13) (v := 0) ddX3_isLevel_13 rfl ?_
          refine E_zret (pc := 14) ddX3_isLevel_14 rfl (by decide) ?_
          refine (show E mX8_write mc ms 15 [some (.ref 1), some (.int x1), some (.int x2)] [.int 0] z I Q from ?_)
          refine E_if_ne (pc := 15) (tgt := 21) ddX8_write_15 (by decide) (fun h => absurd h (by decide)) (fun _ => ?_)
          refine E_ldc (pc := 18) (v := (-1000000001)) ddX8_write_18 w_2_238 ?_
          exact E_iret (pc := 20) ddX8_write_20 rfl k
        · have k := k.2 h
          refine E_iconst (pc := 9) (v := 1) ddX3_isLevel_9 rfl ?_
          refine E_goto (pc := 10) (tgt := 14) ddX3_isLevel_10 (by decide) ?_
          refine E_zret (pc := 14) ddX3_isLevel_14 rfl (by decide) ?_
          refine (show E mX8_write mc ms 15 [some (.ref 1), some (.int x1), some (.int x2)] [.int 1] z I Q from ?_)
          refine E_if_ne (pc := 15) (tgt := 21) ddX8_write_15 (by decide) (fun _ => ?_) (fun h => absurd h (by decide))
          refine E_aload_n (pc := 21) (x := 1) ddX8_write_21 rfl rfl ?_
          refine E_getR (pc := 22) (x := 304) ddX8_write_22 ec_7 8 (Nat.le_of_ble_eq_true rfl) rfl w_2_16 hz.s0 hz.r8 (by decide) ?_
          refine E_iload_n (pc := 25) (x := x1) ddX8_write_25 rfl rfl ?_
          refine E_iload_n (pc := 26) (x := x2) ddX8_write_26 rfl rfl ?_
          refine E_callV (pc := 27) (As := [.int x1, .int x2]) (st := []) (a := 304) ddX8_write_27 hX0_addEntry ⟨(Nat.le_of_ble_eq_true rfl), (Nat.le_of_ble_eq_true rfl)⟩ w_3_142 (ci := 0) rfl rfl hz.book.s0 rfl rfl (Nat.le_of_ble_eq_true rfl) (e_cc rfl (e_cc rfl e_cn)) (Nat.le_of_ble_eq_true rfl) ?_
          refine (show E mX0_addEntry 0 0 0 [some (.ref 304), some (.int x1), some (.int x2)] [] z I _ from ?_)
          refine E_aload_n (pc := 0) (x := 304) ddX0_addEntry_0 rfl rfl ?_
          refine E_getI (pc := 1) ddX0_addEntry_1 ec_0 2 (Nat.le_of_ble_eq_true rfl) rfl w_1_227 hz.book.s0 ?_
          refine E_bipush (pc := 4) (v := 20) ddX0_addEntry_4 rfl ?_
          refine E_icmp_lt (pc := 6) (tgt := 12) ddX0_addEntry_6 (by decide) (fun h => ?_) (fun h => ?_)
          · have k := k.1 h
            refine E_aload_n (pc := 12) (x := 304) ddX0_addEntry_12 rfl rfl ?_
            refine E_getR (pc := 13) (x := 305) ddX0_addEntry_13 ec_0 0 (Nat.le_of_ble_eq_true rfl) rfl w_1_225 hz.book.s0 hz.book.r0 (by decide) ?_
            refine E_aload_n (pc := 16) (x := 304) ddX0_addEntry_16 rfl rfl ?_
            refine E_getI (pc := 17) ddX0_addEntry_17 ec_0 2 (Nat.le_of_ble_eq_true rfl) rfl w_1_227 hz.book.s0 ?_
            refine E_iload_n (pc := 20) (x := x1) ddX0_addEntry_20 rfl rfl ?_
            obtain ⟨j1, ij1, lj1, k⟩ := k
            obtain ⟨I2, eI2⟩ : ∃ y : It, y = e_st I 305 j1 x1 := ⟨_, rfl⟩
            have k := k I2 eI2
            refine E_iastN (pc := 21) (j := j1) ddX0_addEntry_21 hz.book.s1 (by decide) ij1 lj1 (Nat.le_of_ble_eq_true rfl) ?_
            rw [← eI2]
            refine E_aload_n (pc := 22) (x := 304) ddX0_addEntry_22 rfl rfl ?_
            refine E_getR (pc := 23) (x := 306) ddX0_addEntry_23 ec_0 1 (Nat.le_of_ble_eq_true rfl) rfl w_1_226 hz.book.s0 hz.book.r1 (by decide) ?_
            refine E_aload_n (pc := 26) (x := 304) ddX0_addEntry_26 rfl rfl ?_
            refine E_getI (pc := 27) ddX0_addEntry_27 ec_0 2 (Nat.le_of_ble_eq_true rfl) rfl w_1_227 hz.book.s0 ?_
            refine E_iload_n (pc := 30) (x := x2) ddX0_addEntry_30 rfl rfl ?_
            obtain ⟨j3, ij3, lj3, k⟩ := k
            obtain ⟨I4, eI4⟩ : ∃ y : It, y = e_st I2 306 j3 x2 := ⟨_, rfl⟩
            have k := k I4 eI4
            refine E_iastN (pc := 31) (j := j3) ddX0_addEntry_31 hz.book.s2 (by decide) ij3 lj3 (Nat.le_of_ble_eq_true rfl) ?_
            rw [← eI4]
            refine E_aload_n (pc := 32) (x := 304) ddX0_addEntry_32 rfl rfl ?_
            refine E_dupr (pc := 33) ddX0_addEntry_33 ?_
            refine E_getI (pc := 34) ddX0_addEntry_34 ec_0 2 (Nat.le_of_ble_eq_true rfl) rfl w_1_227 hz.book.s0 ?_
            refine E_iconst (pc := 37) (v := 1) ddX0_addEntry_37 rfl ?_
            refine E_iadd (pc := 38) ddX0_addEntry_38 ?_
            obtain ⟨I5, eI5⟩ : ∃ y : It, y = e_st I4 304 2 ((I4 304 2) + 1) := ⟨_, rfl⟩
            have k := k I5 eI5
            refine E_putI (pc := 39) ddX0_addEntry_39 ec_0 2 (Nat.le_of_ble_eq_true rfl) rfl w_1_227 hz.book.s0 rfl rfl ?_
            rw [← eI5]
            refine E_aload_n (pc := 42) (x := 304) ddX0_addEntry_42 rfl rfl ?_
            refine E_getI (pc := 43) ddX0_addEntry_43 ec_0 2 (Nat.le_of_ble_eq_true rfl) rfl w_1_227 hz.book.s0 ?_
            refine E_iret (pc := 46) ddX0_addEntry_46 rfl ?_
            refine (show E mX8_write mc ms 30 [some (.ref 1), some (.int x1), some (.int x2)] [.int (I5 304 2)] z I5 Q from ?_)
            exact E_iret (pc := 30) ddX8_write_30 rfl k
          · have k := k.2 h
            refine E_ldc (pc := 9) (v := (-1000000004)) ddX0_addEntry_9 w_3_146 ?_
            refine E_iret (pc := 11) ddX0_addEntry_11 rfl ?_
            refine (show E mX8_write mc ms 30 [some (.ref 1), some (.int x1), some (.int x2)] [.int (-1000000004)] z I Q from ?_)
            exact E_iret (pc := 30) ddX8_write_30 rfl k
/-! X8_tear, labels [] -/
set_option maxRecDepth 100000 in
set_option maxHeartbeats 4000000 in
theorem B_X8_tear_0 {mc ms : Nat} {z : Zt} {I : It} {Q : Option Value → Zt → It → Prop} {pa pb : Nat} (hz : isZ z pa pb)
    (k : ∀ v1 : Int32, v1 = (I 304 2) → ∀ I2 : It, I2 = e_st I 304 2 0 → Q (some (.int v1)) z I2) :
    E mX8_tear mc ms 0 [some (.ref 1), none] [] z I Q := by
  refine E_aload_n (pc := 0) (x := 1) ddX8_tear_0 rfl rfl ?_
  refine E_getR (pc := 1) (x := 304) ddX8_tear_1 ec_7 8 (Nat.le_of_ble_eq_true rfl) rfl w_2_16 hz.s0 hz.r8 (by decide) ?_
  refine E_getI (pc := 4) ddX8_tear_4 ec_0 2 (Nat.le_of_ble_eq_true rfl) rfl w_1_228 hz.book.s0 ?_
  obtain ⟨v1, ev1⟩ : ∃ y : Int32, y = (I 304 2) := ⟨_, rfl⟩
  have k := k v1 ev1
  rw [← ev1]
  refine E_istore_n (pc := 7) (ls' := [some (.ref 1), some (.int v1)]) ddX8_tear_7 rfl (Nat.le_of_ble_eq_true rfl) rfl rfl ?_
  refine E_aload_n (pc := 8) (x := 1) ddX8_tear_8 rfl rfl ?_
  refine E_getR (pc := 9) (x := 304) ddX8_tear_9 ec_7 8 (Nat.le_of_ble_eq_true rfl) rfl w_2_16 hz.s0 hz.r8 (by decide) ?_
  refine E_callV (pc := 12) (As := []) (st := []) (a := 304) ddX8_tear_12 hX0_empty ⟨(Nat.le_of_ble_eq_true rfl), (Nat.le_of_ble_eq_true rfl)⟩ w_2_147 (ci := 0) rfl rfl hz.book.s0 rfl rfl (Nat.le_of_ble_eq_true rfl) e_cn (Nat.le_of_ble_eq_true rfl) ?_
  refine (show E mX0_empty 0 0 0 [some (.ref 304)] [] z I _ from ?_)
  refine E_aload_n (pc := 0) (x := 304) ddX0_empty_0 rfl rfl ?_
  refine E_iconst (pc := 1) (v := 0) ddX0_empty_1 rfl ?_
  obtain ⟨I2, eI2⟩ : ∃ y : It, y = e_st I 304 2 0 := ⟨_, rfl⟩
  have k := k I2 eI2
  refine E_putI (pc := 2) ddX0_empty_2 ec_0 2 (Nat.le_of_ble_eq_true rfl) rfl w_1_227 hz.book.s0 rfl rfl ?_
  rw [← eI2]
  refine E_vret (pc := 5) ddX0_empty_5 rfl ?_
  refine (show E mX8_tear mc ms 15 [some (.ref 1), some (.int v1)] [] z I2 Q from ?_)
  refine E_iload_n (pc := 15) (x := v1) ddX8_tear_15 rfl rfl ?_
  exact E_iret (pc := 16) ddX8_tear_16 rfl k
/-! X8_seed, labels [] -/
set_option maxRecDepth 100000 in
set_option maxHeartbeats 4000000 in
theorem B_X8_seed_0 {mc ms : Nat} {z : Zt} {I : It} {Q : Option Value → Zt → It → Prop} {x1 : Int32} {pa pb : Nat} (hz : isZ z pa pb)
    (k : ((0 ≤ x1) → ∀ v1 : Int32, v1 = (I 307 0) → ∀ I2 : It, I2 = e_st I 307 0 x1 → Q (some (.int v1)) z I2) ∧
    ((¬ 0 ≤ x1) → Q (some (.int (-1000000002))) z I)) :
    E mX8_seed mc ms 0 [some (.ref 1), some (.int x1), none] [] z I Q := by
  refine E_iload_n (pc := 0) (x := x1) ddX8_seed_0 rfl rfl ?_
  refine E_if_ge (pc := 1) (tgt := 7) ddX8_seed_1 (by decide) (fun h => ?_) (fun h => ?_)
  · have k := k.1 h
    refine E_aload_n (pc := 7) (x := 1) ddX8_seed_7 rfl rfl ?_
    refine E_getR (pc := 8) (x := 307) ddX8_seed_8 ec_7 9 (Nat.le_of_ble_eq_true rfl) rfl w_2_17 hz.s0 hz.r9 (by decide) ?_
    refine E_getI (pc := 11) ddX8_seed_11 ec_1 0 (Nat.le_of_ble_eq_true rfl) rfl w_2_4 hz.draws.s0 ?_
    obtain ⟨v1, ev1⟩ : ∃ y : Int32, y = (I 307 0) := ⟨_, rfl⟩
    have k := k v1 ev1
    rw [← ev1]
    refine E_istore_n (pc := 14) (ls' := [some (.ref 1), some (.int x1), some (.int v1)]) ddX8_seed_14 rfl (Nat.le_of_ble_eq_true rfl) rfl rfl ?_
    refine E_aload_n (pc := 15) (x := 1) ddX8_seed_15 rfl rfl ?_
    refine E_getR (pc := 16) (x := 307) ddX8_seed_16 ec_7 9 (Nat.le_of_ble_eq_true rfl) rfl w_2_17 hz.s0 hz.r9 (by decide) ?_
    refine E_iload_n (pc := 19) (x := x1) ddX8_seed_19 rfl rfl ?_
    obtain ⟨I2, eI2⟩ : ∃ y : It, y = e_st I 307 0 x1 := ⟨_, rfl⟩
    have k := k I2 eI2
    refine E_putI (pc := 20) ddX8_seed_20 ec_1 0 (Nat.le_of_ble_eq_true rfl) rfl w_2_4 hz.draws.s0 rfl rfl ?_
    rw [← eI2]
    refine E_iload_n (pc := 23) (x := v1) ddX8_seed_23 rfl rfl ?_
    exact E_iret (pc := 24) ddX8_seed_24 rfl k
  · have k := k.2 h
    refine E_ldc (pc := 4) (v := (-1000000002)) ddX8_seed_4 w_2_43 ?_
    exact E_iret (pc := 6) ddX8_seed_6 rfl k
/-! X8_keep, labels [25] -/
set_option maxRecDepth 100000 in
set_option maxHeartbeats 4000000 in
theorem B_X8_keep_0 {mc ms : Nat} {z : Zt} {I : It} {Q : Option Value → Zt → It → Prop} {x1 : Int32} {pa pb : Nat} (hz : isZ z pa pb)
    (k : ((¬ x1 = 0) → ((¬ x1 = 1) → Q (some (.int (-1000000001))) z I) ∧
    ((x1 = 1) → E mX2_take 0 0 0 [some (.ref 289), some (.ref 20), some (.ref 307)] [] z I (fun r z' I' => E mX8_keep mc ms 25 [some (.ref 1), none, none] (r.toList ++ []) z' I' Q))) ∧
    ((x1 = 0) → E mX2_take 0 0 0 [some (.ref 274), some (.ref 20), some (.ref 307)] [] z I (fun r z' I' => E mX8_keep mc ms 25 [some (.ref 1), none, none] (r.toList ++ []) z' I' Q))) :
    E mX8_keep mc ms 0 [some (.ref 1), some (.int x1), none] [] z I Q := by
  refine E_aload_n (pc := 0) (x := 1) ddX8_keep_0 rfl rfl ?_
  refine E_iload_n (pc := 1) (x := x1) ddX8_keep_1 rfl rfl ?_
  refine E_callV (pc := 2) (As := [.int x1]) (st := []) (a := 1) ddX8_keep_2 hX8_imageOf ⟨(Nat.le_of_ble_eq_true rfl), (Nat.le_of_ble_eq_true rfl)⟩ w_3_159 (ci := 7) rfl rfl hz.s0 rfl rfl (Nat.le_of_ble_eq_true rfl) (e_cc rfl e_cn) (Nat.le_of_ble_eq_true rfl) ?_
  refine (show E mX8_imageOf 0 0 0 [some (.ref 1), some (.int x1)] [] z I _ from ?_)
  refine E_iload_n (pc := 0) (x := x1) ddX8_imageOf_0 rfl rfl ?_
  refine E_if_ne (pc := 1) (tgt := 9) ddX8_imageOf_1 (by decide) (fun h => ?_) (fun h => ?_)
  · have k := k.1 h
    refine E_iload_n (pc := 9) (x := x1) ddX8_imageOf_9 rfl rfl ?_
    refine E_iconst (pc := 10) (v := 1) ddX8_imageOf_10 rfl ?_
    refine E_icmp_ne (pc := 11) (tgt := 21) ddX8_imageOf_11 (by decide) (fun h => ?_) (fun h => ?_)
    · have k := k.1 h
      refine E_null (pc := 21) ddX8_imageOf_21 ?_
      refine E_aretN (pc := 22) ddX8_imageOf_22 rfl ?_
      refine (show E mX8_keep mc ms 5 [some (.ref 1), some (.int x1), none] [.null] z I Q from ?_)
      refine E_astore_nN (pc := 5) (ls' := [some (.ref 1), some (.int x1), some (.null)]) ddX8_keep_5 rfl (Nat.le_of_ble_eq_true rfl) rfl rfl ?_
      refine E_aload_nN (pc := 6) ddX8_keep_6 rfl rfl ?_
      refine E_ifnonnullN (pc := 7) ddX8_keep_7 ?_
      refine E_ldc (pc := 10) (v := (-1000000001)) ddX8_keep_10 w_2_238 ?_
      exact E_iret (pc := 12) ddX8_keep_12 rfl k
    · have k := k.2 h
      refine E_aload_n (pc := 14) (x := 1) ddX8_imageOf_14 rfl rfl ?_
      refine E_getR (pc := 15) (x := 289) ddX8_imageOf_15 ec_7 7 (Nat.le_of_ble_eq_true rfl) rfl w_2_15 hz.s0 hz.r7 (by decide) ?_
      refine E_goto (pc := 18) (tgt := 22) ddX8_imageOf_18 (by decide) ?_
      refine E_aret (pc := 22) ddX8_imageOf_22 rfl ?_
      refine (show E mX8_keep mc ms 5 [some (.ref 1), some (.int x1), none] [.ref 289] z I Q from ?_)
      refine E_astore_n (pc := 5) (ls' := [some (.ref 1), some (.int x1), some (.ref 289)]) ddX8_keep_5 rfl (Nat.le_of_ble_eq_true rfl) rfl rfl ?_
      refine E_aload_n (pc := 6) (x := 289) ddX8_keep_6 rfl rfl ?_
      refine E_ifnonnull (pc := 7) (tgt := 13) ddX8_keep_7 (by decide) ?_
      refine E_aload_n (pc := 13) (x := 289) ddX8_keep_13 rfl rfl ?_
      refine E_aload_n (pc := 14) (x := 1) ddX8_keep_14 rfl rfl ?_
      refine E_getR (pc := 15) (x := 20) ddX8_keep_15 ec_7 3 (Nat.le_of_ble_eq_true rfl) rfl w_2_11 hz.s0 hz.r3 (by decide) ?_
      refine E_aload_n (pc := 18) (x := 1) ddX8_keep_18 rfl rfl ?_
      refine E_getR (pc := 19) (x := 307) ddX8_keep_19 ec_7 9 (Nat.le_of_ble_eq_true rfl) rfl w_2_17 hz.s0 hz.r9 (by decide) ?_
      exact E_callV (pc := 22) (As := [.ref 20, .ref 307]) (st := []) (a := 289) ddX8_keep_22 hX2_take ⟨(Nat.le_of_ble_eq_true rfl), (Nat.le_of_ble_eq_true rfl)⟩ w_3_163 (ci := 2) rfl rfl hz.im2.s0 rfl rfl (Nat.le_of_ble_eq_true rfl) (e_cc rfl (e_cc rfl e_cn)) (Nat.le_of_ble_eq_true rfl) (E.mono k fun _ _ _ q => E.forget q ⟨rfl, trivial⟩)
  · have k := k.2 h
    refine E_aload_n (pc := 4) (x := 1) ddX8_imageOf_4 rfl rfl ?_
    refine E_getR (pc := 5) (x := 274) ddX8_imageOf_5 ec_7 6 (Nat.le_of_ble_eq_true rfl) rfl w_2_14 hz.s0 hz.r6 (by decide) ?_
    refine E_aret (pc := 8) ddX8_imageOf_8 rfl ?_
    refine (show E mX8_keep mc ms 5 [some (.ref 1), some (.int x1), none] [.ref 274] z I Q from ?_)
    refine E_astore_n (pc := 5) (ls' := [some (.ref 1), some (.int x1), some (.ref 274)]) ddX8_keep_5 rfl (Nat.le_of_ble_eq_true rfl) rfl rfl ?_
    refine E_aload_n (pc := 6) (x := 274) ddX8_keep_6 rfl rfl ?_
    refine E_ifnonnull (pc := 7) (tgt := 13) ddX8_keep_7 (by decide) ?_
    refine E_aload_n (pc := 13) (x := 274) ddX8_keep_13 rfl rfl ?_
    refine E_aload_n (pc := 14) (x := 1) ddX8_keep_14 rfl rfl ?_
    refine E_getR (pc := 15) (x := 20) ddX8_keep_15 ec_7 3 (Nat.le_of_ble_eq_true rfl) rfl w_2_11 hz.s0 hz.r3 (by decide) ?_
    refine E_aload_n (pc := 18) (x := 1) ddX8_keep_18 rfl rfl ?_
    refine E_getR (pc := 19) (x := 307) ddX8_keep_19 ec_7 9 (Nat.le_of_ble_eq_true rfl) rfl w_2_17 hz.s0 hz.r9 (by decide) ?_
    exact E_callV (pc := 22) (As := [.ref 20, .ref 307]) (st := []) (a := 274) ddX8_keep_22 hX2_take ⟨(Nat.le_of_ble_eq_true rfl), (Nat.le_of_ble_eq_true rfl)⟩ w_3_163 (ci := 2) rfl rfl hz.im1.s0 rfl rfl (Nat.le_of_ble_eq_true rfl) (e_cc rfl (e_cc rfl e_cn)) (Nat.le_of_ble_eq_true rfl) (E.mono k fun _ _ _ q => E.forget q ⟨rfl, trivial⟩)
set_option maxRecDepth 100000 in
set_option maxHeartbeats 4000000 in
theorem B_X8_keep_25 {mc ms : Nat} {z : Zt} {I : It} {Q : Option Value → Zt → It → Prop} {pa pb : Nat} (hz : isZ z pa pb)
    (k : ∀ I1 : It, I1 = e_st I 48 2 0 → Q (some (.int 1)) z I1) :
    E mX8_keep mc ms 25 [some (.ref 1), none, none] [] z I Q := by
  refine E_aload_n (pc := 25) (x := 1) ddX8_keep_25 rfl rfl ?_
  refine E_getR (pc := 26) (x := 48) ddX8_keep_26 ec_7 5 (Nat.le_of_ble_eq_true rfl) rfl w_2_13 hz.s0 hz.r5 (by decide) ?_
  refine E_callV (pc := 29) (As := []) (st := []) (a := 48) ddX8_keep_29 hX5_forget ⟨(Nat.le_of_ble_eq_true rfl), (Nat.le_of_ble_eq_true rfl)⟩ w_2_139 (ci := 4) rfl rfl hz.past.s0 rfl rfl (Nat.le_of_ble_eq_true rfl) e_cn (Nat.le_of_ble_eq_true rfl) ?_
  refine (show E mX5_forget 0 0 0 [some (.ref 48)] [] z I _ from ?_)
  refine E_aload_n (pc := 0) (x := 48) ddX5_forget_0 rfl rfl ?_
  refine E_iconst (pc := 1) (v := 0) ddX5_forget_1 rfl ?_
  obtain ⟨I1, eI1⟩ : ∃ y : It, y = e_st I 48 2 0 := ⟨_, rfl⟩
  have k := k I1 eI1
  refine E_putI (pc := 2) ddX5_forget_2 ec_4 2 (Nat.le_of_ble_eq_true rfl) rfl w_1_191 hz.past.s0 rfl rfl ?_
  rw [← eI1]
  refine E_vret (pc := 5) ddX5_forget_5 rfl ?_
  refine (show E mX8_keep mc ms 32 [some (.ref 1), none, none] [] z I1 Q from ?_)
  refine E_iconst (pc := 32) (v := 1) ddX8_keep_32 rfl ?_
  exact E_iret (pc := 33) ddX8_keep_33 rfl k
/-! X8_goBack, labels [35] -/
set_option maxRecDepth 100000 in
set_option maxHeartbeats 4000000 in
theorem B_X8_goBack_0 {mc ms : Nat} {z : Zt} {I : It} {Q : Option Value → Zt → It → Prop} {x1 : Int32} {pa pb : Nat} (hz : isZ z pa pb)
    (k : ((¬ x1 = 0) → ((¬ x1 = 1) → Q (some (.int (-1000000001))) z I) ∧
    ((x1 = 1) → ((¬ (I 289 2) = 0) → E mX2_give 0 0 0 [some (.ref 289), some (.ref 20), some (.ref 307)] [] z I (fun r z' I' => E mX8_goBack mc ms 35 [some (.ref 1), none, none] (r.toList ++ []) z' I' Q)) ∧
    (((I 289 2) = 0) → Q (some (.int (-1000000003))) z I))) ∧
    ((x1 = 0) → ((¬ (I 274 2) = 0) → E mX2_give 0 0 0 [some (.ref 274), some (.ref 20), some (.ref 307)] [] z I (fun r z' I' => E mX8_goBack mc ms 35 [some (.ref 1), none, none] (r.toList ++ []) z' I' Q)) ∧
    (((I 274 2) = 0) → Q (some (.int (-1000000003))) z I))) :
    E mX8_goBack mc ms 0 [some (.ref 1), some (.int x1), none] [] z I Q := by
  refine E_aload_n (pc := 0) (x := 1) ddX8_goBack_0 rfl rfl ?_
  refine E_iload_n (pc := 1) (x := x1) ddX8_goBack_1 rfl rfl ?_
  refine E_callV (pc := 2) (As := [.int x1]) (st := []) (a := 1) ddX8_goBack_2 hX8_imageOf ⟨(Nat.le_of_ble_eq_true rfl), (Nat.le_of_ble_eq_true rfl)⟩ w_3_159 (ci := 7) rfl rfl hz.s0 rfl rfl (Nat.le_of_ble_eq_true rfl) (e_cc rfl e_cn) (Nat.le_of_ble_eq_true rfl) ?_
  refine (show E mX8_imageOf 0 0 0 [some (.ref 1), some (.int x1)] [] z I _ from ?_)
  refine E_iload_n (pc := 0) (x := x1) ddX8_imageOf_0 rfl rfl ?_
  refine E_if_ne (pc := 1) (tgt := 9) ddX8_imageOf_1 (by decide) (fun h => ?_) (fun h => ?_)
  · have k := k.1 h
    refine E_iload_n (pc := 9) (x := x1) ddX8_imageOf_9 rfl rfl ?_
    refine E_iconst (pc := 10) (v := 1) ddX8_imageOf_10 rfl ?_
    refine E_icmp_ne (pc := 11) (tgt := 21) ddX8_imageOf_11 (by decide) (fun h => ?_) (fun h => ?_)
    · have k := k.1 h
      refine E_null (pc := 21) ddX8_imageOf_21 ?_
      refine E_aretN (pc := 22) ddX8_imageOf_22 rfl ?_
      refine (show E mX8_goBack mc ms 5 [some (.ref 1), some (.int x1), none] [.null] z I Q from ?_)
      refine E_astore_nN (pc := 5) (ls' := [some (.ref 1), some (.int x1), some (.null)]) ddX8_goBack_5 rfl (Nat.le_of_ble_eq_true rfl) rfl rfl ?_
      refine E_aload_nN (pc := 6) ddX8_goBack_6 rfl rfl ?_
      refine E_ifnonnullN (pc := 7) ddX8_goBack_7 ?_
      refine E_ldc (pc := 10) (v := (-1000000001)) ddX8_goBack_10 w_2_238 ?_
      exact E_iret (pc := 12) ddX8_goBack_12 rfl k
    · have k := k.2 h
      refine E_aload_n (pc := 14) (x := 1) ddX8_imageOf_14 rfl rfl ?_
      refine E_getR (pc := 15) (x := 289) ddX8_imageOf_15 ec_7 7 (Nat.le_of_ble_eq_true rfl) rfl w_2_15 hz.s0 hz.r7 (by decide) ?_
      refine E_goto (pc := 18) (tgt := 22) ddX8_imageOf_18 (by decide) ?_
      refine E_aret (pc := 22) ddX8_imageOf_22 rfl ?_
      refine (show E mX8_goBack mc ms 5 [some (.ref 1), some (.int x1), none] [.ref 289] z I Q from ?_)
      refine E_astore_n (pc := 5) (ls' := [some (.ref 1), some (.int x1), some (.ref 289)]) ddX8_goBack_5 rfl (Nat.le_of_ble_eq_true rfl) rfl rfl ?_
      refine E_aload_n (pc := 6) (x := 289) ddX8_goBack_6 rfl rfl ?_
      refine E_ifnonnull (pc := 7) (tgt := 13) ddX8_goBack_7 (by decide) ?_
      refine E_aload_n (pc := 13) (x := 289) ddX8_goBack_13 rfl rfl ?_
      refine E_getI (pc := 14) ddX8_goBack_14 ec_2 2 (Nat.le_of_ble_eq_true rfl) rfl w_1_211 hz.im2.s0 ?_
      refine E_if_ne (pc := 17) (tgt := 23) ddX8_goBack_17 (by decide) (fun h => ?_) (fun h => ?_)
      · have k := k.1 h
        refine E_aload_n (pc := 23) (x := 289) ddX8_goBack_23 rfl rfl ?_
        refine E_aload_n (pc := 24) (x := 1) ddX8_goBack_24 rfl rfl ?_
        refine E_getR (pc := 25) (x := 20) ddX8_goBack_25 ec_7 3 (Nat.le_of_ble_eq_true rfl) rfl w_2_11 hz.s0 hz.r3 (by decide) ?_
        refine E_aload_n (pc := 28) (x := 1) ddX8_goBack_28 rfl rfl ?_
        refine E_getR (pc := 29) (x := 307) ddX8_goBack_29 ec_7 9 (Nat.le_of_ble_eq_true rfl) rfl w_2_17 hz.s0 hz.r9 (by decide) ?_
        exact E_callV (pc := 32) (As := [.ref 20, .ref 307]) (st := []) (a := 289) ddX8_goBack_32 hX2_give ⟨(Nat.le_of_ble_eq_true rfl), (Nat.le_of_ble_eq_true rfl)⟩ w_3_172 (ci := 2) rfl rfl hz.im2.s0 rfl rfl (Nat.le_of_ble_eq_true rfl) (e_cc rfl (e_cc rfl e_cn)) (Nat.le_of_ble_eq_true rfl) (E.mono k fun _ _ _ q => E.forget q ⟨rfl, trivial⟩)
      · have k := k.2 h
        refine E_ldc (pc := 20) (v := (-1000000003)) ddX8_goBack_20 w_3_74 ?_
        exact E_iret (pc := 22) ddX8_goBack_22 rfl k
  · have k := k.2 h
    refine E_aload_n (pc := 4) (x := 1) ddX8_imageOf_4 rfl rfl ?_
    refine E_getR (pc := 5) (x := 274) ddX8_imageOf_5 ec_7 6 (Nat.le_of_ble_eq_true rfl) rfl w_2_14 hz.s0 hz.r6 (by decide) ?_
    refine E_aret (pc := 8) ddX8_imageOf_8 rfl ?_
    refine (show E mX8_goBack mc ms 5 [some (.ref 1), some (.int x1), none] [.ref 274] z I Q from ?_)
    refine E_astore_n (pc := 5) (ls' := [some (.ref 1), some (.int x1), some (.ref 274)]) ddX8_goBack_5 rfl (Nat.le_of_ble_eq_true rfl) rfl rfl ?_
    refine E_aload_n (pc := 6) (x := 274) ddX8_goBack_6 rfl rfl ?_
    refine E_ifnonnull (pc := 7) (tgt := 13) ddX8_goBack_7 (by decide) ?_
    refine E_aload_n (pc := 13) (x := 274) ddX8_goBack_13 rfl rfl ?_
    refine E_getI (pc := 14) ddX8_goBack_14 ec_2 2 (Nat.le_of_ble_eq_true rfl) rfl w_1_211 hz.im1.s0 ?_
    refine E_if_ne (pc := 17) (tgt := 23) ddX8_goBack_17 (by decide) (fun h => ?_) (fun h => ?_)
    · have k := k.1 h
      refine E_aload_n (pc := 23) (x := 274) ddX8_goBack_23 rfl rfl ?_
      refine E_aload_n (pc := 24) (x := 1) ddX8_goBack_24 rfl rfl ?_
      refine E_getR (pc := 25) (x := 20) ddX8_goBack_25 ec_7 3 (Nat.le_of_ble_eq_true rfl) rfl w_2_11 hz.s0 hz.r3 (by decide) ?_
      refine E_aload_n (pc := 28) (x := 1) ddX8_goBack_28 rfl rfl ?_
      refine E_getR (pc := 29) (x := 307) ddX8_goBack_29 ec_7 9 (Nat.le_of_ble_eq_true rfl) rfl w_2_17 hz.s0 hz.r9 (by decide) ?_
      exact E_callV (pc := 32) (As := [.ref 20, .ref 307]) (st := []) (a := 274) ddX8_goBack_32 hX2_give ⟨(Nat.le_of_ble_eq_true rfl), (Nat.le_of_ble_eq_true rfl)⟩ w_3_172 (ci := 2) rfl rfl hz.im1.s0 rfl rfl (Nat.le_of_ble_eq_true rfl) (e_cc rfl (e_cc rfl e_cn)) (Nat.le_of_ble_eq_true rfl) (E.mono k fun _ _ _ q => E.forget q ⟨rfl, trivial⟩)
    · have k := k.2 h
      refine E_ldc (pc := 20) (v := (-1000000003)) ddX8_goBack_20 w_3_74 ?_
      exact E_iret (pc := 22) ddX8_goBack_22 rfl k
set_option maxRecDepth 100000 in
set_option maxHeartbeats 4000000 in
theorem B_X8_goBack_35 {mc ms : Nat} {z : Zt} {I : It} {Q : Option Value → Zt → It → Prop} {pa pb : Nat} (hz : isZ z pa pb)
    (k : ∀ I1 : It, I1 = e_st I 48 2 0 → Q (some (.int 1)) z I1) :
    E mX8_goBack mc ms 35 [some (.ref 1), none, none] [] z I Q := by
  refine E_aload_n (pc := 35) (x := 1) ddX8_goBack_35 rfl rfl ?_
  refine E_getR (pc := 36) (x := 48) ddX8_goBack_36 ec_7 5 (Nat.le_of_ble_eq_true rfl) rfl w_2_13 hz.s0 hz.r5 (by decide) ?_
  refine E_callV (pc := 39) (As := []) (st := []) (a := 48) ddX8_goBack_39 hX5_forget ⟨(Nat.le_of_ble_eq_true rfl), (Nat.le_of_ble_eq_true rfl)⟩ w_2_139 (ci := 4) rfl rfl hz.past.s0 rfl rfl (Nat.le_of_ble_eq_true rfl) e_cn (Nat.le_of_ble_eq_true rfl) ?_
  refine (show E mX5_forget 0 0 0 [some (.ref 48)] [] z I _ from ?_)
  refine E_aload_n (pc := 0) (x := 48) ddX5_forget_0 rfl rfl ?_
  refine E_iconst (pc := 1) (v := 0) ddX5_forget_1 rfl ?_
  obtain ⟨I1, eI1⟩ : ∃ y : It, y = e_st I 48 2 0 := ⟨_, rfl⟩
  have k := k I1 eI1
  refine E_putI (pc := 2) ddX5_forget_2 ec_4 2 (Nat.le_of_ble_eq_true rfl) rfl w_1_191 hz.past.s0 rfl rfl ?_
  rw [← eI1]
  refine E_vret (pc := 5) ddX5_forget_5 rfl ?_
  refine (show E mX8_goBack mc ms 42 [some (.ref 1), none, none] [] z I1 Q from ?_)
  refine E_iconst (pc := 42) (v := 1) ddX8_goBack_42 rfl ?_
  exact E_iret (pc := 43) ddX8_goBack_43 rfl k
/-! X8_maySetByHand, labels [18] -/
set_option maxRecDepth 100000 in
set_option maxHeartbeats 4000000 in
theorem B_X8_maySetByHand_0 {mc ms : Nat} {z : Zt} {I : It} {Q : Option Value → Zt → It → Prop} {x1 : Int32} {pa pb : Nat} (hz : isZ z pa pb)
    (k : ((¬ (I 20 2) = 0) → Q (some (.int 0)) z I) ∧
    (((I 20 2) = 0) → E mX6_driversOf 0 0 0 [some (.ref pa), some (.int x1), none, none] [] z I (fun r z' I' => E mX8_maySetByHand mc ms 18 [none, none] (r.toList ++ []) z' I' Q))) :
    E mX8_maySetByHand mc ms 0 [some (.ref 1), some (.int x1)] [] z I Q := by
  refine E_aload_n (pc := 0) (x := 1) ddX8_maySetByHand_0 rfl rfl ?_
  refine E_getR (pc := 1) (x := 20) ddX8_maySetByHand_1 ec_7 3 (Nat.le_of_ble_eq_true rfl) rfl w_2_11 hz.s0 hz.r3 (by decide) ?_
  refine E_getI (pc := 4) ddX8_maySetByHand_4 ec_3 2 (Nat.le_of_ble_eq_true rfl) rfl w_1_119 hz.now.s0 ?_
  refine E_if_ne (pc := 7) (tgt := 25) ddX8_maySetByHand_7 (by decide) (fun h => ?_) (fun h => ?_)
  · have k := k.1 h
    refine E_iconst (pc := 25) (v := 0) ddX8_maySetByHand_25 rfl ?_
    exact E_zret (pc := 26) ddX8_maySetByHand_26 rfl (by decide) k
  · have k := k.2 h
    refine E_aload_n (pc := 10) (x := 1) ddX8_maySetByHand_10 rfl rfl ?_
    refine E_getR (pc := 11) (x := pa) ddX8_maySetByHand_11 ec_7 1 (Nat.le_of_ble_eq_true rfl) rfl w_2_9 hz.s0 hz.r1 hz.npa ?_
    refine E_iload_n (pc := 14) (x := x1) ddX8_maySetByHand_14 rfl rfl ?_
    exact E_callV (pc := 15) (As := [.int x1]) (st := []) (a := pa) ddX8_maySetByHand_15 hX6_driversOf ⟨(Nat.le_of_ble_eq_true rfl), (Nat.le_of_ble_eq_true rfl)⟩ w_2_239 (ci := 5) rfl rfl hz.pa.s0 rfl rfl (Nat.le_of_ble_eq_true rfl) (e_cc rfl e_cn) (Nat.le_of_ble_eq_true rfl) (E.mono k fun _ _ _ q => E.forget q trivial)
set_option maxRecDepth 100000 in
set_option maxHeartbeats 4000000 in
theorem B_X8_maySetByHand_18 {mc ms : Nat} {z : Zt} {I : It} {Q : Option Value → Zt → It → Prop} {y0 : Int32}
    (k : ((¬ y0 = 0) → Q (some (.int 0)) z I) ∧
    ((y0 = 0) → Q (some (.int 1)) z I)) :
    E mX8_maySetByHand mc ms 18 [none, none] [.int y0] z I Q := by
  refine E_if_ne (pc := 18) (tgt := 25) ddX8_maySetByHand_18 (by decide) (fun h => ?_) (fun h => ?_)
  · have k := k.1 h
    refine E_iconst (pc := 25) (v := 0) ddX8_maySetByHand_25 rfl ?_
    exact E_zret (pc := 26) ddX8_maySetByHand_26 rfl (by decide) k
  · have k := k.2 h
    refine E_iconst (pc := 21) (v := 1) ddX8_maySetByHand_21 rfl ?_
    refine E_goto (pc := 22) (tgt := 26) ddX8_maySetByHand_22 (by decide) ?_
    exact E_zret (pc := 26) ddX8_maySetByHand_26 rfl (by decide) k
/-! X8_driftOnce, labels [11, 25, 34, 44, 50, 81, 98, 112] -/
set_option maxRecDepth 100000 in
set_option maxHeartbeats 4000000 in
theorem B_X8_driftOnce_0 {mc ms : Nat} {z : Zt} {I : It} {Q : Option Value → Zt → It → Prop} {pa pb : Nat} (hz : isZ z pa pb)
    (k : E mX5_remember 0 0 0 [some (.ref 48), some (.ref 20), none] [] z I (fun r z' I' => E mX8_driftOnce mc ms 11 [some (.ref 1), none, none, none] (r.toList ++ []) z' I' Q)) :
    E mX8_driftOnce mc ms 0 [some (.ref 1), none, none, none] [] z I Q := by
  refine E_aload_n (pc := 0) (x := 1) ddX8_driftOnce_0 rfl rfl ?_
  refine E_getR (pc := 1) (x := 48) ddX8_driftOnce_1 ec_7 5 (Nat.le_of_ble_eq_true rfl) rfl w_2_13 hz.s0 hz.r5 (by decide) ?_
  refine E_aload_n (pc := 4) (x := 1) ddX8_driftOnce_4 rfl rfl ?_
  refine E_getR (pc := 5) (x := 20) ddX8_driftOnce_5 ec_7 3 (Nat.le_of_ble_eq_true rfl) rfl w_2_11 hz.s0 hz.r3 (by decide) ?_
  exact E_callV (pc := 8) (As := [.ref 20]) (st := []) (a := 48) ddX8_driftOnce_8 hX5_remember ⟨(Nat.le_of_ble_eq_true rfl), (Nat.le_of_ble_eq_true rfl)⟩ w_3_75 (ci := 4) rfl rfl hz.past.s0 rfl rfl (Nat.le_of_ble_eq_true rfl) (e_cc rfl e_cn) (Nat.le_of_ble_eq_true rfl) k
set_option maxRecDepth 100000 in
set_option maxHeartbeats 4000000 in
theorem B_X8_driftOnce_11 {mc ms : Nat} {z : Zt} {I : It} {Q : Option Value → Zt → It → Prop} {pa pb : Nat} (hz : isZ z pa pb)
    (k : E mX1_draw 0 0 0 [some (.ref 307), some (.int (I pa 0))] [] z I (fun r z' I' => E mX8_driftOnce mc ms 25 [some (.ref 1), none, none, none] (r.toList ++ []) z' I' Q)) :
    E mX8_driftOnce mc ms 11 [some (.ref 1), none, none, none] [] z I Q := by
  refine E_aload_n (pc := 11) (x := 1) ddX8_driftOnce_11 rfl rfl ?_
  refine E_getR (pc := 12) (x := 307) ddX8_driftOnce_12 ec_7 9 (Nat.le_of_ble_eq_true rfl) rfl w_2_17 hz.s0 hz.r9 (by decide) ?_
  refine E_aload_n (pc := 15) (x := 1) ddX8_driftOnce_15 rfl rfl ?_
  refine E_getR (pc := 16) (x := pa) ddX8_driftOnce_16 ec_7 1 (Nat.le_of_ble_eq_true rfl) rfl w_2_9 hz.s0 hz.r1 hz.npa ?_
  refine E_getI (pc := 19) ddX8_driftOnce_19 ec_5 0 (Nat.le_of_ble_eq_true rfl) rfl w_1_56 hz.pa.s0 ?_
  exact E_callV (pc := 22) (As := [.int (I pa 0)]) (st := []) (a := 307) ddX8_driftOnce_22 hX1_draw ⟨(Nat.le_of_ble_eq_true rfl), (Nat.le_of_ble_eq_true rfl)⟩ w_3_121 (ci := 1) rfl rfl hz.draws.s0 rfl rfl (Nat.le_of_ble_eq_true rfl) (e_cc rfl e_cn) (Nat.le_of_ble_eq_true rfl) k
set_option maxRecDepth 100000 in
set_option maxHeartbeats 4000000 in
theorem B_X8_driftOnce_25 {mc ms : Nat} {z : Zt} {I : It} {Q : Option Value → Zt → It → Prop} {y0 : Int32} {pa pb : Nat} (hz : isZ z pa pb)
    (k : E mX1_draw 0 0 0 [some (.ref 307), some (.int 4)] [] z I (fun r z' I' => E mX8_driftOnce mc ms 34 [some (.ref 1), some (.int y0), none, none] (r.toList ++ []) z' I' Q)) :
    E mX8_driftOnce mc ms 25 [some (.ref 1), none, none, none] [.int y0] z I Q := by
  refine E_istore_n (pc := 25) (ls' := [some (.ref 1), some (.int y0), none, none]) ddX8_driftOnce_25 rfl (Nat.le_of_ble_eq_true rfl) rfl rfl ?_
  refine E_aload_n (pc := 26) (x := 1) ddX8_driftOnce_26 rfl rfl ?_
  refine E_getR (pc := 27) (x := 307) ddX8_driftOnce_27 ec_7 9 (Nat.le_of_ble_eq_true rfl) rfl w_2_17 hz.s0 hz.r9 (by decide) ?_
  refine E_iconst (pc := 30) (v := 4) ddX8_driftOnce_30 rfl ?_
  exact E_callV (pc := 31) (As := [.int 4]) (st := []) (a := 307) ddX8_driftOnce_31 hX1_draw ⟨(Nat.le_of_ble_eq_true rfl), (Nat.le_of_ble_eq_true rfl)⟩ w_3_121 (ci := 1) rfl rfl hz.draws.s0 rfl rfl (Nat.le_of_ble_eq_true rfl) (e_cc rfl e_cn) (Nat.le_of_ble_eq_true rfl) k
set_option maxRecDepth 100000 in
set_option maxHeartbeats 4000000 in
theorem B_X8_driftOnce_34 {mc ms : Nat} {z : Zt} {I : It} {Q : Option Value → Zt → It → Prop} {x1 y0 : Int32} {pa pb : Nat} (hz : isZ z pa pb)
    (k : E mX1_draw 0 0 0 [some (.ref 307), some (.int 21)] [] z I (fun r z' I' => E mX8_driftOnce mc ms 44 [some (.ref 1), some (.int x1), some (.int y0), none] (r.toList ++ []) z' I' Q)) :
    E mX8_driftOnce mc ms 34 [some (.ref 1), some (.int x1), none, none] [.int y0] z I Q := by
  refine E_istore_n (pc := 34) (ls' := [some (.ref 1), some (.int x1), some (.int y0), none]) ddX8_driftOnce_34 rfl (Nat.le_of_ble_eq_true rfl) rfl rfl ?_
  refine E_aload_n (pc := 35) (x := 1) ddX8_driftOnce_35 rfl rfl ?_
  refine E_getR (pc := 36) (x := 307) ddX8_driftOnce_36 ec_7 9 (Nat.le_of_ble_eq_true rfl) rfl w_2_17 hz.s0 hz.r9 (by decide) ?_
  refine E_bipush (pc := 39) (v := 21) ddX8_driftOnce_39 rfl ?_
  exact E_callV (pc := 41) (As := [.int 21]) (st := []) (a := 307) ddX8_driftOnce_41 hX1_draw ⟨(Nat.le_of_ble_eq_true rfl), (Nat.le_of_ble_eq_true rfl)⟩ w_3_121 (ci := 1) rfl rfl hz.draws.s0 rfl rfl (Nat.le_of_ble_eq_true rfl) (e_cc rfl e_cn) (Nat.le_of_ble_eq_true rfl) k
set_option maxRecDepth 100000 in
set_option maxHeartbeats 4000000 in
theorem B_X8_driftOnce_44 {mc ms : Nat} {z : Zt} {I : It} {Q : Option Value → Zt → It → Prop} {x1 x2 y0 : Int32} {pa pb : Nat} (hz : isZ z pa pb)
    (k : E mX8_maySetByHand 0 0 0 [some (.ref 1), some (.int x1)] [] z I (fun r z' I' => E mX8_driftOnce mc ms 50 [some (.ref 1), some (.int x1), some (.int x2), some (.int y0)] (r.toList ++ []) z' I' Q)) :
    E mX8_driftOnce mc ms 44 [some (.ref 1), some (.int x1), some (.int x2), none] [.int y0] z I Q := by
  refine E_istore_n (pc := 44) (ls' := [some (.ref 1), some (.int x1), some (.int x2), some (.int y0)]) ddX8_driftOnce_44 rfl (Nat.le_of_ble_eq_true rfl) rfl rfl ?_
  refine E_aload_n (pc := 45) (x := 1) ddX8_driftOnce_45 rfl rfl ?_
  refine E_iload_n (pc := 46) (x := x1) ddX8_driftOnce_46 rfl rfl ?_
  exact E_callV (pc := 47) (As := [.int x1]) (st := []) (a := 1) ddX8_driftOnce_47 hX8_maySetByHand ⟨(Nat.le_of_ble_eq_true rfl), (Nat.le_of_ble_eq_true rfl)⟩ w_3_94 (ci := 7) rfl rfl hz.s0 rfl rfl (Nat.le_of_ble_eq_true rfl) (e_cc rfl e_cn) (Nat.le_of_ble_eq_true rfl) k
set_option maxRecDepth 100000 in
set_option maxHeartbeats 4000000 in
theorem B_X8_driftOnce_50 {mc ms : Nat} {z : Zt} {I : It} {Q : Option Value → Zt → It → Prop} {x1 x2 x3 y0 : Int32} {pa pb : Nat} (hz : isZ z pa pb)
    (k : ((y0 = 0) → ((¬ (I 20 2) = 0) → Q none z I) ∧
    (((I 20 2) = 0) → E mX4_isStill 0 0 0 [some (.ref 20)] [] z I (fun r z' I' => E mX8_driftOnce mc ms 98 [some (.ref 1), none, none, none] (r.toList ++ []) z' I' Q))) ∧
    ((¬ y0 = 0) → (((I 20 14) < 8) → E mX4_addByHand 0 0 0 [some (.ref 20), some (.int x1), some (.int x2), some (.int ((I 20 0) + x3)), none] [] z I (fun r z' I' => E mX8_driftOnce mc ms 81 [some (.ref 1), none, none, none] (r.toList ++ []) z' I' Q)) ∧
    ((¬ (I 20 14) < 8) → E mX8_driftOnce mc ms 81 [some (.ref 1), none, none, none] [] z I Q))) :
    E mX8_driftOnce mc ms 50 [some (.ref 1), some (.int x1), some (.int x2), some (.int x3)] [.int y0] z I Q := by
  refine E_if_eq (pc := 50) (tgt := 81) ddX8_driftOnce_50 (by decide) (fun h => ?_) (fun h => ?_)
  · have k := k.1 h
    refine E_aload_n (pc := 81) (x := 1) ddX8_driftOnce_81 rfl rfl ?_
    refine E_getR (pc := 82) (x := 20) ddX8_driftOnce_82 ec_7 3 (Nat.le_of_ble_eq_true rfl) rfl w_2_11 hz.s0 hz.r3 (by decide) ?_
    refine E_getI (pc := 85) ddX8_driftOnce_85 ec_3 2 (Nat.le_of_ble_eq_true rfl) rfl w_1_119 hz.now.s0 ?_
    refine E_if_ne (pc := 88) (tgt := 112) ddX8_driftOnce_88 (by decide) (fun h => ?_) (fun h => ?_)
    · have k := k.1 h
      exact E_vret (pc := 112) ddX8_driftOnce_112 rfl k
    · have k := k.2 h
      refine E_aload_n (pc := 91) (x := 1) ddX8_driftOnce_91 rfl rfl ?_
      refine E_getR (pc := 92) (x := 20) ddX8_driftOnce_92 ec_7 3 (Nat.le_of_ble_eq_true rfl) rfl w_2_11 hz.s0 hz.r3 (by decide) ?_
      exact E_callV (pc := 95) (As := []) (st := []) (a := 20) ddX8_driftOnce_95 hX4_isStill ⟨(Nat.le_of_ble_eq_true rfl), (Nat.le_of_ble_eq_true rfl)⟩ w_2_159 (ci := 3) rfl rfl hz.now.s0 rfl rfl (Nat.le_of_ble_eq_true rfl) e_cn (Nat.le_of_ble_eq_true rfl) (E.mono k fun _ _ _ q => E.forget q ⟨rfl, trivial⟩)
  · have k := k.2 h
    refine E_aload_n (pc := 53) (x := 1) ddX8_driftOnce_53 rfl rfl ?_
    refine E_getR (pc := 54) (x := 20) ddX8_driftOnce_54 ec_7 3 (Nat.le_of_ble_eq_true rfl) rfl w_2_11 hz.s0 hz.r3 (by decide) ?_
    refine E_callV (pc := 57) (As := []) (st := []) (a := 20) ddX8_driftOnce_57 hX4_handIsFull ⟨(Nat.le_of_ble_eq_true rfl), (Nat.le_of_ble_eq_true rfl)⟩ w_3_98 (ci := 3) rfl rfl hz.now.s0 rfl rfl (Nat.le_of_ble_eq_true rfl) e_cn (Nat.le_of_ble_eq_true rfl) ?_
    refine (show E mX4_handIsFull 0 0 0 [some (.ref 20)] [] z I _ from ?_)
    refine E_aload_n (pc := 0) (x := 20) ddX4_handIsFull_0 rfl rfl ?_
    refine E_getI (pc := 1) ddX4_handIsFull_1 ec_3 14 (Nat.le_of_ble_eq_true rfl) rfl w_1_138 hz.now.s0 ?_
    refine E_bipush (pc := 4) (v := 8) ddX4_handIsFull_4 rfl ?_
    refine E_icmp_lt (pc := 6) (tgt := 13) ddX4_handIsFull_6 (by decide) (fun h => ?_) (fun h => ?_)
    · have k := k.1 h
      refine E_iconst (pc := 13) (v := 0) ddX4_handIsFull_13 rfl ?_
      refine E_zret (pc := 14) ddX4_handIsFull_14 rfl (by decide) ?_
      refine (show E mX8_driftOnce mc ms 60 [some (.ref 1), some (.int x1), some (.int x2), some (.int x3)] [.int 0] z I Q from ?_)
      refine E_if_ne (pc := 60) (tgt := 81) ddX8_driftOnce_60 (by decide) (fun h => absurd h (by decide)) (fun _ => ?_)
      refine E_aload_n (pc := 63) (x := 1) ddX8_driftOnce_63 rfl rfl ?_
      refine E_getR (pc := 64) (x := 20) ddX8_driftOnce_64 ec_7 3 (Nat.le_of_ble_eq_true rfl) rfl w_2_11 hz.s0 hz.r3 (by decide) ?_
      refine E_iload_n (pc := 67) (x := x1) ddX8_driftOnce_67 rfl rfl ?_
      refine E_iload_n (pc := 68) (x := x2) ddX8_driftOnce_68 rfl rfl ?_
      refine E_aload_n (pc := 69) (x := 1) ddX8_driftOnce_69 rfl rfl ?_
      refine E_getR (pc := 70) (x := 20) ddX8_driftOnce_70 ec_7 3 (Nat.le_of_ble_eq_true rfl) rfl w_2_11 hz.s0 hz.r3 (by decide) ?_
      refine E_getI (pc := 73) ddX8_driftOnce_73 ec_3 0 (Nat.le_of_ble_eq_true rfl) rfl w_1_115 hz.now.s0 ?_
      refine E_iload_n (pc := 76) (x := x3) ddX8_driftOnce_76 rfl rfl ?_
      refine E_iadd (pc := 77) ddX8_driftOnce_77 ?_
      exact E_callV (pc := 78) (As := [.int x1, .int x2, .int ((I 20 0) + x3)]) (st := []) (a := 20) ddX8_driftOnce_78 hX4_addByHand ⟨(Nat.le_of_ble_eq_true rfl), (Nat.le_of_ble_eq_true rfl)⟩ w_3_103 (ci := 3) rfl rfl hz.now.s0 rfl rfl (Nat.le_of_ble_eq_true rfl) (e_cc rfl (e_cc rfl (e_cc rfl e_cn))) (Nat.le_of_ble_eq_true rfl) (E.mono k fun _ _ _ q => E.forget q ⟨rfl, trivial⟩)
    · have k := k.2 h
      refine E_iconst (pc := 9) (v := 1) ddX4_handIsFull_9 rfl ?_
      refine E_goto (pc := 10) (tgt := 14) ddX4_handIsFull_10 (by decide) ?_
      refine E_zret (pc := 14) ddX4_handIsFull_14 rfl (by decide) ?_
      refine (show E mX8_driftOnce mc ms 60 [some (.ref 1), some (.int x1), some (.int x2), some (.int x3)] [.int 1] z I Q from ?_)
      refine E_if_ne (pc := 60) (tgt := 81) ddX8_driftOnce_60 (by decide) (fun _ => ?_) (fun h => absurd h (by decide))
      exact E.forget k ⟨rfl, trivial⟩
set_option maxRecDepth 100000 in
set_option maxHeartbeats 4000000 in
theorem B_X8_driftOnce_98 {mc ms : Nat} {z : Zt} {I : It} {Q : Option Value → Zt → It → Prop} {y0 : Int32} {pa pb : Nat} (hz : isZ z pa pb)
    (k : ((¬ y0 = 0) → Q none z I) ∧
    ((y0 = 0) → E mX4_advance 0 0 0 [some (.ref 20), some (.ref pa), none, none] [] z I (fun r z' I' => E mX8_driftOnce mc ms 112 [none, none, none, none] (r.toList ++ []) z' I' Q))) :
    E mX8_driftOnce mc ms 98 [some (.ref 1), none, none, none] [.int y0] z I Q := by
  refine E_if_ne (pc := 98) (tgt := 112) ddX8_driftOnce_98 (by decide) (fun h => ?_) (fun h => ?_)
  · have k := k.1 h
    exact E_vret (pc := 112) ddX8_driftOnce_112 rfl k
  · have k := k.2 h
    refine E_aload_n (pc := 101) (x := 1) ddX8_driftOnce_101 rfl rfl ?_
    refine E_getR (pc := 102) (x := 20) ddX8_driftOnce_102 ec_7 3 (Nat.le_of_ble_eq_true rfl) rfl w_2_11 hz.s0 hz.r3 (by decide) ?_
    refine E_aload_n (pc := 105) (x := 1) ddX8_driftOnce_105 rfl rfl ?_
    refine E_getR (pc := 106) (x := pa) ddX8_driftOnce_106 ec_7 1 (Nat.le_of_ble_eq_true rfl) rfl w_2_9 hz.s0 hz.r1 hz.npa ?_
    exact E_callV (pc := 109) (As := [.ref pa]) (st := []) (a := 20) ddX8_driftOnce_109 hX4_advance ⟨(Nat.le_of_ble_eq_true rfl), (Nat.le_of_ble_eq_true rfl)⟩ w_2_189 (ci := 3) rfl rfl hz.now.s0 rfl rfl (Nat.le_of_ble_eq_true rfl) (e_cc rfl e_cn) (Nat.le_of_ble_eq_true rfl) (E.mono k fun _ _ _ q => E.forget q trivial)
set_option maxRecDepth 100000 in
set_option maxHeartbeats 4000000 in
theorem B_X8_driftOnce_81 {mc ms : Nat} {z : Zt} {I : It} {Q : Option Value → Zt → It → Prop} {pa pb : Nat} (hz : isZ z pa pb)
    (k : ((¬ (I 20 2) = 0) → E mX8_driftOnce mc ms 112 [none, none, none, none] [] z I Q) ∧
    (((I 20 2) = 0) → E mX4_isStill 0 0 0 [some (.ref 20)] [] z I (fun r z' I' => E mX8_driftOnce mc ms 98 [some (.ref 1), none, none, none] (r.toList ++ []) z' I' Q))) :
    E mX8_driftOnce mc ms 81 [some (.ref 1), none, none, none] [] z I Q := by
  refine E_aload_n (pc := 81) (x := 1) ddX8_driftOnce_81 rfl rfl ?_
  refine E_getR (pc := 82) (x := 20) ddX8_driftOnce_82 ec_7 3 (Nat.le_of_ble_eq_true rfl) rfl w_2_11 hz.s0 hz.r3 (by decide) ?_
  refine E_getI (pc := 85) ddX8_driftOnce_85 ec_3 2 (Nat.le_of_ble_eq_true rfl) rfl w_1_119 hz.now.s0 ?_
  refine E_if_ne (pc := 88) (tgt := 112) ddX8_driftOnce_88 (by decide) (fun h => ?_) (fun h => ?_)
  · have k := k.1 h
    exact E.forget k trivial
  · have k := k.2 h
    refine E_aload_n (pc := 91) (x := 1) ddX8_driftOnce_91 rfl rfl ?_
    refine E_getR (pc := 92) (x := 20) ddX8_driftOnce_92 ec_7 3 (Nat.le_of_ble_eq_true rfl) rfl w_2_11 hz.s0 hz.r3 (by decide) ?_
    exact E_callV (pc := 95) (As := []) (st := []) (a := 20) ddX8_driftOnce_95 hX4_isStill ⟨(Nat.le_of_ble_eq_true rfl), (Nat.le_of_ble_eq_true rfl)⟩ w_2_159 (ci := 3) rfl rfl hz.now.s0 rfl rfl (Nat.le_of_ble_eq_true rfl) e_cn (Nat.le_of_ble_eq_true rfl) k
set_option maxRecDepth 100000 in
set_option maxHeartbeats 4000000 in
theorem B_X8_driftOnce_112 {mc ms : Nat} {z : Zt} {I : It} {Q : Option Value → Zt → It → Prop}
    (k : Q none z I) :
    E mX8_driftOnce mc ms 112 [none, none, none, none] [] z I Q := by
  exact E_vret (pc := 112) ddX8_driftOnce_112 rfl k
/-! X8_stepsTillStill, labels [11, 13, 36, 50, 73] -/
set_option maxRecDepth 100000 in
set_option maxHeartbeats 4000000 in
theorem B_X8_stepsTillStill_0 {mc ms : Nat} {z : Zt} {I : It} {Q : Option Value → Zt → It → Prop} {pa pb : Nat} (hz : isZ z pa pb)
    (k : E mX4_copyFrom 0 0 0 [some (.ref 34), some (.ref 20)] [] z I (fun r z' I' => E mX8_stepsTillStill mc ms 11 [some (.ref 1), none] (r.toList ++ []) z' I' Q)) :
    E mX8_stepsTillStill mc ms 0 [some (.ref 1), none] [] z I Q := by
  refine E_aload_n (pc := 0) (x := 1) ddX8_stepsTillStill_0 rfl rfl ?_
  refine E_getR (pc := 1) (x := 34) ddX8_stepsTillStill_1 ec_7 4 (Nat.le_of_ble_eq_true rfl) rfl w_2_12 hz.s0 hz.r4 (by decide) ?_
  refine E_aload_n (pc := 4) (x := 1) ddX8_stepsTillStill_4 rfl rfl ?_
  refine E_getR (pc := 5) (x := 20) ddX8_stepsTillStill_5 ec_7 3 (Nat.le_of_ble_eq_true rfl) rfl w_2_11 hz.s0 hz.r3 (by decide) ?_
  exact E_callV (pc := 8) (As := [.ref 20]) (st := []) (a := 34) ddX8_stepsTillStill_8 hX4_copyFrom ⟨(Nat.le_of_ble_eq_true rfl), (Nat.le_of_ble_eq_true rfl)⟩ w_2_179 (ci := 3) rfl rfl hz.trial.s0 rfl rfl (Nat.le_of_ble_eq_true rfl) (e_cc rfl e_cn) (Nat.le_of_ble_eq_true rfl) k
set_option maxRecDepth 100000 in
set_option maxHeartbeats 4000000 in
theorem B_X8_stepsTillStill_11 {mc ms : Nat} {z : Zt} {I : It} {Q : Option Value → Zt → It → Prop} {pa pb : Nat} (hz : isZ z pa pb)
    (k : E mX8_stepsTillStill mc ms 13 [some (.ref 1), some (.int 0)] [] z I Q) :
    E mX8_stepsTillStill mc ms 11 [some (.ref 1), none] [] z I Q := by
  refine E_iconst (pc := 11) (v := 0) ddX8_stepsTillStill_11 rfl ?_
  refine E_istore_n (pc := 12) (ls' := [some (.ref 1), some (.int 0)]) ddX8_stepsTillStill_12 rfl (Nat.le_of_ble_eq_true rfl) rfl rfl ?_
  exact k
set_option maxRecDepth 100000 in
set_option maxHeartbeats 4000000 in
theorem B_X8_stepsTillStill_13 {mc ms : Nat} {z : Zt} {I : It} {Q : Option Value → Zt → It → Prop} {x1 : Int32} {pa pb : Nat} (hz : isZ z pa pb)
    (k : ((100 ≤ x1) → ((¬ (I 34 2) = 0) → Q (some (.int (-1))) z I) ∧
    (((I 34 2) = 0) → E mX4_isStill 0 0 0 [some (.ref 34)] [] z I (fun r z' I' => E mX8_stepsTillStill mc ms 73 [none, some (.int x1)] (r.toList ++ []) z' I' Q))) ∧
    ((¬ 100 ≤ x1) → ((¬ (I 34 2) = 0) → ((¬ (I 34 2) = 0) → Q (some (.int (-1))) z I) ∧
    (((I 34 2) = 0) → E mX4_isStill 0 0 0 [some (.ref 34)] [] z I (fun r z' I' => E mX8_stepsTillStill mc ms 73 [none, some (.int x1)] (r.toList ++ []) z' I' Q))) ∧
    (((I 34 2) = 0) → E mX4_isStill 0 0 0 [some (.ref 34)] [] z I (fun r z' I' => E mX8_stepsTillStill mc ms 36 [some (.ref 1), some (.int x1)] (r.toList ++ []) z' I' Q)))) :
    E mX8_stepsTillStill mc ms 13 [some (.ref 1), some (.int x1)] [] z I Q := by
  refine E_iload_n (pc := 13) (x := x1) ddX8_stepsTillStill_13 rfl rfl ?_
  refine E_bipush (pc := 14) (v := 100) ddX8_stepsTillStill_14 rfl ?_
  refine E_icmp_ge (pc := 16) (tgt := 56) ddX8_stepsTillStill_16 (by decide) (fun h => ?_) (fun h => ?_)
  · have k := k.1 h
    refine E_aload_n (pc := 56) (x := 1) ddX8_stepsTillStill_56 rfl rfl ?_
    refine E_getR (pc := 57) (x := 34) ddX8_stepsTillStill_57 ec_7 4 (Nat.le_of_ble_eq_true rfl) rfl w_2_12 hz.s0 hz.r4 (by decide) ?_
    refine E_getI (pc := 60) ddX8_stepsTillStill_60 ec_3 2 (Nat.le_of_ble_eq_true rfl) rfl w_1_119 hz.trial.s0 ?_
    refine E_if_ne (pc := 63) (tgt := 76) ddX8_stepsTillStill_63 (by decide) (fun h => ?_) (fun h => ?_)
    · have k := k.1 h
      refine E_iconst (pc := 76) (v := (-1)) ddX8_stepsTillStill_76 rfl ?_
      refine E_goto (pc := 77) (tgt := 81) ddX8_stepsTillStill_77 (by decide) ?_
      exact E_iret (pc := 81) ddX8_stepsTillStill_81 rfl k
    · have k := k.2 h
      refine E_aload_n (pc := 66) (x := 1) ddX8_stepsTillStill_66 rfl rfl ?_
      refine E_getR (pc := 67) (x := 34) ddX8_stepsTillStill_67 ec_7 4 (Nat.le_of_ble_eq_true rfl) rfl w_2_12 hz.s0 hz.r4 (by decide) ?_
      exact E_callV (pc := 70) (As := []) (st := []) (a := 34) ddX8_stepsTillStill_70 hX4_isStill ⟨(Nat.le_of_ble_eq_true rfl), (Nat.le_of_ble_eq_true rfl)⟩ w_2_159 (ci := 3) rfl rfl hz.trial.s0 rfl rfl (Nat.le_of_ble_eq_true rfl) e_cn (Nat.le_of_ble_eq_true rfl) (E.mono k fun _ _ _ q => E.forget q ⟨rfl, trivial⟩)
  · have k := k.2 h
    refine E_aload_n (pc := 19) (x := 1) ddX8_stepsTillStill_19 rfl rfl ?_
    refine E_getR (pc := 20) (x := 34) ddX8_stepsTillStill_20 ec_7 4 (Nat.le_of_ble_eq_true rfl) rfl w_2_12 hz.s0 hz.r4 (by decide) ?_
    refine E_getI (pc := 23) ddX8_stepsTillStill_23 ec_3 2 (Nat.le_of_ble_eq_true rfl) rfl w_1_119 hz.trial.s0 ?_
    refine E_if_ne (pc := 26) (tgt := 56) ddX8_stepsTillStill_26 (by decide) (fun h => ?_) (fun h => ?_)
    · have k := k.1 h
      refine E_aload_n (pc := 56) (x := 1) ddX8_stepsTillStill_56 rfl rfl ?_
      refine E_getR (pc := 57) (x := 34) ddX8_stepsTillStill_57 ec_7 4 (Nat.le_of_ble_eq_true rfl) rfl w_2_12 hz.s0 hz.r4 (by decide) ?_
      refine E_getI (pc := 60) ddX8_stepsTillStill_60 ec_3 2 (Nat.le_of_ble_eq_true rfl) rfl w_1_119 hz.trial.s0 ?_
      refine E_if_ne (pc := 63) (tgt := 76) ddX8_stepsTillStill_63 (by decide) (fun h => ?_) (fun h => ?_)
      · have k := k.1 h
        refine E_iconst (pc := 76) (v := (-1)) ddX8_stepsTillStill_76 rfl ?_
        refine E_goto (pc := 77) (tgt := 81) ddX8_stepsTillStill_77 (by decide) ?_
        exact E_iret (pc := 81) ddX8_stepsTillStill_81 rfl k
      · have k := k.2 h
        refine E_aload_n (pc := 66) (x := 1) ddX8_stepsTillStill_66 rfl rfl ?_
        refine E_getR (pc := 67) (x := 34) ddX8_stepsTillStill_67 ec_7 4 (Nat.le_of_ble_eq_true rfl) rfl w_2_12 hz.s0 hz.r4 (by decide) ?_
        exact E_callV (pc := 70) (As := []) (st := []) (a := 34) ddX8_stepsTillStill_70 hX4_isStill ⟨(Nat.le_of_ble_eq_true rfl), (Nat.le_of_ble_eq_true rfl)⟩ w_2_159 (ci := 3) rfl rfl hz.trial.s0 rfl rfl (Nat.le_of_ble_eq_true rfl) e_cn (Nat.le_of_ble_eq_true rfl) (E.mono k fun _ _ _ q => E.forget q ⟨rfl, trivial⟩)
    · have k := k.2 h
      refine E_aload_n (pc := 29) (x := 1) ddX8_stepsTillStill_29 rfl rfl ?_
      refine E_getR (pc := 30) (x := 34) ddX8_stepsTillStill_30 ec_7 4 (Nat.le_of_ble_eq_true rfl) rfl w_2_12 hz.s0 hz.r4 (by decide) ?_
      exact E_callV (pc := 33) (As := []) (st := []) (a := 34) ddX8_stepsTillStill_33 hX4_isStill ⟨(Nat.le_of_ble_eq_true rfl), (Nat.le_of_ble_eq_true rfl)⟩ w_2_159 (ci := 3) rfl rfl hz.trial.s0 rfl rfl (Nat.le_of_ble_eq_true rfl) e_cn (Nat.le_of_ble_eq_true rfl) k
set_option maxRecDepth 100000 in
set_option maxHeartbeats 4000000 in
theorem B_X8_stepsTillStill_73 {mc ms : Nat} {z : Zt} {I : It} {Q : Option Value → Zt → It → Prop} {x1 y0 : Int32}
    (k : ((¬ y0 = 0) → Q (some (.int x1)) z I) ∧
    ((y0 = 0) → Q (some (.int (-1))) z I)) :
    E mX8_stepsTillStill mc ms 73 [none, some (.int x1)] [.int y0] z I Q := by
  refine E_if_ne (pc := 73) (tgt := 80) ddX8_stepsTillStill_73 (by decide) (fun h => ?_) (fun h => ?_)
  · have k := k.1 h
    refine E_iload_n (pc := 80) (x := x1) ddX8_stepsTillStill_80 rfl rfl ?_
    exact E_iret (pc := 81) ddX8_stepsTillStill_81 rfl k
  · have k := k.2 h
    refine E_iconst (pc := 76) (v := (-1)) ddX8_stepsTillStill_76 rfl ?_
    refine E_goto (pc := 77) (tgt := 81) ddX8_stepsTillStill_77 (by decide) ?_
    exact E_iret (pc := 81) ddX8_stepsTillStill_81 rfl k
set_option maxRecDepth 100000 in
set_option maxHeartbeats 4000000 in
theorem B_X8_stepsTillStill_36 {mc ms : Nat} {z : Zt} {I : It} {Q : Option Value → Zt → It → Prop} {x1 y0 : Int32} {pa pb : Nat} (hz : isZ z pa pb)
    (k : ((¬ y0 = 0) → ((¬ (I 34 2) = 0) → Q (some (.int (-1))) z I) ∧
    (((I 34 2) = 0) → E mX4_isStill 0 0 0 [some (.ref 34)] [] z I (fun r z' I' => E mX8_stepsTillStill mc ms 73 [none, some (.int x1)] (r.toList ++ []) z' I' Q))) ∧
    ((y0 = 0) → E mX4_advance 0 0 0 [some (.ref 34), some (.ref pa), none, none] [] z I (fun r z' I' => E mX8_stepsTillStill mc ms 50 [some (.ref 1), some (.int x1)] (r.toList ++ []) z' I' Q))) :
    E mX8_stepsTillStill mc ms 36 [some (.ref 1), some (.int x1)] [.int y0] z I Q := by
  refine E_if_ne (pc := 36) (tgt := 56) ddX8_stepsTillStill_36 (by decide) (fun h => ?_) (fun h => ?_)
  · have k := k.1 h
    refine E_aload_n (pc := 56) (x := 1) ddX8_stepsTillStill_56 rfl rfl ?_
    refine E_getR (pc := 57) (x := 34) ddX8_stepsTillStill_57 ec_7 4 (Nat.le_of_ble_eq_true rfl) rfl w_2_12 hz.s0 hz.r4 (by decide) ?_
    refine E_getI (pc := 60) ddX8_stepsTillStill_60 ec_3 2 (Nat.le_of_ble_eq_true rfl) rfl w_1_119 hz.trial.s0 ?_
    refine E_if_ne (pc := 63) (tgt := 76) ddX8_stepsTillStill_63 (by decide) (fun h => ?_) (fun h => ?_)
    · have k := k.1 h
      refine E_iconst (pc := 76) (v := (-1)) ddX8_stepsTillStill_76 rfl ?_
      refine E_goto (pc := 77) (tgt := 81) ddX8_stepsTillStill_77 (by decide) ?_
      exact E_iret (pc := 81) ddX8_stepsTillStill_81 rfl k
    · have k := k.2 h
      refine E_aload_n (pc := 66) (x := 1) ddX8_stepsTillStill_66 rfl rfl ?_
      refine E_getR (pc := 67) (x := 34) ddX8_stepsTillStill_67 ec_7 4 (Nat.le_of_ble_eq_true rfl) rfl w_2_12 hz.s0 hz.r4 (by decide) ?_
      exact E_callV (pc := 70) (As := []) (st := []) (a := 34) ddX8_stepsTillStill_70 hX4_isStill ⟨(Nat.le_of_ble_eq_true rfl), (Nat.le_of_ble_eq_true rfl)⟩ w_2_159 (ci := 3) rfl rfl hz.trial.s0 rfl rfl (Nat.le_of_ble_eq_true rfl) e_cn (Nat.le_of_ble_eq_true rfl) (E.mono k fun _ _ _ q => E.forget q ⟨rfl, trivial⟩)
  · have k := k.2 h
    refine E_aload_n (pc := 39) (x := 1) ddX8_stepsTillStill_39 rfl rfl ?_
    refine E_getR (pc := 40) (x := 34) ddX8_stepsTillStill_40 ec_7 4 (Nat.le_of_ble_eq_true rfl) rfl w_2_12 hz.s0 hz.r4 (by decide) ?_
    refine E_aload_n (pc := 43) (x := 1) ddX8_stepsTillStill_43 rfl rfl ?_
    refine E_getR (pc := 44) (x := pa) ddX8_stepsTillStill_44 ec_7 1 (Nat.le_of_ble_eq_true rfl) rfl w_2_9 hz.s0 hz.r1 hz.npa ?_
    exact E_callV (pc := 47) (As := [.ref pa]) (st := []) (a := 34) ddX8_stepsTillStill_47 hX4_advance ⟨(Nat.le_of_ble_eq_true rfl), (Nat.le_of_ble_eq_true rfl)⟩ w_2_189 (ci := 3) rfl rfl hz.trial.s0 rfl rfl (Nat.le_of_ble_eq_true rfl) (e_cc rfl e_cn) (Nat.le_of_ble_eq_true rfl) k
set_option maxRecDepth 100000 in
set_option maxHeartbeats 4000000 in
theorem B_X8_stepsTillStill_50 {mc ms : Nat} {z : Zt} {I : It} {Q : Option Value → Zt → It → Prop} {x1 : Int32} {pa pb : Nat} (hz : isZ z pa pb)
    (k : E mX8_stepsTillStill mc ms 13 [some (.ref 1), some (.int (x1 + 1))] [] z I Q) :
    E mX8_stepsTillStill mc ms 50 [some (.ref 1), some (.int x1)] [] z I Q := by
  refine E_iinc (pc := 50) (v := (x1 + 1)) (ls' := [some (.ref 1), some (.int (x1 + 1))]) ddX8_stepsTillStill_50 rfl rfl (Nat.le_of_ble_eq_true rfl) rfl rfl ?_
  refine E_goto (pc := 53) (tgt := 13) ddX8_stepsTillStill_53 (by decide) ?_
  exact k
