/-! X4_copyFrom, labels [] -/
set_option maxRecDepth 100000 in
set_option maxHeartbeats 4000000 in
theorem B_X4_copyFrom_0 {mc ms : Nat} {z : Zt} {I : It} {Q : Option Value → Zt → It → Prop} {m m' : Nat} (hm : isM z m) (hm' : isM z m')
    (k : ∀ I1 : It, I1 = e_st I m 0 (I m' 0) → ∀ I2 : It, I2 = e_st I1 m 1 (I1 m' 1) → ((I2 m' 2) = 0 ∨ (I2 m' 2) = 1) ∧ ∀ I3 : It, I3 = e_st I2 m 2 (I2 m' 2) → ∀ I4 : It, I4 = e_st I3 m 3 (I3 m' 3) → ∀ I5 : It, I5 = e_st I4 m 14 (I4 m' 14) → ∀ I6 : It, I6 = e_cp I5 (m' + 1) (m + 1) 8 → ∀ I7 : It, I7 = e_cp I6 (m' + 2) (m + 2) 8 → ∀ I8 : It, I8 = e_cp I7 (m' + 3) (m + 3) 8 → ∀ I9 : It, I9 = e_cp I8 (m' + 4) (m + 4) 8 → ∀ I10 : It, I10 = e_cp I9 (m' + 5) (m + 5) 64 → ∀ I11 : It, I11 = e_cp I10 (m' + 6) (m + 6) 64 → ∀ I12 : It, I12 = e_cp I11 (m' + 7) (m + 7) 8 → ∀ I13 : It, I13 = e_cp I12 (m' + 8) (m + 8) 8 → ∀ I14 : It, I14 = e_cp I13 (m' + 9) (m + 9) 64 → ∀ I15 : It, I15 = e_cp I14 (m' + 10) (m + 10) 64 → ∀ I16 : It, I16 = e_cp I15 (m' + 11) (m + 11) 8 → ∀ I17 : It, I17 = e_cp I16 (m' + 12) (m + 12) 8 → ∀ I18 : It, I18 = e_cp I17 (m' + 13) (m + 13) 8 → Q none z I18) :
    E mX4_copyFrom mc ms 0 [some (.ref m), some (.ref m')] [] z I Q := by
  refine E_aload_n (pc := 0) (x := m) ddX4_copyFrom_0 rfl rfl ?_
  refine E_aload_n (pc := 1) (x := m') ddX4_copyFrom_1 rfl rfl ?_
  refine E_getI (pc := 2) ddX4_copyFrom_2 ec_3 0 (Nat.le_of_ble_eq_true rfl) rfl w_1_114 hm'.s0 ?_
  obtain ⟨I1, eI1⟩ : ∃ y : It, y = e_st I m 0 (I m' 0) := ⟨_, rfl⟩
  have k := k I1 eI1
  refine E_putI (pc := 5) ddX4_copyFrom_5 ec_3 0 (Nat.le_of_ble_eq_true rfl) rfl w_1_114 hm.s0 rfl rfl ?_
  rw [← eI1]
  refine E_aload_n (pc := 8) (x := m) ddX4_copyFrom_8 rfl rfl ?_
  refine E_aload_n (pc := 9) (x := m') ddX4_copyFrom_9 rfl rfl ?_
  refine E_getI (pc := 10) ddX4_copyFrom_10 ec_3 1 (Nat.le_of_ble_eq_true rfl) rfl w_1_116 hm'.s0 ?_
  obtain ⟨I2, eI2⟩ : ∃ y : It, y = e_st I1 m 1 (I1 m' 1) := ⟨_, rfl⟩
  have k := k I2 eI2
  refine E_putI (pc := 13) ddX4_copyFrom_13 ec_3 1 (Nat.le_of_ble_eq_true rfl) rfl w_1_116 hm.s0 rfl rfl ?_
  rw [← eI2]
  refine E_aload_n (pc := 16) (x := m) ddX4_copyFrom_16 rfl rfl ?_
  refine E_aload_n (pc := 17) (x := m') ddX4_copyFrom_17 rfl rfl ?_
  refine E_getI (pc := 18) ddX4_copyFrom_18 ec_3 2 (Nat.le_of_ble_eq_true rfl) rfl w_1_118 hm'.s0 ?_
  obtain ⟨kz, k⟩ := k
  obtain ⟨I3, eI3⟩ : ∃ y : It, y = e_st I2 m 2 (I2 m' 2) := ⟨_, rfl⟩
  have k := k I3 eI3
  refine E_putZ (pc := 21) ddX4_copyFrom_21 ec_3 2 (Nat.le_of_ble_eq_true rfl) rfl w_1_118 hm.s0 rfl rfl kz ?_
  rw [← eI3]
  refine E_aload_n (pc := 24) (x := m) ddX4_copyFrom_24 rfl rfl ?_
  refine E_aload_n (pc := 25) (x := m') ddX4_copyFrom_25 rfl rfl ?_
  refine E_getI (pc := 26) ddX4_copyFrom_26 ec_3 3 (Nat.le_of_ble_eq_true rfl) rfl w_1_120 hm'.s0 ?_
  obtain ⟨I4, eI4⟩ : ∃ y : It, y = e_st I3 m 3 (I3 m' 3) := ⟨_, rfl⟩
  have k := k I4 eI4
  refine E_putI (pc := 29) ddX4_copyFrom_29 ec_3 3 (Nat.le_of_ble_eq_true rfl) rfl w_1_120 hm.s0 rfl rfl ?_
  rw [← eI4]
  refine E_aload_n (pc := 32) (x := m) ddX4_copyFrom_32 rfl rfl ?_
  refine E_aload_n (pc := 33) (x := m') ddX4_copyFrom_33 rfl rfl ?_
  refine E_getI (pc := 34) ddX4_copyFrom_34 ec_3 14 (Nat.le_of_ble_eq_true rfl) rfl w_1_138 hm'.s0 ?_
  obtain ⟨I5, eI5⟩ : ∃ y : It, y = e_st I4 m 14 (I4 m' 14) := ⟨_, rfl⟩
  have k := k I5 eI5
  refine E_putI (pc := 37) ddX4_copyFrom_37 ec_3 14 (Nat.le_of_ble_eq_true rfl) rfl w_1_138 hm.s0 rfl rfl ?_
  rw [← eI5]
  refine E_aload_n (pc := 40) (x := m') ddX4_copyFrom_40 rfl rfl ?_
  refine E_getR (pc := 41) (x := (m' + 1)) ddX4_copyFrom_41 ec_3 4 (Nat.le_of_ble_eq_true rfl) rfl w_1_122 hm'.s0 hm'.r4 (Nat.succ_ne_zero _) ?_
  refine E_aload_n (pc := 44) (x := m) ddX4_copyFrom_44 rfl rfl ?_
  refine E_getR (pc := 45) (x := (m + 1)) ddX4_copyFrom_45 ec_3 4 (Nat.le_of_ble_eq_true rfl) rfl w_1_122 hm.s0 hm.r4 (Nat.succ_ne_zero _) ?_
  refine E_callS (pc := 48) (As := [.ref (m' + 1), .ref (m + 1)]) (st := []) ddX4_copyFrom_48 hX4_copyRow ⟨(Nat.le_of_ble_eq_true rfl), (Nat.le_of_ble_eq_true rfl)⟩ w_2_183 rfl rfl (Nat.le_of_ble_eq_true rfl) (e_cc rfl (e_cc rfl e_cn)) (Nat.le_of_ble_eq_true rfl) ?_
  refine (show E mX4_copyRow 0 0 0 [some (.ref (m' + 1)), some (.ref (m + 1))] [] z I5 _ from ?_)
  refine E_aload_n (pc := 0) (x := (m' + 1)) ddX4_copyRow_0 rfl rfl ?_
  refine E_iconst (pc := 1) (v := 0) ddX4_copyRow_1 rfl ?_
  refine E_aload_n (pc := 2) (x := (m + 1)) ddX4_copyRow_2 rfl rfl ?_
  refine E_iconst (pc := 3) (v := 0) ddX4_copyRow_3 rfl ?_
  refine E_aload_n (pc := 4) (x := (m' + 1)) ddX4_copyRow_4 rfl rfl ?_
  refine E_alen (pc := 5) (n := 8) ddX4_copyRow_5 hm'.s1 ?_
  refine E_aload_n (pc := 6) (x := (m + 1)) ddX4_copyRow_6 rfl rfl ?_
  refine E_alen (pc := 7) (n := 8) ddX4_copyRow_7 hm.s1 ?_
  refine E_mmin (pc := 8) ddX4_copyRow_8 w_2_168 w_2_169 w_1_11 w_2_170 (Nat.le_of_ble_eq_true rfl) (Nat.le_of_ble_eq_true rfl) ?_
  refine (show E mX4_copyRow 0 0 11 [some (.ref (m' + 1)), some (.ref (m + 1))] [.int 8, .int 0, .ref (m + 1), .int 0, .ref (m' + 1)] z I5 _ from ?_)
  obtain ⟨I6, eI6⟩ : ∃ y : It, y = e_cp I5 (m' + 1) (m + 1) 8 := ⟨_, rfl⟩
  have k := k I6 eI6
  refine E_copy (pc := 11) ddX4_copyRow_11 w_2_186 w_2_188 w_2_187 w_1_12 (Nat.le_of_ble_eq_true rfl) (by decide) hm'.s1 hm.s1 (Nat.succ_ne_zero _) (Nat.succ_ne_zero _) (by decide) (by decide) (by decide) ?_
  refine (show E mX4_copyRow 0 0 14 [some (.ref (m' + 1)), some (.ref (m + 1))] [] z (e_cp I5 (m' + 1) (m + 1) 8) _ from ?_)
  rw [← eI6]
  refine E_vret (pc := 14) ddX4_copyRow_14 rfl ?_
  refine (show E mX4_copyFrom mc ms 51 [some (.ref m), some (.ref m')] [] z I6 Q from ?_)
  refine E_aload_n (pc := 51) (x := m') ddX4_copyFrom_51 rfl rfl ?_
  refine E_getR (pc := 52) (x := (m' + 2)) ddX4_copyFrom_52 ec_3 5 (Nat.le_of_ble_eq_true rfl) rfl w_1_125 hm'.s0 hm'.r5 (Nat.succ_ne_zero _) ?_
  refine E_aload_n (pc := 55) (x := m) ddX4_copyFrom_55 rfl rfl ?_
  refine E_getR (pc := 56) (x := (m + 2)) ddX4_copyFrom_56 ec_3 5 (Nat.le_of_ble_eq_true rfl) rfl w_1_125 hm.s0 hm.r5 (Nat.succ_ne_zero _) ?_
  refine E_callS (pc := 59) (As := [.ref (m' + 2), .ref (m + 2)]) (st := []) ddX4_copyFrom_59 hX4_copyRow ⟨(Nat.le_of_ble_eq_true rfl), (Nat.le_of_ble_eq_true rfl)⟩ w_2_183 rfl rfl (Nat.le_of_ble_eq_true rfl) (e_cc rfl (e_cc rfl e_cn)) (Nat.le_of_ble_eq_true rfl) ?_
  refine (show E mX4_copyRow 0 0 0 [some (.ref (m' + 2)), some (.ref (m + 2))] [] z I6 _ from ?_)
  refine E_aload_n (pc := 0) (x := (m' + 2)) ddX4_copyRow_0 rfl rfl ?_
  refine E_iconst (pc := 1) (v := 0) ddX4_copyRow_1 rfl ?_
  refine E_aload_n (pc := 2) (x := (m + 2)) ddX4_copyRow_2 rfl rfl ?_
  refine E_iconst (pc := 3) (v := 0) ddX4_copyRow_3 rfl ?_
  refine E_aload_n (pc := 4) (x := (m' + 2)) ddX4_copyRow_4 rfl rfl ?_
  refine E_alen (pc := 5) (n := 8) ddX4_copyRow_5 hm'.s2 ?_
  refine E_aload_n (pc := 6) (x := (m + 2)) ddX4_copyRow_6 rfl rfl ?_
  refine E_alen (pc := 7) (n := 8) ddX4_copyRow_7 hm.s2 ?_
  refine E_mmin (pc := 8) ddX4_copyRow_8 w_2_168 w_2_169 w_1_11 w_2_170 (Nat.le_of_ble_eq_true rfl) (Nat.le_of_ble_eq_true rfl) ?_
  refine (show E mX4_copyRow 0 0 11 [some (.ref (m' + 2)), some (.ref (m + 2))] [.int 8, .int 0, .ref (m + 2), .int 0, .ref (m' + 2)] z I6 _ from ?_)
  obtain ⟨I7, eI7⟩ : ∃ y : It, y = e_cp I6 (m' + 2) (m + 2) 8 := ⟨_, rfl⟩
  have k := k I7 eI7
  refine E_copy (pc := 11) ddX4_copyRow_11 w_2_186 w_2_188 w_2_187 w_1_12 (Nat.le_of_ble_eq_true rfl) (by decide) hm'.s2 hm.s2 (Nat.succ_ne_zero _) (Nat.succ_ne_zero _) (by decide) (by decide) (by decide) ?_
  refine (show E mX4_copyRow 0 0 14 [some (.ref (m' + 2)), some (.ref (m + 2))] [] z (e_cp I6 (m' + 2) (m + 2) 8) _ from ?_)
  rw [← eI7]
  refine E_vret (pc := 14) ddX4_copyRow_14 rfl ?_
  refine (show E mX4_copyFrom mc ms 62 [some (.ref m), some (.ref m')] [] z I7 Q from ?_)
  refine E_aload_n (pc := 62) (x := m') ddX4_copyFrom_62 rfl rfl ?_
  refine E_getR (pc := 63) (x := (m' + 3)) ddX4_copyFrom_63 ec_3 6 (Nat.le_of_ble_eq_true rfl) rfl w_1_127 hm'.s0 hm'.r6 (Nat.succ_ne_zero _) ?_
  refine E_aload_n (pc := 66) (x := m) ddX4_copyFrom_66 rfl rfl ?_
  refine E_getR (pc := 67) (x := (m + 3)) ddX4_copyFrom_67 ec_3 6 (Nat.le_of_ble_eq_true rfl) rfl w_1_127 hm.s0 hm.r6 (Nat.succ_ne_zero _) ?_
  refine E_callS (pc := 70) (As := [.ref (m' + 3), .ref (m + 3)]) (st := []) ddX4_copyFrom_70 hX4_copyRow ⟨(Nat.le_of_ble_eq_true rfl), (Nat.le_of_ble_eq_true rfl)⟩ w_2_183 rfl rfl (Nat.le_of_ble_eq_true rfl) (e_cc rfl (e_cc rfl e_cn)) (Nat.le_of_ble_eq_true rfl) ?_
  refine (show E mX4_copyRow 0 0 0 [some (.ref (m' + 3)), some (.ref (m + 3))] [] z I7 _ from ?_)
  refine E_aload_n (pc := 0) (x := (m' + 3)) ddX4_copyRow_0 rfl rfl ?_
  refine E_iconst (pc := 1) (v := 0) ddX4_copyRow_1 rfl ?_
  refine E_aload_n (pc := 2) (x := (m + 3)) ddX4_copyRow_2 rfl rfl ?_
  refine E_iconst (pc := 3) (v := 0) ddX4_copyRow_3 rfl ?_
  refine E_aload_n (pc := 4) (x := (m' + 3)) ddX4_copyRow_4 rfl rfl ?_
  refine E_alen (pc := 5) (n := 8) ddX4_copyRow_5 hm'.s3 ?_
  refine E_aload_n (pc := 6) (x := (m + 3)) ddX4_copyRow_6 rfl rfl ?_
  refine E_alen (pc := 7) (n := 8) ddX4_copyRow_7 hm.s3 ?_
  refine E_mmin (pc := 8) ddX4_copyRow_8 w_2_168 w_2_169 w_1_11 w_2_170 (Nat.le_of_ble_eq_true rfl) (Nat.le_of_ble_eq_true rfl) ?_
  refine (show E mX4_copyRow 0 0 11 [some (.ref (m' + 3)), some (.ref (m + 3))] [.int 8, .int 0, .ref (m + 3), .int 0, .ref (m' + 3)] z I7 _ from ?_)
  obtain ⟨I8, eI8⟩ : ∃ y : It, y = e_cp I7 (m' + 3) (m + 3) 8 := ⟨_, rfl⟩
  have k := k I8 eI8
  refine E_copy (pc := 11) ddX4_copyRow_11 w_2_186 w_2_188 w_2_187 w_1_12 (Nat.le_of_ble_eq_true rfl) (by decide) hm'.s3 hm.s3 (Nat.succ_ne_zero _) (Nat.succ_ne_zero _) (by decide) (by decide) (by decide) ?_
  refine (show E mX4_copyRow 0 0 14 [some (.ref (m' + 3)), some (.ref (m + 3))] [] z (e_cp I7 (m' + 3) (m + 3) 8) _ from ?_)
  rw [← eI8]
  refine E_vret (pc := 14) ddX4_copyRow_14 rfl ?_
  refine (show E mX4_copyFrom mc ms 73 [some (.ref m), some (.ref m')] [] z I8 Q from ?_)
  refine E_aload_n (pc := 73) (x := m') ddX4_copyFrom_73 rfl rfl ?_
  refine E_getR (pc := 74) (x := (m' + 4)) ddX4_copyFrom_74 ec_3 7 (Nat.le_of_ble_eq_true rfl) rfl w_1_129 hm'.s0 hm'.r7 (Nat.succ_ne_zero _) ?_
  refine E_aload_n (pc := 77) (x := m) ddX4_copyFrom_77 rfl rfl ?_
  refine E_getR (pc := 78) (x := (m + 4)) ddX4_copyFrom_78 ec_3 7 (Nat.le_of_ble_eq_true rfl) rfl w_1_129 hm.s0 hm.r7 (Nat.succ_ne_zero _) ?_
  refine E_callS (pc := 81) (As := [.ref (m' + 4), .ref (m + 4)]) (st := []) ddX4_copyFrom_81 hX4_copyRow ⟨(Nat.le_of_ble_eq_true rfl), (Nat.le_of_ble_eq_true rfl)⟩ w_2_183 rfl rfl (Nat.le_of_ble_eq_true rfl) (e_cc rfl (e_cc rfl e_cn)) (Nat.le_of_ble_eq_true rfl) ?_
  refine (show E mX4_copyRow 0 0 0 [some (.ref (m' + 4)), some (.ref (m + 4))] [] z I8 _ from ?_)
  refine E_aload_n (pc := 0) (x := (m' + 4)) ddX4_copyRow_0 rfl rfl ?_
  refine E_iconst (pc := 1) (v := 0) ddX4_copyRow_1 rfl ?_
  refine E_aload_n (pc := 2) (x := (m + 4)) ddX4_copyRow_2 rfl rfl ?_
  refine E_iconst (pc := 3) (v := 0) ddX4_copyRow_3 rfl ?_
  refine E_aload_n (pc := 4) (x := (m' + 4)) ddX4_copyRow_4 rfl rfl ?_
  refine E_alen (pc := 5) (n := 8) ddX4_copyRow_5 hm'.s4 ?_
  refine E_aload_n (pc := 6) (x := (m + 4)) ddX4_copyRow_6 rfl rfl ?_
  refine E_alen (pc := 7) (n := 8) ddX4_copyRow_7 hm.s4 ?_
  refine E_mmin (pc := 8) ddX4_copyRow_8 w_2_168 w_2_169 w_1_11 w_2_170 (Nat.le_of_ble_eq_true rfl) (Nat.le_of_ble_eq_true rfl) ?_
  refine (show E mX4_copyRow 0 0 11 [some (.ref (m' + 4)), some (.ref (m + 4))] [.int 8, .int 0, .ref (m + 4), .int 0, .ref (m' + 4)] z I8 _ from ?_)
  obtain ⟨I9, eI9⟩ : ∃ y : It, y = e_cp I8 (m' + 4) (m + 4) 8 := ⟨_, rfl⟩
  have k := k I9 eI9
  refine E_copy (pc := 11) ddX4_copyRow_11 w_2_186 w_2_188 w_2_187 w_1_12 (Nat.le_of_ble_eq_true rfl) (by decide) hm'.s4 hm.s4 (Nat.succ_ne_zero _) (Nat.succ_ne_zero _) (by decide) (by decide) (by decide) ?_
  refine (show E mX4_copyRow 0 0 14 [some (.ref (m' + 4)), some (.ref (m + 4))] [] z (e_cp I8 (m' + 4) (m + 4) 8) _ from ?_)
  rw [← eI9]
  refine E_vret (pc := 14) ddX4_copyRow_14 rfl ?_
  refine (show E mX4_copyFrom mc ms 84 [some (.ref m), some (.ref m')] [] z I9 Q from ?_)
  refine E_aload_n (pc := 84) (x := m') ddX4_copyFrom_84 rfl rfl ?_
  refine E_getR (pc := 85) (x := (m' + 5)) ddX4_copyFrom_85 ec_3 8 (Nat.le_of_ble_eq_true rfl) rfl w_1_130 hm'.s0 hm'.r8 (Nat.succ_ne_zero _) ?_
  refine E_aload_n (pc := 88) (x := m) ddX4_copyFrom_88 rfl rfl ?_
  refine E_getR (pc := 89) (x := (m + 5)) ddX4_copyFrom_89 ec_3 8 (Nat.le_of_ble_eq_true rfl) rfl w_1_130 hm.s0 hm.r8 (Nat.succ_ne_zero _) ?_
  refine E_callS (pc := 92) (As := [.ref (m' + 5), .ref (m + 5)]) (st := []) ddX4_copyFrom_92 hX4_copyRow ⟨(Nat.le_of_ble_eq_true rfl), (Nat.le_of_ble_eq_true rfl)⟩ w_2_183 rfl rfl (Nat.le_of_ble_eq_true rfl) (e_cc rfl (e_cc rfl e_cn)) (Nat.le_of_ble_eq_true rfl) ?_
  refine (show E mX4_copyRow 0 0 0 [some (.ref (m' + 5)), some (.ref (m + 5))] [] z I9 _ from ?_)
  refine E_aload_n (pc := 0) (x := (m' + 5)) ddX4_copyRow_0 rfl rfl ?_
  refine E_iconst (pc := 1) (v := 0) ddX4_copyRow_1 rfl ?_
  refine E_aload_n (pc := 2) (x := (m + 5)) ddX4_copyRow_2 rfl rfl ?_
  refine E_iconst (pc := 3) (v := 0) ddX4_copyRow_3 rfl ?_
  refine E_aload_n (pc := 4) (x := (m' + 5)) ddX4_copyRow_4 rfl rfl ?_
  refine E_alen (pc := 5) (n := 64) ddX4_copyRow_5 hm'.s5 ?_
  refine E_aload_n (pc := 6) (x := (m + 5)) ddX4_copyRow_6 rfl rfl ?_
  refine E_alen (pc := 7) (n := 64) ddX4_copyRow_7 hm.s5 ?_
  refine E_mmin (pc := 8) ddX4_copyRow_8 w_2_168 w_2_169 w_1_11 w_2_170 (Nat.le_of_ble_eq_true rfl) (Nat.le_of_ble_eq_true rfl) ?_
  refine (show E mX4_copyRow 0 0 11 [some (.ref (m' + 5)), some (.ref (m + 5))] [.int 64, .int 0, .ref (m + 5), .int 0, .ref (m' + 5)] z I9 _ from ?_)
  obtain ⟨I10, eI10⟩ : ∃ y : It, y = e_cp I9 (m' + 5) (m + 5) 64 := ⟨_, rfl⟩
  have k := k I10 eI10
  refine E_copy (pc := 11) ddX4_copyRow_11 w_2_186 w_2_188 w_2_187 w_1_12 (Nat.le_of_ble_eq_true rfl) (by decide) hm'.s5 hm.s5 (Nat.succ_ne_zero _) (Nat.succ_ne_zero _) (by decide) (by decide) (by decide) ?_
  refine (show E mX4_copyRow 0 0 14 [some (.ref (m' + 5)), some (.ref (m + 5))] [] z (e_cp I9 (m' + 5) (m + 5) 64) _ from ?_)
  rw [← eI10]
  refine E_vret (pc := 14) ddX4_copyRow_14 rfl ?_
  refine (show E mX4_copyFrom mc ms 95 [some (.ref m), some (.ref m')] [] z I10 Q from ?_)
  refine E_aload_n (pc := 95) (x := m') ddX4_copyFrom_95 rfl rfl ?_
  refine E_getR (pc := 96) (x := (m' + 6)) ddX4_copyFrom_96 ec_3 9 (Nat.le_of_ble_eq_true rfl) rfl w_1_131 hm'.s0 hm'.r9 (Nat.succ_ne_zero _) ?_
  refine E_aload_n (pc := 99) (x := m) ddX4_copyFrom_99 rfl rfl ?_
  refine E_getR (pc := 100) (x := (m + 6)) ddX4_copyFrom_100 ec_3 9 (Nat.le_of_ble_eq_true rfl) rfl w_1_131 hm.s0 hm.r9 (Nat.succ_ne_zero _) ?_
  refine E_callS (pc := 103) (As := [.ref (m' + 6), .ref (m + 6)]) (st := []) ddX4_copyFrom_103 hX4_copyRow ⟨(Nat.le_of_ble_eq_true rfl), (Nat.le_of_ble_eq_true rfl)⟩ w_2_183 rfl rfl (Nat.le_of_ble_eq_true rfl) (e_cc rfl (e_cc rfl e_cn)) (Nat.le_of_ble_eq_true rfl) ?_
  refine (show E mX4_copyRow 0 0 0 [some (.ref (m' + 6)), some (.ref (m + 6))] [] z I10 _ from ?_)
  refine E_aload_n (pc := 0) (x := (m' + 6)) ddX4_copyRow_0 rfl rfl ?_
  refine E_iconst (pc := 1) (v := 0) ddX4_copyRow_1 rfl ?_
  refine E_aload_n (pc := 2) (x := (m + 6)) ddX4_copyRow_2 rfl rfl ?_
  refine E_iconst (pc := 3) (v := 0) ddX4_copyRow_3 rfl ?_
  refine E_aload_n (pc := 4) (x := (m' + 6)) ddX4_copyRow_4 rfl rfl ?_
  refine E_alen (pc := 5) (n := 64) ddX4_copyRow_5 hm'.s6 ?_
  refine E_aload_n (pc := 6) (x := (m + 6)) ddX4_copyRow_6 rfl rfl ?_
  refine E_alen (pc := 7) (n := 64) ddX4_copyRow_7 hm.s6 ?_
  refine E_mmin (pc := 8) ddX4_copyRow_8 w_2_168 w_2_169 w_1_11 w_2_170 (Nat.le_of_ble_eq_true rfl) (Nat.le_of_ble_eq_true rfl) ?_
  refine (show E mX4_copyRow 0 0 11 [some (.ref (m' + 6)), some (.ref (m + 6))] [.int 64, .int 0, .ref (m + 6), .int 0, .ref (m' + 6)] z I10 _ from ?_)
  obtain ⟨I11, eI11⟩ : ∃ y : It, y = e_cp I10 (m' + 6) (m + 6) 64 := ⟨_, rfl⟩
  have k := k I11 eI11
  refine E_copy (pc := 11) ddX4_copyRow_11 w_2_186 w_2_188 w_2_187 w_1_12 (Nat.le_of_ble_eq_true rfl) (by decide) hm'.s6 hm.s6 (Nat.succ_ne_zero _) (Nat.succ_ne_zero _) (by decide) (by decide) (by decide) ?_
  refine (show E mX4_copyRow 0 0 14 [some (.ref (m' + 6)), some (.ref (m + 6))] [] z (e_cp I10 (m' + 6) (m + 6) 64) _ from ?_)
  rw [← eI11]
  refine E_vret (pc := 14) ddX4_copyRow_14 rfl ?_
  refine (show E mX4_copyFrom mc ms 106 [some (.ref m), some (.ref m')] [] z I11 Q from ?_)
  refine E_aload_n (pc := 106) (x := m') ddX4_copyFrom_106 rfl rfl ?_
  refine E_getR (pc := 107) (x := (m' + 7)) ddX4_copyFrom_107 ec_3 10 (Nat.le_of_ble_eq_true rfl) rfl w_1_132 hm'.s0 hm'.r10 (Nat.succ_ne_zero _) ?_
  refine E_aload_n (pc := 110) (x := m) ddX4_copyFrom_110 rfl rfl ?_
  refine E_getR (pc := 111) (x := (m + 7)) ddX4_copyFrom_111 ec_3 10 (Nat.le_of_ble_eq_true rfl) rfl w_1_132 hm.s0 hm.r10 (Nat.succ_ne_zero _) ?_
  refine E_callS (pc := 114) (As := [.ref (m' + 7), .ref (m + 7)]) (st := []) ddX4_copyFrom_114 hX4_copyRow ⟨(Nat.le_of_ble_eq_true rfl), (Nat.le_of_ble_eq_true rfl)⟩ w_2_183 rfl rfl (Nat.le_of_ble_eq_true rfl) (e_cc rfl (e_cc rfl e_cn)) (Nat.le_of_ble_eq_true rfl) ?_
  refine (show E mX4_copyRow 0 0 0 [some (.ref (m' + 7)), some (.ref (m + 7))] [] z I11 _ from ?_)
  refine E_aload_n (pc := 0) (x := (m' + 7)) ddX4_copyRow_0 rfl rfl ?_
  refine E_iconst (pc := 1) (v := 0) ddX4_copyRow_1 rfl ?_
  refine E_aload_n (pc := 2) (x := (m + 7)) ddX4_copyRow_2 rfl rfl ?_
  refine E_iconst (pc := 3) (v := 0) ddX4_copyRow_3 rfl ?_
  refine E_aload_n (pc := 4) (x := (m' + 7)) ddX4_copyRow_4 rfl rfl ?_
  refine E_alen (pc := 5) (n := 8) ddX4_copyRow_5 hm'.s7 ?_
  refine E_aload_n (pc := 6) (x := (m + 7)) ddX4_copyRow_6 rfl rfl ?_
  refine E_alen (pc := 7) (n := 8) ddX4_copyRow_7 hm.s7 ?_
  refine E_mmin (pc := 8) ddX4_copyRow_8 w_2_168 w_2_169 w_1_11 w_2_170 (Nat.le_of_ble_eq_true rfl) (Nat.le_of_ble_eq_true rfl) ?_
  refine (show E mX4_copyRow 0 0 11 [some (.ref (m' + 7)), some (.ref (m + 7))] [.int 8, .int 0, .ref (m + 7), .int 0, .ref (m' + 7)] z I11 _ from ?_)
  obtain ⟨I12, eI12⟩ : ∃ y : It, y = e_cp I11 (m' + 7) (m + 7) 8 := ⟨_, rfl⟩
  have k := k I12 eI12
  refine E_copy (pc := 11) ddX4_copyRow_11 w_2_186 w_2_188 w_2_187 w_1_12 (Nat.le_of_ble_eq_true rfl) (by decide) hm'.s7 hm.s7 (Nat.succ_ne_zero _) (Nat.succ_ne_zero _) (by decide) (by decide) (by decide) ?_
  refine (show E mX4_copyRow 0 0 14 [some (.ref (m' + 7)), some (.ref (m + 7))] [] z (e_cp I11 (m' + 7) (m + 7) 8) _ from ?_)
  rw [← eI12]
  refine E_vret (pc := 14) ddX4_copyRow_14 rfl ?_
  refine (show E mX4_copyFrom mc ms 117 [some (.ref m), some (.ref m')] [] z I12 Q from ?_)
  refine E_aload_n (pc := 117) (x := m') ddX4_copyFrom_117 rfl rfl ?_
  refine E_getR (pc := 118) (x := (m' + 8)) ddX4_copyFrom_118 ec_3 11 (Nat.le_of_ble_eq_true rfl) rfl w_1_134 hm'.s0 hm'.r11 (Nat.succ_ne_zero _) ?_
  refine E_aload_n (pc := 121) (x := m) ddX4_copyFrom_121 rfl rfl ?_
  refine E_getR (pc := 122) (x := (m + 8)) ddX4_copyFrom_122 ec_3 11 (Nat.le_of_ble_eq_true rfl) rfl w_1_134 hm.s0 hm.r11 (Nat.succ_ne_zero _) ?_
  refine E_callS (pc := 125) (As := [.ref (m' + 8), .ref (m + 8)]) (st := []) ddX4_copyFrom_125 hX4_copyRow ⟨(Nat.le_of_ble_eq_true rfl), (Nat.le_of_ble_eq_true rfl)⟩ w_2_183 rfl rfl (Nat.le_of_ble_eq_true rfl) (e_cc rfl (e_cc rfl e_cn)) (Nat.le_of_ble_eq_true rfl) ?_
  refine (show E mX4_copyRow 0 0 0 [some (.ref (m' + 8)), some (.ref (m + 8))] [] z I12 _ from ?_)
  refine E_aload_n (pc := 0) (x := (m' + 8)) ddX4_copyRow_0 rfl rfl ?_
  refine E_iconst (pc := 1) (v := 0) ddX4_copyRow_1 rfl ?_
  refine E_aload_n (pc := 2) (x := (m + 8)) ddX4_copyRow_2 rfl rfl ?_
  refine E_iconst (pc := 3) (v := 0) ddX4_copyRow_3 rfl ?_
  refine E_aload_n (pc := 4) (x := (m' + 8)) ddX4_copyRow_4 rfl rfl ?_
  refine E_alen (pc := 5) (n := 8) ddX4_copyRow_5 hm'.s8 ?_
  refine E_aload_n (pc := 6) (x := (m + 8)) ddX4_copyRow_6 rfl rfl ?_
  refine E_alen (pc := 7) (n := 8) ddX4_copyRow_7 hm.s8 ?_
  refine E_mmin (pc := 8) ddX4_copyRow_8 w_2_168 w_2_169 w_1_11 w_2_170 (Nat.le_of_ble_eq_true rfl) (Nat.le_of_ble_eq_true rfl) ?_
  refine (show E mX4_copyRow 0 0 11 [some (.ref (m' + 8)), some (.ref (m + 8))] [.int 8, .int 0, .ref (m + 8), .int 0, .ref (m' + 8)] z I12 _ from ?_)
  obtain ⟨I13, eI13⟩ : ∃ y : It, y = e_cp I12 (m' + 8) (m + 8) 8 := ⟨_, rfl⟩
  have k := k I13 eI13
  refine E_copy (pc := 11) ddX4_copyRow_11 w_2_186 w_2_188 w_2_187 w_1_12 (Nat.le_of_ble_eq_true rfl) (by decide) hm'.s8 hm.s8 (Nat.succ_ne_zero _) (Nat.succ_ne_zero _) (by decide) (by decide) (by decide) ?_
  refine (show E mX4_copyRow 0 0 14 [some (.ref (m' + 8)), some (.ref (m + 8))] [] z (e_cp I12 (m' + 8) (m + 8) 8) _ from ?_)
  rw [← eI13]
  refine E_vret (pc := 14) ddX4_copyRow_14 rfl ?_
  refine (show E mX4_copyFrom mc ms 128 [some (.ref m), some (.ref m')] [] z I13 Q from ?_)
  refine E_aload_n (pc := 128) (x := m') ddX4_copyFrom_128 rfl rfl ?_
  refine E_getR (pc := 129) (x := (m' + 9)) ddX4_copyFrom_129 ec_3 12 (Nat.le_of_ble_eq_true rfl) rfl w_1_136 hm'.s0 hm'.r12 (Nat.succ_ne_zero _) ?_
  refine E_aload_n (pc := 132) (x := m) ddX4_copyFrom_132 rfl rfl ?_
  refine E_getR (pc := 133) (x := (m + 9)) ddX4_copyFrom_133 ec_3 12 (Nat.le_of_ble_eq_true rfl) rfl w_1_136 hm.s0 hm.r12 (Nat.succ_ne_zero _) ?_
  refine E_callS (pc := 136) (As := [.ref (m' + 9), .ref (m + 9)]) (st := []) ddX4_copyFrom_136 hX4_copyRow ⟨(Nat.le_of_ble_eq_true rfl), (Nat.le_of_ble_eq_true rfl)⟩ w_2_183 rfl rfl (Nat.le_of_ble_eq_true rfl) (e_cc rfl (e_cc rfl e_cn)) (Nat.le_of_ble_eq_true rfl) ?_
  refine (show E mX4_copyRow 0 0 0 [some (.ref (m' + 9)), some (.ref (m + 9))] [] z I13 _ from ?_)
  refine E_aload_n (pc := 0) (x := (m' + 9)) ddX4_copyRow_0 rfl rfl ?_
  refine E_iconst (pc := 1) (v := 0) ddX4_copyRow_1 rfl ?_
  refine E_aload_n (pc := 2) (x := (m + 9)) ddX4_copyRow_2 rfl rfl ?_
  refine E_iconst (pc := 3) (v := 0) ddX4_copyRow_3 rfl ?_
  refine E_aload_n (pc := 4) (x := (m' + 9)) ddX4_copyRow_4 rfl rfl ?_
  refine E_alen (pc := 5) (n := 64) ddX4_copyRow_5 hm'.s9 ?_
  refine E_aload_n (pc := 6) (x := (m + 9)) ddX4_copyRow_6 rfl rfl ?_
  refine E_alen (pc := 7) (n := 64) ddX4_copyRow_7 hm.s9 ?_
  refine E_mmin (pc := 8) ddX4_copyRow_8 w_2_168 w_2_169 w_1_11 w_2_170 (Nat.le_of_ble_eq_true rfl) (Nat.le_of_ble_eq_true rfl) ?_
  refine (show E mX4_copyRow 0 0 11 [some (.ref (m' + 9)), some (.ref (m + 9))] [.int 64, .int 0, .ref (m + 9), .int 0, .ref (m' + 9)] z I13 _ from ?_)
  obtain ⟨I14, eI14⟩ : ∃ y : It, y = e_cp I13 (m' + 9) (m + 9) 64 := ⟨_, rfl⟩
  have k := k I14 eI14
  refine E_copy (pc := 11) ddX4_copyRow_11 w_2_186 w_2_188 w_2_187 w_1_12 (Nat.le_of_ble_eq_true rfl) (by decide) hm'.s9 hm.s9 (Nat.succ_ne_zero _) (Nat.succ_ne_zero _) (by decide) (by decide) (by decide) ?_
  refine (show E mX4_copyRow 0 0 14 [some (.ref (m' + 9)), some (.ref (m + 9))] [] z (e_cp I13 (m' + 9) (m + 9) 64) _ from ?_)
  rw [← eI14]
  refine E_vret (pc := 14) ddX4_copyRow_14 rfl ?_
  refine (show E mX4_copyFrom mc ms 139 [some (.ref m), some (.ref m')] [] z I14 Q from ?_)
  refine E_aload_n (pc := 139) (x := m') ddX4_copyFrom_139 rfl rfl ?_
  refine E_getR (pc := 140) (x := (m' + 10)) ddX4_copyFrom_140 ec_3 13 (Nat.le_of_ble_eq_true rfl) rfl w_1_137 hm'.s0 hm'.r13 (Nat.succ_ne_zero _) ?_
  refine E_aload_n (pc := 143) (x := m) ddX4_copyFrom_143 rfl rfl ?_
  refine E_getR (pc := 144) (x := (m + 10)) ddX4_copyFrom_144 ec_3 13 (Nat.le_of_ble_eq_true rfl) rfl w_1_137 hm.s0 hm.r13 (Nat.succ_ne_zero _) ?_
  refine E_callS (pc := 147) (As := [.ref (m' + 10), .ref (m + 10)]) (st := []) ddX4_copyFrom_147 hX4_copyRow ⟨(Nat.le_of_ble_eq_true rfl), (Nat.le_of_ble_eq_true rfl)⟩ w_2_183 rfl rfl (Nat.le_of_ble_eq_true rfl) (e_cc rfl (e_cc rfl e_cn)) (Nat.le_of_ble_eq_true rfl) ?_
  refine (show E mX4_copyRow 0 0 0 [some (.ref (m' + 10)), some (.ref (m + 10))] [] z I14 _ from ?_)
  refine E_aload_n (pc := 0) (x := (m' + 10)) ddX4_copyRow_0 rfl rfl ?_
  refine E_iconst (pc := 1) (v := 0) ddX4_copyRow_1 rfl ?_
  refine E_aload_n (pc := 2) (x := (m + 10)) ddX4_copyRow_2 rfl rfl ?_
  refine E_iconst (pc := 3) (v := 0) ddX4_copyRow_3 rfl ?_
  refine E_aload_n (pc := 4) (x := (m' + 10)) ddX4_copyRow_4 rfl rfl ?_
  refine E_alen (pc := 5) (n := 64) ddX4_copyRow_5 hm'.s10 ?_
  refine E_aload_n (pc := 6) (x := (m + 10)) ddX4_copyRow_6 rfl rfl ?_
  refine E_alen (pc := 7) (n := 64) ddX4_copyRow_7 hm.s10 ?_
  refine E_mmin (pc := 8) ddX4_copyRow_8 w_2_168 w_2_169 w_1_11 w_2_170 (Nat.le_of_ble_eq_true rfl) (Nat.le_of_ble_eq_true rfl) ?_
  refine (show E mX4_copyRow 0 0 11 [some (.ref (m' + 10)), some (.ref (m + 10))] [.int 64, .int 0, .ref (m + 10), .int 0, .ref (m' + 10)] z I14 _ from ?_)
  obtain ⟨I15, eI15⟩ : ∃ y : It, y = e_cp I14 (m' + 10) (m + 10) 64 := ⟨_, rfl⟩
  have k := k I15 eI15
  refine E_copy (pc := 11) ddX4_copyRow_11 w_2_186 w_2_188 w_2_187 w_1_12 (Nat.le_of_ble_eq_true rfl) (by decide) hm'.s10 hm.s10 (Nat.succ_ne_zero _) (Nat.succ_ne_zero _) (by decide) (by decide) (by decide) ?_
  refine (show E mX4_copyRow 0 0 14 [some (.ref (m' + 10)), some (.ref (m + 10))] [] z (e_cp I14 (m' + 10) (m + 10) 64) _ from ?_)
  rw [← eI15]
  refine E_vret (pc := 14) ddX4_copyRow_14 rfl ?_
  refine (show E mX4_copyFrom mc ms 150 [some (.ref m), some (.ref m')] [] z I15 Q from ?_)
  refine E_aload_n (pc := 150) (x := m') ddX4_copyFrom_150 rfl rfl ?_
  refine E_getR (pc := 151) (x := (m' + 11)) ddX4_copyFrom_151 ec_3 15 (Nat.le_of_ble_eq_true rfl) rfl w_1_140 hm'.s0 hm'.r15 (Nat.succ_ne_zero _) ?_
  refine E_aload_n (pc := 154) (x := m) ddX4_copyFrom_154 rfl rfl ?_
  refine E_getR (pc := 155) (x := (m + 11)) ddX4_copyFrom_155 ec_3 15 (Nat.le_of_ble_eq_true rfl) rfl w_1_140 hm.s0 hm.r15 (Nat.succ_ne_zero _) ?_
  refine E_callS (pc := 158) (As := [.ref (m' + 11), .ref (m + 11)]) (st := []) ddX4_copyFrom_158 hX4_copyRow ⟨(Nat.le_of_ble_eq_true rfl), (Nat.le_of_ble_eq_true rfl)⟩ w_2_183 rfl rfl (Nat.le_of_ble_eq_true rfl) (e_cc rfl (e_cc rfl e_cn)) (Nat.le_of_ble_eq_true rfl) ?_
  refine (show E mX4_copyRow 0 0 0 [some (.ref (m' + 11)), some (.ref (m + 11))] [] z I15 _ from ?_)
  refine E_aload_n (pc := 0) (x := (m' + 11)) ddX4_copyRow_0 rfl rfl ?_
  refine E_iconst (pc := 1) (v := 0) ddX4_copyRow_1 rfl ?_
  refine E_aload_n (pc := 2) (x := (m + 11)) ddX4_copyRow_2 rfl rfl ?_
  refine E_iconst (pc := 3) (v := 0) ddX4_copyRow_3 rfl ?_
  refine E_aload_n (pc := 4) (x := (m' + 11)) ddX4_copyRow_4 rfl rfl ?_
  refine E_alen (pc := 5) (n := 8) ddX4_copyRow_5 hm'.s11 ?_
  refine E_aload_n (pc := 6) (x := (m + 11)) ddX4_copyRow_6 rfl rfl ?_
  refine E_alen (pc := 7) (n := 8) ddX4_copyRow_7 hm.s11 ?_
  refine E_mmin (pc := 8) ddX4_copyRow_8 w_2_168 w_2_169 w_1_11 w_2_170 (Nat.le_of_ble_eq_true rfl) (Nat.le_of_ble_eq_true rfl) ?_
  refine (show E mX4_copyRow 0 0 11 [some (.ref (m' + 11)), some (.ref (m + 11))] [.int 8, .int 0, .ref (m + 11), .int 0, .ref (m' + 11)] z I15 _ from ?_)
  obtain ⟨I16, eI16⟩ : ∃ y : It, y = e_cp I15 (m' + 11) (m + 11) 8 := ⟨_, rfl⟩
  have k := k I16 eI16
  refine E_copy (pc := 11) ddX4_copyRow_11 w_2_186 w_2_188 w_2_187 w_1_12 (Nat.le_of_ble_eq_true rfl) (by decide) hm'.s11 hm.s11 (Nat.succ_ne_zero _) (Nat.succ_ne_zero _) (by decide) (by decide) (by decide) ?_
  refine (show E mX4_copyRow 0 0 14 [some (.ref (m' + 11)), some (.ref (m + 11))] [] z (e_cp I15 (m' + 11) (m + 11) 8) _ from ?_)
  rw [← eI16]
  refine E_vret (pc := 14) ddX4_copyRow_14 rfl ?_
  refine (show E mX4_copyFrom mc ms 161 [some (.ref m), some (.ref m')] [] z I16 Q from ?_)
  refine E_aload_n (pc := 161) (x := m') ddX4_copyFrom_161 rfl rfl ?_
  refine E_getR (pc := 162) (x := (m' + 12)) ddX4_copyFrom_162 ec_3 16 (Nat.le_of_ble_eq_true rfl) rfl w_1_141 hm'.s0 hm'.r16 (Nat.succ_ne_zero _) ?_
  refine E_aload_n (pc := 165) (x := m) ddX4_copyFrom_165 rfl rfl ?_
  refine E_getR (pc := 166) (x := (m + 12)) ddX4_copyFrom_166 ec_3 16 (Nat.le_of_ble_eq_true rfl) rfl w_1_141 hm.s0 hm.r16 (Nat.succ_ne_zero _) ?_
  refine E_callS (pc := 169) (As := [.ref (m' + 12), .ref (m + 12)]) (st := []) ddX4_copyFrom_169 hX4_copyRow ⟨(Nat.le_of_ble_eq_true rfl), (Nat.le_of_ble_eq_true rfl)⟩ w_2_183 rfl rfl (Nat.le_of_ble_eq_true rfl) (e_cc rfl (e_cc rfl e_cn)) (Nat.le_of_ble_eq_true rfl) ?_
  refine (show E mX4_copyRow 0 0 0 [some (.ref (m' + 12)), some (.ref (m + 12))] [] z I16 _ from ?_)
  refine E_aload_n (pc := 0) (x := (m' + 12)) ddX4_copyRow_0 rfl rfl ?_
  refine E_iconst (pc := 1) (v := 0) ddX4_copyRow_1 rfl ?_
  refine E_aload_n (pc := 2) (x := (m + 12)) ddX4_copyRow_2 rfl rfl ?_
  refine E_iconst (pc := 3) (v := 0) ddX4_copyRow_3 rfl ?_
  refine E_aload_n (pc := 4) (x := (m' + 12)) ddX4_copyRow_4 rfl rfl ?_
  refine E_alen (pc := 5) (n := 8) ddX4_copyRow_5 hm'.s12 ?_
  refine E_aload_n (pc := 6) (x := (m + 12)) ddX4_copyRow_6 rfl rfl ?_
  refine E_alen (pc := 7) (n := 8) ddX4_copyRow_7 hm.s12 ?_
  refine E_mmin (pc := 8) ddX4_copyRow_8 w_2_168 w_2_169 w_1_11 w_2_170 (Nat.le_of_ble_eq_true rfl) (Nat.le_of_ble_eq_true rfl) ?_
  refine (show E mX4_copyRow 0 0 11 [some (.ref (m' + 12)), some (.ref (m + 12))] [.int 8, .int 0, .ref (m + 12), .int 0, .ref (m' + 12)] z I16 _ from ?_)
  obtain ⟨I17, eI17⟩ : ∃ y : It, y = e_cp I16 (m' + 12) (m + 12) 8 := ⟨_, rfl⟩
  have k := k I17 eI17
  refine E_copy (pc := 11) ddX4_copyRow_11 w_2_186 w_2_188 w_2_187 w_1_12 (Nat.le_of_ble_eq_true rfl) (by decide) hm'.s12 hm.s12 (Nat.succ_ne_zero _) (Nat.succ_ne_zero _) (by decide) (by decide) (by decide) ?_
  refine (show E mX4_copyRow 0 0 14 [some (.ref (m' + 12)), some (.ref (m + 12))] [] z (e_cp I16 (m' + 12) (m + 12) 8) _ from ?_)
  rw [← eI17]
  refine E_vret (pc := 14) ddX4_copyRow_14 rfl ?_
  refine (show E mX4_copyFrom mc ms 172 [some (.ref m), some (.ref m')] [] z I17 Q from ?_)
  refine E_aload_n (pc := 172) (x := m') ddX4_copyFrom_172 rfl rfl ?_
  refine E_getR (pc := 173) (x := (m' + 13)) ddX4_copyFrom_173 ec_3 17 (Nat.le_of_ble_eq_true rfl) rfl w_1_142 hm'.s0 hm'.r17 (Nat.succ_ne_zero _) ?_
  refine E_aload_n (pc := 176) (x := m) ddX4_copyFrom_176 rfl rfl ?_
  refine E_getR (pc := 177) (x := (m + 13)) ddX4_copyFrom_177 ec_3 17 (Nat.le_of_ble_eq_true rfl) rfl w_1_142 hm.s0 hm.r17 (Nat.succ_ne_zero _) ?_
  refine E_callS (pc := 180) (As := [.ref (m' + 13), .ref (m + 13)]) (st := []) ddX4_copyFrom_180 hX4_copyRow ⟨(Nat.le_of_ble_eq_true rfl), (Nat.le_of_ble_eq_true rfl)⟩ w_2_183 rfl rfl (Nat.le_of_ble_eq_true rfl) (e_cc rfl (e_cc rfl e_cn)) (Nat.le_of_ble_eq_true rfl) ?_
  refine (show E mX4_copyRow 0 0 0 [some (.ref (m' + 13)), some (.ref (m + 13))] [] z I17 _ from ?_)
  refine E_aload_n (pc := 0) (x := (m' + 13)) ddX4_copyRow_0 rfl rfl ?_
  refine E_iconst (pc := 1) (v := 0) ddX4_copyRow_1 rfl ?_
  refine E_aload_n (pc := 2) (x := (m + 13)) ddX4_copyRow_2 rfl rfl ?_
  refine E_iconst (pc := 3) (v := 0) ddX4_copyRow_3 rfl ?_
  refine E_aload_n (pc := 4) (x := (m' + 13)) ddX4_copyRow_4 rfl rfl ?_
  refine E_alen (pc := 5) (n := 8) ddX4_copyRow_5 hm'.s13 ?_
  refine E_aload_n (pc := 6) (x := (m + 13)) ddX4_copyRow_6 rfl rfl ?_
  refine E_alen (pc := 7) (n := 8) ddX4_copyRow_7 hm.s13 ?_
  refine E_mmin (pc := 8) ddX4_copyRow_8 w_2_168 w_2_169 w_1_11 w_2_170 (Nat.le_of_ble_eq_true rfl) (Nat.le_of_ble_eq_true rfl) ?_
  refine (show E mX4_copyRow 0 0 11 [some (.ref (m' + 13)), some (.ref (m + 13))] [.int 8, .int 0, .ref (m + 13), .int 0, .ref (m' + 13)] z I17 _ from ?_)
  obtain ⟨I18, eI18⟩ : ∃ y : It, y = e_cp I17 (m' + 13) (m + 13) 8 := ⟨_, rfl⟩
  have k := k I18 eI18
  refine E_copy (pc := 11) ddX4_copyRow_11 w_2_186 w_2_188 w_2_187 w_1_12 (Nat.le_of_ble_eq_true rfl) (by decide) hm'.s13 hm.s13 (Nat.succ_ne_zero _) (Nat.succ_ne_zero _) (by decide) (by decide) (by decide) ?_
  refine (show E mX4_copyRow 0 0 14 [some (.ref (m' + 13)), some (.ref (m + 13))] [] z (e_cp I17 (m' + 13) (m + 13) 8) _ from ?_)
  rw [← eI18]
  refine E_vret (pc := 14) ddX4_copyRow_14 rfl ?_
  refine (show E mX4_copyFrom mc ms 183 [some (.ref m), some (.ref m')] [] z I18 Q from ?_)
  exact E_vret (pc := 183) ddX4_copyFrom_183 rfl k
/-! X4_begin, labels [24, 26, 73, 109] -/
set_option maxRecDepth 100000 in
set_option maxHeartbeats 4000000 in
theorem B_X4_begin_0 {mc ms : Nat} {z : Zt} {I : It} {Q : Option Value → Zt → It → Prop} {m p : Nat} (hm : isM z m) (hp : isP z p)
    (k : ∀ I1 : It, I1 = e_st I m 0 0 → ∀ I2 : It, I2 = e_st I1 m 1 0 → ∀ I3 : It, I3 = e_st I2 m 2 0 → ∀ I4 : It, I4 = e_st I3 m 3 0 → E mX4_emptyQueues 0 0 0 [some (.ref m), none] [] z I4 (fun r z' I' => E mX4_begin mc ms 24 [some (.ref m), some (.ref p), none] (r.toList ++ []) z' I' Q)) :
    E mX4_begin mc ms 0 [some (.ref m), some (.ref p), none] [] z I Q := by
  refine E_aload_n (pc := 0) (x := m) ddX4_begin_0 rfl rfl ?_
  refine E_iconst (pc := 1) (v := 0) ddX4_begin_1 rfl ?_
  obtain ⟨I1, eI1⟩ : ∃ y : It, y = e_st I m 0 0 := ⟨_, rfl⟩
  have k := k I1 eI1
  refine E_putI (pc := 2) ddX4_begin_2 ec_3 0 (Nat.le_of_ble_eq_true rfl) rfl w_1_114 hm.s0 rfl rfl ?_
  rw [← eI1]
  refine E_aload_n (pc := 5) (x := m) ddX4_begin_5 rfl rfl ?_
  refine E_iconst (pc := 6) (v := 0) ddX4_begin_6 rfl ?_
  obtain ⟨I2, eI2⟩ : ∃ y : It, y = e_st I1 m 1 0 := ⟨_, rfl⟩
  have k := k I2 eI2
  refine E_putI (pc := 7) ddX4_begin_7 ec_3 1 (Nat.le_of_ble_eq_true rfl) rfl w_1_116 hm.s0 rfl rfl ?_
  rw [← eI2]
  refine E_aload_n (pc := 10) (x := m) ddX4_begin_10 rfl rfl ?_
  refine E_iconst (pc := 11) (v := 0) ddX4_begin_11 rfl ?_
  obtain ⟨I3, eI3⟩ : ∃ y : It, y = e_st I2 m 2 0 := ⟨_, rfl⟩
  have k := k I3 eI3
  refine E_putZ (pc := 12) ddX4_begin_12 ec_3 2 (Nat.le_of_ble_eq_true rfl) rfl w_1_118 hm.s0 rfl rfl (by decide) ?_
  rw [← eI3]
  refine E_aload_n (pc := 15) (x := m) ddX4_begin_15 rfl rfl ?_
  refine E_iconst (pc := 16) (v := 0) ddX4_begin_16 rfl ?_
  obtain ⟨I4, eI4⟩ : ∃ y : It, y = e_st I3 m 3 0 := ⟨_, rfl⟩
  have k := k I4 eI4
  refine E_putI (pc := 17) ddX4_begin_17 ec_3 3 (Nat.le_of_ble_eq_true rfl) rfl w_1_120 hm.s0 rfl rfl ?_
  rw [← eI4]
  refine E_aload_n (pc := 20) (x := m) ddX4_begin_20 rfl rfl ?_
  exact E_callV (pc := 21) (As := []) (st := []) (a := m) ddX4_begin_21 hX4_emptyQueues ⟨(Nat.le_of_ble_eq_true rfl), (Nat.le_of_ble_eq_true rfl)⟩ w_2_112 (ci := 3) rfl rfl hm.s0 rfl rfl (Nat.le_of_ble_eq_true rfl) e_cn (Nat.le_of_ble_eq_true rfl) k
set_option maxRecDepth 100000 in
set_option maxHeartbeats 4000000 in
theorem B_X4_begin_24 {mc ms : Nat} {z : Zt} {I : It} {Q : Option Value → Zt → It → Prop} {m p : Nat} (hm : isM z m) (hp : isP z p)
    (k : E mX4_begin mc ms 26 [some (.ref m), some (.ref p), some (.int 0)] [] z I Q) :
    E mX4_begin mc ms 24 [some (.ref m), some (.ref p), none] [] z I Q := by
  refine E_iconst (pc := 24) (v := 0) ddX4_begin_24 rfl ?_
  refine E_istore_n (pc := 25) (ls' := [some (.ref m), some (.ref p), some (.int 0)]) ddX4_begin_25 rfl (Nat.le_of_ble_eq_true rfl) rfl rfl ?_
  exact k
set_option maxRecDepth 100000 in
set_option maxHeartbeats 4000000 in
theorem B_X4_begin_26 {mc ms : Nat} {z : Zt} {I : It} {Q : Option Value → Zt → It → Prop} {x2 : Int32} {m p : Nat} (hm : isM z m) (hp : isP z p)
    (k : ((8 ≤ x2) → E mX4_begin mc ms 73 [some (.ref m), some (.ref p), some (.int 0)] [] z I Q) ∧
    ((¬ 8 ≤ x2) → ∃ j1 : Nat, x2 = nI j1 ∧ j1 < 8 ∧ ∀ I2 : It, I2 = e_st I (m + 1) j1 (I (p + 1) j1) → ∀ I3 : It, I3 = e_st I2 (m + 2) j1 0 → ∀ I4 : It, I4 = e_st I3 (m + 3) j1 (-1) → ∀ I5 : It, I5 = e_st I4 (m + 4) j1 0 → E mX4_begin mc ms 26 [some (.ref m), some (.ref p), some (.int (x2 + 1))] [] z I5 Q)) :
    E mX4_begin mc ms 26 [some (.ref m), some (.ref p), some (.int x2)] [] z I Q := by
  refine E_iload_n (pc := 26) (x := x2) ddX4_begin_26 rfl rfl ?_
  refine E_bipush (pc := 27) (v := 8) ddX4_begin_27 rfl ?_
  refine E_icmp_ge (pc := 29) (tgt := 71) ddX4_begin_29 (by decide) (fun h => ?_) (fun h => ?_)
  · have k := k.1 h
    refine E_iconst (pc := 71) (v := 0) ddX4_begin_71 rfl ?_
    refine E_istore_n (pc := 72) (ls' := [some (.ref m), some (.ref p), some (.int 0)]) ddX4_begin_72 rfl (Nat.le_of_ble_eq_true rfl) rfl rfl ?_
    exact k
  · have k := k.2 h
    refine E_aload_n (pc := 32) (x := m) ddX4_begin_32 rfl rfl ?_
    refine E_getR (pc := 33) (x := (m + 1)) ddX4_begin_33 ec_3 4 (Nat.le_of_ble_eq_true rfl) rfl w_1_122 hm.s0 hm.r4 (Nat.succ_ne_zero _) ?_
    refine E_iload_n (pc := 36) (x := x2) ddX4_begin_36 rfl rfl ?_
    refine E_aload_n (pc := 37) (x := p) ddX4_begin_37 rfl rfl ?_
    refine E_getR (pc := 38) (x := (p + 1)) ddX4_begin_38 ec_5 2 (Nat.le_of_ble_eq_true rfl) rfl w_1_64 hp.s0 hp.r2 (Nat.succ_ne_zero _) ?_
    refine E_iload_n (pc := 41) (x := x2) ddX4_begin_41 rfl rfl ?_
    obtain ⟨j1, ij1, lj1, k⟩ := k
    refine E_ialdN (pc := 42) (j := j1) ddX4_begin_42 hp.s1 ij1 lj1 (Nat.le_of_ble_eq_true rfl) ?_
    obtain ⟨I2, eI2⟩ : ∃ y : It, y = e_st I (m + 1) j1 (I (p + 1) j1) := ⟨_, rfl⟩
    have k := k I2 eI2
    refine E_iastN (pc := 43) (j := j1) ddX4_begin_43 hm.s1 (Nat.succ_ne_zero _) ij1 lj1 (Nat.le_of_ble_eq_true rfl) ?_
    rw [← eI2]
    refine E_aload_n (pc := 44) (x := m) ddX4_begin_44 rfl rfl ?_
    refine E_getR (pc := 45) (x := (m + 2)) ddX4_begin_45 ec_3 5 (Nat.le_of_ble_eq_true rfl) rfl w_1_125 hm.s0 hm.r5 (Nat.succ_ne_zero _) ?_
    refine E_iload_n (pc := 48) (x := x2) ddX4_begin_48 rfl rfl ?_
    refine E_iconst (pc := 49) (v := 0) ddX4_begin_49 rfl ?_
    obtain ⟨I3, eI3⟩ : ∃ y : It, y = e_st I2 (m + 2) j1 0 := ⟨_, rfl⟩
    have k := k I3 eI3
    refine E_iastN (pc := 50) (j := j1) ddX4_begin_50 hm.s2 (Nat.succ_ne_zero _) ij1 lj1 (Nat.le_of_ble_eq_true rfl) ?_
    rw [← eI3]
    refine E_aload_n (pc := 51) (x := m) ddX4_begin_51 rfl rfl ?_
    refine E_getR (pc := 52) (x := (m + 3)) ddX4_begin_52 ec_3 6 (Nat.le_of_ble_eq_true rfl) rfl w_1_127 hm.s0 hm.r6 (Nat.succ_ne_zero _) ?_
    refine E_iload_n (pc := 55) (x := x2) ddX4_begin_55 rfl rfl ?_
    refine E_iconst (pc := 56) (v := (-1)) ddX4_begin_56 rfl ?_
    obtain ⟨I4, eI4⟩ : ∃ y : It, y = e_st I3 (m + 3) j1 (-1) := ⟨_, rfl⟩
    have k := k I4 eI4
    refine E_iastN (pc := 57) (j := j1) ddX4_begin_57 hm.s3 (Nat.succ_ne_zero _) ij1 lj1 (Nat.le_of_ble_eq_true rfl) ?_
    rw [← eI4]
    refine E_aload_n (pc := 58) (x := m) ddX4_begin_58 rfl rfl ?_
    refine E_getR (pc := 59) (x := (m + 4)) ddX4_begin_59 ec_3 7 (Nat.le_of_ble_eq_true rfl) rfl w_1_129 hm.s0 hm.r7 (Nat.succ_ne_zero _) ?_
    refine E_iload_n (pc := 62) (x := x2) ddX4_begin_62 rfl rfl ?_
    refine E_iconst (pc := 63) (v := 0) ddX4_begin_63 rfl ?_
    obtain ⟨I5, eI5⟩ : ∃ y : It, y = e_st I4 (m + 4) j1 0 := ⟨_, rfl⟩
    have k := k I5 eI5
    refine E_iastN (pc := 64) (j := j1) ddX4_begin_64 hm.s4 (Nat.succ_ne_zero _) ij1 lj1 (Nat.le_of_ble_eq_true rfl) ?_
    rw [← eI5]
    refine E_iinc (pc := 65) (v := (x2 + 1)) (ls' := [some (.ref m), some (.ref p), some (.int (x2 + 1))]) ddX4_begin_65 rfl rfl (Nat.le_of_ble_eq_true rfl) rfl rfl ?_
    refine E_goto (pc := 68) (tgt := 26) ddX4_begin_68 (by decide) ?_
    exact k
set_option maxRecDepth 100000 in
set_option maxHeartbeats 4000000 in
theorem B_X4_begin_73 {mc ms : Nat} {z : Zt} {I : It} {Q : Option Value → Zt → It → Prop} {x2 : Int32} {m p : Nat} (hm : isM z m) (hp : isP z p)
    (k : (((I p 1) ≤ x2) → E mX4_tellAll 0 0 0 [some (.ref m), some (.ref p), none] [] z I (fun r z' I' => E mX4_begin mc ms 109 [none, none, none] (r.toList ++ []) z' I' Q)) ∧
    ((¬ (I p 1) ≤ x2) → ∃ j1 : Nat, x2 = nI j1 ∧ j1 < 8 ∧ ∃ j2 : Nat, (I (p + 5) j1) = nI j2 ∧ j2 < 8 ∧ ∀ I3 : It, I3 = e_st I (m + 7) j1 (I (p + 1) j2) → E mX4_begin mc ms 73 [some (.ref m), some (.ref p), some (.int (x2 + 1))] [] z I3 Q)) :
    E mX4_begin mc ms 73 [some (.ref m), some (.ref p), some (.int x2)] [] z I Q := by
  refine E_iload_n (pc := 73) (x := x2) ddX4_begin_73 rfl rfl ?_
  refine E_aload_n (pc := 74) (x := p) ddX4_begin_74 rfl rfl ?_
  refine E_getI (pc := 75) ddX4_begin_75 ec_5 1 (Nat.le_of_ble_eq_true rfl) rfl w_1_60 hp.s0 ?_
  refine E_icmp_ge (pc := 78) (tgt := 104) ddX4_begin_78 (by decide) (fun h => ?_) (fun h => ?_)
  · have k := k.1 h
    refine E_aload_n (pc := 104) (x := m) ddX4_begin_104 rfl rfl ?_
    refine E_aload_n (pc := 105) (x := p) ddX4_begin_105 rfl rfl ?_
    exact E_callV (pc := 106) (As := [.ref p]) (st := []) (a := m) ddX4_begin_106 hX4_tellAll ⟨(Nat.le_of_ble_eq_true rfl), (Nat.le_of_ble_eq_true rfl)⟩ w_2_116 (ci := 3) rfl rfl hm.s0 rfl rfl (Nat.le_of_ble_eq_true rfl) (e_cc rfl e_cn) (Nat.le_of_ble_eq_true rfl) (E.mono k fun _ _ _ q => E.forget q trivial)
  · have k := k.2 h
    refine E_aload_n (pc := 81) (x := m) ddX4_begin_81 rfl rfl ?_
    refine E_getR (pc := 82) (x := (m + 7)) ddX4_begin_82 ec_3 10 (Nat.le_of_ble_eq_true rfl) rfl w_1_132 hm.s0 hm.r10 (Nat.succ_ne_zero _) ?_
    refine E_iload_n (pc := 85) (x := x2) ddX4_begin_85 rfl rfl ?_
    refine E_aload_n (pc := 86) (x := p) ddX4_begin_86 rfl rfl ?_
    refine E_getR (pc := 87) (x := (p + 1)) ddX4_begin_87 ec_5 2 (Nat.le_of_ble_eq_true rfl) rfl w_1_64 hp.s0 hp.r2 (Nat.succ_ne_zero _) ?_
    refine E_aload_n (pc := 90) (x := p) ddX4_begin_90 rfl rfl ?_
    refine E_getR (pc := 91) (x := (p + 5)) ddX4_begin_91 ec_5 6 (Nat.le_of_ble_eq_true rfl) rfl w_1_78 hp.s0 hp.r6 (Nat.succ_ne_zero _) ?_
    refine E_iload_n (pc := 94) (x := x2) ddX4_begin_94 rfl rfl ?_
    obtain ⟨j1, ij1, lj1, k⟩ := k
    refine E_ialdN (pc := 95) (j := j1) ddX4_begin_95 hp.s5 ij1 lj1 (Nat.le_of_ble_eq_true rfl) ?_
    obtain ⟨j2, ij2, lj2, k⟩ := k
    refine E_ialdN (pc := 96) (j := j2) ddX4_begin_96 hp.s1 ij2 lj2 (Nat.le_of_ble_eq_true rfl) ?_
    obtain ⟨I3, eI3⟩ : ∃ y : It, y = e_st I (m + 7) j1 (I (p + 1) j2) := ⟨_, rfl⟩
    have k := k I3 eI3
    refine E_iastN (pc := 97) (j := j1) ddX4_begin_97 hm.s7 (Nat.succ_ne_zero _) ij1 lj1 (Nat.le_of_ble_eq_true rfl) ?_
    rw [← eI3]
    refine E_iinc (pc := 98) (v := (x2 + 1)) (ls' := [some (.ref m), some (.ref p), some (.int (x2 + 1))]) ddX4_begin_98 rfl rfl (Nat.le_of_ble_eq_true rfl) rfl rfl ?_
    refine E_goto (pc := 101) (tgt := 73) ddX4_begin_101 (by decide) ?_
    exact k
set_option maxRecDepth 100000 in
set_option maxHeartbeats 4000000 in
theorem B_X4_begin_109 {mc ms : Nat} {z : Zt} {I : It} {Q : Option Value → Zt → It → Prop}
    (k : Q none z I) :
    E mX4_begin mc ms 109 [none, none, none] [] z I Q := by
  exact E_vret (pc := 109) ddX4_begin_109 rfl k
/-! X4_isStill, labels [4] -/
set_option maxRecDepth 100000 in
set_option maxHeartbeats 4000000 in
theorem B_X4_isStill_0 {mc ms : Nat} {z : Zt} {I : It} {Q : Option Value → Zt → It → Prop} {m : Nat} (hm : isM z m)
    (k : E mX4_earliest 0 0 0 [some (.ref m), none, none] [] z I (fun r z' I' => E mX4_isStill mc ms 4 [none] (r.toList ++ []) z' I' Q)) :
    E mX4_isStill mc ms 0 [some (.ref m)] [] z I Q := by
  refine E_aload_n (pc := 0) (x := m) ddX4_isStill_0 rfl rfl ?_
  exact E_callV (pc := 1) (As := []) (st := []) (a := m) ddX4_isStill_1 hX4_earliest ⟨(Nat.le_of_ble_eq_true rfl), (Nat.le_of_ble_eq_true rfl)⟩ w_2_163 (ci := 3) rfl rfl hm.s0 rfl rfl (Nat.le_of_ble_eq_true rfl) e_cn (Nat.le_of_ble_eq_true rfl) (E.mono k fun _ _ _ q => E.forget q trivial)
set_option maxRecDepth 100000 in
set_option maxHeartbeats 4000000 in
theorem B_X4_isStill_4 {mc ms : Nat} {z : Zt} {I : It} {Q : Option Value → Zt → It → Prop} {y0 : Int32}
    (k : ((¬ y0 = 2147483647) → Q (some (.int 0)) z I) ∧
    ((y0 = 2147483647) → Q (some (.int 1)) z I)) :
    E mX4_isStill mc ms 4 [none] [.int y0] z I Q := by
  refine E_ldc (pc := 4) (v := 2147483647) ddX4_isStill_4 w_2_167 ?_
  refine E_icmp_ne (pc := 6) (tgt := 13) ddX4_isStill_6 (by decide) (fun h => ?_) (fun h => ?_)
  · have k := k.1 h
    refine E_iconst (pc := 13) (v := 0) ddX4_isStill_13 rfl ?_
    exact E_zret (pc := 14) ddX4_isStill_14 rfl (by decide) k
  · have k := k.2 h
    refine E_iconst (pc := 9) (v := 1) ddX4_isStill_9 rfl ?_
    refine E_goto (pc := 10) (tgt := 14) ddX4_isStill_10 (by decide) ?_
    exact E_zret (pc := 14) ddX4_isStill_14 rfl (by decide) k
/-! X4_earliest, labels [21] -/
set_option maxRecDepth 100000 in
set_option maxHeartbeats 4000000 in
theorem B_X4_earliest_0 {mc ms : Nat} {z : Zt} {I : It} {Q : Option Value → Zt → It → Prop} {m : Nat} (hm : isM z m)
    (k : (((I m 14) ≤ 0) → E mX4_earliest mc ms 21 [some (.ref m), some (.int 2147483647), some (.int 0)] [] z I Q) ∧
    ((¬ (I m 14) ≤ 0) → ∀ v1 : Int32, v1 = (I (m + 11) 0) → E mX4_earliest mc ms 21 [some (.ref m), some (.int v1), some (.int 0)] [] z I Q)) :
    E mX4_earliest mc ms 0 [some (.ref m), none, none] [] z I Q := by
  refine E_aload_n (pc := 0) (x := m) ddX4_earliest_0 rfl rfl ?_
  refine E_getI (pc := 1) ddX4_earliest_1 ec_3 14 (Nat.le_of_ble_eq_true rfl) rfl w_1_138 hm.s0 ?_
  refine E_if_le (pc := 4) (tgt := 16) ddX4_earliest_4 (by decide) (fun h => ?_) (fun h => ?_)
  · have k := k.1 h
    refine E_ldc (pc := 16) (v := 2147483647) ddX4_earliest_16 w_2_167 ?_
    refine E_istore_n (pc := 18) (ls' := [some (.ref m), some (.int 2147483647), none]) ddX4_earliest_18 rfl (Nat.le_of_ble_eq_true rfl) rfl rfl ?_
    refine E_iconst (pc := 19) (v := 0) ddX4_earliest_19 rfl ?_
    refine E_istore_n (pc := 20) (ls' := [some (.ref m), some (.int 2147483647), some (.int 0)]) ddX4_earliest_20 rfl (Nat.le_of_ble_eq_true rfl) rfl rfl ?_
    exact k
  · have k := k.2 h
    refine E_aload_n (pc := 7) (x := m) ddX4_earliest_7 rfl rfl ?_
    refine E_getR (pc := 8) (x := (m + 11)) ddX4_earliest_8 ec_3 15 (Nat.le_of_ble_eq_true rfl) rfl w_1_140 hm.s0 hm.r15 (Nat.succ_ne_zero _) ?_
    refine E_iconst (pc := 11) (v := 0) ddX4_earliest_11 rfl ?_
    refine E_ialdN (pc := 12) (j := 0) ddX4_earliest_12 hm.s11 rfl (Nat.le_of_ble_eq_true rfl) (Nat.le_of_ble_eq_true rfl) ?_
    refine E_goto (pc := 13) (tgt := 18) ddX4_earliest_13 (by decide) ?_
    obtain ⟨v1, ev1⟩ : ∃ y : Int32, y = (I (m + 11) 0) := ⟨_, rfl⟩
    have k := k v1 ev1
    rw [← ev1]
    refine E_istore_n (pc := 18) (ls' := [some (.ref m), some (.int v1), none]) ddX4_earliest_18 rfl (Nat.le_of_ble_eq_true rfl) rfl rfl ?_
    refine E_iconst (pc := 19) (v := 0) ddX4_earliest_19 rfl ?_
    refine E_istore_n (pc := 20) (ls' := [some (.ref m), some (.int v1), some (.int 0)]) ddX4_earliest_20 rfl (Nat.le_of_ble_eq_true rfl) rfl rfl ?_
    exact k
set_option maxRecDepth 100000 in
set_option maxHeartbeats 4000000 in
theorem B_X4_earliest_21 {mc ms : Nat} {z : Zt} {I : It} {Q : Option Value → Zt → It → Prop} {x1 x2 : Int32} {m : Nat} (hm : isM z m)
    (k : ((8 ≤ x2) → Q (some (.int x1)) z I) ∧
    ((¬ 8 ≤ x2) → ∃ j1 : Nat, x2 = nI j1 ∧ j1 < 8 ∧ (((I (m + 8) j1) ≤ 0) → E mX4_earliest mc ms 21 [some (.ref m), some (.int x1), some (.int (x2 + 1))] [] z I Q) ∧
    ((¬ (I (m + 8) j1) ≤ 0) → ∃ j2 : Nat, (x2 * 8) = nI j2 ∧ j2 < 64 ∧ ∀ v3 : Int32, v3 = (if (I (m + 9) j2) < x1 then (I (m + 9) j2) else x1) → E mX4_earliest mc ms 21 [some (.ref m), some (.int v3), some (.int (x2 + 1))] [] z I Q))) :
    E mX4_earliest mc ms 21 [some (.ref m), some (.int x1), some (.int x2)] [] z I Q := by
  refine E_iload_n (pc := 21) (x := x2) ddX4_earliest_21 rfl rfl ?_
  refine E_bipush (pc := 22) (v := 8) ddX4_earliest_22 rfl ?_
  refine E_icmp_ge (pc := 24) (tgt := 56) ddX4_earliest_24 (by decide) (fun h => ?_) (fun h => ?_)
  · have k := k.1 h
    refine E_iload_n (pc := 56) (x := x1) ddX4_earliest_56 rfl rfl ?_
    exact E_iret (pc := 57) ddX4_earliest_57 rfl k
  · have k := k.2 h
    refine E_aload_n (pc := 27) (x := m) ddX4_earliest_27 rfl rfl ?_
    refine E_getR (pc := 28) (x := (m + 8)) ddX4_earliest_28 ec_3 11 (Nat.le_of_ble_eq_true rfl) rfl w_1_134 hm.s0 hm.r11 (Nat.succ_ne_zero _) ?_
    refine E_iload_n (pc := 31) (x := x2) ddX4_earliest_31 rfl rfl ?_
    obtain ⟨j1, ij1, lj1, k⟩ := k
    refine E_ialdN (pc := 32) (j := j1) ddX4_earliest_32 hm.s8 ij1 lj1 (Nat.le_of_ble_eq_true rfl) ?_
    refine E_if_le (pc := 33) (tgt := 50) ddX4_earliest_33 (by decide) (fun h => ?_) (fun h => ?_)
    · have k := k.1 h
      refine E_iinc (pc := 50) (v := (x2 + 1)) (ls' := [some (.ref m), some (.int x1), some (.int (x2 + 1))]) ddX4_earliest_50 rfl rfl (Nat.le_of_ble_eq_true rfl) rfl rfl ?_
      refine E_goto (pc := 53) (tgt := 21) ddX4_earliest_53 (by decide) ?_
      exact k
    · have k := k.2 h
      refine E_iload_n (pc := 36) (x := x1) ddX4_earliest_36 rfl rfl ?_
      refine E_aload_n (pc := 37) (x := m) ddX4_earliest_37 rfl rfl ?_
      refine E_getR (pc := 38) (x := (m + 9)) ddX4_earliest_38 ec_3 12 (Nat.le_of_ble_eq_true rfl) rfl w_1_136 hm.s0 hm.r12 (Nat.succ_ne_zero _) ?_
      refine E_iload_n (pc := 41) (x := x2) ddX4_earliest_41 rfl rfl ?_
      refine E_bipush (pc := 42) (v := 8) ddX4_earliest_42 rfl ?_
      refine E_imul (pc := 44) ddX4_earliest_44 ?_
      obtain ⟨j2, ij2, lj2, k⟩ := k
      refine E_ialdN (pc := 45) (j := j2) ddX4_earliest_45 hm.s9 ij2 lj2 (Nat.le_of_ble_eq_true rfl) ?_
      refine E_mmin (pc := 46) ddX4_earliest_46 w_2_168 w_2_169 w_1_11 w_2_170 (Nat.le_of_ble_eq_true rfl) (Nat.le_of_ble_eq_true rfl) ?_
      obtain ⟨v3, ev3⟩ : ∃ y : Int32, y = (if (I (m + 9) j2) < x1 then (I (m + 9) j2) else x1) := ⟨_, rfl⟩
      have k := k v3 ev3
      rw [← ev3]
      refine E_istore_n (pc := 49) (ls' := [some (.ref m), some (.int v3), some (.int x2)]) ddX4_earliest_49 rfl (Nat.le_of_ble_eq_true rfl) rfl rfl ?_
      refine E_iinc (pc := 50) (v := (x2 + 1)) (ls' := [some (.ref m), some (.int v3), some (.int (x2 + 1))]) ddX4_earliest_50 rfl rfl (Nat.le_of_ble_eq_true rfl) rfl rfl ?_
      refine E_goto (pc := 53) (tgt := 21) ddX4_earliest_53 (by decide) ?_
      exact k
/-! X4_outcomeOf, labels [] -/
set_option maxRecDepth 100000 in
set_option maxHeartbeats 4000000 in
theorem B_X4_outcomeOf_0 {mc ms : Nat} {z : Zt} {I : It} {Q : Option Value → Zt → It → Prop} {x2 : Int32} {m p : Nat} (hm : isM z m) (hp : isP z p)
    (k : ∃ j1 : Nat, x2 = nI j1 ∧ j1 < 8 ∧ ∃ j2 : Nat, (I (p + 3) j1) = nI j2 ∧ j2 < 8 ∧ ∃ j3 : Nat, (I (p + 4) j1) = nI j3 ∧ j3 < 8 ∧ Q (some (.int (f_X3_outcome (I (p + 2) j1) (I (m + 1) j2) (I (m + 1) j3) (I (m + 7) j1)))) z I) :
    E mX4_outcomeOf mc ms 0 [some (.ref m), some (.ref p), some (.int x2)] [] z I Q := by
  refine E_aload_n (pc := 0) (x := p) ddX4_outcomeOf_0 rfl rfl ?_
  refine E_getR (pc := 1) (x := (p + 2)) ddX4_outcomeOf_1 ec_5 3 (Nat.le_of_ble_eq_true rfl) rfl w_1_66 hp.s0 hp.r3 (Nat.succ_ne_zero _) ?_
  refine E_iload_n (pc := 4) (x := x2) ddX4_outcomeOf_4 rfl rfl ?_
  obtain ⟨j1, ij1, lj1, k⟩ := k
  refine E_ialdN (pc := 5) (j := j1) ddX4_outcomeOf_5 hp.s2 ij1 lj1 (Nat.le_of_ble_eq_true rfl) ?_
  refine E_aload_n (pc := 6) (x := m) ddX4_outcomeOf_6 rfl rfl ?_
  refine E_getR (pc := 7) (x := (m + 1)) ddX4_outcomeOf_7 ec_3 4 (Nat.le_of_ble_eq_true rfl) rfl w_1_122 hm.s0 hm.r4 (Nat.succ_ne_zero _) ?_
  refine E_aload_n (pc := 10) (x := p) ddX4_outcomeOf_10 rfl rfl ?_
  refine E_getR (pc := 11) (x := (p + 3)) ddX4_outcomeOf_11 ec_5 4 (Nat.le_of_ble_eq_true rfl) rfl w_1_70 hp.s0 hp.r4 (Nat.succ_ne_zero _) ?_
  refine E_iload_n (pc := 14) (x := x2) ddX4_outcomeOf_14 rfl rfl ?_
  refine E_ialdN (pc := 15) (j := j1) ddX4_outcomeOf_15 hp.s3 ij1 lj1 (Nat.le_of_ble_eq_true rfl) ?_
  obtain ⟨j2, ij2, lj2, k⟩ := k
  refine E_ialdN (pc := 16) (j := j2) ddX4_outcomeOf_16 hm.s1 ij2 lj2 (Nat.le_of_ble_eq_true rfl) ?_
  refine E_aload_n (pc := 17) (x := m) ddX4_outcomeOf_17 rfl rfl ?_
  refine E_getR (pc := 18) (x := (m + 1)) ddX4_outcomeOf_18 ec_3 4 (Nat.le_of_ble_eq_true rfl) rfl w_1_122 hm.s0 hm.r4 (Nat.succ_ne_zero _) ?_
  refine E_aload_n (pc := 21) (x := p) ddX4_outcomeOf_21 rfl rfl ?_
  refine E_getR (pc := 22) (x := (p + 4)) ddX4_outcomeOf_22 ec_5 5 (Nat.le_of_ble_eq_true rfl) rfl w_1_74 hp.s0 hp.r5 (Nat.succ_ne_zero _) ?_
  refine E_iload_n (pc := 25) (x := x2) ddX4_outcomeOf_25 rfl rfl ?_
  refine E_ialdN (pc := 26) (j := j1) ddX4_outcomeOf_26 hp.s4 ij1 lj1 (Nat.le_of_ble_eq_true rfl) ?_
  obtain ⟨j3, ij3, lj3, k⟩ := k
  refine E_ialdN (pc := 27) (j := j3) ddX4_outcomeOf_27 hm.s1 ij3 lj3 (Nat.le_of_ble_eq_true rfl) ?_
  refine E_aload_n (pc := 28) (x := m) ddX4_outcomeOf_28 rfl rfl ?_
  refine E_getR (pc := 29) (x := (m + 7)) ddX4_outcomeOf_29 ec_3 10 (Nat.le_of_ble_eq_true rfl) rfl w_1_132 hm.s0 hm.r10 (Nat.succ_ne_zero _) ?_
  refine E_iload_n (pc := 32) (x := x2) ddX4_outcomeOf_32 rfl rfl ?_
  refine E_ialdN (pc := 33) (j := j1) ddX4_outcomeOf_33 hm.s7 ij1 lj1 (Nat.le_of_ble_eq_true rfl) ?_
  refine E_callS (pc := 34) (As := [.int (I (p + 2) j1), .int (I (m + 1) j2), .int (I (m + 1) j3), .int (I (m + 7) j1)]) (st := []) ddX4_outcomeOf_34 hX3_outcome ⟨(Nat.le_of_ble_eq_true rfl), (Nat.le_of_ble_eq_true rfl)⟩ w_2_124 rfl rfl (Nat.le_of_ble_eq_true rfl) (e_cc rfl (e_cc rfl (e_cc rfl (e_cc rfl e_cn)))) (Nat.le_of_ble_eq_true rfl) (C_X3_outcome ?_)
  refine (show E mX4_outcomeOf mc ms 37 [some (.ref m), some (.ref p), some (.int x2)] [.int (f_X3_outcome (I (p + 2) j1) (I (m + 1) j2) (I (m + 1) j3) (I (m + 7) j1))] z I Q from ?_)
  exact E_iret (pc := 37) ddX4_outcomeOf_37 rfl k
/-! X4_drivenLevel, labels [6] -/
set_option maxRecDepth 100000 in
set_option maxHeartbeats 4000000 in
theorem B_X4_drivenLevel_0 {mc ms : Nat} {z : Zt} {I : It} {Q : Option Value → Zt → It → Prop} {x2 x3 : Int32} {m p : Nat} (hm : isM z m) (hp : isP z p)
    (k : E mX4_drivenLevel mc ms 6 [some (.ref m), some (.ref p), some (.int x2), some (.int x3), some (.int 2), some (.int 0)] [] z I Q) :
    E mX4_drivenLevel mc ms 0 [some (.ref m), some (.ref p), some (.int x2), some (.int x3), none, none] [] z I Q := by
  refine E_iconst (pc := 0) (v := 2) ddX4_drivenLevel_0 rfl ?_
  refine E_istore (pc := 1) (ls' := [some (.ref m), some (.ref p), some (.int x2), some (.int x3), some (.int 2), none]) ddX4_drivenLevel_1 (Nat.le_of_ble_eq_true rfl) rfl rfl ?_
  refine E_iconst (pc := 3) (v := 0) ddX4_drivenLevel_3 rfl ?_
  refine E_istore (pc := 4) (ls' := [some (.ref m), some (.ref p), some (.int x2), some (.int x3), some (.int 2), some (.int 0)]) ddX4_drivenLevel_4 (Nat.le_of_ble_eq_true rfl) rfl rfl ?_
  exact k
set_option maxRecDepth 100000 in
set_option maxHeartbeats 4000000 in
theorem B_X4_drivenLevel_6 {mc ms : Nat} {z : Zt} {I : It} {Q : Option Value → Zt → It → Prop} {x2 x3 x4 x5 : Int32} {m p : Nat} (hm : isM z m) (hp : isP z p)
    (k : (((I p 1) ≤ x5) → Q (some (.int x4)) z I) ∧
    ((¬ (I p 1) ≤ x5) → ∃ j1 : Nat, x5 = nI j1 ∧ j1 < 8 ∧ ((¬ (I (p + 5) j1) = x2) → E mX4_drivenLevel mc ms 6 [some (.ref m), some (.ref p), some (.int x2), some (.int x3), some (.int x4), some (.int (x5 + 1))] [] z I Q) ∧
    (((I (p + 5) j1) = x2) → ((x5 = x3) → E mX4_drivenLevel mc ms 6 [some (.ref m), some (.ref p), some (.int x2), some (.int x3), some (.int x4), some (.int (x5 + 1))] [] z I Q) ∧
    ((¬ x5 = x3) → ∀ v2 : Int32, v2 = (f_X3_join x4 (I (m + 7) j1)) → E mX4_drivenLevel mc ms 6 [some (.ref m), some (.ref p), some (.int x2), some (.int x3), some (.int v2), some (.int (x5 + 1))] [] z I Q)))) :
    E mX4_drivenLevel mc ms 6 [some (.ref m), some (.ref p), some (.int x2), some (.int x3), some (.int x4), some (.int x5)] [] z I Q := by
  refine E_iload (pc := 6) (x := x5) ddX4_drivenLevel_6 rfl ?_
  refine E_aload_n (pc := 8) (x := p) ddX4_drivenLevel_8 rfl rfl ?_
  refine E_getI (pc := 9) ddX4_drivenLevel_9 ec_5 1 (Nat.le_of_ble_eq_true rfl) rfl w_1_60 hp.s0 ?_
  refine E_icmp_ge (pc := 12) (tgt := 52) ddX4_drivenLevel_12 (by decide) (fun h => ?_) (fun h => ?_)
  · have k := k.1 h
    refine E_iload (pc := 52) (x := x4) ddX4_drivenLevel_52 rfl ?_
    exact E_iret (pc := 54) ddX4_drivenLevel_54 rfl k
  · have k := k.2 h
    refine E_aload_n (pc := 15) (x := p) ddX4_drivenLevel_15 rfl rfl ?_
    refine E_getR (pc := 16) (x := (p + 5)) ddX4_drivenLevel_16 ec_5 6 (Nat.le_of_ble_eq_true rfl) rfl w_1_78 hp.s0 hp.r6 (Nat.succ_ne_zero _) ?_
    refine E_iload (pc := 19) (x := x5) ddX4_drivenLevel_19 rfl ?_
    obtain ⟨j1, ij1, lj1, k⟩ := k
    refine E_ialdN (pc := 21) (j := j1) ddX4_drivenLevel_21 hp.s5 ij1 lj1 (Nat.le_of_ble_eq_true rfl) ?_
    refine E_iload_n (pc := 22) (x := x2) ddX4_drivenLevel_22 rfl rfl ?_
    refine E_icmp_ne (pc := 23) (tgt := 46) ddX4_drivenLevel_23 (by decide) (fun h => ?_) (fun h => ?_)
    · have k := k.1 h
      refine E_iinc (pc := 46) (v := (x5 + 1)) (ls' := [some (.ref m), some (.ref p), some (.int x2), some (.int x3), some (.int x4), some (.int (x5 + 1))]) ddX4_drivenLevel_46 rfl rfl (Nat.le_of_ble_eq_true rfl) rfl rfl ?_
      refine E_goto (pc := 49) (tgt := 6) ddX4_drivenLevel_49 (by decide) ?_
      exact k
    · have k := k.2 h
      refine E_iload (pc := 26) (x := x5) ddX4_drivenLevel_26 rfl ?_
      refine E_iload_n (pc := 28) (x := x3) ddX4_drivenLevel_28 rfl rfl ?_
      refine E_icmp_eq (pc := 29) (tgt := 46) ddX4_drivenLevel_29 (by decide) (fun h => ?_) (fun h => ?_)
      · have k := k.1 h
        refine E_iinc (pc := 46) (v := (x5 + 1)) (ls' := [some (.ref m), some (.ref p), some (.int x2), some (.int x3), some (.int x4), some (.int (x5 + 1))]) ddX4_drivenLevel_46 rfl rfl (Nat.le_of_ble_eq_true rfl) rfl rfl ?_
        refine E_goto (pc := 49) (tgt := 6) ddX4_drivenLevel_49 (by decide) ?_
        exact k
      · have k := k.2 h
        refine E_iload (pc := 32) (x := x4) ddX4_drivenLevel_32 rfl ?_
        refine E_aload_n (pc := 34) (x := m) ddX4_drivenLevel_34 rfl rfl ?_
        refine E_getR (pc := 35) (x := (m + 7)) ddX4_drivenLevel_35 ec_3 10 (Nat.le_of_ble_eq_true rfl) rfl w_1_132 hm.s0 hm.r10 (Nat.succ_ne_zero _) ?_
        refine E_iload (pc := 38) (x := x5) ddX4_drivenLevel_38 rfl ?_
        refine E_ialdN (pc := 40) (j := j1) ddX4_drivenLevel_40 hm.s7 ij1 lj1 (Nat.le_of_ble_eq_true rfl) ?_
        refine E_callS (pc := 41) (As := [.int x4, .int (I (m + 7) j1)]) (st := []) ddX4_drivenLevel_41 hX3_join ⟨(Nat.le_of_ble_eq_true rfl), (Nat.le_of_ble_eq_true rfl)⟩ w_2_216 rfl rfl (Nat.le_of_ble_eq_true rfl) (e_cc rfl (e_cc rfl e_cn)) (Nat.le_of_ble_eq_true rfl) (C_X3_join ?_)
        refine (show E mX4_drivenLevel mc ms 44 [some (.ref m), some (.ref p), some (.int x2), some (.int x3), some (.int x4), some (.int x5)] [.int (f_X3_join x4 (I (m + 7) j1))] z I Q from ?_)
        obtain ⟨v2, ev2⟩ : ∃ y : Int32, y = (f_X3_join x4 (I (m + 7) j1)) := ⟨_, rfl⟩
        have k := k v2 ev2
        rw [← ev2]
        refine E_istore (pc := 44) (ls' := [some (.ref m), some (.ref p), some (.int x2), some (.int x3), some (.int v2), some (.int x5)]) ddX4_drivenLevel_44 (Nat.le_of_ble_eq_true rfl) rfl rfl ?_
        refine E_iinc (pc := 46) (v := (x5 + 1)) (ls' := [some (.ref m), some (.ref p), some (.int x2), some (.int x3), some (.int v2), some (.int (x5 + 1))]) ddX4_drivenLevel_46 rfl rfl (Nat.le_of_ble_eq_true rfl) rfl rfl ?_
        refine E_goto (pc := 49) (tgt := 6) ddX4_drivenLevel_49 (by decide) ?_
        exact k
/-! X4_holdingGates, labels [4, 24] -/
set_option maxRecDepth 100000 in
set_option maxHeartbeats 4000000 in
theorem B_X4_holdingGates_0 {mc ms : Nat} {z : Zt} {I : It} {Q : Option Value → Zt → It → Prop} {m p : Nat} (hm : isM z m) (hp : isP z p)
    (k : E mX4_holdingGates mc ms 4 [some (.ref m), some (.ref p), some (.int 0), some (.int 0)] [] z I Q) :
    E mX4_holdingGates mc ms 0 [some (.ref m), some (.ref p), none, none] [] z I Q := by
  refine E_iconst (pc := 0) (v := 0) ddX4_holdingGates_0 rfl ?_
  refine E_istore_n (pc := 1) (ls' := [some (.ref m), some (.ref p), some (.int 0), none]) ddX4_holdingGates_1 rfl (Nat.le_of_ble_eq_true rfl) rfl rfl ?_
  refine E_iconst (pc := 2) (v := 0) ddX4_holdingGates_2 rfl ?_
  refine E_istore_n (pc := 3) (ls' := [some (.ref m), some (.ref p), some (.int 0), some (.int 0)]) ddX4_holdingGates_3 rfl (Nat.le_of_ble_eq_true rfl) rfl rfl ?_
  exact k
set_option maxRecDepth 100000 in
set_option maxHeartbeats 4000000 in
theorem B_X4_holdingGates_4 {mc ms : Nat} {z : Zt} {I : It} {Q : Option Value → Zt → It → Prop} {x2 x3 : Int32} {m p : Nat} (hm : isM z m) (hp : isP z p)
    (k : (((I p 1) ≤ x3) → Q (some (.int x2)) z I) ∧
    ((¬ (I p 1) ≤ x3) → ∃ j1 : Nat, x3 = nI j1 ∧ j1 < 8 ∧ E mX4_outcomeOf 0 0 0 [some (.ref m), some (.ref p), some (.int x3)] [] z I (fun r z' I' => E mX4_holdingGates mc ms 24 [some (.ref m), some (.ref p), some (.int x2), some (.int x3)] (r.toList ++ [.int (I (m + 7) j1)]) z' I' Q))) :
    E mX4_holdingGates mc ms 4 [some (.ref m), some (.ref p), some (.int x2), some (.int x3)] [] z I Q := by
  refine E_iload_n (pc := 4) (x := x3) ddX4_holdingGates_4 rfl rfl ?_
  refine E_aload_n (pc := 5) (x := p) ddX4_holdingGates_5 rfl rfl ?_
  refine E_getI (pc := 6) ddX4_holdingGates_6 ec_5 1 (Nat.le_of_ble_eq_true rfl) rfl w_1_60 hp.s0 ?_
  refine E_icmp_ge (pc := 9) (tgt := 39) ddX4_holdingGates_9 (by decide) (fun h => ?_) (fun h => ?_)
  · have k := k.1 h
    refine E_iload_n (pc := 39) (x := x2) ddX4_holdingGates_39 rfl rfl ?_
    exact E_iret (pc := 40) ddX4_holdingGates_40 rfl k
  · have k := k.2 h
    refine E_aload_n (pc := 12) (x := m) ddX4_holdingGates_12 rfl rfl ?_
    refine E_getR (pc := 13) (x := (m + 7)) ddX4_holdingGates_13 ec_3 10 (Nat.le_of_ble_eq_true rfl) rfl w_1_132 hm.s0 hm.r10 (Nat.succ_ne_zero _) ?_
    refine E_iload_n (pc := 16) (x := x3) ddX4_holdingGates_16 rfl rfl ?_
    obtain ⟨j1, ij1, lj1, k⟩ := k
    refine E_ialdN (pc := 17) (j := j1) ddX4_holdingGates_17 hm.s7 ij1 lj1 (Nat.le_of_ble_eq_true rfl) ?_
    refine E_aload_n (pc := 18) (x := m) ddX4_holdingGates_18 rfl rfl ?_
    refine E_aload_n (pc := 19) (x := p) ddX4_holdingGates_19 rfl rfl ?_
    refine E_iload_n (pc := 20) (x := x3) ddX4_holdingGates_20 rfl rfl ?_
    exact E_callV (pc := 21) (As := [.ref p, .int x3]) (st := [.int (I (m + 7) j1)]) (a := m) ddX4_holdingGates_21 hX4_outcomeOf ⟨(Nat.le_of_ble_eq_true rfl), (Nat.le_of_ble_eq_true rfl)⟩ w_2_120 (ci := 3) rfl rfl hm.s0 rfl rfl (Nat.le_of_ble_eq_true rfl) (e_cc rfl (e_cc rfl e_cn)) (Nat.le_of_ble_eq_true rfl) k
set_option maxRecDepth 100000 in
set_option maxHeartbeats 4000000 in
theorem B_X4_holdingGates_24 {mc ms : Nat} {z : Zt} {I : It} {Q : Option Value → Zt → It → Prop} {x2 x3 y0 y1 : Int32} {m p : Nat} (hm : isM z m) (hp : isP z p)
    (k : ((¬ y1 = y0) → E mX4_holdingGates mc ms 4 [some (.ref m), some (.ref p), some (.int x2), some (.int (x3 + 1))] [] z I Q) ∧
    ((y1 = y0) → ∀ v1 : Int32, v1 = (x2 ||| (1 <<< (x3 &&& 31))) → E mX4_holdingGates mc ms 4 [some (.ref m), some (.ref p), some (.int v1), some (.int (x3 + 1))] [] z I Q)) :
    E mX4_holdingGates mc ms 24 [some (.ref m), some (.ref p), some (.int x2), some (.int x3)] [.int y0, .int y1] z I Q := by
  refine E_icmp_ne (pc := 24) (tgt := 33) ddX4_holdingGates_24 (by decide) (fun h => ?_) (fun h => ?_)
  · have k := k.1 h
    refine E_iinc (pc := 33) (v := (x3 + 1)) (ls' := [some (.ref m), some (.ref p), some (.int x2), some (.int (x3 + 1))]) ddX4_holdingGates_33 rfl rfl (Nat.le_of_ble_eq_true rfl) rfl rfl ?_
    refine E_goto (pc := 36) (tgt := 4) ddX4_holdingGates_36 (by decide) ?_
    exact k
  · have k := k.2 h
    refine E_iload_n (pc := 27) (x := x2) ddX4_holdingGates_27 rfl rfl ?_
    refine E_iconst (pc := 28) (v := 1) ddX4_holdingGates_28 rfl ?_
    refine E_iload_n (pc := 29) (x := x3) ddX4_holdingGates_29 rfl rfl ?_
    refine E_ishl (pc := 30) ddX4_holdingGates_30 ?_
    refine E_ior (pc := 31) ddX4_holdingGates_31 ?_
    obtain ⟨v1, ev1⟩ : ∃ y : Int32, y = (x2 ||| (1 <<< (x3 &&& 31))) := ⟨_, rfl⟩
    have k := k v1 ev1
    rw [← ev1]
    refine E_istore_n (pc := 32) (ls' := [some (.ref m), some (.ref p), some (.int v1), some (.int x3)]) ddX4_holdingGates_32 rfl (Nat.le_of_ble_eq_true rfl) rfl rfl ?_
    refine E_iinc (pc := 33) (v := (x3 + 1)) (ls' := [some (.ref m), some (.ref p), some (.int v1), some (.int (x3 + 1))]) ddX4_holdingGates_33 rfl rfl (Nat.le_of_ble_eq_true rfl) rfl rfl ?_
    refine E_goto (pc := 36) (tgt := 4) ddX4_holdingGates_36 (by decide) ?_
    exact k
/-! X4_addByHand, labels [14, 86] -/
set_option maxRecDepth 100000 in
set_option maxHeartbeats 4000000 in
theorem B_X4_addByHand_0 {mc ms : Nat} {z : Zt} {I : It} {Q : Option Value → Zt → It → Prop} {x1 x2 x3 : Int32} {m : Nat} (hm : isM z m)
    (k : (((I m 14) < 8) → ∀ v1 : Int32, v1 = (I m 14) → E mX4_addByHand mc ms 14 [some (.ref m), some (.int x1), some (.int x2), some (.int x3), some (.int v1)] [] z I Q) ∧
    ((¬ (I m 14) < 8) → Q none z I)) :
    E mX4_addByHand mc ms 0 [some (.ref m), some (.int x1), some (.int x2), some (.int x3), none] [] z I Q := by
  refine E_aload_n (pc := 0) (x := m) ddX4_addByHand_0 rfl rfl ?_
  refine E_callV (pc := 1) (As := []) (st := []) (a := m) ddX4_addByHand_1 hX4_handIsFull ⟨(Nat.le_of_ble_eq_true rfl), (Nat.le_of_ble_eq_true rfl)⟩ w_3_107 (ci := 3) rfl rfl hm.s0 rfl rfl (Nat.le_of_ble_eq_true rfl) e_cn (Nat.le_of_ble_eq_true rfl) ?_
  refine (show E mX4_handIsFull 0 0 0 [some (.ref m)] [] z I _ from ?_)
  refine E_aload_n (pc := 0) (x := m) ddX4_handIsFull_0 rfl rfl ?_
  refine E_getI (pc := 1) ddX4_handIsFull_1 ec_3 14 (Nat.le_of_ble_eq_true rfl) rfl w_1_138 hm.s0 ?_
  refine E_bipush (pc := 4) (v := 8) ddX4_handIsFull_4 rfl ?_
  refine E_icmp_lt (pc := 6) (tgt := 13) ddX4_handIsFull_6 (by decide) (fun h => ?_) (fun h => ?_)
  · have k := k.1 h
    refine E_iconst (pc := 13) (v := 0) ddX4_handIsFull_13 rfl ?_
    refine E_zret (pc := 14) ddX4_handIsFull_14 rfl (by decide) ?_
    refine (show E mX4_addByHand mc ms 4 [some (.ref m), some (.int x1), some (.int x2), some (.int x3), none] [.int 0] z I Q from ?_)
    refine E_if_eq (pc := 4) (tgt := 8) ddX4_addByHand_4 (by decide) (fun _ => ?_) (fun h => absurd h (by decide))
    refine E_aload_n (pc := 8) (x := m) ddX4_addByHand_8 rfl rfl ?_
    refine E_getI (pc := 9) ddX4_addByHand_9 ec_3 14 (Nat.le_of_ble_eq_true rfl) rfl w_1_138 hm.s0 ?_
    obtain ⟨v1, ev1⟩ : ∃ y : Int32, y = (I m 14) := ⟨_, rfl⟩
    have k := k v1 ev1
    rw [← ev1]
    refine E_istore (pc := 12) (ls' := [some (.ref m), some (.int x1), some (.int x2), some (.int x3), some (.int v1)]) ddX4_addByHand_12 (Nat.le_of_ble_eq_true rfl) rfl rfl ?_
    exact k
  · have k := k.2 h
    refine E_iconst (pc := 9) (v := 1) ddX4_handIsFull_9 rfl ?_
    refine E_goto (pc := 10) (tgt := 14) ddX4_handIsFull_10 (by decide) ?_
    refine E_zret (pc := 14) ddX4_handIsFull_14 rfl (by decide) ?_
    refine (show E mX4_addByHand mc ms 4 [some (.ref m), some (.int x1), some (.int x2), some (.int x3), none] [.int 1] z I Q from ?_)
    refine E_if_eq (pc := 4) (tgt := 8) ddX4_addByHand_4 (by decide) (fun h => absurd h (by decide)) (fun _ => ?_)
    exact E_vret (pc := 7) ddX4_addByHand_7 rfl k
set_option maxRecDepth 100000 in
set_option maxHeartbeats 4000000 in
theorem B_X4_addByHand_14 {mc ms : Nat} {z : Zt} {I : It} {Q : Option Value → Zt → It → Prop} {x1 x2 x3 x4 : Int32} {m : Nat} (hm : isM z m)
    (k : ((x4 ≤ 0) → E mX4_addByHand mc ms 86 [some (.ref m), some (.int x1), some (.int x2), some (.int x3), some (.int x4)] [] z I Q) ∧
    ((¬ x4 ≤ 0) → ∃ j1 : Nat, (x4 - 1) = nI j1 ∧ j1 < 8 ∧ (((I (m + 11) j1) ≤ x3) → E mX4_addByHand mc ms 86 [some (.ref m), some (.int x1), some (.int x2), some (.int x3), some (.int x4)] [] z I Q) ∧
    ((¬ (I (m + 11) j1) ≤ x3) → ∃ j2 : Nat, x4 = nI j2 ∧ j2 < 8 ∧ ∀ I3 : It, I3 = e_st I (m + 11) j2 (I (m + 11) j1) → ∀ I4 : It, I4 = e_st I3 (m + 12) j2 (I3 (m + 12) j1) → ∀ I5 : It, I5 = e_st I4 (m + 13) j2 (I4 (m + 13) j1) → E mX4_addByHand mc ms 14 [some (.ref m), some (.int x1), some (.int x2), some (.int x3), some (.int (x4 + (-1)))] [] z I5 Q))) :
    E mX4_addByHand mc ms 14 [some (.ref m), some (.int x1), some (.int x2), some (.int x3), some (.int x4)] [] z I Q := by
  refine E_iload (pc := 14) (x := x4) ddX4_addByHand_14 rfl ?_
  refine E_if_le (pc := 16) (tgt := 86) ddX4_addByHand_16 (by decide) (fun h => ?_) (fun h => ?_)
  · have k := k.1 h
    exact k
  · have k := k.2 h
    refine E_aload_n (pc := 19) (x := m) ddX4_addByHand_19 rfl rfl ?_
    refine E_getR (pc := 20) (x := (m + 11)) ddX4_addByHand_20 ec_3 15 (Nat.le_of_ble_eq_true rfl) rfl w_1_140 hm.s0 hm.r15 (Nat.succ_ne_zero _) ?_
    refine E_iload (pc := 23) (x := x4) ddX4_addByHand_23 rfl ?_
    refine E_iconst (pc := 25) (v := 1) ddX4_addByHand_25 rfl ?_
    refine E_isub (pc := 26) ddX4_addByHand_26 ?_
    obtain ⟨j1, ij1, lj1, k⟩ := k
    refine E_ialdN (pc := 27) (j := j1) ddX4_addByHand_27 hm.s11 ij1 lj1 (Nat.le_of_ble_eq_true rfl) ?_
    refine E_iload_n (pc := 28) (x := x3) ddX4_addByHand_28 rfl rfl ?_
    refine E_icmp_le (pc := 29) (tgt := 86) ddX4_addByHand_29 (by decide) (fun h => ?_) (fun h => ?_)
    · have k := k.1 h
      exact k
    · have k := k.2 h
      refine E_aload_n (pc := 32) (x := m) ddX4_addByHand_32 rfl rfl ?_
      refine E_getR (pc := 33) (x := (m + 11)) ddX4_addByHand_33 ec_3 15 (Nat.le_of_ble_eq_true rfl) rfl w_1_140 hm.s0 hm.r15 (Nat.succ_ne_zero _) ?_
      refine E_iload (pc := 36) (x := x4) ddX4_addByHand_36 rfl ?_
      refine E_aload_n (pc := 38) (x := m) ddX4_addByHand_38 rfl rfl ?_
      refine E_getR (pc := 39) (x := (m + 11)) ddX4_addByHand_39 ec_3 15 (Nat.le_of_ble_eq_true rfl) rfl w_1_140 hm.s0 hm.r15 (Nat.succ_ne_zero _) ?_
      refine E_iload (pc := 42) (x := x4) ddX4_addByHand_42 rfl ?_
      refine E_iconst (pc := 44) (v := 1) ddX4_addByHand_44 rfl ?_
      refine E_isub (pc := 45) ddX4_addByHand_45 ?_
      refine E_ialdN (pc := 46) (j := j1) ddX4_addByHand_46 hm.s11 ij1 lj1 (Nat.le_of_ble_eq_true rfl) ?_
      obtain ⟨j2, ij2, lj2, k⟩ := k
      obtain ⟨I3, eI3⟩ : ∃ y : It, y = e_st I (m + 11) j2 (I (m + 11) j1) := ⟨_, rfl⟩
      have k := k I3 eI3
      refine E_iastN (pc := 47) (j := j2) ddX4_addByHand_47 hm.s11 (Nat.succ_ne_zero _) ij2 lj2 (Nat.le_of_ble_eq_true rfl) ?_
      rw [← eI3]
      refine E_aload_n (pc := 48) (x := m) ddX4_addByHand_48 rfl rfl ?_
      refine E_getR (pc := 49) (x := (m + 12)) ddX4_addByHand_49 ec_3 16 (Nat.le_of_ble_eq_true rfl) rfl w_1_141 hm.s0 hm.r16 (Nat.succ_ne_zero _) ?_
      refine E_iload (pc := 52) (x := x4) ddX4_addByHand_52 rfl ?_
      refine E_aload_n (pc := 54) (x := m) ddX4_addByHand_54 rfl rfl ?_
      refine E_getR (pc := 55) (x := (m + 12)) ddX4_addByHand_55 ec_3 16 (Nat.le_of_ble_eq_true rfl) rfl w_1_141 hm.s0 hm.r16 (Nat.succ_ne_zero _) ?_
      refine E_iload (pc := 58) (x := x4) ddX4_addByHand_58 rfl ?_
      refine E_iconst (pc := 60) (v := 1) ddX4_addByHand_60 rfl ?_
      refine E_isub (pc := 61) ddX4_addByHand_61 ?_
      refine E_ialdN (pc := 62) (j := j1) ddX4_addByHand_62 hm.s12 ij1 lj1 (Nat.le_of_ble_eq_true rfl) ?_
      obtain ⟨I4, eI4⟩ : ∃ y : It, y = e_st I3 (m + 12) j2 (I3 (m + 12) j1) := ⟨_, rfl⟩
      have k := k I4 eI4
      refine E_iastN (pc := 63) (j := j2) ddX4_addByHand_63 hm.s12 (Nat.succ_ne_zero _) ij2 lj2 (Nat.le_of_ble_eq_true rfl) ?_
      rw [← eI4]
      refine E_aload_n (pc := 64) (x := m) ddX4_addByHand_64 rfl rfl ?_
      refine E_getR (pc := 65) (x := (m + 13)) ddX4_addByHand_65 ec_3 17 (Nat.le_of_ble_eq_true rfl) rfl w_1_142 hm.s0 hm.r17 (Nat.succ_ne_zero _) ?_
      refine E_iload (pc := 68) (x := x4) ddX4_addByHand_68 rfl ?_
      refine E_aload_n (pc := 70) (x := m) ddX4_addByHand_70 rfl rfl ?_
      refine E_getR (pc := 71) (x := (m + 13)) ddX4_addByHand_71 ec_3 17 (Nat.le_of_ble_eq_true rfl) rfl w_1_142 hm.s0 hm.r17 (Nat.succ_ne_zero _) ?_
      refine E_iload (pc := 74) (x := x4) ddX4_addByHand_74 rfl ?_
      refine E_iconst (pc := 76) (v := 1) ddX4_addByHand_76 rfl ?_
      refine E_isub (pc := 77) ddX4_addByHand_77 ?_
      refine E_ialdN (pc := 78) (j := j1) ddX4_addByHand_78 hm.s13 ij1 lj1 (Nat.le_of_ble_eq_true rfl) ?_
      obtain ⟨I5, eI5⟩ : ∃ y : It, y = e_st I4 (m + 13) j2 (I4 (m + 13) j1) := ⟨_, rfl⟩
      have k := k I5 eI5
      refine E_iastN (pc := 79) (j := j2) ddX4_addByHand_79 hm.s13 (Nat.succ_ne_zero _) ij2 lj2 (Nat.le_of_ble_eq_true rfl) ?_
      rw [← eI5]
      refine E_iinc (pc := 80) (v := (x4 + (-1))) (ls' := [some (.ref m), some (.int x1), some (.int x2), some (.int x3), some (.int (x4 + (-1)))]) ddX4_addByHand_80 rfl rfl (Nat.le_of_ble_eq_true rfl) rfl rfl ?_
      refine E_goto (pc := 83) (tgt := 14) ddX4_addByHand_83 (by decide) ?_
      exact k
set_option maxRecDepth 100000 in
set_option maxHeartbeats 4000000 in
theorem B_X4_addByHand_86 {mc ms : Nat} {z : Zt} {I : It} {Q : Option Value → Zt → It → Prop} {x1 x2 x3 x4 : Int32} {m : Nat} (hm : isM z m)
    (k : ∃ j1 : Nat, x4 = nI j1 ∧ j1 < 8 ∧ ∀ I2 : It, I2 = e_st I (m + 11) j1 x3 → ∀ I3 : It, I3 = e_st I2 (m + 12) j1 x1 → ∀ I4 : It, I4 = e_st I3 (m + 13) j1 x2 → ∀ I5 : It, I5 = e_st I4 m 14 ((I4 m 14) + 1) → Q none z I5) :
    E mX4_addByHand mc ms 86 [some (.ref m), some (.int x1), some (.int x2), some (.int x3), some (.int x4)] [] z I Q := by
  refine E_aload_n (pc := 86) (x := m) ddX4_addByHand_86 rfl rfl ?_
  refine E_getR (pc := 87) (x := (m + 11)) ddX4_addByHand_87 ec_3 15 (Nat.le_of_ble_eq_true rfl) rfl w_1_140 hm.s0 hm.r15 (Nat.succ_ne_zero _) ?_
  refine E_iload (pc := 90) (x := x4) ddX4_addByHand_90 rfl ?_
  refine E_iload_n (pc := 92) (x := x3) ddX4_addByHand_92 rfl rfl ?_
  obtain ⟨j1, ij1, lj1, k⟩ := k
  obtain ⟨I2, eI2⟩ : ∃ y : It, y = e_st I (m + 11) j1 x3 := ⟨_, rfl⟩
  have k := k I2 eI2
  refine E_iastN (pc := 93) (j := j1) ddX4_addByHand_93 hm.s11 (Nat.succ_ne_zero _) ij1 lj1 (Nat.le_of_ble_eq_true rfl) ?_
  rw [← eI2]
  refine E_aload_n (pc := 94) (x := m) ddX4_addByHand_94 rfl rfl ?_
  refine E_getR (pc := 95) (x := (m + 12)) ddX4_addByHand_95 ec_3 16 (Nat.le_of_ble_eq_true rfl) rfl w_1_141 hm.s0 hm.r16 (Nat.succ_ne_zero _) ?_
  refine E_iload (pc := 98) (x := x4) ddX4_addByHand_98 rfl ?_
  refine E_iload_n (pc := 100) (x := x1) ddX4_addByHand_100 rfl rfl ?_
  obtain ⟨I3, eI3⟩ : ∃ y : It, y = e_st I2 (m + 12) j1 x1 := ⟨_, rfl⟩
  have k := k I3 eI3
  refine E_iastN (pc := 101) (j := j1) ddX4_addByHand_101 hm.s12 (Nat.succ_ne_zero _) ij1 lj1 (Nat.le_of_ble_eq_true rfl) ?_
  rw [← eI3]
  refine E_aload_n (pc := 102) (x := m) ddX4_addByHand_102 rfl rfl ?_
  refine E_getR (pc := 103) (x := (m + 13)) ddX4_addByHand_103 ec_3 17 (Nat.le_of_ble_eq_true rfl) rfl w_1_142 hm.s0 hm.r17 (Nat.succ_ne_zero _) ?_
  refine E_iload (pc := 106) (x := x4) ddX4_addByHand_106 rfl ?_
  refine E_iload_n (pc := 108) (x := x2) ddX4_addByHand_108 rfl rfl ?_
  obtain ⟨I4, eI4⟩ : ∃ y : It, y = e_st I3 (m + 13) j1 x2 := ⟨_, rfl⟩
  have k := k I4 eI4
  refine E_iastN (pc := 109) (j := j1) ddX4_addByHand_109 hm.s13 (Nat.succ_ne_zero _) ij1 lj1 (Nat.le_of_ble_eq_true rfl) ?_
  rw [← eI4]
  refine E_aload_n (pc := 110) (x := m) ddX4_addByHand_110 rfl rfl ?_
  refine E_dupr (pc := 111) ddX4_addByHand_111 ?_
  refine E_getI (pc := 112) ddX4_addByHand_112 ec_3 14 (Nat.le_of_ble_eq_true rfl) rfl w_1_138 hm.s0 ?_
  refine E_iconst (pc := 115) (v := 1) ddX4_addByHand_115 rfl ?_
  refine E_iadd (pc := 116) ddX4_addByHand_116 ?_
  obtain ⟨I5, eI5⟩ : ∃ y : It, y = e_st I4 m 14 ((I4 m 14) + 1) := ⟨_, rfl⟩
  have k := k I5 eI5
  refine E_putI (pc := 117) ddX4_addByHand_117 ec_3 14 (Nat.le_of_ble_eq_true rfl) rfl w_1_138 hm.s0 rfl rfl ?_
  rw [← eI5]
  exact E_vret (pc := 120) ddX4_addByHand_120 rfl k
/-! X4_tellAll, labels [2, 19, 22] -/
set_option maxRecDepth 100000 in
set_option maxHeartbeats 4000000 in
theorem B_X4_tellAll_0 {mc ms : Nat} {z : Zt} {I : It} {Q : Option Value → Zt → It → Prop} {m p : Nat} (hm : isM z m) (hp : isP z p)
    (k : E mX4_tellAll mc ms 2 [some (.ref m), some (.ref p), some (.int 0)] [] z I Q) :
    E mX4_tellAll mc ms 0 [some (.ref m), some (.ref p), none] [] z I Q := by
  refine E_iconst (pc := 0) (v := 0) ddX4_tellAll_0 rfl ?_
  refine E_istore_n (pc := 1) (ls' := [some (.ref m), some (.ref p), some (.int 0)]) ddX4_tellAll_1 rfl (Nat.le_of_ble_eq_true rfl) rfl rfl ?_
  exact k
set_option maxRecDepth 100000 in
set_option maxHeartbeats 4000000 in
theorem B_X4_tellAll_2 {mc ms : Nat} {z : Zt} {I : It} {Q : Option Value → Zt → It → Prop} {x2 : Int32} {m p : Nat} (hm : isM z m) (hp : isP z p)
    (k : (((I p 1) ≤ x2) → Q none z I) ∧
    ((¬ (I p 1) ≤ x2) → E mX4_outcomeOf 0 0 0 [some (.ref m), some (.ref p), some (.int x2)] [] z I (fun r z' I' => E mX4_tellAll mc ms 19 [some (.ref m), some (.ref p), some (.int x2)] (r.toList ++ [.int x2, .ref p, .ref m]) z' I' Q))) :
    E mX4_tellAll mc ms 2 [some (.ref m), some (.ref p), some (.int x2)] [] z I Q := by
  refine E_iload_n (pc := 2) (x := x2) ddX4_tellAll_2 rfl rfl ?_
  refine E_aload_n (pc := 3) (x := p) ddX4_tellAll_3 rfl rfl ?_
  refine E_getI (pc := 4) ddX4_tellAll_4 ec_5 1 (Nat.le_of_ble_eq_true rfl) rfl w_1_60 hp.s0 ?_
  refine E_icmp_ge (pc := 7) (tgt := 28) ddX4_tellAll_7 (by decide) (fun h => ?_) (fun h => ?_)
  · have k := k.1 h
    exact E_vret (pc := 28) ddX4_tellAll_28 rfl k
  · have k := k.2 h
    refine E_aload_n (pc := 10) (x := m) ddX4_tellAll_10 rfl rfl ?_
    refine E_aload_n (pc := 11) (x := p) ddX4_tellAll_11 rfl rfl ?_
    refine E_iload_n (pc := 12) (x := x2) ddX4_tellAll_12 rfl rfl ?_
    refine E_aload_n (pc := 13) (x := m) ddX4_tellAll_13 rfl rfl ?_
    refine E_aload_n (pc := 14) (x := p) ddX4_tellAll_14 rfl rfl ?_
    refine E_iload_n (pc := 15) (x := x2) ddX4_tellAll_15 rfl rfl ?_
    exact E_callV (pc := 16) (As := [.ref p, .int x2]) (st := [.int x2, .ref p, .ref m]) (a := m) ddX4_tellAll_16 hX4_outcomeOf ⟨(Nat.le_of_ble_eq_true rfl), (Nat.le_of_ble_eq_true rfl)⟩ w_2_120 (ci := 3) rfl rfl hm.s0 rfl rfl (Nat.le_of_ble_eq_true rfl) (e_cc rfl (e_cc rfl e_cn)) (Nat.le_of_ble_eq_true rfl) k
set_option maxRecDepth 100000 in
set_option maxHeartbeats 4000000 in
theorem B_X4_tellAll_19 {mc ms : Nat} {z : Zt} {I : It} {Q : Option Value → Zt → It → Prop} {x2 y0 y1 : Int32} {m p : Nat} (hm : isM z m) (hp : isP z p)
    (k : E mX4_tellGate 0 0 0 [some (.ref m), some (.ref p), some (.int y1), some (.int y0), none, none] [] z I (fun r z' I' => E mX4_tellAll mc ms 22 [some (.ref m), some (.ref p), some (.int x2)] (r.toList ++ []) z' I' Q)) :
    E mX4_tellAll mc ms 19 [some (.ref m), some (.ref p), some (.int x2)] [.int y0, .int y1, .ref p, .ref m] z I Q := by
  exact E_callV (pc := 19) (As := [.ref p, .int y1, .int y0]) (st := []) (a := m) ddX4_tellAll_19 hX4_tellGate ⟨(Nat.le_of_ble_eq_true rfl), (Nat.le_of_ble_eq_true rfl)⟩ w_2_127 (ci := 3) rfl rfl hm.s0 rfl rfl (Nat.le_of_ble_eq_true rfl) (e_cc rfl (e_cc rfl (e_cc rfl e_cn))) (Nat.le_of_ble_eq_true rfl) k
set_option maxRecDepth 100000 in
set_option maxHeartbeats 4000000 in
theorem B_X4_tellAll_22 {mc ms : Nat} {z : Zt} {I : It} {Q : Option Value → Zt → It → Prop} {x2 : Int32} {m p : Nat} (hm : isM z m) (hp : isP z p)
    (k : E mX4_tellAll mc ms 2 [some (.ref m), some (.ref p), some (.int (x2 + 1))] [] z I Q) :
    E mX4_tellAll mc ms 22 [some (.ref m), some (.ref p), some (.int x2)] [] z I Q := by
  refine E_iinc (pc := 22) (v := (x2 + 1)) (ls' := [some (.ref m), some (.ref p), some (.int (x2 + 1))]) ddX4_tellAll_22 rfl rfl (Nat.le_of_ble_eq_true rfl) rfl rfl ?_
  refine E_goto (pc := 25) (tgt := 2) ddX4_tellAll_25 (by decide) ?_
  exact k
/-! X4_tellLookers, labels [2, 15, 29, 32] -/
set_option maxRecDepth 100000 in
set_option maxHeartbeats 4000000 in
theorem B_X4_tellLookers_0 {mc ms : Nat} {z : Zt} {I : It} {Q : Option Value → Zt → It → Prop} {x2 : Int32} {m p : Nat} (hm : isM z m) (hp : isP z p)
    (k : E mX4_tellLookers mc ms 2 [some (.ref m), some (.ref p), some (.int x2), some (.int 0)] [] z I Q) :
    E mX4_tellLookers mc ms 0 [some (.ref m), some (.ref p), some (.int x2), none] [] z I Q := by
  refine E_iconst (pc := 0) (v := 0) ddX4_tellLookers_0 rfl ?_
  refine E_istore_n (pc := 1) (ls' := [some (.ref m), some (.ref p), some (.int x2), some (.int 0)]) ddX4_tellLookers_1 rfl (Nat.le_of_ble_eq_true rfl) rfl rfl ?_
  exact k
set_option maxRecDepth 100000 in
set_option maxHeartbeats 4000000 in
theorem B_X4_tellLookers_2 {mc ms : Nat} {z : Zt} {I : It} {Q : Option Value → Zt → It → Prop} {x2 x3 : Int32} {m p : Nat} (hm : isM z m) (hp : isP z p)
    (k : (((I p 1) ≤ x3) → Q none z I) ∧
    ((¬ (I p 1) ≤ x3) → E mX6_looks 0 0 0 [some (.ref p), some (.int x3), none] [] z I (fun r z' I' => E mX4_tellLookers mc ms 15 [some (.ref m), some (.ref p), some (.int x2), some (.int x3)] (r.toList ++ []) z' I' Q))) :
    E mX4_tellLookers mc ms 2 [some (.ref m), some (.ref p), some (.int x2), some (.int x3)] [] z I Q := by
  refine E_iload_n (pc := 2) (x := x3) ddX4_tellLookers_2 rfl rfl ?_
  refine E_aload_n (pc := 3) (x := p) ddX4_tellLookers_3 rfl rfl ?_
  refine E_getI (pc := 4) ddX4_tellLookers_4 ec_5 1 (Nat.le_of_ble_eq_true rfl) rfl w_1_60 hp.s0 ?_
  refine E_icmp_ge (pc := 7) (tgt := 38) ddX4_tellLookers_7 (by decide) (fun h => ?_) (fun h => ?_)
  · have k := k.1 h
    exact E_vret (pc := 38) ddX4_tellLookers_38 rfl k
  · have k := k.2 h
    refine E_aload_n (pc := 10) (x := p) ddX4_tellLookers_10 rfl rfl ?_
    refine E_iload_n (pc := 11) (x := x3) ddX4_tellLookers_11 rfl rfl ?_
    exact E_callV (pc := 12) (As := [.int x3]) (st := []) (a := p) ddX4_tellLookers_12 hX6_looks ⟨(Nat.le_of_ble_eq_true rfl), (Nat.le_of_ble_eq_true rfl)⟩ w_2_224 (ci := 5) rfl rfl hp.s0 rfl rfl (Nat.le_of_ble_eq_true rfl) (e_cc rfl e_cn) (Nat.le_of_ble_eq_true rfl) k
set_option maxRecDepth 100000 in
set_option maxHeartbeats 4000000 in
theorem B_X4_tellLookers_15 {mc ms : Nat} {z : Zt} {I : It} {Q : Option Value → Zt → It → Prop} {x2 x3 y0 : Int32} {m p : Nat} (hm : isM z m) (hp : isP z p)
    (k : (((y0 &&& x2) = 0) → E mX4_tellLookers mc ms 2 [some (.ref m), some (.ref p), some (.int x2), some (.int (x3 + 1))] [] z I Q) ∧
    ((¬ (y0 &&& x2) = 0) → E mX4_outcomeOf 0 0 0 [some (.ref m), some (.ref p), some (.int x3)] [] z I (fun r z' I' => E mX4_tellLookers mc ms 29 [some (.ref m), some (.ref p), some (.int x2), some (.int x3)] (r.toList ++ [.int x3, .ref p, .ref m]) z' I' Q))) :
    E mX4_tellLookers mc ms 15 [some (.ref m), some (.ref p), some (.int x2), some (.int x3)] [.int y0] z I Q := by
  refine E_iload_n (pc := 15) (x := x2) ddX4_tellLookers_15 rfl rfl ?_
  refine E_iand (pc := 16) ddX4_tellLookers_16 ?_
  refine E_if_eq (pc := 17) (tgt := 32) ddX4_tellLookers_17 (by decide) (fun h => ?_) (fun h => ?_)
  · have k := k.1 h
    refine E_iinc (pc := 32) (v := (x3 + 1)) (ls' := [some (.ref m), some (.ref p), some (.int x2), some (.int (x3 + 1))]) ddX4_tellLookers_32 rfl rfl (Nat.le_of_ble_eq_true rfl) rfl rfl ?_
    refine E_goto (pc := 35) (tgt := 2) ddX4_tellLookers_35 (by decide) ?_
    exact k
  · have k := k.2 h
    refine E_aload_n (pc := 20) (x := m) ddX4_tellLookers_20 rfl rfl ?_
    refine E_aload_n (pc := 21) (x := p) ddX4_tellLookers_21 rfl rfl ?_
    refine E_iload_n (pc := 22) (x := x3) ddX4_tellLookers_22 rfl rfl ?_
    refine E_aload_n (pc := 23) (x := m) ddX4_tellLookers_23 rfl rfl ?_
    refine E_aload_n (pc := 24) (x := p) ddX4_tellLookers_24 rfl rfl ?_
    refine E_iload_n (pc := 25) (x := x3) ddX4_tellLookers_25 rfl rfl ?_
    exact E_callV (pc := 26) (As := [.ref p, .int x3]) (st := [.int x3, .ref p, .ref m]) (a := m) ddX4_tellLookers_26 hX4_outcomeOf ⟨(Nat.le_of_ble_eq_true rfl), (Nat.le_of_ble_eq_true rfl)⟩ w_2_120 (ci := 3) rfl rfl hm.s0 rfl rfl (Nat.le_of_ble_eq_true rfl) (e_cc rfl (e_cc rfl e_cn)) (Nat.le_of_ble_eq_true rfl) k
set_option maxRecDepth 100000 in
set_option maxHeartbeats 4000000 in
theorem B_X4_tellLookers_29 {mc ms : Nat} {z : Zt} {I : It} {Q : Option Value → Zt → It → Prop} {x2 x3 y0 y1 : Int32} {m p : Nat} (hm : isM z m) (hp : isP z p)
    (k : E mX4_tellGate 0 0 0 [some (.ref m), some (.ref p), some (.int y1), some (.int y0), none, none] [] z I (fun r z' I' => E mX4_tellLookers mc ms 32 [some (.ref m), some (.ref p), some (.int x2), some (.int x3)] (r.toList ++ []) z' I' Q)) :
    E mX4_tellLookers mc ms 29 [some (.ref m), some (.ref p), some (.int x2), some (.int x3)] [.int y0, .int y1, .ref p, .ref m] z I Q := by
  exact E_callV (pc := 29) (As := [.ref p, .int y1, .int y0]) (st := []) (a := m) ddX4_tellLookers_29 hX4_tellGate ⟨(Nat.le_of_ble_eq_true rfl), (Nat.le_of_ble_eq_true rfl)⟩ w_2_127 (ci := 3) rfl rfl hm.s0 rfl rfl (Nat.le_of_ble_eq_true rfl) (e_cc rfl (e_cc rfl (e_cc rfl e_cn))) (Nat.le_of_ble_eq_true rfl) k
set_option maxRecDepth 100000 in
set_option maxHeartbeats 4000000 in
theorem B_X4_tellLookers_32 {mc ms : Nat} {z : Zt} {I : It} {Q : Option Value → Zt → It → Prop} {x2 x3 : Int32} {m p : Nat} (hm : isM z m) (hp : isP z p)
    (k : E mX4_tellLookers mc ms 2 [some (.ref m), some (.ref p), some (.int x2), some (.int (x3 + 1))] [] z I Q) :
    E mX4_tellLookers mc ms 32 [some (.ref m), some (.ref p), some (.int x2), some (.int x3)] [] z I Q := by
  refine E_iinc (pc := 32) (v := (x3 + 1)) (ls' := [some (.ref m), some (.ref p), some (.int x2), some (.int (x3 + 1))]) ddX4_tellLookers_32 rfl rfl (Nat.le_of_ble_eq_true rfl) rfl rfl ?_
  refine E_goto (pc := 35) (tgt := 2) ddX4_tellLookers_35 (by decide) ?_
  exact k
/-! X4_tellGate, labels [19, 62, 86, 90, 107] -/
set_option maxRecDepth 100000 in
set_option maxHeartbeats 4000000 in
theorem B_X4_tellGate_0 {mc ms : Nat} {z : Zt} {I : It} {Q : Option Value → Zt → It → Prop} {x2 x3 : Int32} {m p : Nat} (hm : isM z m) (hp : isP z p)
    (k : ∃ j1 : Nat, x2 = nI j1 ∧ j1 < 8 ∧ ∀ v2 : Int32, v2 = ((I m 0) + (I (p + 6) j1)) → ∀ v3 : Int32, v3 = (x2 * 8) → E mX4_tellGate mc ms 19 [some (.ref m), some (.ref p), some (.int x2), some (.int x3), some (.int v2), some (.int v3)] [] z I Q) :
    E mX4_tellGate mc ms 0 [some (.ref m), some (.ref p), some (.int x2), some (.int x3), none, none] [] z I Q := by
  refine E_aload_n (pc := 0) (x := m) ddX4_tellGate_0 rfl rfl ?_
  refine E_getI (pc := 1) ddX4_tellGate_1 ec_3 0 (Nat.le_of_ble_eq_true rfl) rfl w_1_114 hm.s0 ?_
  refine E_aload_n (pc := 4) (x := p) ddX4_tellGate_4 rfl rfl ?_
  refine E_getR (pc := 5) (x := (p + 6)) ddX4_tellGate_5 ec_5 7 (Nat.le_of_ble_eq_true rfl) rfl w_1_84 hp.s0 hp.r7 (Nat.succ_ne_zero _) ?_
  refine E_iload_n (pc := 8) (x := x2) ddX4_tellGate_8 rfl rfl ?_
  obtain ⟨j1, ij1, lj1, k⟩ := k
  refine E_ialdN (pc := 9) (j := j1) ddX4_tellGate_9 hp.s6 ij1 lj1 (Nat.le_of_ble_eq_true rfl) ?_
  refine E_iadd (pc := 10) ddX4_tellGate_10 ?_
  obtain ⟨v2, ev2⟩ : ∃ y : Int32, y = ((I m 0) + (I (p + 6) j1)) := ⟨_, rfl⟩
  have k := k v2 ev2
  rw [← ev2]
  refine E_istore (pc := 11) (ls' := [some (.ref m), some (.ref p), some (.int x2), some (.int x3), some (.int v2), none]) ddX4_tellGate_11 (Nat.le_of_ble_eq_true rfl) rfl rfl ?_
  refine E_iload_n (pc := 13) (x := x2) ddX4_tellGate_13 rfl rfl ?_
  refine E_bipush (pc := 14) (v := 8) ddX4_tellGate_14 rfl ?_
  refine E_imul (pc := 16) ddX4_tellGate_16 ?_
  obtain ⟨v3, ev3⟩ : ∃ y : Int32, y = (x2 * 8) := ⟨_, rfl⟩
  have k := k v3 ev3
  rw [← ev3]
  refine E_istore (pc := 17) (ls' := [some (.ref m), some (.ref p), some (.int x2), some (.int x3), some (.int v2), some (.int v3)]) ddX4_tellGate_17 (Nat.le_of_ble_eq_true rfl) rfl rfl ?_
  exact k
set_option maxRecDepth 100000 in
set_option maxHeartbeats 4000000 in
theorem B_X4_tellGate_19 {mc ms : Nat} {z : Zt} {I : It} {Q : Option Value → Zt → It → Prop} {x2 x3 x4 x5 : Int32} {m p : Nat} (hm : isM z m) (hp : isP z p)
    (k : ∃ j1 : Nat, x2 = nI j1 ∧ j1 < 8 ∧ (((I (m + 8) j1) ≤ 0) → E mX4_tellGate mc ms 62 [some (.ref m), some (.ref p), some (.int x2), some (.int x3), some (.int x4), some (.int x5)] [] z I Q) ∧
    ((¬ (I (m + 8) j1) ≤ 0) → ∃ j2 : Nat, ((x5 + (I (m + 8) j1)) - 1) = nI j2 ∧ j2 < 64 ∧ (((I (m + 9) j2) < x4) → E mX4_tellGate mc ms 62 [some (.ref m), some (.ref p), some (.int x2), some (.int x3), some (.int x4), some (.int x5)] [] z I Q) ∧
    ((¬ (I (m + 9) j2) < x4) → ∀ I3 : It, I3 = e_st I (m + 8) j1 ((I (m + 8) j1) - 1) → E mX4_tellGate mc ms 19 [some (.ref m), some (.ref p), some (.int x2), some (.int x3), some (.int x4), some (.int x5)] [] z I3 Q))) :
    E mX4_tellGate mc ms 19 [some (.ref m), some (.ref p), some (.int x2), some (.int x3), some (.int x4), some (.int x5)] [] z I Q := by
  refine E_aload_n (pc := 19) (x := m) ddX4_tellGate_19 rfl rfl ?_
  refine E_getR (pc := 20) (x := (m + 8)) ddX4_tellGate_20 ec_3 11 (Nat.le_of_ble_eq_true rfl) rfl w_1_134 hm.s0 hm.r11 (Nat.succ_ne_zero _) ?_
  refine E_iload_n (pc := 23) (x := x2) ddX4_tellGate_23 rfl rfl ?_
  obtain ⟨j1, ij1, lj1, k⟩ := k
  refine E_ialdN (pc := 24) (j := j1) ddX4_tellGate_24 hm.s8 ij1 lj1 (Nat.le_of_ble_eq_true rfl) ?_
  refine E_if_le (pc := 25) (tgt := 62) ddX4_tellGate_25 (by decide) (fun h => ?_) (fun h => ?_)
  · have k := k.1 h
    exact k
  · have k := k.2 h
    refine E_aload_n (pc := 28) (x := m) ddX4_tellGate_28 rfl rfl ?_
    refine E_getR (pc := 29) (x := (m + 9)) ddX4_tellGate_29 ec_3 12 (Nat.le_of_ble_eq_true rfl) rfl w_1_136 hm.s0 hm.r12 (Nat.succ_ne_zero _) ?_
    refine E_iload (pc := 32) (x := x5) ddX4_tellGate_32 rfl ?_
    refine E_aload_n (pc := 34) (x := m) ddX4_tellGate_34 rfl rfl ?_
    refine E_getR (pc := 35) (x := (m + 8)) ddX4_tellGate_35 ec_3 11 (Nat.le_of_ble_eq_true rfl) rfl w_1_134 hm.s0 hm.r11 (Nat.succ_ne_zero _) ?_
    refine E_iload_n (pc := 38) (x := x2) ddX4_tellGate_38 rfl rfl ?_
    refine E_ialdN (pc := 39) (j := j1) ddX4_tellGate_39 hm.s8 ij1 lj1 (Nat.le_of_ble_eq_true rfl) ?_
    refine E_iadd (pc := 40) ddX4_tellGate_40 ?_
    refine E_iconst (pc := 41) (v := 1) ddX4_tellGate_41 rfl ?_
    refine E_isub (pc := 42) ddX4_tellGate_42 ?_
    obtain ⟨j2, ij2, lj2, k⟩ := k
    refine E_ialdN (pc := 43) (j := j2) ddX4_tellGate_43 hm.s9 ij2 lj2 (Nat.le_of_ble_eq_true rfl) ?_
    refine E_iload (pc := 44) (x := x4) ddX4_tellGate_44 rfl ?_
    refine E_icmp_lt (pc := 46) (tgt := 62) ddX4_tellGate_46 (by decide) (fun h => ?_) (fun h => ?_)
    · have k := k.1 h
      exact k
    · have k := k.2 h
      refine E_aload_n (pc := 49) (x := m) ddX4_tellGate_49 rfl rfl ?_
      refine E_getR (pc := 50) (x := (m + 8)) ddX4_tellGate_50 ec_3 11 (Nat.le_of_ble_eq_true rfl) rfl w_1_134 hm.s0 hm.r11 (Nat.succ_ne_zero _) ?_
      refine E_iload_n (pc := 53) (x := x2) ddX4_tellGate_53 rfl rfl ?_
      refine E_dup2 (pc := 54) ddX4_tellGate_54 ?_
      refine E_ialdN (pc := 55) (j := j1) ddX4_tellGate_55 hm.s8 ij1 lj1 (Nat.le_of_ble_eq_true rfl) ?_
      refine E_iconst (pc := 56) (v := 1) ddX4_tellGate_56 rfl ?_
      refine E_isub (pc := 57) ddX4_tellGate_57 ?_
      obtain ⟨I3, eI3⟩ : ∃ y : It, y = e_st I (m + 8) j1 ((I (m + 8) j1) - 1) := ⟨_, rfl⟩
      have k := k I3 eI3
      refine E_iastN (pc := 58) (j := j1) ddX4_tellGate_58 hm.s8 (Nat.succ_ne_zero _) ij1 lj1 (Nat.le_of_ble_eq_true rfl) ?_
      rw [← eI3]
      refine E_goto (pc := 59) (tgt := 19) ddX4_tellGate_59 (by decide) ?_
      exact k
set_option maxRecDepth 100000 in
set_option maxHeartbeats 4000000 in
theorem B_X4_tellGate_62 {mc ms : Nat} {z : Zt} {I : It} {Q : Option Value → Zt → It → Prop} {x2 x3 x4 x5 : Int32} {m p : Nat} (hm : isM z m) (hp : isP z p)
    (k : ∃ j1 : Nat, x2 = nI j1 ∧ j1 < 8 ∧ ((¬ (I (p + 7) j1) = 1) → (((I (m + 8) j1) < 8) → E mX4_tellGate mc ms 107 [some (.ref m), none, some (.int x2), some (.int x3), some (.int x4), some (.int x5)] [] z I Q) ∧
    ((¬ (I (m + 8) j1) < 8) → E mX4_dropFirst 0 0 0 [some (.ref m), some (.int x2), some (.int 1), none, none, none] [] z I (fun r z' I' => E mX4_tellGate mc ms 107 [some (.ref m), none, some (.int x2), some (.int x3), some (.int x4), some (.int x5)] (r.toList ++ []) z' I' Q))) ∧
    (((I (p + 7) j1) = 1) → E mX4_alikeAtEnd 0 0 0 [some (.ref m), some (.int x2), some (.int x3), none, none] [] z I (fun r z' I' => E mX4_tellGate mc ms 86 [some (.ref m), none, some (.int x2), some (.int x3), some (.int x4), some (.int x5)] (r.toList ++ [.int (I (m + 8) j1), .int x2, .ref m]) z' I' Q))) :
    E mX4_tellGate mc ms 62 [some (.ref m), some (.ref p), some (.int x2), some (.int x3), some (.int x4), some (.int x5)] [] z I Q := by
  refine E_aload_n (pc := 62) (x := p) ddX4_tellGate_62 rfl rfl ?_
  refine E_getR (pc := 63) (x := (p + 7)) ddX4_tellGate_63 ec_5 8 (Nat.le_of_ble_eq_true rfl) rfl w_1_88 hp.s0 hp.r8 (Nat.succ_ne_zero _) ?_
  refine E_iload_n (pc := 66) (x := x2) ddX4_tellGate_66 rfl rfl ?_
  obtain ⟨j1, ij1, lj1, k⟩ := k
  refine E_ialdN (pc := 67) (j := j1) ddX4_tellGate_67 hp.s7 ij1 lj1 (Nat.le_of_ble_eq_true rfl) ?_
  refine E_iconst (pc := 68) (v := 1) ddX4_tellGate_68 rfl ?_
  refine E_icmp_ne (pc := 69) (tgt := 90) ddX4_tellGate_69 (by decide) (fun h => ?_) (fun h => ?_)
  · have k := k.1 h
    refine E_aload_n (pc := 90) (x := m) ddX4_tellGate_90 rfl rfl ?_
    refine E_getR (pc := 91) (x := (m + 8)) ddX4_tellGate_91 ec_3 11 (Nat.le_of_ble_eq_true rfl) rfl w_1_134 hm.s0 hm.r11 (Nat.succ_ne_zero _) ?_
    refine E_iload_n (pc := 94) (x := x2) ddX4_tellGate_94 rfl rfl ?_
    refine E_ialdN (pc := 95) (j := j1) ddX4_tellGate_95 hm.s8 ij1 lj1 (Nat.le_of_ble_eq_true rfl) ?_
    refine E_bipush (pc := 96) (v := 8) ddX4_tellGate_96 rfl ?_
    refine E_icmp_lt (pc := 98) (tgt := 107) ddX4_tellGate_98 (by decide) (fun h => ?_) (fun h => ?_)
    · have k := k.1 h
      exact E.forget k ⟨rfl, ⟨rfl, ⟨rfl, ⟨rfl, ⟨rfl, trivial⟩⟩⟩⟩⟩
    · have k := k.2 h
      refine E_aload_n (pc := 101) (x := m) ddX4_tellGate_101 rfl rfl ?_
      refine E_iload_n (pc := 102) (x := x2) ddX4_tellGate_102 rfl rfl ?_
      refine E_iconst (pc := 103) (v := 1) ddX4_tellGate_103 rfl ?_
      exact E_callV (pc := 104) (As := [.int x2, .int 1]) (st := []) (a := m) ddX4_tellGate_104 hX4_dropFirst ⟨(Nat.le_of_ble_eq_true rfl), (Nat.le_of_ble_eq_true rfl)⟩ w_2_135 (ci := 3) rfl rfl hm.s0 rfl rfl (Nat.le_of_ble_eq_true rfl) (e_cc rfl (e_cc rfl e_cn)) (Nat.le_of_ble_eq_true rfl) (E.mono k fun _ _ _ q => E.forget q ⟨rfl, ⟨rfl, ⟨rfl, ⟨rfl, ⟨rfl, trivial⟩⟩⟩⟩⟩)
  · have k := k.2 h
    refine E_aload_n (pc := 72) (x := m) ddX4_tellGate_72 rfl rfl ?_
    refine E_iload_n (pc := 73) (x := x2) ddX4_tellGate_73 rfl rfl ?_
    refine E_aload_n (pc := 74) (x := m) ddX4_tellGate_74 rfl rfl ?_
    refine E_getR (pc := 75) (x := (m + 8)) ddX4_tellGate_75 ec_3 11 (Nat.le_of_ble_eq_true rfl) rfl w_1_134 hm.s0 hm.r11 (Nat.succ_ne_zero _) ?_
    refine E_iload_n (pc := 78) (x := x2) ddX4_tellGate_78 rfl rfl ?_
    refine E_ialdN (pc := 79) (j := j1) ddX4_tellGate_79 hm.s8 ij1 lj1 (Nat.le_of_ble_eq_true rfl) ?_
    refine E_aload_n (pc := 80) (x := m) ddX4_tellGate_80 rfl rfl ?_
    refine E_iload_n (pc := 81) (x := x2) ddX4_tellGate_81 rfl rfl ?_
    refine E_iload_n (pc := 82) (x := x3) ddX4_tellGate_82 rfl rfl ?_
    exact E_callV (pc := 83) (As := [.int x2, .int x3]) (st := [.int (I (m + 8) j1), .int x2, .ref m]) (a := m) ddX4_tellGate_83 hX4_alikeAtEnd ⟨(Nat.le_of_ble_eq_true rfl), (Nat.le_of_ble_eq_true rfl)⟩ w_2_131 (ci := 3) rfl rfl hm.s0 rfl rfl (Nat.le_of_ble_eq_true rfl) (e_cc rfl (e_cc rfl e_cn)) (Nat.le_of_ble_eq_true rfl) (E.mono k fun _ _ _ q => E.forget q ⟨rfl, ⟨rfl, ⟨rfl, ⟨rfl, ⟨rfl, trivial⟩⟩⟩⟩⟩)
set_option maxRecDepth 100000 in
set_option maxHeartbeats 4000000 in
theorem B_X4_tellGate_107 {mc ms : Nat} {z : Zt} {I : It} {Q : Option Value → Zt → It → Prop} {x2 x3 x4 x5 : Int32} {m : Nat} (hm : isM z m)
    (k : ∃ j1 : Nat, x2 = nI j1 ∧ j1 < 8 ∧ ∃ j2 : Nat, (x5 + (I (m + 8) j1)) = nI j2 ∧ j2 < 64 ∧ ∀ I3 : It, I3 = e_st I (m + 9) j2 x4 → ∃ j4 : Nat, (x5 + (I3 (m + 8) j1)) = nI j4 ∧ j4 < 64 ∧ ∀ I5 : It, I5 = e_st I3 (m + 10) j4 x3 → ∀ I6 : It, I6 = e_st I5 (m + 8) j1 ((I5 (m + 8) j1) + 1) → Q none z I6) :
    E mX4_tellGate mc ms 107 [some (.ref m), none, some (.int x2), some (.int x3), some (.int x4), some (.int x5)] [] z I Q := by
  refine E_aload_n (pc := 107) (x := m) ddX4_tellGate_107 rfl rfl ?_
  refine E_getR (pc := 108) (x := (m + 9)) ddX4_tellGate_108 ec_3 12 (Nat.le_of_ble_eq_true rfl) rfl w_1_136 hm.s0 hm.r12 (Nat.succ_ne_zero _) ?_
  refine E_iload (pc := 111) (x := x5) ddX4_tellGate_111 rfl ?_
  refine E_aload_n (pc := 113) (x := m) ddX4_tellGate_113 rfl rfl ?_
  refine E_getR (pc := 114) (x := (m + 8)) ddX4_tellGate_114 ec_3 11 (Nat.le_of_ble_eq_true rfl) rfl w_1_134 hm.s0 hm.r11 (Nat.succ_ne_zero _) ?_
  refine E_iload_n (pc := 117) (x := x2) ddX4_tellGate_117 rfl rfl ?_
  obtain ⟨j1, ij1, lj1, k⟩ := k
  refine E_ialdN (pc := 118) (j := j1) ddX4_tellGate_118 hm.s8 ij1 lj1 (Nat.le_of_ble_eq_true rfl) ?_
  refine E_iadd (pc := 119) ddX4_tellGate_119 ?_
  refine E_iload (pc := 120) (x := x4) ddX4_tellGate_120 rfl ?_
  obtain ⟨j2, ij2, lj2, k⟩ := k
  obtain ⟨I3, eI3⟩ : ∃ y : It, y = e_st I (m + 9) j2 x4 := ⟨_, rfl⟩
  have k := k I3 eI3
  refine E_iastN (pc := 122) (j := j2) ddX4_tellGate_122 hm.s9 (Nat.succ_ne_zero _) ij2 lj2 (Nat.le_of_ble_eq_true rfl) ?_
  rw [← eI3]
  refine E_aload_n (pc := 123) (x := m) ddX4_tellGate_123 rfl rfl ?_
  refine E_getR (pc := 124) (x := (m + 10)) ddX4_tellGate_124 ec_3 13 (Nat.le_of_ble_eq_true rfl) rfl w_1_137 hm.s0 hm.r13 (Nat.succ_ne_zero _) ?_
  refine E_iload (pc := 127) (x := x5) ddX4_tellGate_127 rfl ?_
  refine E_aload_n (pc := 129) (x := m) ddX4_tellGate_129 rfl rfl ?_
  refine E_getR (pc := 130) (x := (m + 8)) ddX4_tellGate_130 ec_3 11 (Nat.le_of_ble_eq_true rfl) rfl w_1_134 hm.s0 hm.r11 (Nat.succ_ne_zero _) ?_
  refine E_iload_n (pc := 133) (x := x2) ddX4_tellGate_133 rfl rfl ?_
  refine E_ialdN (pc := 134) (j := j1) ddX4_tellGate_134 hm.s8 ij1 lj1 (Nat.le_of_ble_eq_true rfl) ?_
  refine E_iadd (pc := 135) ddX4_tellGate_135 ?_
  refine E_iload_n (pc := 136) (x := x3) ddX4_tellGate_136 rfl rfl ?_
  obtain ⟨j4, ij4, lj4, k⟩ := k
  obtain ⟨I5, eI5⟩ : ∃ y : It, y = e_st I3 (m + 10) j4 x3 := ⟨_, rfl⟩
  have k := k I5 eI5
  refine E_iastN (pc := 137) (j := j4) ddX4_tellGate_137 hm.s10 (Nat.succ_ne_zero _) ij4 lj4 (Nat.le_of_ble_eq_true rfl) ?_
  rw [← eI5]
  refine E_aload_n (pc := 138) (x := m) ddX4_tellGate_138 rfl rfl ?_
  refine E_getR (pc := 139) (x := (m + 8)) ddX4_tellGate_139 ec_3 11 (Nat.le_of_ble_eq_true rfl) rfl w_1_134 hm.s0 hm.r11 (Nat.succ_ne_zero _) ?_
  refine E_iload_n (pc := 142) (x := x2) ddX4_tellGate_142 rfl rfl ?_
  refine E_dup2 (pc := 143) ddX4_tellGate_143 ?_
  refine E_ialdN (pc := 144) (j := j1) ddX4_tellGate_144 hm.s8 ij1 lj1 (Nat.le_of_ble_eq_true rfl) ?_
  refine E_iconst (pc := 145) (v := 1) ddX4_tellGate_145 rfl ?_
  refine E_iadd (pc := 146) ddX4_tellGate_146 ?_
  obtain ⟨I6, eI6⟩ : ∃ y : It, y = e_st I5 (m + 8) j1 ((I5 (m + 8) j1) + 1) := ⟨_, rfl⟩
  have k := k I6 eI6
  refine E_iastN (pc := 147) (j := j1) ddX4_tellGate_147 hm.s8 (Nat.succ_ne_zero _) ij1 lj1 (Nat.le_of_ble_eq_true rfl) ?_
  rw [← eI6]
  exact E_vret (pc := 148) ddX4_tellGate_148 rfl k
set_option maxRecDepth 100000 in
set_option maxHeartbeats 4000000 in
theorem B_X4_tellGate_86 {mc ms : Nat} {z : Zt} {I : It} {Q : Option Value → Zt → It → Prop} {x2 x3 x4 x5 y0 y1 y2 : Int32} {m : Nat} (hm : isM z m)
    (k : E mX4_dropFirst 0 0 0 [some (.ref m), some (.int y2), some (.int (y1 - y0)), none, none, none] [] z I (fun r z' I' => E mX4_tellGate mc ms 90 [some (.ref m), none, some (.int x2), some (.int x3), some (.int x4), some (.int x5)] (r.toList ++ []) z' I' Q)) :
    E mX4_tellGate mc ms 86 [some (.ref m), none, some (.int x2), some (.int x3), some (.int x4), some (.int x5)] [.int y0, .int y1, .int y2, .ref m] z I Q := by
  refine E_isub (pc := 86) ddX4_tellGate_86 ?_
  exact E_callV (pc := 87) (As := [.int y2, .int (y1 - y0)]) (st := []) (a := m) ddX4_tellGate_87 hX4_dropFirst ⟨(Nat.le_of_ble_eq_true rfl), (Nat.le_of_ble_eq_true rfl)⟩ w_2_135 (ci := 3) rfl rfl hm.s0 rfl rfl (Nat.le_of_ble_eq_true rfl) (e_cc rfl (e_cc rfl e_cn)) (Nat.le_of_ble_eq_true rfl) k
set_option maxRecDepth 100000 in
set_option maxHeartbeats 4000000 in
theorem B_X4_tellGate_90 {mc ms : Nat} {z : Zt} {I : It} {Q : Option Value → Zt → It → Prop} {x2 x3 x4 x5 : Int32} {m : Nat} (hm : isM z m)
    (k : ∃ j1 : Nat, x2 = nI j1 ∧ j1 < 8 ∧ (((I (m + 8) j1) < 8) → E mX4_tellGate mc ms 107 [some (.ref m), none, some (.int x2), some (.int x3), some (.int x4), some (.int x5)] [] z I Q) ∧
    ((¬ (I (m + 8) j1) < 8) → E mX4_dropFirst 0 0 0 [some (.ref m), some (.int x2), some (.int 1), none, none, none] [] z I (fun r z' I' => E mX4_tellGate mc ms 107 [some (.ref m), none, some (.int x2), some (.int x3), some (.int x4), some (.int x5)] (r.toList ++ []) z' I' Q))) :
    E mX4_tellGate mc ms 90 [some (.ref m), none, some (.int x2), some (.int x3), some (.int x4), some (.int x5)] [] z I Q := by
  refine E_aload_n (pc := 90) (x := m) ddX4_tellGate_90 rfl rfl ?_
  refine E_getR (pc := 91) (x := (m + 8)) ddX4_tellGate_91 ec_3 11 (Nat.le_of_ble_eq_true rfl) rfl w_1_134 hm.s0 hm.r11 (Nat.succ_ne_zero _) ?_
  refine E_iload_n (pc := 94) (x := x2) ddX4_tellGate_94 rfl rfl ?_
  obtain ⟨j1, ij1, lj1, k⟩ := k
  refine E_ialdN (pc := 95) (j := j1) ddX4_tellGate_95 hm.s8 ij1 lj1 (Nat.le_of_ble_eq_true rfl) ?_
  refine E_bipush (pc := 96) (v := 8) ddX4_tellGate_96 rfl ?_
  refine E_icmp_lt (pc := 98) (tgt := 107) ddX4_tellGate_98 (by decide) (fun h => ?_) (fun h => ?_)
  · have k := k.1 h
    exact k
  · have k := k.2 h
    refine E_aload_n (pc := 101) (x := m) ddX4_tellGate_101 rfl rfl ?_
    refine E_iload_n (pc := 102) (x := x2) ddX4_tellGate_102 rfl rfl ?_
    refine E_iconst (pc := 103) (v := 1) ddX4_tellGate_103 rfl ?_
    exact E_callV (pc := 104) (As := [.int x2, .int 1]) (st := []) (a := m) ddX4_tellGate_104 hX4_dropFirst ⟨(Nat.le_of_ble_eq_true rfl), (Nat.le_of_ble_eq_true rfl)⟩ w_2_135 (ci := 3) rfl rfl hm.s0 rfl rfl (Nat.le_of_ble_eq_true rfl) (e_cc rfl (e_cc rfl e_cn)) (Nat.le_of_ble_eq_true rfl) k
/-! X4_alikeAtEnd, labels [8] -/
set_option maxRecDepth 100000 in
set_option maxHeartbeats 4000000 in
theorem B_X4_alikeAtEnd_0 {mc ms : Nat} {z : Zt} {I : It} {Q : Option Value → Zt → It → Prop} {x1 x2 : Int32} {m : Nat} (hm : isM z m)
    (k : ∀ v1 : Int32, v1 = (x1 * 8) → E mX4_alikeAtEnd mc ms 8 [some (.ref m), some (.int x1), some (.int x2), some (.int v1), some (.int 0)] [] z I Q) :
    E mX4_alikeAtEnd mc ms 0 [some (.ref m), some (.int x1), some (.int x2), none, none] [] z I Q := by
  refine E_iload_n (pc := 0) (x := x1) ddX4_alikeAtEnd_0 rfl rfl ?_
  refine E_bipush (pc := 1) (v := 8) ddX4_alikeAtEnd_1 rfl ?_
  refine E_imul (pc := 3) ddX4_alikeAtEnd_3 ?_
  obtain ⟨v1, ev1⟩ : ∃ y : Int32, y = (x1 * 8) := ⟨_, rfl⟩
  have k := k v1 ev1
  rw [← ev1]
  refine E_istore_n (pc := 4) (ls' := [some (.ref m), some (.int x1), some (.int x2), some (.int v1), none]) ddX4_alikeAtEnd_4 rfl (Nat.le_of_ble_eq_true rfl) rfl rfl ?_
  refine E_iconst (pc := 5) (v := 0) ddX4_alikeAtEnd_5 rfl ?_
  refine E_istore (pc := 6) (ls' := [some (.ref m), some (.int x1), some (.int x2), some (.int v1), some (.int 0)]) ddX4_alikeAtEnd_6 (Nat.le_of_ble_eq_true rfl) rfl rfl ?_
  exact k
set_option maxRecDepth 100000 in
set_option maxHeartbeats 4000000 in
theorem B_X4_alikeAtEnd_8 {mc ms : Nat} {z : Zt} {I : It} {Q : Option Value → Zt → It → Prop} {x1 x2 x3 x4 : Int32} {m : Nat} (hm : isM z m)
    (k : ∃ j1 : Nat, x1 = nI j1 ∧ j1 < 8 ∧ (((I (m + 8) j1) ≤ x4) → Q (some (.int x4)) z I) ∧
    ((¬ (I (m + 8) j1) ≤ x4) → ∃ j2 : Nat, (((x3 + (I (m + 8) j1)) - 1) - x4) = nI j2 ∧ j2 < 64 ∧ ((¬ (I (m + 10) j2) = x2) → Q (some (.int x4)) z I) ∧
    (((I (m + 10) j2) = x2) → E mX4_alikeAtEnd mc ms 8 [some (.ref m), some (.int x1), some (.int x2), some (.int x3), some (.int (x4 + 1))] [] z I Q))) :
    E mX4_alikeAtEnd mc ms 8 [some (.ref m), some (.int x1), some (.int x2), some (.int x3), some (.int x4)] [] z I Q := by
  refine E_iload (pc := 8) (x := x4) ddX4_alikeAtEnd_8 rfl ?_
  refine E_aload_n (pc := 10) (x := m) ddX4_alikeAtEnd_10 rfl rfl ?_
  refine E_getR (pc := 11) (x := (m + 8)) ddX4_alikeAtEnd_11 ec_3 11 (Nat.le_of_ble_eq_true rfl) rfl w_1_134 hm.s0 hm.r11 (Nat.succ_ne_zero _) ?_
  refine E_iload_n (pc := 14) (x := x1) ddX4_alikeAtEnd_14 rfl rfl ?_
  obtain ⟨j1, ij1, lj1, k⟩ := k
  refine E_ialdN (pc := 15) (j := j1) ddX4_alikeAtEnd_15 hm.s8 ij1 lj1 (Nat.le_of_ble_eq_true rfl) ?_
  refine E_icmp_ge (pc := 16) (tgt := 47) ddX4_alikeAtEnd_16 (by decide) (fun h => ?_) (fun h => ?_)
  · have k := k.1 h
    refine E_iload (pc := 47) (x := x4) ddX4_alikeAtEnd_47 rfl ?_
    exact E_iret (pc := 49) ddX4_alikeAtEnd_49 rfl k
  · have k := k.2 h
    refine E_aload_n (pc := 19) (x := m) ddX4_alikeAtEnd_19 rfl rfl ?_
    refine E_getR (pc := 20) (x := (m + 10)) ddX4_alikeAtEnd_20 ec_3 13 (Nat.le_of_ble_eq_true rfl) rfl w_1_137 hm.s0 hm.r13 (Nat.succ_ne_zero _) ?_
    refine E_iload_n (pc := 23) (x := x3) ddX4_alikeAtEnd_23 rfl rfl ?_
    refine E_aload_n (pc := 24) (x := m) ddX4_alikeAtEnd_24 rfl rfl ?_
    refine E_getR (pc := 25) (x := (m + 8)) ddX4_alikeAtEnd_25 ec_3 11 (Nat.le_of_ble_eq_true rfl) rfl w_1_134 hm.s0 hm.r11 (Nat.succ_ne_zero _) ?_
    refine E_iload_n (pc := 28) (x := x1) ddX4_alikeAtEnd_28 rfl rfl ?_
    refine E_ialdN (pc := 29) (j := j1) ddX4_alikeAtEnd_29 hm.s8 ij1 lj1 (Nat.le_of_ble_eq_true rfl) ?_
    refine E_iadd (pc := 30) ddX4_alikeAtEnd_30 ?_
    refine E_iconst (pc := 31) (v := 1) ddX4_alikeAtEnd_31 rfl ?_
    refine E_isub (pc := 32) ddX4_alikeAtEnd_32 ?_
    refine E_iload (pc := 33) (x := x4) ddX4_alikeAtEnd_33 rfl ?_
    refine E_isub (pc := 35) ddX4_alikeAtEnd_35 ?_
    obtain ⟨j2, ij2, lj2, k⟩ := k
    refine E_ialdN (pc := 36) (j := j2) ddX4_alikeAtEnd_36 hm.s10 ij2 lj2 (Nat.le_of_ble_eq_true rfl) ?_
    refine E_iload_n (pc := 37) (x := x2) ddX4_alikeAtEnd_37 rfl rfl ?_
    refine E_icmp_ne (pc := 38) (tgt := 47) ddX4_alikeAtEnd_38 (by decide) (fun h => ?_) (fun h => ?_)
    · have k := k.1 h
      refine E_iload (pc := 47) (x := x4) ddX4_alikeAtEnd_47 rfl ?_
      exact E_iret (pc := 49) ddX4_alikeAtEnd_49 rfl k
    · have k := k.2 h
      refine E_iinc (pc := 41) (v := (x4 + 1)) (ls' := [some (.ref m), some (.int x1), some (.int x2), some (.int x3), some (.int (x4 + 1))]) ddX4_alikeAtEnd_41 rfl rfl (Nat.le_of_ble_eq_true rfl) rfl rfl ?_
      refine E_goto (pc := 44) (tgt := 8) ddX4_alikeAtEnd_44 (by decide) ?_
      exact k
/-! X4_dropFirst, labels [18] -/
set_option maxRecDepth 100000 in
set_option maxHeartbeats 4000000 in
theorem B_X4_dropFirst_0 {mc ms : Nat} {z : Zt} {I : It} {Q : Option Value → Zt → It → Prop} {x1 x2 : Int32} {m : Nat} (hm : isM z m)
    (k : ∀ v1 : Int32, v1 = (x1 * 8) → ∃ j2 : Nat, x1 = nI j2 ∧ j2 < 8 ∧ ∀ v3 : Int32, v3 = ((I (m + 8) j2) - x2) → E mX4_dropFirst mc ms 18 [some (.ref m), some (.int x1), some (.int x2), some (.int v1), some (.int v3), some (.int 0)] [] z I Q) :
    E mX4_dropFirst mc ms 0 [some (.ref m), some (.int x1), some (.int x2), none, none, none] [] z I Q := by
  refine E_iload_n (pc := 0) (x := x1) ddX4_dropFirst_0 rfl rfl ?_
  refine E_bipush (pc := 1) (v := 8) ddX4_dropFirst_1 rfl ?_
  refine E_imul (pc := 3) ddX4_dropFirst_3 ?_
  obtain ⟨v1, ev1⟩ : ∃ y : Int32, y = (x1 * 8) := ⟨_, rfl⟩
  have k := k v1 ev1
  rw [← ev1]
  refine E_istore_n (pc := 4) (ls' := [some (.ref m), some (.int x1), some (.int x2), some (.int v1), none, none]) ddX4_dropFirst_4 rfl (Nat.le_of_ble_eq_true rfl) rfl rfl ?_
  refine E_aload_n (pc := 5) (x := m) ddX4_dropFirst_5 rfl rfl ?_
  refine E_getR (pc := 6) (x := (m + 8)) ddX4_dropFirst_6 ec_3 11 (Nat.le_of_ble_eq_true rfl) rfl w_1_134 hm.s0 hm.r11 (Nat.succ_ne_zero _) ?_
  refine E_iload_n (pc := 9) (x := x1) ddX4_dropFirst_9 rfl rfl ?_
  obtain ⟨j2, ij2, lj2, k⟩ := k
  refine E_ialdN (pc := 10) (j := j2) ddX4_dropFirst_10 hm.s8 ij2 lj2 (Nat.le_of_ble_eq_true rfl) ?_
  refine E_iload_n (pc := 11) (x := x2) ddX4_dropFirst_11 rfl rfl ?_
  refine E_isub (pc := 12) ddX4_dropFirst_12 ?_
  obtain ⟨v3, ev3⟩ : ∃ y : Int32, y = ((I (m + 8) j2) - x2) := ⟨_, rfl⟩
  have k := k v3 ev3
  rw [← ev3]
  refine E_istore (pc := 13) (ls' := [some (.ref m), some (.int x1), some (.int x2), some (.int v1), some (.int v3), none]) ddX4_dropFirst_13 (Nat.le_of_ble_eq_true rfl) rfl rfl ?_
  refine E_iconst (pc := 15) (v := 0) ddX4_dropFirst_15 rfl ?_
  refine E_istore (pc := 16) (ls' := [some (.ref m), some (.int x1), some (.int x2), some (.int v1), some (.int v3), some (.int 0)]) ddX4_dropFirst_16 (Nat.le_of_ble_eq_true rfl) rfl rfl ?_
  exact k
set_option maxRecDepth 100000 in
set_option maxHeartbeats 4000000 in
theorem B_X4_dropFirst_18 {mc ms : Nat} {z : Zt} {I : It} {Q : Option Value → Zt → It → Prop} {x1 x2 x3 x4 x5 : Int32} {m : Nat} (hm : isM z m)
    (k : ((x4 ≤ x5) → ∃ j1 : Nat, x1 = nI j1 ∧ j1 < 8 ∧ ∀ I2 : It, I2 = e_st I (m + 8) j1 x4 → Q none z I2) ∧
    ((¬ x4 ≤ x5) → ∃ j1 : Nat, ((x3 + x5) + x2) = nI j1 ∧ j1 < 64 ∧ ∃ j2 : Nat, (x3 + x5) = nI j2 ∧ j2 < 64 ∧ ∀ I3 : It, I3 = e_st I (m + 9) j2 (I (m + 9) j1) → ∀ I4 : It, I4 = e_st I3 (m + 10) j2 (I3 (m + 10) j1) → E mX4_dropFirst mc ms 18 [some (.ref m), some (.int x1), some (.int x2), some (.int x3), some (.int x4), some (.int (x5 + 1))] [] z I4 Q)) :
    E mX4_dropFirst mc ms 18 [some (.ref m), some (.int x1), some (.int x2), some (.int x3), some (.int x4), some (.int x5)] [] z I Q := by
  refine E_iload (pc := 18) (x := x5) ddX4_dropFirst_18 rfl ?_
  refine E_iload (pc := 20) (x := x4) ddX4_dropFirst_20 rfl ?_
  refine E_icmp_ge (pc := 22) (tgt := 71) ddX4_dropFirst_22 (by decide) (fun h => ?_) (fun h => ?_)
  · have k := k.1 h
    refine E_aload_n (pc := 71) (x := m) ddX4_dropFirst_71 rfl rfl ?_
    refine E_getR (pc := 72) (x := (m + 8)) ddX4_dropFirst_72 ec_3 11 (Nat.le_of_ble_eq_true rfl) rfl w_1_134 hm.s0 hm.r11 (Nat.succ_ne_zero _) ?_
    refine E_iload_n (pc := 75) (x := x1) ddX4_dropFirst_75 rfl rfl ?_
    refine E_iload (pc := 76) (x := x4) ddX4_dropFirst_76 rfl ?_
    obtain ⟨j1, ij1, lj1, k⟩ := k
    obtain ⟨I2, eI2⟩ : ∃ y : It, y = e_st I (m + 8) j1 x4 := ⟨_, rfl⟩
    have k := k I2 eI2
    refine E_iastN (pc := 78) (j := j1) ddX4_dropFirst_78 hm.s8 (Nat.succ_ne_zero _) ij1 lj1 (Nat.le_of_ble_eq_true rfl) ?_
    rw [← eI2]
    exact E_vret (pc := 79) ddX4_dropFirst_79 rfl k
  · have k := k.2 h
    refine E_aload_n (pc := 25) (x := m) ddX4_dropFirst_25 rfl rfl ?_
    refine E_getR (pc := 26) (x := (m + 9)) ddX4_dropFirst_26 ec_3 12 (Nat.le_of_ble_eq_true rfl) rfl w_1_136 hm.s0 hm.r12 (Nat.succ_ne_zero _) ?_
    refine E_iload_n (pc := 29) (x := x3) ddX4_dropFirst_29 rfl rfl ?_
    refine E_iload (pc := 30) (x := x5) ddX4_dropFirst_30 rfl ?_
    refine E_iadd (pc := 32) ddX4_dropFirst_32 ?_
    refine E_aload_n (pc := 33) (x := m) ddX4_dropFirst_33 rfl rfl ?_
    refine E_getR (pc := 34) (x := (m + 9)) ddX4_dropFirst_34 ec_3 12 (Nat.le_of_ble_eq_true rfl) rfl w_1_136 hm.s0 hm.r12 (Nat.succ_ne_zero _) ?_
    refine E_iload_n (pc := 37) (x := x3) ddX4_dropFirst_37 rfl rfl ?_
    refine E_iload (pc := 38) (x := x5) ddX4_dropFirst_38 rfl ?_
    refine E_iadd (pc := 40) ddX4_dropFirst_40 ?_
    refine E_iload_n (pc := 41) (x := x2) ddX4_dropFirst_41 rfl rfl ?_
    refine E_iadd (pc := 42) ddX4_dropFirst_42 ?_
    obtain ⟨j1, ij1, lj1, k⟩ := k
    refine E_ialdN (pc := 43) (j := j1) ddX4_dropFirst_43 hm.s9 ij1 lj1 (Nat.le_of_ble_eq_true rfl) ?_
    obtain ⟨j2, ij2, lj2, k⟩ := k
    obtain ⟨I3, eI3⟩ : ∃ y : It, y = e_st I (m + 9) j2 (I (m + 9) j1) := ⟨_, rfl⟩
    have k := k I3 eI3
    refine E_iastN (pc := 44) (j := j2) ddX4_dropFirst_44 hm.s9 (Nat.succ_ne_zero _) ij2 lj2 (Nat.le_of_ble_eq_true rfl) ?_
    rw [← eI3]
    refine E_aload_n (pc := 45) (x := m) ddX4_dropFirst_45 rfl rfl ?_
    refine E_getR (pc := 46) (x := (m + 10)) ddX4_dropFirst_46 ec_3 13 (Nat.le_of_ble_eq_true rfl) rfl w_1_137 hm.s0 hm.r13 (Nat.succ_ne_zero _) ?_
    refine E_iload_n (pc := 49) (x := x3) ddX4_dropFirst_49 rfl rfl ?_
    refine E_iload (pc := 50) (x := x5) ddX4_dropFirst_50 rfl ?_
    refine E_iadd (pc := 52) ddX4_dropFirst_52 ?_
    refine E_aload_n (pc := 53) (x := m) ddX4_dropFirst_53 rfl rfl ?_
    refine E_getR (pc := 54) (x := (m + 10)) ddX4_dropFirst_54 ec_3 13 (Nat.le_of_ble_eq_true rfl) rfl w_1_137 hm.s0 hm.r13 (Nat.succ_ne_zero _) ?_
    refine E_iload_n (pc := 57) (x := x3) ddX4_dropFirst_57 rfl rfl ?_
    refine E_iload (pc := 58) (x := x5) ddX4_dropFirst_58 rfl ?_
    refine E_iadd (pc := 60) ddX4_dropFirst_60 ?_
    refine E_iload_n (pc := 61) (x := x2) ddX4_dropFirst_61 rfl rfl ?_
    refine E_iadd (pc := 62) ddX4_dropFirst_62 ?_
    refine E_ialdN (pc := 63) (j := j1) ddX4_dropFirst_63 hm.s10 ij1 lj1 (Nat.le_of_ble_eq_true rfl) ?_
    obtain ⟨I4, eI4⟩ : ∃ y : It, y = e_st I3 (m + 10) j2 (I3 (m + 10) j1) := ⟨_, rfl⟩
    have k := k I4 eI4
    refine E_iastN (pc := 64) (j := j2) ddX4_dropFirst_64 hm.s10 (Nat.succ_ne_zero _) ij2 lj2 (Nat.le_of_ble_eq_true rfl) ?_
    rw [← eI4]
    refine E_iinc (pc := 65) (v := (x5 + 1)) (ls' := [some (.ref m), some (.int x1), some (.int x2), some (.int x3), some (.int x4), some (.int (x5 + 1))]) ddX4_dropFirst_65 rfl rfl (Nat.le_of_ble_eq_true rfl) rfl rfl ?_
    refine E_goto (pc := 68) (tgt := 18) ddX4_dropFirst_68 (by decide) ?_
    exact k
/-! X4_emptyQueues, labels [2] -/
set_option maxRecDepth 100000 in
set_option maxHeartbeats 4000000 in
theorem B_X4_emptyQueues_0 {mc ms : Nat} {z : Zt} {I : It} {Q : Option Value → Zt → It → Prop} {m : Nat} (hm : isM z m)
    (k : E mX4_emptyQueues mc ms 2 [some (.ref m), some (.int 0)] [] z I Q) :
    E mX4_emptyQueues mc ms 0 [some (.ref m), none] [] z I Q := by
  refine E_iconst (pc := 0) (v := 0) ddX4_emptyQueues_0 rfl ?_
  refine E_istore_n (pc := 1) (ls' := [some (.ref m), some (.int 0)]) ddX4_emptyQueues_1 rfl (Nat.le_of_ble_eq_true rfl) rfl rfl ?_
  exact k
set_option maxRecDepth 100000 in
set_option maxHeartbeats 4000000 in
theorem B_X4_emptyQueues_2 {mc ms : Nat} {z : Zt} {I : It} {Q : Option Value → Zt → It → Prop} {x1 : Int32} {m : Nat} (hm : isM z m)
    (k : ((8 ≤ x1) → ∀ I1 : It, I1 = e_st I m 14 0 → Q none z I1) ∧
    ((¬ 8 ≤ x1) → ∃ j1 : Nat, x1 = nI j1 ∧ j1 < 8 ∧ ∀ I2 : It, I2 = e_st I (m + 8) j1 0 → E mX4_emptyQueues mc ms 2 [some (.ref m), some (.int (x1 + 1))] [] z I2 Q)) :
    E mX4_emptyQueues mc ms 2 [some (.ref m), some (.int x1)] [] z I Q := by
  refine E_iload_n (pc := 2) (x := x1) ddX4_emptyQueues_2 rfl rfl ?_
  refine E_bipush (pc := 3) (v := 8) ddX4_emptyQueues_3 rfl ?_
  refine E_icmp_ge (pc := 5) (tgt := 21) ddX4_emptyQueues_5 (by decide) (fun h => ?_) (fun h => ?_)
  · have k := k.1 h
    refine E_aload_n (pc := 21) (x := m) ddX4_emptyQueues_21 rfl rfl ?_
    refine E_iconst (pc := 22) (v := 0) ddX4_emptyQueues_22 rfl ?_
    obtain ⟨I1, eI1⟩ : ∃ y : It, y = e_st I m 14 0 := ⟨_, rfl⟩
    have k := k I1 eI1
    refine E_putI (pc := 23) ddX4_emptyQueues_23 ec_3 14 (Nat.le_of_ble_eq_true rfl) rfl w_1_138 hm.s0 rfl rfl ?_
    rw [← eI1]
    exact E_vret (pc := 26) ddX4_emptyQueues_26 rfl k
  · have k := k.2 h
    refine E_aload_n (pc := 8) (x := m) ddX4_emptyQueues_8 rfl rfl ?_
    refine E_getR (pc := 9) (x := (m + 8)) ddX4_emptyQueues_9 ec_3 11 (Nat.le_of_ble_eq_true rfl) rfl w_1_134 hm.s0 hm.r11 (Nat.succ_ne_zero _) ?_
    refine E_iload_n (pc := 12) (x := x1) ddX4_emptyQueues_12 rfl rfl ?_
    refine E_iconst (pc := 13) (v := 0) ddX4_emptyQueues_13 rfl ?_
    obtain ⟨j1, ij1, lj1, k⟩ := k
    obtain ⟨I2, eI2⟩ : ∃ y : It, y = e_st I (m + 8) j1 0 := ⟨_, rfl⟩
    have k := k I2 eI2
    refine E_iastN (pc := 14) (j := j1) ddX4_emptyQueues_14 hm.s8 (Nat.succ_ne_zero _) ij1 lj1 (Nat.le_of_ble_eq_true rfl) ?_
    rw [← eI2]
    refine E_iinc (pc := 15) (v := (x1 + 1)) (ls' := [some (.ref m), some (.int (x1 + 1))]) ddX4_emptyQueues_15 rfl rfl (Nat.le_of_ble_eq_true rfl) rfl rfl ?_
    refine E_goto (pc := 18) (tgt := 2) ddX4_emptyQueues_18 (by decide) ?_
    exact k
/-! X4_advanceTo, labels [2, 20, 29] -/
set_option maxRecDepth 100000 in
set_option maxHeartbeats 4000000 in
theorem B_X4_advanceTo_0 {mc ms : Nat} {z : Zt} {I : It} {Q : Option Value → Zt → It → Prop} {x2 : Int32} {m p : Nat} (hm : isM z m) (hp : isP z p)
    (k : E mX4_advanceTo mc ms 2 [some (.ref m), some (.ref p), some (.int x2), some (.int 0)] [] z I Q) :
    E mX4_advanceTo mc ms 0 [some (.ref m), some (.ref p), some (.int x2), none] [] z I Q := by
  refine E_iconst (pc := 0) (v := 0) ddX4_advanceTo_0 rfl ?_
  refine E_istore_n (pc := 1) (ls' := [some (.ref m), some (.ref p), some (.int x2), some (.int 0)]) ddX4_advanceTo_1 rfl (Nat.le_of_ble_eq_true rfl) rfl rfl ?_
  exact k
set_option maxRecDepth 100000 in
set_option maxHeartbeats 4000000 in
theorem B_X4_advanceTo_2 {mc ms : Nat} {z : Zt} {I : It} {Q : Option Value → Zt → It → Prop} {x2 x3 : Int32} {m p : Nat} (hm : isM z m) (hp : isP z p)
    (k : ((200 < x3) → ((¬ (I m 2) = 0) → Q (some (.int x3)) z I) ∧
    (((I m 2) = 0) → ∀ I1 : It, I1 = e_st I m 0 x2 → Q (some (.int x3)) z I1)) ∧
    ((¬ 200 < x3) → ((¬ (I m 2) = 0) → ((¬ (I m 2) = 0) → Q (some (.int x3)) z I) ∧
    (((I m 2) = 0) → ∀ I1 : It, I1 = e_st I m 0 x2 → Q (some (.int x3)) z I1)) ∧
    (((I m 2) = 0) → E mX4_earliest 0 0 0 [some (.ref m), none, none] [] z I (fun r z' I' => E mX4_advanceTo mc ms 20 [some (.ref m), some (.ref p), some (.int x2), some (.int x3)] (r.toList ++ []) z' I' Q)))) :
    E mX4_advanceTo mc ms 2 [some (.ref m), some (.ref p), some (.int x2), some (.int x3)] [] z I Q := by
  refine E_iload_n (pc := 2) (x := x3) ddX4_advanceTo_2 rfl rfl ?_
  refine E_sipush (pc := 3) (v := 200) ddX4_advanceTo_3 rfl ?_
  refine E_icmp_gt (pc := 6) (tgt := 35) ddX4_advanceTo_6 (by decide) (fun h => ?_) (fun h => ?_)
  · have k := k.1 h
    refine E_aload_n (pc := 35) (x := m) ddX4_advanceTo_35 rfl rfl ?_
    refine E_getI (pc := 36) ddX4_advanceTo_36 ec_3 2 (Nat.le_of_ble_eq_true rfl) rfl w_1_118 hm.s0 ?_
    refine E_if_ne (pc := 39) (tgt := 47) ddX4_advanceTo_39 (by decide) (fun h => ?_) (fun h => ?_)
    · have k := k.1 h
      refine E_iload_n (pc := 47) (x := x3) ddX4_advanceTo_47 rfl rfl ?_
      exact E_iret (pc := 48) ddX4_advanceTo_48 rfl k
    · have k := k.2 h
      refine E_aload_n (pc := 42) (x := m) ddX4_advanceTo_42 rfl rfl ?_
      refine E_iload_n (pc := 43) (x := x2) ddX4_advanceTo_43 rfl rfl ?_
      obtain ⟨I1, eI1⟩ : ∃ y : It, y = e_st I m 0 x2 := ⟨_, rfl⟩
      have k := k I1 eI1
      refine E_putI (pc := 44) ddX4_advanceTo_44 ec_3 0 (Nat.le_of_ble_eq_true rfl) rfl w_1_114 hm.s0 rfl rfl ?_
      rw [← eI1]
      refine E_iload_n (pc := 47) (x := x3) ddX4_advanceTo_47 rfl rfl ?_
      exact E_iret (pc := 48) ddX4_advanceTo_48 rfl k
  · have k := k.2 h
    refine E_aload_n (pc := 9) (x := m) ddX4_advanceTo_9 rfl rfl ?_
    refine E_getI (pc := 10) ddX4_advanceTo_10 ec_3 2 (Nat.le_of_ble_eq_true rfl) rfl w_1_118 hm.s0 ?_
    refine E_if_ne (pc := 13) (tgt := 35) ddX4_advanceTo_13 (by decide) (fun h => ?_) (fun h => ?_)
    · have k := k.1 h
      refine E_aload_n (pc := 35) (x := m) ddX4_advanceTo_35 rfl rfl ?_
      refine E_getI (pc := 36) ddX4_advanceTo_36 ec_3 2 (Nat.le_of_ble_eq_true rfl) rfl w_1_118 hm.s0 ?_
      refine E_if_ne (pc := 39) (tgt := 47) ddX4_advanceTo_39 (by decide) (fun h => ?_) (fun h => ?_)
      · have k := k.1 h
        refine E_iload_n (pc := 47) (x := x3) ddX4_advanceTo_47 rfl rfl ?_
        exact E_iret (pc := 48) ddX4_advanceTo_48 rfl k
      · have k := k.2 h
        refine E_aload_n (pc := 42) (x := m) ddX4_advanceTo_42 rfl rfl ?_
        refine E_iload_n (pc := 43) (x := x2) ddX4_advanceTo_43 rfl rfl ?_
        obtain ⟨I1, eI1⟩ : ∃ y : It, y = e_st I m 0 x2 := ⟨_, rfl⟩
        have k := k I1 eI1
        refine E_putI (pc := 44) ddX4_advanceTo_44 ec_3 0 (Nat.le_of_ble_eq_true rfl) rfl w_1_114 hm.s0 rfl rfl ?_
        rw [← eI1]
        refine E_iload_n (pc := 47) (x := x3) ddX4_advanceTo_47 rfl rfl ?_
        exact E_iret (pc := 48) ddX4_advanceTo_48 rfl k
    · have k := k.2 h
      refine E_aload_n (pc := 16) (x := m) ddX4_advanceTo_16 rfl rfl ?_
      exact E_callV (pc := 17) (As := []) (st := []) (a := m) ddX4_advanceTo_17 hX4_earliest ⟨(Nat.le_of_ble_eq_true rfl), (Nat.le_of_ble_eq_true rfl)⟩ w_2_163 (ci := 3) rfl rfl hm.s0 rfl rfl (Nat.le_of_ble_eq_true rfl) e_cn (Nat.le_of_ble_eq_true rfl) k
set_option maxRecDepth 100000 in
set_option maxHeartbeats 4000000 in
theorem B_X4_advanceTo_20 {mc ms : Nat} {z : Zt} {I : It} {Q : Option Value → Zt → It → Prop} {x2 x3 y0 : Int32} {m p : Nat} (hm : isM z m) (hp : isP z p)
    (k : ((x2 < y0) → ((¬ (I m 2) = 0) → Q (some (.int x3)) z I) ∧
    (((I m 2) = 0) → ∀ I1 : It, I1 = e_st I m 0 x2 → Q (some (.int x3)) z I1)) ∧
    ((¬ x2 < y0) → E mX4_advance 0 0 0 [some (.ref m), some (.ref p), none, none] [] z I (fun r z' I' => E mX4_advanceTo mc ms 29 [some (.ref m), some (.ref p), some (.int x2), some (.int x3)] (r.toList ++ []) z' I' Q))) :
    E mX4_advanceTo mc ms 20 [some (.ref m), some (.ref p), some (.int x2), some (.int x3)] [.int y0] z I Q := by
  refine E_iload_n (pc := 20) (x := x2) ddX4_advanceTo_20 rfl rfl ?_
  refine E_icmp_gt (pc := 21) (tgt := 35) ddX4_advanceTo_21 (by decide) (fun h => ?_) (fun h => ?_)
  · have k := k.1 h
    refine E_aload_n (pc := 35) (x := m) ddX4_advanceTo_35 rfl rfl ?_
    refine E_getI (pc := 36) ddX4_advanceTo_36 ec_3 2 (Nat.le_of_ble_eq_true rfl) rfl w_1_118 hm.s0 ?_
    refine E_if_ne (pc := 39) (tgt := 47) ddX4_advanceTo_39 (by decide) (fun h => ?_) (fun h => ?_)
    · have k := k.1 h
      refine E_iload_n (pc := 47) (x := x3) ddX4_advanceTo_47 rfl rfl ?_
      exact E_iret (pc := 48) ddX4_advanceTo_48 rfl k
    · have k := k.2 h
      refine E_aload_n (pc := 42) (x := m) ddX4_advanceTo_42 rfl rfl ?_
      refine E_iload_n (pc := 43) (x := x2) ddX4_advanceTo_43 rfl rfl ?_
      obtain ⟨I1, eI1⟩ : ∃ y : It, y = e_st I m 0 x2 := ⟨_, rfl⟩
      have k := k I1 eI1
      refine E_putI (pc := 44) ddX4_advanceTo_44 ec_3 0 (Nat.le_of_ble_eq_true rfl) rfl w_1_114 hm.s0 rfl rfl ?_
      rw [← eI1]
      refine E_iload_n (pc := 47) (x := x3) ddX4_advanceTo_47 rfl rfl ?_
      exact E_iret (pc := 48) ddX4_advanceTo_48 rfl k
  · have k := k.2 h
    refine E_aload_n (pc := 24) (x := m) ddX4_advanceTo_24 rfl rfl ?_
    refine E_aload_n (pc := 25) (x := p) ddX4_advanceTo_25 rfl rfl ?_
    exact E_callV (pc := 26) (As := [.ref p]) (st := []) (a := m) ddX4_advanceTo_26 hX4_advance ⟨(Nat.le_of_ble_eq_true rfl), (Nat.le_of_ble_eq_true rfl)⟩ w_3_89 (ci := 3) rfl rfl hm.s0 rfl rfl (Nat.le_of_ble_eq_true rfl) (e_cc rfl e_cn) (Nat.le_of_ble_eq_true rfl) k
set_option maxRecDepth 100000 in
set_option maxHeartbeats 4000000 in
theorem B_X4_advanceTo_29 {mc ms : Nat} {z : Zt} {I : It} {Q : Option Value → Zt → It → Prop} {x2 x3 : Int32} {m p : Nat} (hm : isM z m) (hp : isP z p)
    (k : E mX4_advanceTo mc ms 2 [some (.ref m), some (.ref p), some (.int x2), some (.int (x3 + 1))] [] z I Q) :
    E mX4_advanceTo mc ms 29 [some (.ref m), some (.ref p), some (.int x2), some (.int x3)] [] z I Q := by
  refine E_iinc (pc := 29) (v := (x3 + 1)) (ls' := [some (.ref m), some (.ref p), some (.int x2), some (.int (x3 + 1))]) ddX4_advanceTo_29 rfl rfl (Nat.le_of_ble_eq_true rfl) rfl rfl ?_
  refine E_goto (pc := 32) (tgt := 2) ddX4_advanceTo_32 (by decide) ?_
  exact k
/-! X4_advance, labels [9, 19, 37, 49, 70] -/
set_option maxRecDepth 100000 in
set_option maxHeartbeats 4000000 in
theorem B_X4_advance_0 {mc ms : Nat} {z : Zt} {I : It} {Q : Option Value → Zt → It → Prop} {m p : Nat} (hm : isM z m) (hp : isP z p)
    (k : E mX4_earliest 0 0 0 [some (.ref m), none, none] [] z I (fun r z' I' => E mX4_advance mc ms 9 [some (.ref m), some (.ref p), none, none] (r.toList ++ [.int (I m 0), .ref m]) z' I' Q)) :
    E mX4_advance mc ms 0 [some (.ref m), some (.ref p), none, none] [] z I Q := by
  refine E_aload_n (pc := 0) (x := m) ddX4_advance_0 rfl rfl ?_
  refine E_aload_n (pc := 1) (x := m) ddX4_advance_1 rfl rfl ?_
  refine E_getI (pc := 2) ddX4_advance_2 ec_3 0 (Nat.le_of_ble_eq_true rfl) rfl w_1_114 hm.s0 ?_
  refine E_aload_n (pc := 5) (x := m) ddX4_advance_5 rfl rfl ?_
  exact E_callV (pc := 6) (As := []) (st := [.int (I m 0), .ref m]) (a := m) ddX4_advance_6 hX4_earliest ⟨(Nat.le_of_ble_eq_true rfl), (Nat.le_of_ble_eq_true rfl)⟩ w_2_163 (ci := 3) rfl rfl hm.s0 rfl rfl (Nat.le_of_ble_eq_true rfl) e_cn (Nat.le_of_ble_eq_true rfl) k
set_option maxRecDepth 100000 in
set_option maxHeartbeats 4000000 in
theorem B_X4_advance_9 {mc ms : Nat} {z : Zt} {I : It} {Q : Option Value → Zt → It → Prop} {y0 y1 : Int32} {m p : Nat} (hm : isM z m) (hp : isP z p)
    (k : ∀ I1 : It, I1 = e_st I m 0 (if y1 < y0 then y0 else y1) → E mX4_advance mc ms 19 [some (.ref m), some (.ref p), some (.int 0), some (.int 0)] [] z I1 Q) :
    E mX4_advance mc ms 9 [some (.ref m), some (.ref p), none, none] [.int y0, .int y1, .ref m] z I Q := by
  refine E_mmax (pc := 9) ddX4_advance_9 w_2_193 w_2_194 w_1_11 w_2_195 (Nat.le_of_ble_eq_true rfl) (Nat.le_of_ble_eq_true rfl) ?_
  obtain ⟨I1, eI1⟩ : ∃ y : It, y = e_st I m 0 (if y1 < y0 then y0 else y1) := ⟨_, rfl⟩
  have k := k I1 eI1
  refine E_putI (pc := 12) ddX4_advance_12 ec_3 0 (Nat.le_of_ble_eq_true rfl) rfl w_1_114 hm.s0 rfl rfl ?_
  rw [← eI1]
  refine E_iconst (pc := 15) (v := 0) ddX4_advance_15 rfl ?_
  refine E_istore_n (pc := 16) (ls' := [some (.ref m), some (.ref p), some (.int 0), none]) ddX4_advance_16 rfl (Nat.le_of_ble_eq_true rfl) rfl rfl ?_
  refine E_iconst (pc := 17) (v := 0) ddX4_advance_17 rfl ?_
  refine E_istore_n (pc := 18) (ls' := [some (.ref m), some (.ref p), some (.int 0), some (.int 0)]) ddX4_advance_18 rfl (Nat.le_of_ble_eq_true rfl) rfl rfl ?_
  exact k
set_option maxRecDepth 100000 in
set_option maxHeartbeats 4000000 in
theorem B_X4_advance_19 {mc ms : Nat} {z : Zt} {I : It} {Q : Option Value → Zt → It → Prop} {x2 x3 : Int32} {m p : Nat} (hm : isM z m) (hp : isP z p)
    (k : ((1000 ≤ x3) → Q none z I) ∧
    ((¬ 1000 ≤ x3) → ((¬ (I m 2) = 0) → Q none z I) ∧
    (((I m 2) = 0) → E mX4_earliest 0 0 0 [some (.ref m), none, none] [] z I (fun r z' I' => E mX4_advance mc ms 37 [some (.ref m), some (.ref p), some (.int x2), some (.int x3)] (r.toList ++ []) z' I' Q)))) :
    E mX4_advance mc ms 19 [some (.ref m), some (.ref p), some (.int x2), some (.int x3)] [] z I Q := by
  refine E_iload_n (pc := 19) (x := x3) ddX4_advance_19 rfl rfl ?_
  refine E_sipush (pc := 20) (v := 1000) ddX4_advance_20 rfl ?_
  refine E_icmp_ge (pc := 23) (tgt := 76) ddX4_advance_23 (by decide) (fun h => ?_) (fun h => ?_)
  · have k := k.1 h
    exact E_vret (pc := 76) ddX4_advance_76 rfl k
  · have k := k.2 h
    refine E_aload_n (pc := 26) (x := m) ddX4_advance_26 rfl rfl ?_
    refine E_getI (pc := 27) ddX4_advance_27 ec_3 2 (Nat.le_of_ble_eq_true rfl) rfl w_1_118 hm.s0 ?_
    refine E_if_ne (pc := 30) (tgt := 76) ddX4_advance_30 (by decide) (fun h => ?_) (fun h => ?_)
    · have k := k.1 h
      exact E_vret (pc := 76) ddX4_advance_76 rfl k
    · have k := k.2 h
      refine E_aload_n (pc := 33) (x := m) ddX4_advance_33 rfl rfl ?_
      exact E_callV (pc := 34) (As := []) (st := []) (a := m) ddX4_advance_34 hX4_earliest ⟨(Nat.le_of_ble_eq_true rfl), (Nat.le_of_ble_eq_true rfl)⟩ w_2_163 (ci := 3) rfl rfl hm.s0 rfl rfl (Nat.le_of_ble_eq_true rfl) e_cn (Nat.le_of_ble_eq_true rfl) k
set_option maxRecDepth 100000 in
set_option maxHeartbeats 4000000 in
theorem B_X4_advance_37 {mc ms : Nat} {z : Zt} {I : It} {Q : Option Value → Zt → It → Prop} {x2 x3 y0 : Int32} {m p : Nat} (hm : isM z m) (hp : isP z p)
    (k : (((I m 0) < y0) → Q none z I) ∧
    ((¬ (I m 0) < y0) → E mX4_makeCycle 0 0 0 [some (.ref m), some (.ref p), none, none, none] [] z I (fun r z' I' => E mX4_advance mc ms 49 [some (.ref m), some (.ref p), some (.int x2), some (.int x3)] (r.toList ++ []) z' I' Q))) :
    E mX4_advance mc ms 37 [some (.ref m), some (.ref p), some (.int x2), some (.int x3)] [.int y0] z I Q := by
  refine E_aload_n (pc := 37) (x := m) ddX4_advance_37 rfl rfl ?_
  refine E_getI (pc := 38) ddX4_advance_38 ec_3 0 (Nat.le_of_ble_eq_true rfl) rfl w_1_114 hm.s0 ?_
  refine E_icmp_gt (pc := 41) (tgt := 76) ddX4_advance_41 (by decide) (fun h => ?_) (fun h => ?_)
  · have k := k.1 h
    exact E_vret (pc := 76) ddX4_advance_76 rfl k
  · have k := k.2 h
    refine E_aload_n (pc := 44) (x := m) ddX4_advance_44 rfl rfl ?_
    refine E_aload_n (pc := 45) (x := p) ddX4_advance_45 rfl rfl ?_
    exact E_callV (pc := 46) (As := [.ref p]) (st := []) (a := m) ddX4_advance_46 hX4_makeCycle ⟨(Nat.le_of_ble_eq_true rfl), (Nat.le_of_ble_eq_true rfl)⟩ w_2_196 (ci := 3) rfl rfl hm.s0 rfl rfl (Nat.le_of_ble_eq_true rfl) (e_cc rfl e_cn) (Nat.le_of_ble_eq_true rfl) k
set_option maxRecDepth 100000 in
set_option maxHeartbeats 4000000 in
theorem B_X4_advance_49 {mc ms : Nat} {z : Zt} {I : It} {Q : Option Value → Zt → It → Prop} {x2 x3 y0 : Int32} {m p : Nat} (hm : isM z m) (hp : isP z p)
    (k : ((y0 = 0) → ((x2 < 40) → E mX4_advance mc ms 19 [some (.ref m), some (.ref p), some (.int x2), some (.int (x3 + 1))] [] z I Q) ∧
    ((¬ x2 < 40) → ∀ I1 : It, I1 = e_st I m 2 1 → E mX4_emptyQueues 0 0 0 [some (.ref m), none] [] z I1 (fun r z' I' => E mX4_advance mc ms 70 [some (.ref m), some (.ref p), some (.int x2), some (.int x3)] (r.toList ++ []) z' I' Q))) ∧
    ((¬ y0 = 0) → (((x2 + 1) < 40) → E mX4_advance mc ms 70 [some (.ref m), some (.ref p), some (.int (x2 + 1)), some (.int x3)] [] z I Q) ∧
    ((¬ (x2 + 1) < 40) → ∀ I1 : It, I1 = e_st I m 2 1 → E mX4_emptyQueues 0 0 0 [some (.ref m), none] [] z I1 (fun r z' I' => E mX4_advance mc ms 70 [some (.ref m), some (.ref p), some (.int (x2 + 1)), some (.int x3)] (r.toList ++ []) z' I' Q)))) :
    E mX4_advance mc ms 49 [some (.ref m), some (.ref p), some (.int x2), some (.int x3)] [.int y0] z I Q := by
  refine E_if_eq (pc := 49) (tgt := 55) ddX4_advance_49 (by decide) (fun h => ?_) (fun h => ?_)
  · have k := k.1 h
    refine E_iload_n (pc := 55) (x := x2) ddX4_advance_55 rfl rfl ?_
    refine E_bipush (pc := 56) (v := 40) ddX4_advance_56 rfl ?_
    refine E_icmp_lt (pc := 58) (tgt := 70) ddX4_advance_58 (by decide) (fun h => ?_) (fun h => ?_)
    · have k := k.1 h
      refine E_iinc (pc := 70) (v := (x3 + 1)) (ls' := [some (.ref m), some (.ref p), some (.int x2), some (.int (x3 + 1))]) ddX4_advance_70 rfl rfl (Nat.le_of_ble_eq_true rfl) rfl rfl ?_
      refine E_goto (pc := 73) (tgt := 19) ddX4_advance_73 (by decide) ?_
      exact k
    · have k := k.2 h
      refine E_aload_n (pc := 61) (x := m) ddX4_advance_61 rfl rfl ?_
      refine E_iconst (pc := 62) (v := 1) ddX4_advance_62 rfl ?_
      obtain ⟨I1, eI1⟩ : ∃ y : It, y = e_st I m 2 1 := ⟨_, rfl⟩
      have k := k I1 eI1
      refine E_putZ (pc := 63) ddX4_advance_63 ec_3 2 (Nat.le_of_ble_eq_true rfl) rfl w_1_118 hm.s0 rfl rfl (by decide) ?_
      rw [← eI1]
      refine E_aload_n (pc := 66) (x := m) ddX4_advance_66 rfl rfl ?_
      exact E_callV (pc := 67) (As := []) (st := []) (a := m) ddX4_advance_67 hX4_emptyQueues ⟨(Nat.le_of_ble_eq_true rfl), (Nat.le_of_ble_eq_true rfl)⟩ w_2_112 (ci := 3) rfl rfl hm.s0 rfl rfl (Nat.le_of_ble_eq_true rfl) e_cn (Nat.le_of_ble_eq_true rfl) k
  · have k := k.2 h
    refine E_iinc (pc := 52) (v := (x2 + 1)) (ls' := [some (.ref m), some (.ref p), some (.int (x2 + 1)), some (.int x3)]) ddX4_advance_52 rfl rfl (Nat.le_of_ble_eq_true rfl) rfl rfl ?_
    refine E_iload_n (pc := 55) (x := (x2 + 1)) ddX4_advance_55 rfl rfl ?_
    refine E_bipush (pc := 56) (v := 40) ddX4_advance_56 rfl ?_
    refine E_icmp_lt (pc := 58) (tgt := 70) ddX4_advance_58 (by decide) (fun h => ?_) (fun h => ?_)
    · have k := k.1 h
      exact k
    · have k := k.2 h
      refine E_aload_n (pc := 61) (x := m) ddX4_advance_61 rfl rfl ?_
      refine E_iconst (pc := 62) (v := 1) ddX4_advance_62 rfl ?_
      obtain ⟨I1, eI1⟩ : ∃ y : It, y = e_st I m 2 1 := ⟨_, rfl⟩
      have k := k I1 eI1
      refine E_putZ (pc := 63) ddX4_advance_63 ec_3 2 (Nat.le_of_ble_eq_true rfl) rfl w_1_118 hm.s0 rfl rfl (by decide) ?_
      rw [← eI1]
      refine E_aload_n (pc := 66) (x := m) ddX4_advance_66 rfl rfl ?_
      exact E_callV (pc := 67) (As := []) (st := []) (a := m) ddX4_advance_67 hX4_emptyQueues ⟨(Nat.le_of_ble_eq_true rfl), (Nat.le_of_ble_eq_true rfl)⟩ w_2_112 (ci := 3) rfl rfl hm.s0 rfl rfl (Nat.le_of_ble_eq_true rfl) e_cn (Nat.le_of_ble_eq_true rfl) k
set_option maxRecDepth 100000 in
set_option maxHeartbeats 4000000 in
theorem B_X4_advance_70 {mc ms : Nat} {z : Zt} {I : It} {Q : Option Value → Zt → It → Prop} {x2 x3 : Int32} {m p : Nat} (hm : isM z m) (hp : isP z p)
    (k : E mX4_advance mc ms 19 [some (.ref m), some (.ref p), some (.int x2), some (.int (x3 + 1))] [] z I Q) :
    E mX4_advance mc ms 70 [some (.ref m), some (.ref p), some (.int x2), some (.int x3)] [] z I Q := by
  refine E_iinc (pc := 70) (v := (x3 + 1)) (ls' := [some (.ref m), some (.ref p), some (.int x2), some (.int (x3 + 1))]) ddX4_advance_70 rfl rfl (Nat.le_of_ble_eq_true rfl) rfl rfl ?_
  refine E_goto (pc := 73) (tgt := 19) ddX4_advance_73 (by decide) ?_
  exact k
/-! X4_makeCycle, labels [5, 10, 14, 45, 48, 77] -/
set_option maxRecDepth 100000 in
set_option maxHeartbeats 4000000 in
theorem B_X4_makeCycle_0 {mc ms : Nat} {z : Zt} {I : It} {Q : Option Value → Zt → It → Prop} {m p : Nat} (hm : isM z m) (hp : isP z p)
    (k : E mX4_takeFromQueues 0 0 0 [some (.ref m), some (.ref p), none, none] [] z I (fun r z' I' => E mX4_makeCycle mc ms 5 [some (.ref m), some (.ref p), none, none, none] (r.toList ++ []) z' I' Q)) :
    E mX4_makeCycle mc ms 0 [some (.ref m), some (.ref p), none, none, none] [] z I Q := by
  refine E_aload_n (pc := 0) (x := m) ddX4_makeCycle_0 rfl rfl ?_
  refine E_aload_n (pc := 1) (x := p) ddX4_makeCycle_1 rfl rfl ?_
  exact E_callV (pc := 2) (As := [.ref p]) (st := []) (a := m) ddX4_makeCycle_2 hX4_takeFromQueues ⟨(Nat.le_of_ble_eq_true rfl), (Nat.le_of_ble_eq_true rfl)⟩ w_2_200 (ci := 3) rfl rfl hm.s0 rfl rfl (Nat.le_of_ble_eq_true rfl) (e_cc rfl e_cn) (Nat.le_of_ble_eq_true rfl) k
set_option maxRecDepth 100000 in
set_option maxHeartbeats 4000000 in
theorem B_X4_makeCycle_5 {mc ms : Nat} {z : Zt} {I : It} {Q : Option Value → Zt → It → Prop} {y0 : Int32} {m p : Nat} (hm : isM z m) (hp : isP z p)
    (k : E mX4_takeByHand 0 0 0 [some (.ref m), none, none, none] [] z I (fun r z' I' => E mX4_makeCycle mc ms 10 [some (.ref m), some (.ref p), some (.int y0), none, none] (r.toList ++ []) z' I' Q)) :
    E mX4_makeCycle mc ms 5 [some (.ref m), some (.ref p), none, none, none] [.int y0] z I Q := by
  refine E_istore_n (pc := 5) (ls' := [some (.ref m), some (.ref p), some (.int y0), none, none]) ddX4_makeCycle_5 rfl (Nat.le_of_ble_eq_true rfl) rfl rfl ?_
  refine E_aload_n (pc := 6) (x := m) ddX4_makeCycle_6 rfl rfl ?_
  exact E_callV (pc := 7) (As := []) (st := []) (a := m) ddX4_makeCycle_7 hX4_takeByHand ⟨(Nat.le_of_ble_eq_true rfl), (Nat.le_of_ble_eq_true rfl)⟩ w_2_204 (ci := 3) rfl rfl hm.s0 rfl rfl (Nat.le_of_ble_eq_true rfl) e_cn (Nat.le_of_ble_eq_true rfl) k
set_option maxRecDepth 100000 in
set_option maxHeartbeats 4000000 in
theorem B_X4_makeCycle_10 {mc ms : Nat} {z : Zt} {I : It} {Q : Option Value → Zt → It → Prop} {x2 y0 : Int32} {m p : Nat} (hm : isM z m) (hp : isP z p)
    (k : E mX4_makeCycle mc ms 14 [some (.ref m), some (.ref p), some (.int x2), some (.int y0), some (.int 0)] [] z I Q) :
    E mX4_makeCycle mc ms 10 [some (.ref m), some (.ref p), some (.int x2), none, none] [.int y0] z I Q := by
  refine E_istore_n (pc := 10) (ls' := [some (.ref m), some (.ref p), some (.int x2), some (.int y0), none]) ddX4_makeCycle_10 rfl (Nat.le_of_ble_eq_true rfl) rfl rfl ?_
  refine E_iconst (pc := 11) (v := 0) ddX4_makeCycle_11 rfl ?_
  refine E_istore (pc := 12) (ls' := [some (.ref m), some (.ref p), some (.int x2), some (.int y0), some (.int 0)]) ddX4_makeCycle_12 (Nat.le_of_ble_eq_true rfl) rfl rfl ?_
  exact k
set_option maxRecDepth 100000 in
set_option maxHeartbeats 4000000 in
theorem B_X4_makeCycle_14 {mc ms : Nat} {z : Zt} {I : It} {Q : Option Value → Zt → It → Prop} {x2 x3 x4 : Int32} {m p : Nat} (hm : isM z m) (hp : isP z p)
    (k : (((I p 0) ≤ x4) → ∀ I1 : It, I1 = e_st I m 1 (if 99999 < ((I m 1) + 1) then 99999 else ((I m 1) + 1)) → E mX4_tellLookers 0 0 0 [some (.ref m), some (.ref p), some (.int x3), none] [] z I1 (fun r z' I' => E mX4_makeCycle mc ms 77 [none, none, none, some (.int x3), none] (r.toList ++ []) z' I' Q)) ∧
    ((¬ (I p 0) ≤ x4) → ((¬ ((x2 >>> (x4 &&& 31)) &&& 1) = 1) → E mX4_makeCycle mc ms 14 [some (.ref m), some (.ref p), some (.int x2), some (.int x3), some (.int (x4 + 1))] [] z I Q) ∧
    ((((x2 >>> (x4 &&& 31)) &&& 1) = 1) → E mX4_drivenLevel 0 0 0 [some (.ref m), some (.ref p), some (.int x4), some (.int (-1)), none, none] [] z I (fun r z' I' => E mX4_makeCycle mc ms 45 [some (.ref m), some (.ref p), some (.int x2), none, some (.int x4)] (r.toList ++ [.int x4, .ref m, .int x3]) z' I' Q)))) :
    E mX4_makeCycle mc ms 14 [some (.ref m), some (.ref p), some (.int x2), some (.int x3), some (.int x4)] [] z I Q := by
  refine E_iload (pc := 14) (x := x4) ddX4_makeCycle_14 rfl ?_
  refine E_aload_n (pc := 16) (x := p) ddX4_makeCycle_16 rfl rfl ?_
  refine E_getI (pc := 17) ddX4_makeCycle_17 ec_5 0 (Nat.le_of_ble_eq_true rfl) rfl w_1_58 hp.s0 ?_
  refine E_icmp_ge (pc := 20) (tgt := 56) ddX4_makeCycle_20 (by decide) (fun h => ?_) (fun h => ?_)
  · have k := k.1 h
    refine E_aload_n (pc := 56) (x := m) ddX4_makeCycle_56 rfl rfl ?_
    refine E_aload_n (pc := 57) (x := m) ddX4_makeCycle_57 rfl rfl ?_
    refine E_getI (pc := 58) ddX4_makeCycle_58 ec_3 1 (Nat.le_of_ble_eq_true rfl) rfl w_1_116 hm.s0 ?_
    refine E_iconst (pc := 61) (v := 1) ddX4_makeCycle_61 rfl ?_
    refine E_iadd (pc := 62) ddX4_makeCycle_62 ?_
    refine E_ldc (pc := 63) (v := 99999) ddX4_makeCycle_63 w_2_219 ?_
    refine E_mmin (pc := 65) ddX4_makeCycle_65 w_2_168 w_2_169 w_1_11 w_2_170 (Nat.le_of_ble_eq_true rfl) (Nat.le_of_ble_eq_true rfl) ?_
    obtain ⟨I1, eI1⟩ : ∃ y : It, y = e_st I m 1 (if 99999 < ((I m 1) + 1) then 99999 else ((I m 1) + 1)) := ⟨_, rfl⟩
    have k := k I1 eI1
    refine E_putI (pc := 68) ddX4_makeCycle_68 ec_3 1 (Nat.le_of_ble_eq_true rfl) rfl w_1_116 hm.s0 rfl rfl ?_
    rw [← eI1]
    refine E_aload_n (pc := 71) (x := m) ddX4_makeCycle_71 rfl rfl ?_
    refine E_aload_n (pc := 72) (x := p) ddX4_makeCycle_72 rfl rfl ?_
    refine E_iload_n (pc := 73) (x := x3) ddX4_makeCycle_73 rfl rfl ?_
    exact E_callV (pc := 74) (As := [.ref p, .int x3]) (st := []) (a := m) ddX4_makeCycle_74 hX4_tellLookers ⟨(Nat.le_of_ble_eq_true rfl), (Nat.le_of_ble_eq_true rfl)⟩ w_2_220 (ci := 3) rfl rfl hm.s0 rfl rfl (Nat.le_of_ble_eq_true rfl) (e_cc rfl (e_cc rfl e_cn)) (Nat.le_of_ble_eq_true rfl) (E.mono k fun _ _ _ q => E.forget q ⟨rfl, trivial⟩)
  · have k := k.2 h
    refine E_iload_n (pc := 23) (x := x2) ddX4_makeCycle_23 rfl rfl ?_
    refine E_iload (pc := 24) (x := x4) ddX4_makeCycle_24 rfl ?_
    refine E_ishr (pc := 26) ddX4_makeCycle_26 ?_
    refine E_iconst (pc := 27) (v := 1) ddX4_makeCycle_27 rfl ?_
    refine E_iand (pc := 28) ddX4_makeCycle_28 ?_
    refine E_iconst (pc := 29) (v := 1) ddX4_makeCycle_29 rfl ?_
    refine E_icmp_ne (pc := 30) (tgt := 50) ddX4_makeCycle_30 (by decide) (fun h => ?_) (fun h => ?_)
    · have k := k.1 h
      refine E_iinc (pc := 50) (v := (x4 + 1)) (ls' := [some (.ref m), some (.ref p), some (.int x2), some (.int x3), some (.int (x4 + 1))]) ddX4_makeCycle_50 rfl rfl (Nat.le_of_ble_eq_true rfl) rfl rfl ?_
      refine E_goto (pc := 53) (tgt := 14) ddX4_makeCycle_53 (by decide) ?_
      exact k
    · have k := k.2 h
      refine E_iload_n (pc := 33) (x := x3) ddX4_makeCycle_33 rfl rfl ?_
      refine E_aload_n (pc := 34) (x := m) ddX4_makeCycle_34 rfl rfl ?_
      refine E_iload (pc := 35) (x := x4) ddX4_makeCycle_35 rfl ?_
      refine E_aload_n (pc := 37) (x := m) ddX4_makeCycle_37 rfl rfl ?_
      refine E_aload_n (pc := 38) (x := p) ddX4_makeCycle_38 rfl rfl ?_
      refine E_iload (pc := 39) (x := x4) ddX4_makeCycle_39 rfl ?_
      refine E_iconst (pc := 41) (v := (-1)) ddX4_makeCycle_41 rfl ?_
      exact E_callV (pc := 42) (As := [.ref p, .int x4, .int (-1)]) (st := [.int x4, .ref m, .int x3]) (a := m) ddX4_makeCycle_42 hX4_drivenLevel ⟨(Nat.le_of_ble_eq_true rfl), (Nat.le_of_ble_eq_true rfl)⟩ w_2_212 (ci := 3) rfl rfl hm.s0 rfl rfl (Nat.le_of_ble_eq_true rfl) (e_cc rfl (e_cc rfl (e_cc rfl e_cn))) (Nat.le_of_ble_eq_true rfl) (E.mono k fun _ _ _ q => E.forget q ⟨rfl, ⟨rfl, ⟨rfl, ⟨rfl, trivial⟩⟩⟩⟩)
set_option maxRecDepth 100000 in
set_option maxHeartbeats 4000000 in
theorem B_X4_makeCycle_77 {mc ms : Nat} {z : Zt} {I : It} {Q : Option Value → Zt → It → Prop} {x3 : Int32}
    (k : ((x3 = 0) → Q (some (.int 0)) z I) ∧
    ((¬ x3 = 0) → Q (some (.int 1)) z I)) :
    E mX4_makeCycle mc ms 77 [none, none, none, some (.int x3), none] [] z I Q := by
  refine E_iload_n (pc := 77) (x := x3) ddX4_makeCycle_77 rfl rfl ?_
  refine E_if_eq (pc := 78) (tgt := 85) ddX4_makeCycle_78 (by decide) (fun h => ?_) (fun h => ?_)
  · have k := k.1 h
    refine E_iconst (pc := 85) (v := 0) ddX4_makeCycle_85 rfl ?_
    exact E_zret (pc := 86) ddX4_makeCycle_86 rfl (by decide) k
  · have k := k.2 h
    refine E_iconst (pc := 81) (v := 1) ddX4_makeCycle_81 rfl ?_
    refine E_goto (pc := 82) (tgt := 86) ddX4_makeCycle_82 (by decide) ?_
    exact E_zret (pc := 86) ddX4_makeCycle_86 rfl (by decide) k
set_option maxRecDepth 100000 in
set_option maxHeartbeats 4000000 in
theorem B_X4_makeCycle_45 {mc ms : Nat} {z : Zt} {I : It} {Q : Option Value → Zt → It → Prop} {x2 x4 y0 y1 y3 : Int32} {m p : Nat} (hm : isM z m) (hp : isP z p)
    (k : E mX4_changeWire 0 0 0 [some (.ref m), some (.int y1), some (.int y0)] [] z I (fun r z' I' => E mX4_makeCycle mc ms 48 [some (.ref m), some (.ref p), some (.int x2), none, some (.int x4)] (r.toList ++ [.int y3]) z' I' Q)) :
    E mX4_makeCycle mc ms 45 [some (.ref m), some (.ref p), some (.int x2), none, some (.int x4)] [.int y0, .int y1, .ref m, .int y3] z I Q := by
  exact E_callV (pc := 45) (As := [.int y1, .int y0]) (st := [.int y3]) (a := m) ddX4_makeCycle_45 hX4_changeWire ⟨(Nat.le_of_ble_eq_true rfl), (Nat.le_of_ble_eq_true rfl)⟩ w_2_208 (ci := 3) rfl rfl hm.s0 rfl rfl (Nat.le_of_ble_eq_true rfl) (e_cc rfl (e_cc rfl e_cn)) (Nat.le_of_ble_eq_true rfl) k
set_option maxRecDepth 100000 in
set_option maxHeartbeats 4000000 in
theorem B_X4_makeCycle_48 {mc ms : Nat} {z : Zt} {I : It} {Q : Option Value → Zt → It → Prop} {x2 x4 y0 y1 : Int32} {m p : Nat} (hm : isM z m) (hp : isP z p)
    (k : ∀ v1 : Int32, v1 = (y1 ||| y0) → E mX4_makeCycle mc ms 14 [some (.ref m), some (.ref p), some (.int x2), some (.int v1), some (.int (x4 + 1))] [] z I Q) :
    E mX4_makeCycle mc ms 48 [some (.ref m), some (.ref p), some (.int x2), none, some (.int x4)] [.int y0, .int y1] z I Q := by
  refine E_ior (pc := 48) ddX4_makeCycle_48 ?_
  obtain ⟨v1, ev1⟩ : ∃ y : Int32, y = (y1 ||| y0) := ⟨_, rfl⟩
  have k := k v1 ev1
  rw [← ev1]
  refine E_istore_n (pc := 49) (ls' := [some (.ref m), some (.ref p), some (.int x2), some (.int v1), some (.int x4)]) ddX4_makeCycle_49 rfl (Nat.le_of_ble_eq_true rfl) rfl rfl ?_
  refine E_iinc (pc := 50) (v := (x4 + 1)) (ls' := [some (.ref m), some (.ref p), some (.int x2), some (.int v1), some (.int (x4 + 1))]) ddX4_makeCycle_50 rfl rfl (Nat.le_of_ble_eq_true rfl) rfl rfl ?_
  refine E_goto (pc := 53) (tgt := 14) ddX4_makeCycle_53 (by decide) ?_
  exact k
/-! X4_takeFromQueues, labels [4, 58] -/
set_option maxRecDepth 100000 in
set_option maxHeartbeats 4000000 in
theorem B_X4_takeFromQueues_0 {mc ms : Nat} {z : Zt} {I : It} {Q : Option Value → Zt → It → Prop} {m p : Nat} (hm : isM z m) (hp : isP z p)
    (k : E mX4_takeFromQueues mc ms 4 [some (.ref m), some (.ref p), some (.int 0), some (.int 0)] [] z I Q) :
    E mX4_takeFromQueues mc ms 0 [some (.ref m), some (.ref p), none, none] [] z I Q := by
  refine E_iconst (pc := 0) (v := 0) ddX4_takeFromQueues_0 rfl ?_
  refine E_istore_n (pc := 1) (ls' := [some (.ref m), some (.ref p), some (.int 0), none]) ddX4_takeFromQueues_1 rfl (Nat.le_of_ble_eq_true rfl) rfl rfl ?_
  refine E_iconst (pc := 2) (v := 0) ddX4_takeFromQueues_2 rfl ?_
  refine E_istore_n (pc := 3) (ls' := [some (.ref m), some (.ref p), some (.int 0), some (.int 0)]) ddX4_takeFromQueues_3 rfl (Nat.le_of_ble_eq_true rfl) rfl rfl ?_
  exact k
set_option maxRecDepth 100000 in
set_option maxHeartbeats 4000000 in
theorem B_X4_takeFromQueues_4 {mc ms : Nat} {z : Zt} {I : It} {Q : Option Value → Zt → It → Prop} {x2 x3 : Int32} {m p : Nat} (hm : isM z m) (hp : isP z p)
    (k : (((I p 1) ≤ x3) → Q (some (.int x2)) z I) ∧
    ((¬ (I p 1) ≤ x3) → ∃ j1 : Nat, x3 = nI j1 ∧ j1 < 8 ∧ (((I (m + 8) j1) ≤ 0) → E mX4_takeFromQueues mc ms 4 [some (.ref m), some (.ref p), some (.int x2), some (.int (x3 + 1))] [] z I Q) ∧
    ((¬ (I (m + 8) j1) ≤ 0) → ∃ j2 : Nat, (x3 * 8) = nI j2 ∧ j2 < 64 ∧ (((I m 0) < (I (m + 9) j2)) → E mX4_takeFromQueues mc ms 4 [some (.ref m), some (.ref p), some (.int x2), some (.int (x3 + 1))] [] z I Q) ∧
    ((¬ (I m 0) < (I (m + 9) j2)) → ∀ I3 : It, I3 = e_st I (m + 7) j1 (I (m + 10) j2) → E mX4_dropFirst 0 0 0 [some (.ref m), some (.int x3), some (.int 1), none, none, none] [] z I3 (fun r z' I' => E mX4_takeFromQueues mc ms 58 [some (.ref m), some (.ref p), some (.int x2), some (.int x3)] (r.toList ++ []) z' I' Q))))) :
    E mX4_takeFromQueues mc ms 4 [some (.ref m), some (.ref p), some (.int x2), some (.int x3)] [] z I Q := by
  refine E_iload_n (pc := 4) (x := x3) ddX4_takeFromQueues_4 rfl rfl ?_
  refine E_aload_n (pc := 5) (x := p) ddX4_takeFromQueues_5 rfl rfl ?_
  refine E_getI (pc := 6) ddX4_takeFromQueues_6 ec_5 1 (Nat.le_of_ble_eq_true rfl) rfl w_1_60 hp.s0 ?_
  refine E_icmp_ge (pc := 9) (tgt := 75) ddX4_takeFromQueues_9 (by decide) (fun h => ?_) (fun h => ?_)
  · have k := k.1 h
    refine E_iload_n (pc := 75) (x := x2) ddX4_takeFromQueues_75 rfl rfl ?_
    exact E_iret (pc := 76) ddX4_takeFromQueues_76 rfl k
  · have k := k.2 h
    refine E_aload_n (pc := 12) (x := m) ddX4_takeFromQueues_12 rfl rfl ?_
    refine E_getR (pc := 13) (x := (m + 8)) ddX4_takeFromQueues_13 ec_3 11 (Nat.le_of_ble_eq_true rfl) rfl w_1_134 hm.s0 hm.r11 (Nat.succ_ne_zero _) ?_
    refine E_iload_n (pc := 16) (x := x3) ddX4_takeFromQueues_16 rfl rfl ?_
    obtain ⟨j1, ij1, lj1, k⟩ := k
    refine E_ialdN (pc := 17) (j := j1) ddX4_takeFromQueues_17 hm.s8 ij1 lj1 (Nat.le_of_ble_eq_true rfl) ?_
    refine E_if_le (pc := 18) (tgt := 69) ddX4_takeFromQueues_18 (by decide) (fun h => ?_) (fun h => ?_)
    · have k := k.1 h
      refine E_iinc (pc := 69) (v := (x3 + 1)) (ls' := [some (.ref m), some (.ref p), some (.int x2), some (.int (x3 + 1))]) ddX4_takeFromQueues_69 rfl rfl (Nat.le_of_ble_eq_true rfl) rfl rfl ?_
      refine E_goto (pc := 72) (tgt := 4) ddX4_takeFromQueues_72 (by decide) ?_
      exact k
    · have k := k.2 h
      refine E_aload_n (pc := 21) (x := m) ddX4_takeFromQueues_21 rfl rfl ?_
      refine E_getR (pc := 22) (x := (m + 9)) ddX4_takeFromQueues_22 ec_3 12 (Nat.le_of_ble_eq_true rfl) rfl w_1_136 hm.s0 hm.r12 (Nat.succ_ne_zero _) ?_
      refine E_iload_n (pc := 25) (x := x3) ddX4_takeFromQueues_25 rfl rfl ?_
      refine E_bipush (pc := 26) (v := 8) ddX4_takeFromQueues_26 rfl ?_
      refine E_imul (pc := 28) ddX4_takeFromQueues_28 ?_
      obtain ⟨j2, ij2, lj2, k⟩ := k
      refine E_ialdN (pc := 29) (j := j2) ddX4_takeFromQueues_29 hm.s9 ij2 lj2 (Nat.le_of_ble_eq_true rfl) ?_
      refine E_aload_n (pc := 30) (x := m) ddX4_takeFromQueues_30 rfl rfl ?_
      refine E_getI (pc := 31) ddX4_takeFromQueues_31 ec_3 0 (Nat.le_of_ble_eq_true rfl) rfl w_1_114 hm.s0 ?_
      refine E_icmp_gt (pc := 34) (tgt := 69) ddX4_takeFromQueues_34 (by decide) (fun h => ?_) (fun h => ?_)
      · have k := k.1 h
        refine E_iinc (pc := 69) (v := (x3 + 1)) (ls' := [some (.ref m), some (.ref p), some (.int x2), some (.int (x3 + 1))]) ddX4_takeFromQueues_69 rfl rfl (Nat.le_of_ble_eq_true rfl) rfl rfl ?_
        refine E_goto (pc := 72) (tgt := 4) ddX4_takeFromQueues_72 (by decide) ?_
        exact k
      · have k := k.2 h
        refine E_aload_n (pc := 37) (x := m) ddX4_takeFromQueues_37 rfl rfl ?_
        refine E_getR (pc := 38) (x := (m + 7)) ddX4_takeFromQueues_38 ec_3 10 (Nat.le_of_ble_eq_true rfl) rfl w_1_132 hm.s0 hm.r10 (Nat.succ_ne_zero _) ?_
        refine E_iload_n (pc := 41) (x := x3) ddX4_takeFromQueues_41 rfl rfl ?_
        refine E_aload_n (pc := 42) (x := m) ddX4_takeFromQueues_42 rfl rfl ?_
        refine E_getR (pc := 43) (x := (m + 10)) ddX4_takeFromQueues_43 ec_3 13 (Nat.le_of_ble_eq_true rfl) rfl w_1_137 hm.s0 hm.r13 (Nat.succ_ne_zero _) ?_
        refine E_iload_n (pc := 46) (x := x3) ddX4_takeFromQueues_46 rfl rfl ?_
        refine E_bipush (pc := 47) (v := 8) ddX4_takeFromQueues_47 rfl ?_
        refine E_imul (pc := 49) ddX4_takeFromQueues_49 ?_
        refine E_ialdN (pc := 50) (j := j2) ddX4_takeFromQueues_50 hm.s10 ij2 lj2 (Nat.le_of_ble_eq_true rfl) ?_
        obtain ⟨I3, eI3⟩ : ∃ y : It, y = e_st I (m + 7) j1 (I (m + 10) j2) := ⟨_, rfl⟩
        have k := k I3 eI3
        refine E_iastN (pc := 51) (j := j1) ddX4_takeFromQueues_51 hm.s7 (Nat.succ_ne_zero _) ij1 lj1 (Nat.le_of_ble_eq_true rfl) ?_
        rw [← eI3]
        refine E_aload_n (pc := 52) (x := m) ddX4_takeFromQueues_52 rfl rfl ?_
        refine E_iload_n (pc := 53) (x := x3) ddX4_takeFromQueues_53 rfl rfl ?_
        refine E_iconst (pc := 54) (v := 1) ddX4_takeFromQueues_54 rfl ?_
        exact E_callV (pc := 55) (As := [.int x3, .int 1]) (st := []) (a := m) ddX4_takeFromQueues_55 hX4_dropFirst ⟨(Nat.le_of_ble_eq_true rfl), (Nat.le_of_ble_eq_true rfl)⟩ w_2_135 (ci := 3) rfl rfl hm.s0 rfl rfl (Nat.le_of_ble_eq_true rfl) (e_cc rfl (e_cc rfl e_cn)) (Nat.le_of_ble_eq_true rfl) k
set_option maxRecDepth 100000 in
set_option maxHeartbeats 4000000 in
theorem B_X4_takeFromQueues_58 {mc ms : Nat} {z : Zt} {I : It} {Q : Option Value → Zt → It → Prop} {x2 x3 : Int32} {m p : Nat} (hm : isM z m) (hp : isP z p)
    (k : ∃ j1 : Nat, x3 = nI j1 ∧ j1 < 8 ∧ ∀ v2 : Int32, v2 = (x2 ||| (1 <<< ((I (p + 5) j1) &&& 31))) → E mX4_takeFromQueues mc ms 4 [some (.ref m), some (.ref p), some (.int v2), some (.int (x3 + 1))] [] z I Q) :
    E mX4_takeFromQueues mc ms 58 [some (.ref m), some (.ref p), some (.int x2), some (.int x3)] [] z I Q := by
  refine E_iload_n (pc := 58) (x := x2) ddX4_takeFromQueues_58 rfl rfl ?_
  refine E_iconst (pc := 59) (v := 1) ddX4_takeFromQueues_59 rfl ?_
  refine E_aload_n (pc := 60) (x := p) ddX4_takeFromQueues_60 rfl rfl ?_
  refine E_getR (pc := 61) (x := (p + 5)) ddX4_takeFromQueues_61 ec_5 6 (Nat.le_of_ble_eq_true rfl) rfl w_1_78 hp.s0 hp.r6 (Nat.succ_ne_zero _) ?_
  refine E_iload_n (pc := 64) (x := x3) ddX4_takeFromQueues_64 rfl rfl ?_
  obtain ⟨j1, ij1, lj1, k⟩ := k
  refine E_ialdN (pc := 65) (j := j1) ddX4_takeFromQueues_65 hp.s5 ij1 lj1 (Nat.le_of_ble_eq_true rfl) ?_
  refine E_ishl (pc := 66) ddX4_takeFromQueues_66 ?_
  refine E_ior (pc := 67) ddX4_takeFromQueues_67 ?_
  obtain ⟨v2, ev2⟩ : ∃ y : Int32, y = (x2 ||| (1 <<< ((I (p + 5) j1) &&& 31))) := ⟨_, rfl⟩
  have k := k v2 ev2
  rw [← ev2]
  refine E_istore_n (pc := 68) (ls' := [some (.ref m), some (.ref p), some (.int v2), some (.int x3)]) ddX4_takeFromQueues_68 rfl (Nat.le_of_ble_eq_true rfl) rfl rfl ?_
  refine E_iinc (pc := 69) (v := (x3 + 1)) (ls' := [some (.ref m), some (.ref p), some (.int v2), some (.int (x3 + 1))]) ddX4_takeFromQueues_69 rfl rfl (Nat.le_of_ble_eq_true rfl) rfl rfl ?_
  refine E_goto (pc := 72) (tgt := 4) ddX4_takeFromQueues_72 (by decide) ?_
  exact k
/-! X4_takeByHand, labels [48, 110] -/
set_option maxRecDepth 100000 in
set_option maxHeartbeats 4000000 in
theorem B_X4_takeByHand_0 {mc ms : Nat} {z : Zt} {I : It} {Q : Option Value → Zt → It → Prop} {m : Nat} (hm : isM z m)
    (k : (((I m 14) = 0) → Q (some (.int 0)) z I) ∧
    ((¬ (I m 14) = 0) → (((I (m + 11) 0) ≤ (I m 0)) → ∀ v1 : Int32, v1 = (I (m + 12) 0) → ∀ v2 : Int32, v2 = (I (m + 13) 0) → ∀ I3 : It, I3 = e_st I m 14 ((I m 14) - 1) → E mX4_takeByHand mc ms 48 [some (.ref m), some (.int v1), some (.int v2), some (.int 0)] [] z I3 Q) ∧
    ((¬ (I (m + 11) 0) ≤ (I m 0)) → Q (some (.int 0)) z I))) :
    E mX4_takeByHand mc ms 0 [some (.ref m), none, none, none] [] z I Q := by
  refine E_aload_n (pc := 0) (x := m) ddX4_takeByHand_0 rfl rfl ?_
  refine E_getI (pc := 1) ddX4_takeByHand_1 ec_3 14 (Nat.le_of_ble_eq_true rfl) rfl w_1_138 hm.s0 ?_
  refine E_if_eq (pc := 4) (tgt := 20) ddX4_takeByHand_4 (by decide) (fun h => ?_) (fun h => ?_)
  · have k := k.1 h
    refine E_iconst (pc := 20) (v := 0) ddX4_takeByHand_20 rfl ?_
    exact E_iret (pc := 21) ddX4_takeByHand_21 rfl k
  · have k := k.2 h
    refine E_aload_n (pc := 7) (x := m) ddX4_takeByHand_7 rfl rfl ?_
    refine E_getR (pc := 8) (x := (m + 11)) ddX4_takeByHand_8 ec_3 15 (Nat.le_of_ble_eq_true rfl) rfl w_1_140 hm.s0 hm.r15 (Nat.succ_ne_zero _) ?_
    refine E_iconst (pc := 11) (v := 0) ddX4_takeByHand_11 rfl ?_
    refine E_ialdN (pc := 12) (j := 0) ddX4_takeByHand_12 hm.s11 rfl (Nat.le_of_ble_eq_true rfl) (Nat.le_of_ble_eq_true rfl) ?_
    refine E_aload_n (pc := 13) (x := m) ddX4_takeByHand_13 rfl rfl ?_
    refine E_getI (pc := 14) ddX4_takeByHand_14 ec_3 0 (Nat.le_of_ble_eq_true rfl) rfl w_1_114 hm.s0 ?_
    refine E_icmp_le (pc := 17) (tgt := 22) ddX4_takeByHand_17 (by decide) (fun h => ?_) (fun h => ?_)
    · have k := k.1 h
      refine E_aload_n (pc := 22) (x := m) ddX4_takeByHand_22 rfl rfl ?_
      refine E_getR (pc := 23) (x := (m + 12)) ddX4_takeByHand_23 ec_3 16 (Nat.le_of_ble_eq_true rfl) rfl w_1_141 hm.s0 hm.r16 (Nat.succ_ne_zero _) ?_
      refine E_iconst (pc := 26) (v := 0) ddX4_takeByHand_26 rfl ?_
      refine E_ialdN (pc := 27) (j := 0) ddX4_takeByHand_27 hm.s12 rfl (Nat.le_of_ble_eq_true rfl) (Nat.le_of_ble_eq_true rfl) ?_
      obtain ⟨v1, ev1⟩ : ∃ y : Int32, y = (I (m + 12) 0) := ⟨_, rfl⟩
      have k := k v1 ev1
      rw [← ev1]
      refine E_istore_n (pc := 28) (ls' := [some (.ref m), some (.int v1), none, none]) ddX4_takeByHand_28 rfl (Nat.le_of_ble_eq_true rfl) rfl rfl ?_
      refine E_aload_n (pc := 29) (x := m) ddX4_takeByHand_29 rfl rfl ?_
      refine E_getR (pc := 30) (x := (m + 13)) ddX4_takeByHand_30 ec_3 17 (Nat.le_of_ble_eq_true rfl) rfl w_1_142 hm.s0 hm.r17 (Nat.succ_ne_zero _) ?_
      refine E_iconst (pc := 33) (v := 0) ddX4_takeByHand_33 rfl ?_
      refine E_ialdN (pc := 34) (j := 0) ddX4_takeByHand_34 hm.s13 rfl (Nat.le_of_ble_eq_true rfl) (Nat.le_of_ble_eq_true rfl) ?_
      obtain ⟨v2, ev2⟩ : ∃ y : Int32, y = (I (m + 13) 0) := ⟨_, rfl⟩
      have k := k v2 ev2
      rw [← ev2]
      refine E_istore_n (pc := 35) (ls' := [some (.ref m), some (.int v1), some (.int v2), none]) ddX4_takeByHand_35 rfl (Nat.le_of_ble_eq_true rfl) rfl rfl ?_
      refine E_aload_n (pc := 36) (x := m) ddX4_takeByHand_36 rfl rfl ?_
      refine E_dupr (pc := 37) ddX4_takeByHand_37 ?_
      refine E_getI (pc := 38) ddX4_takeByHand_38 ec_3 14 (Nat.le_of_ble_eq_true rfl) rfl w_1_138 hm.s0 ?_
      refine E_iconst (pc := 41) (v := 1) ddX4_takeByHand_41 rfl ?_
      refine E_isub (pc := 42) ddX4_takeByHand_42 ?_
      obtain ⟨I3, eI3⟩ : ∃ y : It, y = e_st I m 14 ((I m 14) - 1) := ⟨_, rfl⟩
      have k := k I3 eI3
      refine E_putI (pc := 43) ddX4_takeByHand_43 ec_3 14 (Nat.le_of_ble_eq_true rfl) rfl w_1_138 hm.s0 rfl rfl ?_
      rw [← eI3]
      refine E_iconst (pc := 46) (v := 0) ddX4_takeByHand_46 rfl ?_
      refine E_istore_n (pc := 47) (ls' := [some (.ref m), some (.int v1), some (.int v2), some (.int 0)]) ddX4_takeByHand_47 rfl (Nat.le_of_ble_eq_true rfl) rfl rfl ?_
      exact k
    · have k := k.2 h
      refine E_iconst (pc := 20) (v := 0) ddX4_takeByHand_20 rfl ?_
      exact E_iret (pc := 21) ddX4_takeByHand_21 rfl k
set_option maxRecDepth 100000 in
set_option maxHeartbeats 4000000 in
theorem B_X4_takeByHand_48 {mc ms : Nat} {z : Zt} {I : It} {Q : Option Value → Zt → It → Prop} {x1 x2 x3 : Int32} {m : Nat} (hm : isM z m)
    (k : (((I m 14) ≤ x3) → E mX4_changeWire 0 0 0 [some (.ref m), some (.int x1), some (.int x2)] [] z I (fun r z' I' => E mX4_takeByHand mc ms 110 [none, none, none, none] (r.toList ++ []) z' I' Q)) ∧
    ((¬ (I m 14) ≤ x3) → ∃ j1 : Nat, (x3 + 1) = nI j1 ∧ j1 < 8 ∧ ∃ j2 : Nat, x3 = nI j2 ∧ j2 < 8 ∧ ∀ I3 : It, I3 = e_st I (m + 11) j2 (I (m + 11) j1) → ∀ I4 : It, I4 = e_st I3 (m + 12) j2 (I3 (m + 12) j1) → ∀ I5 : It, I5 = e_st I4 (m + 13) j2 (I4 (m + 13) j1) → E mX4_takeByHand mc ms 48 [some (.ref m), some (.int x1), some (.int x2), some (.int (x3 + 1))] [] z I5 Q)) :
    E mX4_takeByHand mc ms 48 [some (.ref m), some (.int x1), some (.int x2), some (.int x3)] [] z I Q := by
  refine E_iload_n (pc := 48) (x := x3) ddX4_takeByHand_48 rfl rfl ?_
  refine E_aload_n (pc := 49) (x := m) ddX4_takeByHand_49 rfl rfl ?_
  refine E_getI (pc := 50) ddX4_takeByHand_50 ec_3 14 (Nat.le_of_ble_eq_true rfl) rfl w_1_138 hm.s0 ?_
  refine E_icmp_ge (pc := 53) (tgt := 104) ddX4_takeByHand_53 (by decide) (fun h => ?_) (fun h => ?_)
  · have k := k.1 h
    refine E_aload_n (pc := 104) (x := m) ddX4_takeByHand_104 rfl rfl ?_
    refine E_iload_n (pc := 105) (x := x1) ddX4_takeByHand_105 rfl rfl ?_
    refine E_iload_n (pc := 106) (x := x2) ddX4_takeByHand_106 rfl rfl ?_
    exact E_callV (pc := 107) (As := [.int x1, .int x2]) (st := []) (a := m) ddX4_takeByHand_107 hX4_changeWire ⟨(Nat.le_of_ble_eq_true rfl), (Nat.le_of_ble_eq_true rfl)⟩ w_2_208 (ci := 3) rfl rfl hm.s0 rfl rfl (Nat.le_of_ble_eq_true rfl) (e_cc rfl (e_cc rfl e_cn)) (Nat.le_of_ble_eq_true rfl) (E.mono k fun _ _ _ q => E.forget q trivial)
  · have k := k.2 h
    refine E_aload_n (pc := 56) (x := m) ddX4_takeByHand_56 rfl rfl ?_
    refine E_getR (pc := 57) (x := (m + 11)) ddX4_takeByHand_57 ec_3 15 (Nat.le_of_ble_eq_true rfl) rfl w_1_140 hm.s0 hm.r15 (Nat.succ_ne_zero _) ?_
    refine E_iload_n (pc := 60) (x := x3) ddX4_takeByHand_60 rfl rfl ?_
    refine E_aload_n (pc := 61) (x := m) ddX4_takeByHand_61 rfl rfl ?_
    refine E_getR (pc := 62) (x := (m + 11)) ddX4_takeByHand_62 ec_3 15 (Nat.le_of_ble_eq_true rfl) rfl w_1_140 hm.s0 hm.r15 (Nat.succ_ne_zero _) ?_
    refine E_iload_n (pc := 65) (x := x3) ddX4_takeByHand_65 rfl rfl ?_
    refine E_iconst (pc := 66) (v := 1) ddX4_takeByHand_66 rfl ?_
    refine E_iadd (pc := 67) ddX4_takeByHand_67 ?_
    obtain ⟨j1, ij1, lj1, k⟩ := k
    refine E_ialdN (pc := 68) (j := j1) ddX4_takeByHand_68 hm.s11 ij1 lj1 (Nat.le_of_ble_eq_true rfl) ?_
    obtain ⟨j2, ij2, lj2, k⟩ := k
    obtain ⟨I3, eI3⟩ : ∃ y : It, y = e_st I (m + 11) j2 (I (m + 11) j1) := ⟨_, rfl⟩
    have k := k I3 eI3
    refine E_iastN (pc := 69) (j := j2) ddX4_takeByHand_69 hm.s11 (Nat.succ_ne_zero _) ij2 lj2 (Nat.le_of_ble_eq_true rfl) ?_
    rw [← eI3]
    refine E_aload_n (pc := 70) (x := m) ddX4_takeByHand_70 rfl rfl ?_
    refine E_getR (pc := 71) (x := (m + 12)) ddX4_takeByHand_71 ec_3 16 (Nat.le_of_ble_eq_true rfl) rfl w_1_141 hm.s0 hm.r16 (Nat.succ_ne_zero _) ?_
    refine E_iload_n (pc := 74) (x := x3) ddX4_takeByHand_74 rfl rfl ?_
    refine E_aload_n (pc := 75) (x := m) ddX4_takeByHand_75 rfl rfl ?_
    refine E_getR (pc := 76) (x := (m + 12)) ddX4_takeByHand_76 ec_3 16 (Nat.le_of_ble_eq_true rfl) rfl w_1_141 hm.s0 hm.r16 (Nat.succ_ne_zero _) ?_
    refine E_iload_n (pc := 79) (x := x3) ddX4_takeByHand_79 rfl rfl ?_
    refine E_iconst (pc := 80) (v := 1) ddX4_takeByHand_80 rfl ?_
    refine E_iadd (pc := 81) ddX4_takeByHand_81 ?_
    refine E_ialdN (pc := 82) (j := j1) ddX4_takeByHand_82 hm.s12 ij1 lj1 (Nat.le_of_ble_eq_true rfl) ?_
    obtain ⟨I4, eI4⟩ : ∃ y : It, y = e_st I3 (m + 12) j2 (I3 (m + 12) j1) := ⟨_, rfl⟩
    have k := k I4 eI4
    refine E_iastN (pc := 83) (j := j2) ddX4_takeByHand_83 hm.s12 (Nat.succ_ne_zero _) ij2 lj2 (Nat.le_of_ble_eq_true rfl) ?_
    rw [← eI4]
    refine E_aload_n (pc := 84) (x := m) ddX4_takeByHand_84 rfl rfl ?_
    refine E_getR (pc := 85) (x := (m + 13)) ddX4_takeByHand_85 ec_3 17 (Nat.le_of_ble_eq_true rfl) rfl w_1_142 hm.s0 hm.r17 (Nat.succ_ne_zero _) ?_
    refine E_iload_n (pc := 88) (x := x3) ddX4_takeByHand_88 rfl rfl ?_
    refine E_aload_n (pc := 89) (x := m) ddX4_takeByHand_89 rfl rfl ?_
    refine E_getR (pc := 90) (x := (m + 13)) ddX4_takeByHand_90 ec_3 17 (Nat.le_of_ble_eq_true rfl) rfl w_1_142 hm.s0 hm.r17 (Nat.succ_ne_zero _) ?_
    refine E_iload_n (pc := 93) (x := x3) ddX4_takeByHand_93 rfl rfl ?_
    refine E_iconst (pc := 94) (v := 1) ddX4_takeByHand_94 rfl ?_
    refine E_iadd (pc := 95) ddX4_takeByHand_95 ?_
    refine E_ialdN (pc := 96) (j := j1) ddX4_takeByHand_96 hm.s13 ij1 lj1 (Nat.le_of_ble_eq_true rfl) ?_
    obtain ⟨I5, eI5⟩ : ∃ y : It, y = e_st I4 (m + 13) j2 (I4 (m + 13) j1) := ⟨_, rfl⟩
    have k := k I5 eI5
    refine E_iastN (pc := 97) (j := j2) ddX4_takeByHand_97 hm.s13 (Nat.succ_ne_zero _) ij2 lj2 (Nat.le_of_ble_eq_true rfl) ?_
    rw [← eI5]
    refine E_iinc (pc := 98) (v := (x3 + 1)) (ls' := [some (.ref m), some (.int x1), some (.int x2), some (.int (x3 + 1))]) ddX4_takeByHand_98 rfl rfl (Nat.le_of_ble_eq_true rfl) rfl rfl ?_
    refine E_goto (pc := 101) (tgt := 48) ddX4_takeByHand_101 (by decide) ?_
    exact k
set_option maxRecDepth 100000 in
set_option maxHeartbeats 4000000 in
theorem B_X4_takeByHand_110 {mc ms : Nat} {z : Zt} {I : It} {Q : Option Value → Zt → It → Prop} {y0 : Int32}
    (k : Q (some (.int y0)) z I) :
    E mX4_takeByHand mc ms 110 [none, none, none, none] [.int y0] z I Q := by
  exact E_iret (pc := 110) ddX4_takeByHand_110 rfl k
/-! X4_changeWire, labels [37] -/
set_option maxRecDepth 100000 in
set_option maxHeartbeats 4000000 in
theorem B_X4_changeWire_0 {mc ms : Nat} {z : Zt} {I : It} {Q : Option Value → Zt → It → Prop} {x1 x2 : Int32} {m : Nat} (hm : isM z m)
    (k : ∃ j1 : Nat, x1 = nI j1 ∧ j1 < 8 ∧ ((¬ (I (m + 1) j1) = x2) → ((¬ (I (m + 3) j1) = (I m 0)) → E mX4_changeWire mc ms 37 [some (.ref m), some (.int x1), some (.int x2)] [] z I Q) ∧
    (((I (m + 3) j1) = (I m 0)) → ∀ I2 : It, I2 = e_st I m 3 ((I m 3) ||| (1 <<< (x1 &&& 31))) → E mX4_changeWire mc ms 37 [some (.ref m), some (.int x1), some (.int x2)] [] z I2 Q)) ∧
    (((I (m + 1) j1) = x2) → Q (some (.int 0)) z I)) :
    E mX4_changeWire mc ms 0 [some (.ref m), some (.int x1), some (.int x2)] [] z I Q := by
  refine E_aload_n (pc := 0) (x := m) ddX4_changeWire_0 rfl rfl ?_
  refine E_getR (pc := 1) (x := (m + 1)) ddX4_changeWire_1 ec_3 4 (Nat.le_of_ble_eq_true rfl) rfl w_1_122 hm.s0 hm.r4 (Nat.succ_ne_zero _) ?_
  refine E_iload_n (pc := 4) (x := x1) ddX4_changeWire_4 rfl rfl ?_
  obtain ⟨j1, ij1, lj1, k⟩ := k
  refine E_ialdN (pc := 5) (j := j1) ddX4_changeWire_5 hm.s1 ij1 lj1 (Nat.le_of_ble_eq_true rfl) ?_
  refine E_iload_n (pc := 6) (x := x2) ddX4_changeWire_6 rfl rfl ?_
  refine E_icmp_ne (pc := 7) (tgt := 12) ddX4_changeWire_7 (by decide) (fun h => ?_) (fun h => ?_)
  · have k := k.1 h
    refine E_aload_n (pc := 12) (x := m) ddX4_changeWire_12 rfl rfl ?_
    refine E_getR (pc := 13) (x := (m + 3)) ddX4_changeWire_13 ec_3 6 (Nat.le_of_ble_eq_true rfl) rfl w_1_127 hm.s0 hm.r6 (Nat.succ_ne_zero _) ?_
    refine E_iload_n (pc := 16) (x := x1) ddX4_changeWire_16 rfl rfl ?_
    refine E_ialdN (pc := 17) (j := j1) ddX4_changeWire_17 hm.s3 ij1 lj1 (Nat.le_of_ble_eq_true rfl) ?_
    refine E_aload_n (pc := 18) (x := m) ddX4_changeWire_18 rfl rfl ?_
    refine E_getI (pc := 19) ddX4_changeWire_19 ec_3 0 (Nat.le_of_ble_eq_true rfl) rfl w_1_114 hm.s0 ?_
    refine E_icmp_ne (pc := 22) (tgt := 37) ddX4_changeWire_22 (by decide) (fun h => ?_) (fun h => ?_)
    · have k := k.1 h
      exact k
    · have k := k.2 h
      refine E_aload_n (pc := 25) (x := m) ddX4_changeWire_25 rfl rfl ?_
      refine E_dupr (pc := 26) ddX4_changeWire_26 ?_
      refine E_getI (pc := 27) ddX4_changeWire_27 ec_3 3 (Nat.le_of_ble_eq_true rfl) rfl w_1_120 hm.s0 ?_
      refine E_iconst (pc := 30) (v := 1) ddX4_changeWire_30 rfl ?_
      refine E_iload_n (pc := 31) (x := x1) ddX4_changeWire_31 rfl rfl ?_
      refine E_ishl (pc := 32) ddX4_changeWire_32 ?_
      refine E_ior (pc := 33) ddX4_changeWire_33 ?_
      obtain ⟨I2, eI2⟩ : ∃ y : It, y = e_st I m 3 ((I m 3) ||| (1 <<< (x1 &&& 31))) := ⟨_, rfl⟩
      have k := k I2 eI2
      refine E_putI (pc := 34) ddX4_changeWire_34 ec_3 3 (Nat.le_of_ble_eq_true rfl) rfl w_1_120 hm.s0 rfl rfl ?_
      rw [← eI2]
      exact k
  · have k := k.2 h
    refine E_iconst (pc := 10) (v := 0) ddX4_changeWire_10 rfl ?_
    exact E_iret (pc := 11) ddX4_changeWire_11 rfl k
set_option maxRecDepth 100000 in
set_option maxHeartbeats 4000000 in
theorem B_X4_changeWire_37 {mc ms : Nat} {z : Zt} {I : It} {Q : Option Value → Zt → It → Prop} {x1 x2 : Int32} {m : Nat} (hm : isM z m)
    (k : ∃ j1 : Nat, x1 = nI j1 ∧ j1 < 8 ∧ ∀ I2 : It, I2 = e_st I (m + 3) j1 (I m 0) → ∀ I3 : It, I3 = e_st I2 (m + 1) j1 x2 → ∀ I4 : It, I4 = e_st I3 (m + 2) j1 (if 9999 < ((I3 (m + 2) j1) + 1) then 9999 else ((I3 (m + 2) j1) + 1)) → ∃ j5 : Nat, ((x1 * 8) + (I4 (m + 4) j1)) = nI j5 ∧ j5 < 64 ∧ ∀ I6 : It, I6 = e_st I4 (m + 5) j5 (I4 m 0) → ∃ j7 : Nat, ((x1 * 8) + (I6 (m + 4) j1)) = nI j7 ∧ j7 < 64 ∧ ∀ I8 : It, I8 = e_st I6 (m + 6) j7 x2 → ∀ I9 : It, I9 = e_st I8 (m + 4) j1 (((I8 (m + 4) j1) + 1) - ((I8 (m + 4) j1) + 1) / 8 * 8) → Q (some (.int (1 <<< (x1 &&& 31)))) z I9) :
    E mX4_changeWire mc ms 37 [some (.ref m), some (.int x1), some (.int x2)] [] z I Q := by
  refine E_aload_n (pc := 37) (x := m) ddX4_changeWire_37 rfl rfl ?_
  refine E_getR (pc := 38) (x := (m + 3)) ddX4_changeWire_38 ec_3 6 (Nat.le_of_ble_eq_true rfl) rfl w_1_127 hm.s0 hm.r6 (Nat.succ_ne_zero _) ?_
  refine E_iload_n (pc := 41) (x := x1) ddX4_changeWire_41 rfl rfl ?_
  refine E_aload_n (pc := 42) (x := m) ddX4_changeWire_42 rfl rfl ?_
  refine E_getI (pc := 43) ddX4_changeWire_43 ec_3 0 (Nat.le_of_ble_eq_true rfl) rfl w_1_114 hm.s0 ?_
  obtain ⟨j1, ij1, lj1, k⟩ := k
  obtain ⟨I2, eI2⟩ : ∃ y : It, y = e_st I (m + 3) j1 (I m 0) := ⟨_, rfl⟩
  have k := k I2 eI2
  refine E_iastN (pc := 46) (j := j1) ddX4_changeWire_46 hm.s3 (Nat.succ_ne_zero _) ij1 lj1 (Nat.le_of_ble_eq_true rfl) ?_
  rw [← eI2]
  refine E_aload_n (pc := 47) (x := m) ddX4_changeWire_47 rfl rfl ?_
  refine E_getR (pc := 48) (x := (m + 1)) ddX4_changeWire_48 ec_3 4 (Nat.le_of_ble_eq_true rfl) rfl w_1_122 hm.s0 hm.r4 (Nat.succ_ne_zero _) ?_
  refine E_iload_n (pc := 51) (x := x1) ddX4_changeWire_51 rfl rfl ?_
  refine E_iload_n (pc := 52) (x := x2) ddX4_changeWire_52 rfl rfl ?_
  obtain ⟨I3, eI3⟩ : ∃ y : It, y = e_st I2 (m + 1) j1 x2 := ⟨_, rfl⟩
  have k := k I3 eI3
  refine E_iastN (pc := 53) (j := j1) ddX4_changeWire_53 hm.s1 (Nat.succ_ne_zero _) ij1 lj1 (Nat.le_of_ble_eq_true rfl) ?_
  rw [← eI3]
  refine E_aload_n (pc := 54) (x := m) ddX4_changeWire_54 rfl rfl ?_
  refine E_getR (pc := 55) (x := (m + 2)) ddX4_changeWire_55 ec_3 5 (Nat.le_of_ble_eq_true rfl) rfl w_1_125 hm.s0 hm.r5 (Nat.succ_ne_zero _) ?_
  refine E_iload_n (pc := 58) (x := x1) ddX4_changeWire_58 rfl rfl ?_
  refine E_aload_n (pc := 59) (x := m) ddX4_changeWire_59 rfl rfl ?_
  refine E_getR (pc := 60) (x := (m + 2)) ddX4_changeWire_60 ec_3 5 (Nat.le_of_ble_eq_true rfl) rfl w_1_125 hm.s0 hm.r5 (Nat.succ_ne_zero _) ?_
  refine E_iload_n (pc := 63) (x := x1) ddX4_changeWire_63 rfl rfl ?_
  refine E_ialdN (pc := 64) (j := j1) ddX4_changeWire_64 hm.s2 ij1 lj1 (Nat.le_of_ble_eq_true rfl) ?_
  refine E_iconst (pc := 65) (v := 1) ddX4_changeWire_65 rfl ?_
  refine E_iadd (pc := 66) ddX4_changeWire_66 ?_
  refine E_sipush (pc := 67) (v := 9999) ddX4_changeWire_67 rfl ?_
  refine E_mmin (pc := 70) ddX4_changeWire_70 w_2_168 w_2_169 w_1_11 w_2_170 (Nat.le_of_ble_eq_true rfl) (Nat.le_of_ble_eq_true rfl) ?_
  obtain ⟨I4, eI4⟩ : ∃ y : It, y = e_st I3 (m + 2) j1 (if 9999 < ((I3 (m + 2) j1) + 1) then 9999 else ((I3 (m + 2) j1) + 1)) := ⟨_, rfl⟩
  have k := k I4 eI4
  refine E_iastN (pc := 73) (j := j1) ddX4_changeWire_73 hm.s2 (Nat.succ_ne_zero _) ij1 lj1 (Nat.le_of_ble_eq_true rfl) ?_
  rw [← eI4]
  refine E_aload_n (pc := 74) (x := m) ddX4_changeWire_74 rfl rfl ?_
  refine E_getR (pc := 75) (x := (m + 5)) ddX4_changeWire_75 ec_3 8 (Nat.le_of_ble_eq_true rfl) rfl w_1_130 hm.s0 hm.r8 (Nat.succ_ne_zero _) ?_
  refine E_iload_n (pc := 78) (x := x1) ddX4_changeWire_78 rfl rfl ?_
  refine E_bipush (pc := 79) (v := 8) ddX4_changeWire_79 rfl ?_
  refine E_imul (pc := 81) ddX4_changeWire_81 ?_
  refine E_aload_n (pc := 82) (x := m) ddX4_changeWire_82 rfl rfl ?_
  refine E_getR (pc := 83) (x := (m + 4)) ddX4_changeWire_83 ec_3 7 (Nat.le_of_ble_eq_true rfl) rfl w_1_129 hm.s0 hm.r7 (Nat.succ_ne_zero _) ?_
  refine E_iload_n (pc := 86) (x := x1) ddX4_changeWire_86 rfl rfl ?_
  refine E_ialdN (pc := 87) (j := j1) ddX4_changeWire_87 hm.s4 ij1 lj1 (Nat.le_of_ble_eq_true rfl) ?_
  refine E_iadd (pc := 88) ddX4_changeWire_88 ?_
  refine E_aload_n (pc := 89) (x := m) ddX4_changeWire_89 rfl rfl ?_
  refine E_getI (pc := 90) ddX4_changeWire_90 ec_3 0 (Nat.le_of_ble_eq_true rfl) rfl w_1_114 hm.s0 ?_
  obtain ⟨j5, ij5, lj5, k⟩ := k
  obtain ⟨I6, eI6⟩ : ∃ y : It, y = e_st I4 (m + 5) j5 (I4 m 0) := ⟨_, rfl⟩
  have k := k I6 eI6
  refine E_iastN (pc := 93) (j := j5) ddX4_changeWire_93 hm.s5 (Nat.succ_ne_zero _) ij5 lj5 (Nat.le_of_ble_eq_true rfl) ?_
  rw [← eI6]
  refine E_aload_n (pc := 94) (x := m) ddX4_changeWire_94 rfl rfl ?_
  refine E_getR (pc := 95) (x := (m + 6)) ddX4_changeWire_95 ec_3 9 (Nat.le_of_ble_eq_true rfl) rfl w_1_131 hm.s0 hm.r9 (Nat.succ_ne_zero _) ?_
  refine E_iload_n (pc := 98) (x := x1) ddX4_changeWire_98 rfl rfl ?_
  refine E_bipush (pc := 99) (v := 8) ddX4_changeWire_99 rfl ?_
  refine E_imul (pc := 101) ddX4_changeWire_101 ?_
  refine E_aload_n (pc := 102) (x := m) ddX4_changeWire_102 rfl rfl ?_
  refine E_getR (pc := 103) (x := (m + 4)) ddX4_changeWire_103 ec_3 7 (Nat.le_of_ble_eq_true rfl) rfl w_1_129 hm.s0 hm.r7 (Nat.succ_ne_zero _) ?_
  refine E_iload_n (pc := 106) (x := x1) ddX4_changeWire_106 rfl rfl ?_
  refine E_ialdN (pc := 107) (j := j1) ddX4_changeWire_107 hm.s4 ij1 lj1 (Nat.le_of_ble_eq_true rfl) ?_
  refine E_iadd (pc := 108) ddX4_changeWire_108 ?_
  refine E_iload_n (pc := 109) (x := x2) ddX4_changeWire_109 rfl rfl ?_
  obtain ⟨j7, ij7, lj7, k⟩ := k
  obtain ⟨I8, eI8⟩ : ∃ y : It, y = e_st I6 (m + 6) j7 x2 := ⟨_, rfl⟩
  have k := k I8 eI8
  refine E_iastN (pc := 110) (j := j7) ddX4_changeWire_110 hm.s6 (Nat.succ_ne_zero _) ij7 lj7 (Nat.le_of_ble_eq_true rfl) ?_
  rw [← eI8]
  refine E_aload_n (pc := 111) (x := m) ddX4_changeWire_111 rfl rfl ?_
  refine E_getR (pc := 112) (x := (m + 4)) ddX4_changeWire_112 ec_3 7 (Nat.le_of_ble_eq_true rfl) rfl w_1_129 hm.s0 hm.r7 (Nat.succ_ne_zero _) ?_
  refine E_iload_n (pc := 115) (x := x1) ddX4_changeWire_115 rfl rfl ?_
  refine E_aload_n (pc := 116) (x := m) ddX4_changeWire_116 rfl rfl ?_
  refine E_getR (pc := 117) (x := (m + 4)) ddX4_changeWire_117 ec_3 7 (Nat.le_of_ble_eq_true rfl) rfl w_1_129 hm.s0 hm.r7 (Nat.succ_ne_zero _) ?_
  refine E_iload_n (pc := 120) (x := x1) ddX4_changeWire_120 rfl rfl ?_
  refine E_ialdN (pc := 121) (j := j1) ddX4_changeWire_121 hm.s4 ij1 lj1 (Nat.le_of_ble_eq_true rfl) ?_
  refine E_iconst (pc := 122) (v := 1) ddX4_changeWire_122 rfl ?_
  refine E_iadd (pc := 123) ddX4_changeWire_123 ?_
  refine E_bipush (pc := 124) (v := 8) ddX4_changeWire_124 rfl ?_
  refine E_irem (pc := 126) ddX4_changeWire_126 (by decide) ?_
  obtain ⟨I9, eI9⟩ : ∃ y : It, y = e_st I8 (m + 4) j1 (((I8 (m + 4) j1) + 1) - ((I8 (m + 4) j1) + 1) / 8 * 8) := ⟨_, rfl⟩
  have k := k I9 eI9
  refine E_iastN (pc := 127) (j := j1) ddX4_changeWire_127 hm.s4 (Nat.succ_ne_zero _) ij1 lj1 (Nat.le_of_ble_eq_true rfl) ?_
  rw [← eI9]
  refine E_iconst (pc := 128) (v := 1) ddX4_changeWire_128 rfl ?_
  refine E_iload_n (pc := 129) (x := x1) ddX4_changeWire_129 rfl rfl ?_
  refine E_ishl (pc := 130) ddX4_changeWire_130 ?_
  exact E_iret (pc := 131) ddX4_changeWire_131 rfl k
