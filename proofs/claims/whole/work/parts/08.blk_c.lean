/-! X0_firstWrong, labels [2] -/
set_option maxRecDepth 100000 in
set_option maxHeartbeats 4000000 in
theorem B_X0_firstWrong_0 {mc ms : Nat} {z : Zt} {I : It} {Q : Option Value → Zt → It → Prop} {p m : Nat} (hk : isBk z) (hp : isP z p) (hm : isM z m)
    (k : E mX0_firstWrong mc ms 2 [some (.ref 304), some (.ref p), some (.ref m), some (.int 0), none] [] z I Q) :
    E mX0_firstWrong mc ms 0 [some (.ref 304), some (.ref p), some (.ref m), none, none] [] z I Q := by
  refine E_iconst (pc := 0) (v := 0) ddX0_firstWrong_0 rfl ?_
  refine E_istore_n (pc := 1) (ls' := [some (.ref 304), some (.ref p), some (.ref m), some (.int 0), none]) ddX0_firstWrong_1 rfl (Nat.le_of_ble_eq_true rfl) rfl rfl ?_
  exact k
set_option maxRecDepth 100000 in
set_option maxHeartbeats 4000000 in
theorem B_X0_firstWrong_2 {mc ms : Nat} {z : Zt} {I : It} {Q : Option Value → Zt → It → Prop} {x3 : Int32} {p m : Nat} (hk : isBk z) (hp : isP z p) (hm : isM z m)
    (k : (((I 304 2) ≤ x3) → Q (some (.int (-1))) z I) ∧
    ((¬ (I 304 2) ≤ x3) → ∃ j1 : Nat, x3 = nI j1 ∧ j1 < 20 ∧ ∀ v2 : Int32, v2 = (I 305 j1) → ((v2 < 0) → Q (some (.int x3)) z I) ∧
    ((¬ v2 < 0) → (((I p 0) ≤ v2) → Q (some (.int x3)) z I) ∧
    ((¬ (I p 0) ≤ v2) → ∃ j3 : Nat, v2 = nI j3 ∧ j3 < 8 ∧ (((I (m + 1) j3) = (I 306 j1)) → E mX0_firstWrong mc ms 2 [some (.ref 304), some (.ref p), some (.ref m), some (.int (x3 + 1)), none] [] z I Q) ∧
    ((¬ (I (m + 1) j3) = (I 306 j1)) → Q (some (.int x3)) z I))))) :
    E mX0_firstWrong mc ms 2 [some (.ref 304), some (.ref p), some (.ref m), some (.int x3), none] [] z I Q := by
  refine E_iload_n (pc := 2) (x := x3) ddX0_firstWrong_2 rfl rfl ?_
  refine E_aload_n (pc := 3) (x := 304) ddX0_firstWrong_3 rfl rfl ?_
  refine E_getI (pc := 4) ddX0_firstWrong_4 ec_0 2 (Nat.le_of_ble_eq_true rfl) rfl w_1_227 hk.s0 ?_
  refine E_icmp_ge (pc := 7) (tgt := 51) ddX0_firstWrong_7 (by decide) (fun h => ?_) (fun h => ?_)
  · have k := k.1 h
    refine E_iconst (pc := 51) (v := (-1)) ddX0_firstWrong_51 rfl ?_
    exact E_iret (pc := 52) ddX0_firstWrong_52 rfl k
  · have k := k.2 h
    refine E_aload_n (pc := 10) (x := 304) ddX0_firstWrong_10 rfl rfl ?_
    refine E_getR (pc := 11) (x := 305) ddX0_firstWrong_11 ec_0 0 (Nat.le_of_ble_eq_true rfl) rfl w_1_225 hk.s0 hk.r0 (by decide) ?_
    refine E_iload_n (pc := 14) (x := x3) ddX0_firstWrong_14 rfl rfl ?_
    obtain ⟨j1, ij1, lj1, k⟩ := k
    refine E_ialdN (pc := 15) (j := j1) ddX0_firstWrong_15 hk.s1 ij1 lj1 (Nat.le_of_ble_eq_true rfl) ?_
    obtain ⟨v2, ev2⟩ : ∃ y : Int32, y = (I 305 j1) := ⟨_, rfl⟩
    have k := k v2 ev2
    rw [← ev2]
    refine E_istore (pc := 16) (ls' := [some (.ref 304), some (.ref p), some (.ref m), some (.int x3), some (.int v2)]) ddX0_firstWrong_16 (Nat.le_of_ble_eq_true rfl) rfl rfl ?_
    refine E_aload_n (pc := 18) (x := p) ddX0_firstWrong_18 rfl rfl ?_
    refine E_iload (pc := 19) (x := v2) ddX0_firstWrong_19 rfl ?_
    refine E_callV (pc := 21) (As := [.int v2]) (st := []) (a := p) ddX0_firstWrong_21 hX6_hasWire ⟨(Nat.le_of_ble_eq_true rfl), (Nat.le_of_ble_eq_true rfl)⟩ w_2_229 (ci := 5) rfl rfl hp.s0 rfl rfl (Nat.le_of_ble_eq_true rfl) (e_cc rfl e_cn) (Nat.le_of_ble_eq_true rfl) ?_
    refine (show E mX6_hasWire 0 0 0 [some (.ref p), some (.int v2)] [] z I _ from ?_)
    refine E_iload_n (pc := 0) (x := v2) ddX6_hasWire_0 rfl rfl ?_
    refine E_if_lt (pc := 1) (tgt := 16) ddX6_hasWire_1 (by decide) (fun h => ?_) (fun h => ?_)
    · have k := k.1 h
      refine E_iconst (pc := 16) (v := 0) ddX6_hasWire_16 rfl ?_
      refine E_zret (pc := 17) ddX6_hasWire_17 rfl (by decide) ?_
      refine (show E mX0_firstWrong mc ms 24 [some (.ref 304), some (.ref p), some (.ref m), some (.int x3), some (.int v2)] [.int 0] z I Q from ?_)
      refine E_if_eq (pc := 24) (tgt := 43) ddX0_firstWrong_24 (by decide) (fun _ => ?_) (fun h => absurd h (by decide))
      refine E_iload_n (pc := 43) (x := x3) ddX0_firstWrong_43 rfl rfl ?_
      exact E_iret (pc := 44) ddX0_firstWrong_44 rfl k
    · have k := k.2 h
      refine E_iload_n (pc := 4) (x := v2) ddX6_hasWire_4 rfl rfl ?_
      refine E_aload_n (pc := 5) (x := p) ddX6_hasWire_5 rfl rfl ?_
      refine E_getI (pc := 6) ddX6_hasWire_6 ec_5 0 (Nat.le_of_ble_eq_true rfl) rfl w_1_55 hp.s0 ?_
      refine E_icmp_ge (pc := 9) (tgt := 16) ddX6_hasWire_9 (by decide) (fun h => ?_) (fun h => ?_)
      · have k := k.1 h
        refine E_iconst (pc := 16) (v := 0) ddX6_hasWire_16 rfl ?_
        refine E_zret (pc := 17) ddX6_hasWire_17 rfl (by decide) ?_
        refine (show E mX0_firstWrong mc ms 24 [some (.ref 304), some (.ref p), some (.ref m), some (.int x3), some (.int v2)] [.int 0] z I Q from ?_)
        refine E_if_eq (pc := 24) (tgt := 43) ddX0_firstWrong_24 (by decide) (fun _ => ?_) (fun h => absurd h (by decide))
        refine E_iload_n (pc := 43) (x := x3) ddX0_firstWrong_43 rfl rfl ?_
        exact E_iret (pc := 44) ddX0_firstWrong_44 rfl k
      · have k := k.2 h
        refine E_iconst (pc := 12) (v := 1) ddX6_hasWire_12 rfl ?_
        refine E_goto (pc := 13) (tgt := 17) ddX6_hasWire_13 (by decide) ?_
        refine E_zret (pc := 17) ddX6_hasWire_17 rfl (by decide) ?_
        refine (show E mX0_firstWrong mc ms 24 [some (.ref 304), some (.ref p), some (.ref m), some (.int x3), some (.int v2)] [.int 1] z I Q from ?_)
        refine E_if_eq (pc := 24) (tgt := 43) ddX0_firstWrong_24 (by decide) (fun h => absurd h (by decide)) (fun _ => ?_)
        refine E_aload_n (pc := 27) (x := m) ddX0_firstWrong_27 rfl rfl ?_
        refine E_getR (pc := 28) (x := (m + 1)) ddX0_firstWrong_28 ec_3 4 (Nat.le_of_ble_eq_true rfl) rfl w_1_123 hm.s0 hm.r4 (Nat.succ_ne_zero _) ?_
        refine E_iload (pc := 31) (x := v2) ddX0_firstWrong_31 rfl ?_
        obtain ⟨j3, ij3, lj3, k⟩ := k
        refine E_ialdN (pc := 33) (j := j3) ddX0_firstWrong_33 hm.s1 ij3 lj3 (Nat.le_of_ble_eq_true rfl) ?_
        refine E_aload_n (pc := 34) (x := 304) ddX0_firstWrong_34 rfl rfl ?_
        refine E_getR (pc := 35) (x := 306) ddX0_firstWrong_35 ec_0 1 (Nat.le_of_ble_eq_true rfl) rfl w_1_226 hk.s0 hk.r1 (by decide) ?_
        refine E_iload_n (pc := 38) (x := x3) ddX0_firstWrong_38 rfl rfl ?_
        refine E_ialdN (pc := 39) (j := j1) ddX0_firstWrong_39 hk.s2 ij1 lj1 (Nat.le_of_ble_eq_true rfl) ?_
        refine E_icmp_eq (pc := 40) (tgt := 45) ddX0_firstWrong_40 (by decide) (fun h => ?_) (fun h => ?_)
        · have k := k.1 h
          refine E_iinc (pc := 45) (v := (x3 + 1)) (ls' := [some (.ref 304), some (.ref p), some (.ref m), some (.int (x3 + 1)), some (.int v2)]) ddX0_firstWrong_45 rfl rfl (Nat.le_of_ble_eq_true rfl) rfl rfl ?_
          refine E_goto (pc := 48) (tgt := 2) ddX0_firstWrong_48 (by decide) ?_
          exact E.forget k ⟨rfl, ⟨rfl, ⟨rfl, ⟨rfl, trivial⟩⟩⟩⟩
        · have k := k.2 h
          refine E_iload_n (pc := 43) (x := x3) ddX0_firstWrong_43 rfl rfl ?_
          exact E_iret (pc := 44) ddX0_firstWrong_44 rfl k
/-! X1_draw, labels [] -/
set_option maxRecDepth 100000 in
set_option maxHeartbeats 4000000 in
theorem B_X1_draw_0 {mc ms : Nat} {z : Zt} {I : It} {Q : Option Value → Zt → It → Prop} {x1 : Int32} (hd : isDr z)
    (k : ∀ I1 : It, I1 = e_st I 307 0 (((((((I 307 0)).toInt64 * 1103515245) + 12345) &&& 2147483647)).toInt32) → ((x1 ≤ 0) → Q (some (.int 0)) z I1) ∧
    ((¬ x1 ≤ 0) → ¬ x1 = 0 ∧ Q (some (.int (((I1 307 0) / 65536) - ((I1 307 0) / 65536) / x1 * x1))) z I1)) :
    E mX1_draw mc ms 0 [some (.ref 307), some (.int x1)] [] z I Q := by
  refine E_aload_n (pc := 0) (x := 307) ddX1_draw_0 rfl rfl ?_
  refine E_aload_n (pc := 1) (x := 307) ddX1_draw_1 rfl rfl ?_
  refine E_getI (pc := 2) ddX1_draw_2 ec_1 0 (Nat.le_of_ble_eq_true rfl) rfl w_2_2 hd.s0 ?_
  refine E_i2l (pc := 5) ddX1_draw_5 ?_
  refine E_ldc2 (pc := 6) (v := 1103515245) ddX1_draw_6 w_3_125 ?_
  refine E_lmul (pc := 9) ddX1_draw_9 ?_
  refine E_ldc2 (pc := 10) (v := 12345) ddX1_draw_10 w_3_126 ?_
  refine E_ladd (pc := 13) ddX1_draw_13 ?_
  refine E_ldc2 (pc := 14) (v := 2147483647) ddX1_draw_14 w_3_127 ?_
  refine E_land (pc := 17) ddX1_draw_17 ?_
  refine E_l2i (pc := 18) ddX1_draw_18 ?_
  obtain ⟨I1, eI1⟩ : ∃ y : It, y = e_st I 307 0 (((((((I 307 0)).toInt64 * 1103515245) + 12345) &&& 2147483647)).toInt32) := ⟨_, rfl⟩
  have k := k I1 eI1
  refine E_putI (pc := 19) ddX1_draw_19 ec_1 0 (Nat.le_of_ble_eq_true rfl) rfl w_2_2 hd.s0 rfl rfl ?_
  rw [← eI1]
  refine E_iload_n (pc := 22) (x := x1) ddX1_draw_22 rfl rfl ?_
  refine E_if_le (pc := 23) (tgt := 38) ddX1_draw_23 (by decide) (fun h => ?_) (fun h => ?_)
  · have k := k.1 h
    refine E_iconst (pc := 38) (v := 0) ddX1_draw_38 rfl ?_
    exact E_iret (pc := 39) ddX1_draw_39 rfl k
  · have k := k.2 h
    refine E_aload_n (pc := 26) (x := 307) ddX1_draw_26 rfl rfl ?_
    refine E_getI (pc := 27) ddX1_draw_27 ec_1 0 (Nat.le_of_ble_eq_true rfl) rfl w_2_2 hd.s0 ?_
    refine E_ldc (pc := 30) (v := 65536) ddX1_draw_30 w_3_128 ?_
    refine E_idiv (pc := 32) ddX1_draw_32 (by decide) ?_
    refine E_iload_n (pc := 33) (x := x1) ddX1_draw_33 rfl rfl ?_
    obtain ⟨kd, k⟩ := k
    refine E_irem (pc := 34) ddX1_draw_34 kd ?_
    refine E_goto (pc := 35) (tgt := 39) ddX1_draw_35 (by decide) ?_
    exact E_iret (pc := 39) ddX1_draw_39 rfl k
/-! X2_take, labels [8] -/
set_option maxRecDepth 100000 in
set_option maxHeartbeats 4000000 in
theorem B_X2_take_0 {mc ms : Nat} {z : Zt} {I : It} {Q : Option Value → Zt → It → Prop} {i m : Nat} (hi : isIm z i) (hm : isM z m) (hd : isDr z)
    (k : E mX4_copyFrom 0 0 0 [some (.ref (i + 1)), some (.ref m)] [] z I (fun r z' I' => E mX2_take mc ms 8 [some (.ref i), none, some (.ref 307)] (r.toList ++ []) z' I' Q)) :
    E mX2_take mc ms 0 [some (.ref i), some (.ref m), some (.ref 307)] [] z I Q := by
  refine E_aload_n (pc := 0) (x := i) ddX2_take_0 rfl rfl ?_
  refine E_getR (pc := 1) (x := (i + 1)) ddX2_take_1 ec_2 0 (Nat.le_of_ble_eq_true rfl) rfl w_1_208 hi.s0 hi.r0 (Nat.succ_ne_zero _) ?_
  refine E_aload_n (pc := 4) (x := m) ddX2_take_4 rfl rfl ?_
  exact E_callV (pc := 5) (As := [.ref m]) (st := []) (a := (i + 1)) ddX2_take_5 hX4_copyFrom ⟨(Nat.le_of_ble_eq_true rfl), (Nat.le_of_ble_eq_true rfl)⟩ w_3_167 (ci := 3) rfl rfl hi.m.s0 rfl rfl (Nat.le_of_ble_eq_true rfl) (e_cc rfl e_cn) (Nat.le_of_ble_eq_true rfl) (E.mono k fun _ _ _ q => E.forget q ⟨rfl, ⟨rfl, trivial⟩⟩)
set_option maxRecDepth 100000 in
set_option maxHeartbeats 4000000 in
theorem B_X2_take_8 {mc ms : Nat} {z : Zt} {I : It} {Q : Option Value → Zt → It → Prop} {i : Nat} (hi : isIm z i) (hd : isDr z)
    (k : ∀ I1 : It, I1 = e_st I i 1 (I 307 0) → ∀ I2 : It, I2 = e_st I1 i 2 1 → Q none z I2) :
    E mX2_take mc ms 8 [some (.ref i), none, some (.ref 307)] [] z I Q := by
  refine E_aload_n (pc := 8) (x := i) ddX2_take_8 rfl rfl ?_
  refine E_aload_n (pc := 9) (x := 307) ddX2_take_9 rfl rfl ?_
  refine E_getI (pc := 10) ddX2_take_10 ec_1 0 (Nat.le_of_ble_eq_true rfl) rfl w_2_3 hd.s0 ?_
  obtain ⟨I1, eI1⟩ : ∃ y : It, y = e_st I i 1 (I 307 0) := ⟨_, rfl⟩
  have k := k I1 eI1
  refine E_putI (pc := 13) ddX2_take_13 ec_2 1 (Nat.le_of_ble_eq_true rfl) rfl w_1_209 hi.s0 rfl rfl ?_
  rw [← eI1]
  refine E_aload_n (pc := 16) (x := i) ddX2_take_16 rfl rfl ?_
  refine E_iconst (pc := 17) (v := 1) ddX2_take_17 rfl ?_
  obtain ⟨I2, eI2⟩ : ∃ y : It, y = e_st I1 i 2 1 := ⟨_, rfl⟩
  have k := k I2 eI2
  refine E_putZ (pc := 18) ddX2_take_18 ec_2 2 (Nat.le_of_ble_eq_true rfl) rfl w_1_210 hi.s0 rfl rfl (by decide) ?_
  rw [← eI2]
  exact E_vret (pc := 21) ddX2_take_21 rfl k
/-! X2_give, labels [8] -/
set_option maxRecDepth 100000 in
set_option maxHeartbeats 4000000 in
theorem B_X2_give_0 {mc ms : Nat} {z : Zt} {I : It} {Q : Option Value → Zt → It → Prop} {i m : Nat} (hi : isIm z i) (hm : isM z m) (hd : isDr z)
    (k : E mX4_copyFrom 0 0 0 [some (.ref m), some (.ref (i + 1))] [] z I (fun r z' I' => E mX2_give mc ms 8 [some (.ref i), none, some (.ref 307)] (r.toList ++ []) z' I' Q)) :
    E mX2_give mc ms 0 [some (.ref i), some (.ref m), some (.ref 307)] [] z I Q := by
  refine E_aload_n (pc := 0) (x := m) ddX2_give_0 rfl rfl ?_
  refine E_aload_n (pc := 1) (x := i) ddX2_give_1 rfl rfl ?_
  refine E_getR (pc := 2) (x := (i + 1)) ddX2_give_2 ec_2 0 (Nat.le_of_ble_eq_true rfl) rfl w_1_208 hi.s0 hi.r0 (Nat.succ_ne_zero _) ?_
  exact E_callV (pc := 5) (As := [.ref (i + 1)]) (st := []) (a := m) ddX2_give_5 hX4_copyFrom ⟨(Nat.le_of_ble_eq_true rfl), (Nat.le_of_ble_eq_true rfl)⟩ w_3_167 (ci := 3) rfl rfl hm.s0 rfl rfl (Nat.le_of_ble_eq_true rfl) (e_cc rfl e_cn) (Nat.le_of_ble_eq_true rfl) (E.mono k fun _ _ _ q => E.forget q ⟨rfl, ⟨rfl, trivial⟩⟩)
set_option maxRecDepth 100000 in
set_option maxHeartbeats 4000000 in
theorem B_X2_give_8 {mc ms : Nat} {z : Zt} {I : It} {Q : Option Value → Zt → It → Prop} {i : Nat} (hi : isIm z i) (hd : isDr z)
    (k : ∀ I1 : It, I1 = e_st I 307 0 (I i 1) → Q none z I1) :
    E mX2_give mc ms 8 [some (.ref i), none, some (.ref 307)] [] z I Q := by
  refine E_aload_n (pc := 8) (x := 307) ddX2_give_8 rfl rfl ?_
  refine E_aload_n (pc := 9) (x := i) ddX2_give_9 rfl rfl ?_
  refine E_getI (pc := 10) ddX2_give_10 ec_2 1 (Nat.le_of_ble_eq_true rfl) rfl w_1_209 hi.s0 ?_
  obtain ⟨I1, eI1⟩ : ∃ y : It, y = e_st I 307 0 (I i 1) := ⟨_, rfl⟩
  have k := k I1 eI1
  refine E_putI (pc := 13) ddX2_give_13 ec_1 0 (Nat.le_of_ble_eq_true rfl) rfl w_2_3 hd.s0 rfl rfl ?_
  rw [← eI1]
  exact E_vret (pc := 16) ddX2_give_16 rfl k
/-! X5_remember, labels [19] -/
set_option maxRecDepth 100000 in
set_option maxHeartbeats 4000000 in
theorem B_X5_remember_0 {mc ms : Nat} {z : Zt} {I : It} {Q : Option Value → Zt → It → Prop} {m : Nat} (hq : isPa z) (hm : isM z m) (hq' : isPa z)
    (k : ∃ j1 : Nat, (I 48 1) = nI j1 ∧ j1 < 16 ∧ E mX4_copyFrom 0 0 0 [some (.ref (50 + 14 * j1)), some (.ref m)] [] z I (fun r z' I' => E mX5_remember mc ms 19 [some (.ref 48), none, none] (r.toList ++ []) z' I' Q)) :
    E mX5_remember mc ms 0 [some (.ref 48), some (.ref m), none] [] z I Q := by
  refine E_aload_n (pc := 0) (x := 48) ddX5_remember_0 rfl rfl ?_
  refine E_getR (pc := 1) (x := 49) ddX5_remember_1 ec_4 0 (Nat.le_of_ble_eq_true rfl) rfl w_1_189 hq.s0 hq.r0 (by decide) ?_
  refine E_aload_n (pc := 4) (x := 48) ddX5_remember_4 rfl rfl ?_
  refine E_getI (pc := 5) ddX5_remember_5 ec_4 1 (Nat.le_of_ble_eq_true rfl) rfl w_1_190 hq.s0 ?_
  obtain ⟨j1, ij1, lj1, k⟩ := k
  refine E_aaldN (pc := 8) (j := j1) (x := (50 + 14 * j1)) ddX5_remember_8 hq'.s1 ij1 lj1 (Nat.le_of_ble_eq_true rfl) (hq.e lj1) (e_nz2 _) ?_
  refine E_astore_n (pc := 9) (ls' := [some (.ref 48), some (.ref m), some (.ref (50 + 14 * j1))]) ddX5_remember_9 rfl (Nat.le_of_ble_eq_true rfl) rfl rfl ?_
  refine E_aload_n (pc := 10) (x := (50 + 14 * j1)) ddX5_remember_10 rfl rfl ?_
  refine E_ifnull (pc := 11) ddX5_remember_11 ?_
  refine E_aload_n (pc := 14) (x := (50 + 14 * j1)) ddX5_remember_14 rfl rfl ?_
  refine E_aload_n (pc := 15) (x := m) ddX5_remember_15 rfl rfl ?_
  exact E_callV (pc := 16) (As := [.ref m]) (st := []) (a := (50 + 14 * j1)) ddX5_remember_16 hX4_copyFrom ⟨(Nat.le_of_ble_eq_true rfl), (Nat.le_of_ble_eq_true rfl)⟩ w_3_79 (ci := 3) rfl rfl (hq.m lj1).s0 rfl rfl (Nat.le_of_ble_eq_true rfl) (e_cc rfl e_cn) (Nat.le_of_ble_eq_true rfl) (E.mono k fun _ _ _ q => E.forget q ⟨rfl, trivial⟩)
set_option maxRecDepth 100000 in
set_option maxHeartbeats 4000000 in
theorem B_X5_remember_19 {mc ms : Nat} {z : Zt} {I : It} {Q : Option Value → Zt → It → Prop} (hq : isPa z)
    (k : ∀ I1 : It, I1 = e_st I 48 1 (((I 48 1) + 1) - ((I 48 1) + 1) / 16 * 16) → ∀ I2 : It, I2 = e_st I1 48 2 (if 16 < ((I1 48 2) + 1) then 16 else ((I1 48 2) + 1)) → Q none z I2) :
    E mX5_remember mc ms 19 [some (.ref 48), none, none] [] z I Q := by
  refine E_aload_n (pc := 19) (x := 48) ddX5_remember_19 rfl rfl ?_
  refine E_aload_n (pc := 20) (x := 48) ddX5_remember_20 rfl rfl ?_
  refine E_getI (pc := 21) ddX5_remember_21 ec_4 1 (Nat.le_of_ble_eq_true rfl) rfl w_1_190 hq.s0 ?_
  refine E_iconst (pc := 24) (v := 1) ddX5_remember_24 rfl ?_
  refine E_iadd (pc := 25) ddX5_remember_25 ?_
  refine E_bipush (pc := 26) (v := 16) ddX5_remember_26 rfl ?_
  refine E_irem (pc := 28) ddX5_remember_28 (by decide) ?_
  obtain ⟨I1, eI1⟩ : ∃ y : It, y = e_st I 48 1 (((I 48 1) + 1) - ((I 48 1) + 1) / 16 * 16) := ⟨_, rfl⟩
  have k := k I1 eI1
  refine E_putI (pc := 29) ddX5_remember_29 ec_4 1 (Nat.le_of_ble_eq_true rfl) rfl w_1_190 hq.s0 rfl rfl ?_
  rw [← eI1]
  refine E_aload_n (pc := 32) (x := 48) ddX5_remember_32 rfl rfl ?_
  refine E_aload_n (pc := 33) (x := 48) ddX5_remember_33 rfl rfl ?_
  refine E_getI (pc := 34) ddX5_remember_34 ec_4 2 (Nat.le_of_ble_eq_true rfl) rfl w_1_191 hq.s0 ?_
  refine E_iconst (pc := 37) (v := 1) ddX5_remember_37 rfl ?_
  refine E_iadd (pc := 38) ddX5_remember_38 ?_
  refine E_bipush (pc := 39) (v := 16) ddX5_remember_39 rfl ?_
  refine E_mmin (pc := 41) ddX5_remember_41 w_3_80 w_2_169 w_1_11 w_2_170 (Nat.le_of_ble_eq_true rfl) (Nat.le_of_ble_eq_true rfl) ?_
  obtain ⟨I2, eI2⟩ : ∃ y : It, y = e_st I1 48 2 (if 16 < ((I1 48 2) + 1) then 16 else ((I1 48 2) + 1)) := ⟨_, rfl⟩
  have k := k I2 eI2
  refine E_putI (pc := 44) ddX5_remember_44 ec_4 2 (Nat.le_of_ble_eq_true rfl) rfl w_1_191 hq.s0 rfl rfl ?_
  rw [← eI2]
  exact E_vret (pc := 47) ddX5_remember_47 rfl k
/-! X5_bringBack, labels [44] -/
set_option maxRecDepth 100000 in
set_option maxHeartbeats 4000000 in
theorem B_X5_bringBack_0 {mc ms : Nat} {z : Zt} {I : It} {Q : Option Value → Zt → It → Prop} {x1 : Int32} {m : Nat} (hq : isPa z) (hm : isM z m) (hq' : isPa z)
    (k : ∀ I1 : It, I1 = e_st I 48 1 (f_J9_floorMod_7cf53 ((I 48 1) - x1) 16) → ∀ I2 : It, I2 = e_st I1 48 2 ((I1 48 2) - x1) → ∃ j3 : Nat, (I2 48 1) = nI j3 ∧ j3 < 16 ∧ E mX4_copyFrom 0 0 0 [some (.ref m), some (.ref (50 + 14 * j3))] [] z I2 (fun r z' I' => E mX5_bringBack mc ms 44 [none, none, none, none] (r.toList ++ []) z' I' Q)) :
    E mX5_bringBack mc ms 0 [some (.ref 48), some (.int x1), some (.ref m), none] [] z I Q := by
  refine E_aload_n (pc := 0) (x := 48) ddX5_bringBack_0 rfl rfl ?_
  refine E_aload_n (pc := 1) (x := 48) ddX5_bringBack_1 rfl rfl ?_
  refine E_getI (pc := 2) ddX5_bringBack_2 ec_4 1 (Nat.le_of_ble_eq_true rfl) rfl w_1_190 hq.s0 ?_
  refine E_iload_n (pc := 5) (x := x1) ddX5_bringBack_5 rfl rfl ?_
  refine E_isub (pc := 6) ddX5_bringBack_6 ?_
  refine E_bipush (pc := 7) (v := 16) ddX5_bringBack_7 rfl ?_
  refine E_callS (pc := 9) (As := [.int ((I 48 1) - x1), .int 16]) (st := [.ref 48]) ddX5_bringBack_9 hJ9_floorMod_7cf53 ⟨(Nat.le_of_ble_eq_true rfl), (Nat.le_of_ble_eq_true rfl)⟩ w_3_137 rfl rfl (Nat.le_of_ble_eq_true rfl) (e_cc rfl (e_cc rfl e_cn)) (Nat.le_of_ble_eq_true rfl) (C_J9_floorMod_7cf53 (by decide) ?_)
  refine (show E mX5_bringBack mc ms 12 [some (.ref 48), some (.int x1), some (.ref m), none] [.int (f_J9_floorMod_7cf53 ((I 48 1) - x1) 16), .ref 48] z I Q from ?_)
  obtain ⟨I1, eI1⟩ : ∃ y : It, y = e_st I 48 1 (f_J9_floorMod_7cf53 ((I 48 1) - x1) 16) := ⟨_, rfl⟩
  have k := k I1 eI1
  refine E_putI (pc := 12) ddX5_bringBack_12 ec_4 1 (Nat.le_of_ble_eq_true rfl) rfl w_1_190 hq.s0 rfl rfl ?_
  rw [← eI1]
  refine E_aload_n (pc := 15) (x := 48) ddX5_bringBack_15 rfl rfl ?_
  refine E_dupr (pc := 16) ddX5_bringBack_16 ?_
  refine E_getI (pc := 17) ddX5_bringBack_17 ec_4 2 (Nat.le_of_ble_eq_true rfl) rfl w_1_191 hq.s0 ?_
  refine E_iload_n (pc := 20) (x := x1) ddX5_bringBack_20 rfl rfl ?_
  refine E_isub (pc := 21) ddX5_bringBack_21 ?_
  obtain ⟨I2, eI2⟩ : ∃ y : It, y = e_st I1 48 2 ((I1 48 2) - x1) := ⟨_, rfl⟩
  have k := k I2 eI2
  refine E_putI (pc := 22) ddX5_bringBack_22 ec_4 2 (Nat.le_of_ble_eq_true rfl) rfl w_1_191 hq.s0 rfl rfl ?_
  rw [← eI2]
  refine E_aload_n (pc := 25) (x := 48) ddX5_bringBack_25 rfl rfl ?_
  refine E_getR (pc := 26) (x := 49) ddX5_bringBack_26 ec_4 0 (Nat.le_of_ble_eq_true rfl) rfl w_1_189 hq.s0 hq.r0 (by decide) ?_
  refine E_aload_n (pc := 29) (x := 48) ddX5_bringBack_29 rfl rfl ?_
  refine E_getI (pc := 30) ddX5_bringBack_30 ec_4 1 (Nat.le_of_ble_eq_true rfl) rfl w_1_190 hq.s0 ?_
  obtain ⟨j3, ij3, lj3, k⟩ := k
  refine E_aaldN (pc := 33) (j := j3) (x := (50 + 14 * j3)) ddX5_bringBack_33 hq'.s1 ij3 lj3 (Nat.le_of_ble_eq_true rfl) (hq.e lj3) (e_nz2 _) ?_
  refine E_astore_n (pc := 34) (ls' := [some (.ref 48), some (.int x1), some (.ref m), some (.ref (50 + 14 * j3))]) ddX5_bringBack_34 rfl (Nat.le_of_ble_eq_true rfl) rfl rfl ?_
  refine E_aload_n (pc := 35) (x := (50 + 14 * j3)) ddX5_bringBack_35 rfl rfl ?_
  refine E_ifnull (pc := 36) ddX5_bringBack_36 ?_
  refine E_aload_n (pc := 39) (x := m) ddX5_bringBack_39 rfl rfl ?_
  refine E_aload_n (pc := 40) (x := (50 + 14 * j3)) ddX5_bringBack_40 rfl rfl ?_
  exact E_callV (pc := 41) (As := [.ref (50 + 14 * j3)]) (st := []) (a := m) ddX5_bringBack_41 hX4_copyFrom ⟨(Nat.le_of_ble_eq_true rfl), (Nat.le_of_ble_eq_true rfl)⟩ w_3_79 (ci := 3) rfl rfl hm.s0 rfl rfl (Nat.le_of_ble_eq_true rfl) (e_cc rfl e_cn) (Nat.le_of_ble_eq_true rfl) (E.mono k fun _ _ _ q => E.forget q trivial)
set_option maxRecDepth 100000 in
set_option maxHeartbeats 4000000 in
theorem B_X5_bringBack_44 {mc ms : Nat} {z : Zt} {I : It} {Q : Option Value → Zt → It → Prop}
    (k : Q none z I) :
    E mX5_bringBack mc ms 44 [none, none, none, none] [] z I Q := by
  exact E_vret (pc := 44) ddX5_bringBack_44 rfl k
/-! X6_looks, labels [] -/
set_option maxRecDepth 100000 in
set_option maxHeartbeats 4000000 in
theorem B_X6_looks_0 {mc ms : Nat} {z : Zt} {I : It} {Q : Option Value → Zt → It → Prop} {x1 : Int32} {p : Nat} (hp : isP z p)
    (k : ∃ j1 : Nat, x1 = nI j1 ∧ j1 < 8 ∧ ∀ v2 : Int32, v2 = (1 <<< ((I (p + 3) j1) &&& 31)) → ((¬ (I (p + 2) j1) = 0) → Q (some (.int (v2 ||| (1 <<< ((I (p + 4) j1) &&& 31))))) z I) ∧
    (((I (p + 2) j1) = 0) → Q (some (.int v2)) z I)) :
    E mX6_looks mc ms 0 [some (.ref p), some (.int x1), none] [] z I Q := by
  refine E_iconst (pc := 0) (v := 1) ddX6_looks_0 rfl ?_
  refine E_aload_n (pc := 1) (x := p) ddX6_looks_1 rfl rfl ?_
  refine E_getR (pc := 2) (x := (p + 3)) ddX6_looks_2 ec_5 4 (Nat.le_of_ble_eq_true rfl) rfl w_1_69 hp.s0 hp.r4 (Nat.succ_ne_zero _) ?_
  refine E_iload_n (pc := 5) (x := x1) ddX6_looks_5 rfl rfl ?_
  obtain ⟨j1, ij1, lj1, k⟩ := k
  refine E_ialdN (pc := 6) (j := j1) ddX6_looks_6 hp.s3 ij1 lj1 (Nat.le_of_ble_eq_true rfl) ?_
  refine E_ishl (pc := 7) ddX6_looks_7 ?_
  obtain ⟨v2, ev2⟩ : ∃ y : Int32, y = (1 <<< ((I (p + 3) j1) &&& 31)) := ⟨_, rfl⟩
  have k := k v2 ev2
  rw [← ev2]
  refine E_istore_n (pc := 8) (ls' := [some (.ref p), some (.int x1), some (.int v2)]) ddX6_looks_8 rfl (Nat.le_of_ble_eq_true rfl) rfl rfl ?_
  refine E_aload_n (pc := 9) (x := p) ddX6_looks_9 rfl rfl ?_
  refine E_getR (pc := 10) (x := (p + 2)) ddX6_looks_10 ec_5 3 (Nat.le_of_ble_eq_true rfl) rfl w_1_65 hp.s0 hp.r3 (Nat.succ_ne_zero _) ?_
  refine E_iload_n (pc := 13) (x := x1) ddX6_looks_13 rfl rfl ?_
  refine E_ialdN (pc := 14) (j := j1) ddX6_looks_14 hp.s2 ij1 lj1 (Nat.le_of_ble_eq_true rfl) ?_
  refine E_if_ne (pc := 15) (tgt := 22) ddX6_looks_15 (by decide) (fun h => ?_) (fun h => ?_)
  · have k := k.1 h
    refine E_iload_n (pc := 22) (x := v2) ddX6_looks_22 rfl rfl ?_
    refine E_iconst (pc := 23) (v := 1) ddX6_looks_23 rfl ?_
    refine E_aload_n (pc := 24) (x := p) ddX6_looks_24 rfl rfl ?_
    refine E_getR (pc := 25) (x := (p + 4)) ddX6_looks_25 ec_5 5 (Nat.le_of_ble_eq_true rfl) rfl w_1_73 hp.s0 hp.r5 (Nat.succ_ne_zero _) ?_
    refine E_iload_n (pc := 28) (x := x1) ddX6_looks_28 rfl rfl ?_
    refine E_ialdN (pc := 29) (j := j1) ddX6_looks_29 hp.s4 ij1 lj1 (Nat.le_of_ble_eq_true rfl) ?_
    refine E_ishl (pc := 30) ddX6_looks_30 ?_
    refine E_ior (pc := 31) ddX6_looks_31 ?_
    exact E_iret (pc := 32) ddX6_looks_32 rfl k
  · have k := k.2 h
    refine E_iload_n (pc := 18) (x := v2) ddX6_looks_18 rfl rfl ?_
    refine E_goto (pc := 19) (tgt := 32) ddX6_looks_19 (by decide) ?_
    exact E_iret (pc := 32) ddX6_looks_32 rfl k
/-! X6_driversOf, labels [4] -/
set_option maxRecDepth 100000 in
set_option maxHeartbeats 4000000 in
theorem B_X6_driversOf_0 {mc ms : Nat} {z : Zt} {I : It} {Q : Option Value → Zt → It → Prop} {x1 : Int32} {p : Nat} (hp : isP z p)
    (k : E mX6_driversOf mc ms 4 [some (.ref p), some (.int x1), some (.int 0), some (.int 0)] [] z I Q) :
    E mX6_driversOf mc ms 0 [some (.ref p), some (.int x1), none, none] [] z I Q := by
  refine E_iconst (pc := 0) (v := 0) ddX6_driversOf_0 rfl ?_
  refine E_istore_n (pc := 1) (ls' := [some (.ref p), some (.int x1), some (.int 0), none]) ddX6_driversOf_1 rfl (Nat.le_of_ble_eq_true rfl) rfl rfl ?_
  refine E_iconst (pc := 2) (v := 0) ddX6_driversOf_2 rfl ?_
  refine E_istore_n (pc := 3) (ls' := [some (.ref p), some (.int x1), some (.int 0), some (.int 0)]) ddX6_driversOf_3 rfl (Nat.le_of_ble_eq_true rfl) rfl rfl ?_
  exact k
set_option maxRecDepth 100000 in
set_option maxHeartbeats 4000000 in
theorem B_X6_driversOf_4 {mc ms : Nat} {z : Zt} {I : It} {Q : Option Value → Zt → It → Prop} {x1 x2 x3 : Int32} {p : Nat} (hp : isP z p)
    (k : (((I p 1) ≤ x3) → Q (some (.int x2)) z I) ∧
    ((¬ (I p 1) ≤ x3) → ∃ j1 : Nat, x3 = nI j1 ∧ j1 < 8 ∧ ((¬ (I (p + 5) j1) = x1) → E mX6_driversOf mc ms 4 [some (.ref p), some (.int x1), some (.int x2), some (.int (x3 + 1))] [] z I Q) ∧
    (((I (p + 5) j1) = x1) → E mX6_driversOf mc ms 4 [some (.ref p), some (.int x1), some (.int (x2 + 1)), some (.int (x3 + 1))] [] z I Q))) :
    E mX6_driversOf mc ms 4 [some (.ref p), some (.int x1), some (.int x2), some (.int x3)] [] z I Q := by
  refine E_iload_n (pc := 4) (x := x3) ddX6_driversOf_4 rfl rfl ?_
  refine E_aload_n (pc := 5) (x := p) ddX6_driversOf_5 rfl rfl ?_
  refine E_getI (pc := 6) ddX6_driversOf_6 ec_5 1 (Nat.le_of_ble_eq_true rfl) rfl w_1_59 hp.s0 ?_
  refine E_icmp_ge (pc := 9) (tgt := 31) ddX6_driversOf_9 (by decide) (fun h => ?_) (fun h => ?_)
  · have k := k.1 h
    refine E_iload_n (pc := 31) (x := x2) ddX6_driversOf_31 rfl rfl ?_
    exact E_iret (pc := 32) ddX6_driversOf_32 rfl k
  · have k := k.2 h
    refine E_aload_n (pc := 12) (x := p) ddX6_driversOf_12 rfl rfl ?_
    refine E_getR (pc := 13) (x := (p + 5)) ddX6_driversOf_13 ec_5 6 (Nat.le_of_ble_eq_true rfl) rfl w_1_77 hp.s0 hp.r6 (Nat.succ_ne_zero _) ?_
    refine E_iload_n (pc := 16) (x := x3) ddX6_driversOf_16 rfl rfl ?_
    obtain ⟨j1, ij1, lj1, k⟩ := k
    refine E_ialdN (pc := 17) (j := j1) ddX6_driversOf_17 hp.s5 ij1 lj1 (Nat.le_of_ble_eq_true rfl) ?_
    refine E_iload_n (pc := 18) (x := x1) ddX6_driversOf_18 rfl rfl ?_
    refine E_icmp_ne (pc := 19) (tgt := 25) ddX6_driversOf_19 (by decide) (fun h => ?_) (fun h => ?_)
    · have k := k.1 h
      refine E_iinc (pc := 25) (v := (x3 + 1)) (ls' := [some (.ref p), some (.int x1), some (.int x2), some (.int (x3 + 1))]) ddX6_driversOf_25 rfl rfl (Nat.le_of_ble_eq_true rfl) rfl rfl ?_
      refine E_goto (pc := 28) (tgt := 4) ddX6_driversOf_28 (by decide) ?_
      exact k
    · have k := k.2 h
      refine E_iinc (pc := 22) (v := (x2 + 1)) (ls' := [some (.ref p), some (.int x1), some (.int (x2 + 1)), some (.int x3)]) ddX6_driversOf_22 rfl rfl (Nat.le_of_ble_eq_true rfl) rfl rfl ?_
      refine E_iinc (pc := 25) (v := (x3 + 1)) (ls' := [some (.ref p), some (.int x1), some (.int (x2 + 1)), some (.int (x3 + 1))]) ddX6_driversOf_25 rfl rfl (Nat.le_of_ble_eq_true rfl) rfl rfl ?_
      refine E_goto (pc := 28) (tgt := 4) ddX6_driversOf_28 (by decide) ?_
      exact k
/-! X6_lookersAt, labels [4, 17] -/
set_option maxRecDepth 100000 in
set_option maxHeartbeats 4000000 in
theorem B_X6_lookersAt_0 {mc ms : Nat} {z : Zt} {I : It} {Q : Option Value → Zt → It → Prop} {x1 : Int32} {p : Nat} (hp : isP z p)
    (k : E mX6_lookersAt mc ms 4 [some (.ref p), some (.int x1), some (.int 0), some (.int 0)] [] z I Q) :
    E mX6_lookersAt mc ms 0 [some (.ref p), some (.int x1), none, none] [] z I Q := by
  refine E_iconst (pc := 0) (v := 0) ddX6_lookersAt_0 rfl ?_
  refine E_istore_n (pc := 1) (ls' := [some (.ref p), some (.int x1), some (.int 0), none]) ddX6_lookersAt_1 rfl (Nat.le_of_ble_eq_true rfl) rfl rfl ?_
  refine E_iconst (pc := 2) (v := 0) ddX6_lookersAt_2 rfl ?_
  refine E_istore_n (pc := 3) (ls' := [some (.ref p), some (.int x1), some (.int 0), some (.int 0)]) ddX6_lookersAt_3 rfl (Nat.le_of_ble_eq_true rfl) rfl rfl ?_
  exact k
set_option maxRecDepth 100000 in
set_option maxHeartbeats 4000000 in
theorem B_X6_lookersAt_4 {mc ms : Nat} {z : Zt} {I : It} {Q : Option Value → Zt → It → Prop} {x1 x2 x3 : Int32} {p : Nat} (hp : isP z p)
    (k : (((I p 1) ≤ x3) → Q (some (.int x2)) z I) ∧
    ((¬ (I p 1) ≤ x3) → E mX6_looks 0 0 0 [some (.ref p), some (.int x3), none] [] z I (fun r z' I' => E mX6_lookersAt mc ms 17 [some (.ref p), some (.int x1), some (.int x2), some (.int x3)] (r.toList ++ []) z' I' Q))) :
    E mX6_lookersAt mc ms 4 [some (.ref p), some (.int x1), some (.int x2), some (.int x3)] [] z I Q := by
  refine E_iload_n (pc := 4) (x := x3) ddX6_lookersAt_4 rfl rfl ?_
  refine E_aload_n (pc := 5) (x := p) ddX6_lookersAt_5 rfl rfl ?_
  refine E_getI (pc := 6) ddX6_lookersAt_6 ec_5 1 (Nat.le_of_ble_eq_true rfl) rfl w_1_59 hp.s0 ?_
  refine E_icmp_ge (pc := 9) (tgt := 34) ddX6_lookersAt_9 (by decide) (fun h => ?_) (fun h => ?_)
  · have k := k.1 h
    refine E_iload_n (pc := 34) (x := x2) ddX6_lookersAt_34 rfl rfl ?_
    exact E_iret (pc := 35) ddX6_lookersAt_35 rfl k
  · have k := k.2 h
    refine E_aload_n (pc := 12) (x := p) ddX6_lookersAt_12 rfl rfl ?_
    refine E_iload_n (pc := 13) (x := x3) ddX6_lookersAt_13 rfl rfl ?_
    exact E_callV (pc := 14) (As := [.int x3]) (st := []) (a := p) ddX6_lookersAt_14 hX6_looks ⟨(Nat.le_of_ble_eq_true rfl), (Nat.le_of_ble_eq_true rfl)⟩ w_3_7 (ci := 5) rfl rfl hp.s0 rfl rfl (Nat.le_of_ble_eq_true rfl) (e_cc rfl e_cn) (Nat.le_of_ble_eq_true rfl) k
set_option maxRecDepth 100000 in
set_option maxHeartbeats 4000000 in
theorem B_X6_lookersAt_17 {mc ms : Nat} {z : Zt} {I : It} {Q : Option Value → Zt → It → Prop} {x1 x2 x3 y0 : Int32} {p : Nat} (hp : isP z p)
    (k : ((¬ ((y0 >>> (x1 &&& 31)) &&& 1) = 1) → E mX6_lookersAt mc ms 4 [some (.ref p), some (.int x1), some (.int x2), some (.int (x3 + 1))] [] z I Q) ∧
    ((((y0 >>> (x1 &&& 31)) &&& 1) = 1) → E mX6_lookersAt mc ms 4 [some (.ref p), some (.int x1), some (.int (x2 + 1)), some (.int (x3 + 1))] [] z I Q)) :
    E mX6_lookersAt mc ms 17 [some (.ref p), some (.int x1), some (.int x2), some (.int x3)] [.int y0] z I Q := by
  refine E_iload_n (pc := 17) (x := x1) ddX6_lookersAt_17 rfl rfl ?_
  refine E_ishr (pc := 18) ddX6_lookersAt_18 ?_
  refine E_iconst (pc := 19) (v := 1) ddX6_lookersAt_19 rfl ?_
  refine E_iand (pc := 20) ddX6_lookersAt_20 ?_
  refine E_iconst (pc := 21) (v := 1) ddX6_lookersAt_21 rfl ?_
  refine E_icmp_ne (pc := 22) (tgt := 28) ddX6_lookersAt_22 (by decide) (fun h => ?_) (fun h => ?_)
  · have k := k.1 h
    refine E_iinc (pc := 28) (v := (x3 + 1)) (ls' := [some (.ref p), some (.int x1), some (.int x2), some (.int (x3 + 1))]) ddX6_lookersAt_28 rfl rfl (Nat.le_of_ble_eq_true rfl) rfl rfl ?_
    refine E_goto (pc := 31) (tgt := 4) ddX6_lookersAt_31 (by decide) ?_
    exact k
  · have k := k.2 h
    refine E_iinc (pc := 25) (v := (x2 + 1)) (ls' := [some (.ref p), some (.int x1), some (.int (x2 + 1)), some (.int x3)]) ddX6_lookersAt_25 rfl rfl (Nat.le_of_ble_eq_true rfl) rfl rfl ?_
    refine E_iinc (pc := 28) (v := (x3 + 1)) (ls' := [some (.ref p), some (.int x1), some (.int (x2 + 1)), some (.int (x3 + 1))]) ddX6_lookersAt_28 rfl rfl (Nat.le_of_ble_eq_true rfl) rfl rfl ?_
    refine E_goto (pc := 31) (tgt := 4) ddX6_lookersAt_31 (by decide) ?_
    exact k
/-! X7_readInto, labels [23, 25, 55, 59] -/
set_option maxRecDepth 100000 in
set_option maxHeartbeats 4000000 in
theorem B_X7_readInto_0 {mc ms : Nat} {z : Zt} {I : It} {Q : Option Value → Zt → It → Prop} {p : Nat} (hr : isRd z) (hp : isP z p)
    (k : ∀ I1 : It, I1 = e_st I p 0 0 → ∀ I2 : It, I2 = e_st I1 p 1 0 → ∀ I3 : It, I3 = e_st I2 2 3 0 → ∀ I4 : It, I4 = e_st I3 2 2 (-1) → ∀ I5 : It, I5 = e_st I4 2 4 0 → E mX7_skipBlanks 0 0 0 [some (.ref 2)] [] z I5 (fun r z' I' => E mX7_readInto mc ms 23 [some (.ref 2), some (.ref p), none] (r.toList ++ []) z' I' Q)) :
    E mX7_readInto mc ms 0 [some (.ref 2), some (.ref p), none] [] z I Q := by
  refine E_aload_n (pc := 0) (x := p) ddX7_readInto_0 rfl rfl ?_
  refine E_callV (pc := 1) (As := []) (st := []) (a := p) ddX7_readInto_1 hX6_empty ⟨(Nat.le_of_ble_eq_true rfl), (Nat.le_of_ble_eq_true rfl)⟩ w_2_57 (ci := 5) rfl rfl hp.s0 rfl rfl (Nat.le_of_ble_eq_true rfl) e_cn (Nat.le_of_ble_eq_true rfl) ?_
  refine (show E mX6_empty 0 0 0 [some (.ref p)] [] z I _ from ?_)
  refine E_aload_n (pc := 0) (x := p) ddX6_empty_0 rfl rfl ?_
  refine E_iconst (pc := 1) (v := 0) ddX6_empty_1 rfl ?_
  obtain ⟨I1, eI1⟩ : ∃ y : It, y = e_st I p 0 0 := ⟨_, rfl⟩
  have k := k I1 eI1
  refine E_putI (pc := 2) ddX6_empty_2 ec_5 0 (Nat.le_of_ble_eq_true rfl) rfl w_1_55 hp.s0 rfl rfl ?_
  rw [← eI1]
  refine E_aload_n (pc := 5) (x := p) ddX6_empty_5 rfl rfl ?_
  refine E_iconst (pc := 6) (v := 0) ddX6_empty_6 rfl ?_
  obtain ⟨I2, eI2⟩ : ∃ y : It, y = e_st I1 p 1 0 := ⟨_, rfl⟩
  have k := k I2 eI2
  refine E_putI (pc := 7) ddX6_empty_7 ec_5 1 (Nat.le_of_ble_eq_true rfl) rfl w_1_59 hp.s0 rfl rfl ?_
  rw [← eI2]
  refine E_vret (pc := 10) ddX6_empty_10 rfl ?_
  refine (show E mX7_readInto mc ms 4 [some (.ref 2), some (.ref p), none] [] z I2 Q from ?_)
  refine E_aload_n (pc := 4) (x := 2) ddX7_readInto_4 rfl rfl ?_
  refine E_iconst (pc := 5) (v := 0) ddX7_readInto_5 rfl ?_
  obtain ⟨I3, eI3⟩ : ∃ y : It, y = e_st I2 2 3 0 := ⟨_, rfl⟩
  have k := k I3 eI3
  refine E_putI (pc := 6) ddX7_readInto_6 ec_6 3 (Nat.le_of_ble_eq_true rfl) rfl w_1_32 hr.s0 rfl rfl ?_
  rw [← eI3]
  refine E_aload_n (pc := 9) (x := 2) ddX7_readInto_9 rfl rfl ?_
  refine E_iconst (pc := 10) (v := (-1)) ddX7_readInto_10 rfl ?_
  obtain ⟨I4, eI4⟩ : ∃ y : It, y = e_st I3 2 2 (-1) := ⟨_, rfl⟩
  have k := k I4 eI4
  refine E_putI (pc := 11) ddX7_readInto_11 ec_6 2 (Nat.le_of_ble_eq_true rfl) rfl w_1_30 hr.s0 rfl rfl ?_
  rw [← eI4]
  refine E_aload_n (pc := 14) (x := 2) ddX7_readInto_14 rfl rfl ?_
  refine E_iconst (pc := 15) (v := 0) ddX7_readInto_15 rfl ?_
  obtain ⟨I5, eI5⟩ : ∃ y : It, y = e_st I4 2 4 0 := ⟨_, rfl⟩
  have k := k I5 eI5
  refine E_putI (pc := 16) ddX7_readInto_16 ec_6 4 (Nat.le_of_ble_eq_true rfl) rfl w_1_33 hr.s0 rfl rfl ?_
  rw [← eI5]
  refine E_aload_n (pc := 19) (x := 2) ddX7_readInto_19 rfl rfl ?_
  exact E_callV (pc := 20) (As := []) (st := []) (a := 2) ddX7_readInto_20 hX7_skipBlanks ⟨(Nat.le_of_ble_eq_true rfl), (Nat.le_of_ble_eq_true rfl)⟩ w_2_61 (ci := 6) rfl rfl hr.s0 rfl rfl (Nat.le_of_ble_eq_true rfl) e_cn (Nat.le_of_ble_eq_true rfl) k
set_option maxRecDepth 100000 in
set_option maxHeartbeats 4000000 in
theorem B_X7_readInto_23 {mc ms : Nat} {z : Zt} {I : It} {Q : Option Value → Zt → It → Prop} {p : Nat} (hr : isRd z) (hp : isP z p)
    (k : E mX7_readInto mc ms 25 [some (.ref 2), some (.ref p), some (.int 0)] [] z I Q) :
    E mX7_readInto mc ms 23 [some (.ref 2), some (.ref p), none] [] z I Q := by
  refine E_iconst (pc := 23) (v := 0) ddX7_readInto_23 rfl ?_
  refine E_istore_n (pc := 24) (ls' := [some (.ref 2), some (.ref p), some (.int 0)]) ddX7_readInto_24 rfl (Nat.le_of_ble_eq_true rfl) rfl rfl ?_
  exact k
set_option maxRecDepth 100000 in
set_option maxHeartbeats 4000000 in
theorem B_X7_readInto_25 {mc ms : Nat} {z : Zt} {I : It} {Q : Option Value → Zt → It → Prop} {x2 : Int32} {p : Nat} (hr : isRd z) (hp : isP z p)
    (k : ((200 ≤ x2) → Q (some (.int (I 2 3))) z I) ∧
    ((¬ 200 ≤ x2) → (((I 2 1) ≤ (I 2 4)) → Q (some (.int (I 2 3))) z I) ∧
    ((¬ (I 2 1) ≤ (I 2 4)) → ((¬ (I 2 3) = 0) → Q (some (.int (I 2 3))) z I) ∧
    (((I 2 3) = 0) → E mX7_readClause 0 0 0 [some (.ref 2), some (.ref p)] [] z I (fun r z' I' => E mX7_readInto mc ms 55 [some (.ref 2), some (.ref p), some (.int x2)] (r.toList ++ []) z' I' Q))))) :
    E mX7_readInto mc ms 25 [some (.ref 2), some (.ref p), some (.int x2)] [] z I Q := by
  refine E_iload_n (pc := 25) (x := x2) ddX7_readInto_25 rfl rfl ?_
  refine E_sipush (pc := 26) (v := 200) ddX7_readInto_26 rfl ?_
  refine E_icmp_ge (pc := 29) (tgt := 65) ddX7_readInto_29 (by decide) (fun h => ?_) (fun h => ?_)
  · have k := k.1 h
    refine E_aload_n (pc := 65) (x := 2) ddX7_readInto_65 rfl rfl ?_
    refine E_getI (pc := 66) ddX7_readInto_66 ec_6 3 (Nat.le_of_ble_eq_true rfl) rfl w_1_32 hr.s0 ?_
    exact E_iret (pc := 69) ddX7_readInto_69 rfl k
  · have k := k.2 h
    refine E_aload_n (pc := 32) (x := 2) ddX7_readInto_32 rfl rfl ?_
    refine E_getI (pc := 33) ddX7_readInto_33 ec_6 4 (Nat.le_of_ble_eq_true rfl) rfl w_1_33 hr.s0 ?_
    refine E_aload_n (pc := 36) (x := 2) ddX7_readInto_36 rfl rfl ?_
    refine E_getI (pc := 37) ddX7_readInto_37 ec_6 1 (Nat.le_of_ble_eq_true rfl) rfl w_1_28 hr.s0 ?_
    refine E_icmp_ge (pc := 40) (tgt := 65) ddX7_readInto_40 (by decide) (fun h => ?_) (fun h => ?_)
    · have k := k.1 h
      refine E_aload_n (pc := 65) (x := 2) ddX7_readInto_65 rfl rfl ?_
      refine E_getI (pc := 66) ddX7_readInto_66 ec_6 3 (Nat.le_of_ble_eq_true rfl) rfl w_1_32 hr.s0 ?_
      exact E_iret (pc := 69) ddX7_readInto_69 rfl k
    · have k := k.2 h
      refine E_aload_n (pc := 43) (x := 2) ddX7_readInto_43 rfl rfl ?_
      refine E_getI (pc := 44) ddX7_readInto_44 ec_6 3 (Nat.le_of_ble_eq_true rfl) rfl w_1_32 hr.s0 ?_
      refine E_if_ne (pc := 47) (tgt := 65) ddX7_readInto_47 (by decide) (fun h => ?_) (fun h => ?_)
      · have k := k.1 h
        refine E_aload_n (pc := 65) (x := 2) ddX7_readInto_65 rfl rfl ?_
        refine E_getI (pc := 66) ddX7_readInto_66 ec_6 3 (Nat.le_of_ble_eq_true rfl) rfl w_1_32 hr.s0 ?_
        exact E_iret (pc := 69) ddX7_readInto_69 rfl k
      · have k := k.2 h
        refine E_aload_n (pc := 50) (x := 2) ddX7_readInto_50 rfl rfl ?_
        refine E_aload_n (pc := 51) (x := p) ddX7_readInto_51 rfl rfl ?_
        exact E_callV (pc := 52) (As := [.ref p]) (st := []) (a := 2) ddX7_readInto_52 hX7_readClause ⟨(Nat.le_of_ble_eq_true rfl), (Nat.le_of_ble_eq_true rfl)⟩ w_2_69 (ci := 6) rfl rfl hr.s0 rfl rfl (Nat.le_of_ble_eq_true rfl) (e_cc rfl e_cn) (Nat.le_of_ble_eq_true rfl) k
set_option maxRecDepth 100000 in
set_option maxHeartbeats 4000000 in
theorem B_X7_readInto_55 {mc ms : Nat} {z : Zt} {I : It} {Q : Option Value → Zt → It → Prop} {x2 : Int32} {p : Nat} (hr : isRd z) (hp : isP z p)
    (k : E mX7_skipBlanks 0 0 0 [some (.ref 2)] [] z I (fun r z' I' => E mX7_readInto mc ms 59 [some (.ref 2), some (.ref p), some (.int x2)] (r.toList ++ []) z' I' Q)) :
    E mX7_readInto mc ms 55 [some (.ref 2), some (.ref p), some (.int x2)] [] z I Q := by
  refine E_aload_n (pc := 55) (x := 2) ddX7_readInto_55 rfl rfl ?_
  exact E_callV (pc := 56) (As := []) (st := []) (a := 2) ddX7_readInto_56 hX7_skipBlanks ⟨(Nat.le_of_ble_eq_true rfl), (Nat.le_of_ble_eq_true rfl)⟩ w_2_61 (ci := 6) rfl rfl hr.s0 rfl rfl (Nat.le_of_ble_eq_true rfl) e_cn (Nat.le_of_ble_eq_true rfl) k
set_option maxRecDepth 100000 in
set_option maxHeartbeats 4000000 in
theorem B_X7_readInto_59 {mc ms : Nat} {z : Zt} {I : It} {Q : Option Value → Zt → It → Prop} {x2 : Int32} {p : Nat} (hr : isRd z) (hp : isP z p)
    (k : E mX7_readInto mc ms 25 [some (.ref 2), some (.ref p), some (.int (x2 + 1))] [] z I Q) :
    E mX7_readInto mc ms 59 [some (.ref 2), some (.ref p), some (.int x2)] [] z I Q := by
  refine E_iinc (pc := 59) (v := (x2 + 1)) (ls' := [some (.ref 2), some (.ref p), some (.int (x2 + 1))]) ddX7_readInto_59 rfl rfl (Nat.le_of_ble_eq_true rfl) rfl rfl ?_
  refine E_goto (pc := 62) (tgt := 25) ddX7_readInto_62 (by decide) ?_
  exact k
/-! X7_readClause, labels [14, 31] -/
set_option maxRecDepth 100000 in
set_option maxHeartbeats 4000000 in
theorem B_X7_readClause_0 {mc ms : Nat} {z : Zt} {I : It} {Q : Option Value → Zt → It → Prop} {p : Nat} (hr : isRd z) (hp : isP z p)
    (k : (((I 2 4) < 0) → (((I 2 4) < 0) → ((¬ (I 2 3) = 0) → Q none z I) ∧
    (((I 2 3) = 0) → ∀ I1 : It, I1 = e_st I 2 3 1 → ∀ I2 : It, I2 = e_st I1 2 2 (I 2 4) → Q none z I2)) ∧
    ((¬ (I 2 4) < 0) → (((I 2 1) ≤ (I 2 4)) → ((¬ (I 2 3) = 0) → Q none z I) ∧
    (((I 2 3) = 0) → ∀ I1 : It, I1 = e_st I 2 3 1 → ∀ I2 : It, I2 = e_st I1 2 2 (I 2 4) → Q none z I2)) ∧
    ((¬ (I 2 1) ≤ (I 2 4)) → ∃ j1 : Nat, (I 2 4) = nI j1 ∧ j1 < 200 ∧ ((¬ (I 3 j1) = 103) → ((¬ (I 2 3) = 0) → Q none z I) ∧
    (((I 2 3) = 0) → ∀ I2 : It, I2 = e_st I 2 3 1 → ∀ I3 : It, I3 = e_st I2 2 2 (I 2 4) → Q none z I3)) ∧
    (((I 3 j1) = 103) → E mX7_readGate 0 0 0 [some (.ref 2), some (.ref p), none, none] [] z I (fun r z' I' => E mX7_readClause mc ms 31 [none, none] (r.toList ++ []) z' I' Q))))) ∧
    ((¬ (I 2 4) < 0) → (((I 2 1) ≤ (I 2 4)) → (((I 2 4) < 0) → ((¬ (I 2 3) = 0) → Q none z I) ∧
    (((I 2 3) = 0) → ∀ I1 : It, I1 = e_st I 2 3 1 → ∀ I2 : It, I2 = e_st I1 2 2 (I 2 4) → Q none z I2)) ∧
    ((¬ (I 2 4) < 0) → (((I 2 1) ≤ (I 2 4)) → ((¬ (I 2 3) = 0) → Q none z I) ∧
    (((I 2 3) = 0) → ∀ I1 : It, I1 = e_st I 2 3 1 → ∀ I2 : It, I2 = e_st I1 2 2 (I 2 4) → Q none z I2)) ∧
    ((¬ (I 2 1) ≤ (I 2 4)) → ∃ j1 : Nat, (I 2 4) = nI j1 ∧ j1 < 200 ∧ ((¬ (I 3 j1) = 103) → ((¬ (I 2 3) = 0) → Q none z I) ∧
    (((I 2 3) = 0) → ∀ I2 : It, I2 = e_st I 2 3 1 → ∀ I3 : It, I3 = e_st I2 2 2 (I 2 4) → Q none z I3)) ∧
    (((I 3 j1) = 103) → E mX7_readGate 0 0 0 [some (.ref 2), some (.ref p), none, none] [] z I (fun r z' I' => E mX7_readClause mc ms 31 [none, none] (r.toList ++ []) z' I' Q))))) ∧
    ((¬ (I 2 1) ≤ (I 2 4)) → ∃ j1 : Nat, (I 2 4) = nI j1 ∧ j1 < 200 ∧ ((¬ (I 3 j1) = 119) → (((I 2 4) < 0) → ((¬ (I 2 3) = 0) → Q none z I) ∧
    (((I 2 3) = 0) → ∀ I2 : It, I2 = e_st I 2 3 1 → ∀ I3 : It, I3 = e_st I2 2 2 (I 2 4) → Q none z I3)) ∧
    ((¬ (I 2 4) < 0) → (((I 2 1) ≤ (I 2 4)) → ((¬ (I 2 3) = 0) → Q none z I) ∧
    (((I 2 3) = 0) → ∀ I2 : It, I2 = e_st I 2 3 1 → ∀ I3 : It, I3 = e_st I2 2 2 (I 2 4) → Q none z I3)) ∧
    ((¬ (I 2 1) ≤ (I 2 4)) → ((¬ (I 3 j1) = 103) → ((¬ (I 2 3) = 0) → Q none z I) ∧
    (((I 2 3) = 0) → ∀ I2 : It, I2 = e_st I 2 3 1 → ∀ I3 : It, I3 = e_st I2 2 2 (I 2 4) → Q none z I3)) ∧
    (((I 3 j1) = 103) → E mX7_readGate 0 0 0 [some (.ref 2), some (.ref p), none, none] [] z I (fun r z' I' => E mX7_readClause mc ms 31 [none, none] (r.toList ++ []) z' I' Q))))) ∧
    (((I 3 j1) = 119) → E mX7_readWire 0 0 0 [some (.ref 2), some (.ref p), none] [] z I (fun r z' I' => E mX7_readClause mc ms 14 [none, none] (r.toList ++ []) z' I' Q))))) :
    E mX7_readClause mc ms 0 [some (.ref 2), some (.ref p)] [] z I Q := by
  refine E_aload_n (pc := 0) (x := 2) ddX7_readClause_0 rfl rfl ?_
  refine E_callV (pc := 1) (As := []) (st := []) (a := 2) ddX7_readClause_1 hX7_letterHere ⟨(Nat.le_of_ble_eq_true rfl), (Nat.le_of_ble_eq_true rfl)⟩ w_2_65 (ci := 6) rfl rfl hr.s0 rfl rfl (Nat.le_of_ble_eq_true rfl) e_cn (Nat.le_of_ble_eq_true rfl) ?_
  refine (show E mX7_letterHere 0 0 0 [some (.ref 2)] [] z I _ from ?_)
  refine E_aload_n (pc := 0) (x := 2) ddX7_letterHere_0 rfl rfl ?_
  refine E_getI (pc := 1) ddX7_letterHere_1 ec_6 4 (Nat.le_of_ble_eq_true rfl) rfl w_1_33 hr.s0 ?_
  refine E_if_lt (pc := 4) (tgt := 30) ddX7_letterHere_4 (by decide) (fun h => ?_) (fun h => ?_)
  · have k := k.1 h
    refine E_iconst (pc := 30) (v := (-1)) ddX7_letterHere_30 rfl ?_
    refine E_iret (pc := 31) ddX7_letterHere_31 rfl ?_
    refine (show E mX7_readClause mc ms 4 [some (.ref 2), some (.ref p)] [.int (-1)] z I Q from ?_)
    refine E_bipush (pc := 4) (v := 119) ddX7_readClause_4 rfl ?_
    refine E_icmp_ne (pc := 6) (tgt := 17) ddX7_readClause_6 (by decide) (fun _ => ?_) (fun h => absurd h (by decide))
    refine E_aload_n (pc := 17) (x := 2) ddX7_readClause_17 rfl rfl ?_
    refine E_callV (pc := 18) (As := []) (st := []) (a := 2) ddX7_readClause_18 hX7_letterHere ⟨(Nat.le_of_ble_eq_true rfl), (Nat.le_of_ble_eq_true rfl)⟩ w_2_65 (ci := 6) rfl rfl hr.s0 rfl rfl (Nat.le_of_ble_eq_true rfl) e_cn (Nat.le_of_ble_eq_true rfl) ?_
    refine (show E mX7_letterHere 0 0 0 [some (.ref 2)] [] z I _ from ?_)
    refine E_aload_n (pc := 0) (x := 2) ddX7_letterHere_0 rfl rfl ?_
    refine E_getI (pc := 1) ddX7_letterHere_1 ec_6 4 (Nat.le_of_ble_eq_true rfl) rfl w_1_33 hr.s0 ?_
    refine E_if_lt (pc := 4) (tgt := 30) ddX7_letterHere_4 (by decide) (fun h => ?_) (fun h => ?_)
    · have k := k.1 h
      refine E_iconst (pc := 30) (v := (-1)) ddX7_letterHere_30 rfl ?_
      refine E_iret (pc := 31) ddX7_letterHere_31 rfl ?_
      refine (show E mX7_readClause mc ms 21 [some (.ref 2), some (.ref p)] [.int (-1)] z I Q from ?_)
      refine E_bipush (pc := 21) (v := 103) ddX7_readClause_21 rfl ?_
      refine E_icmp_ne (pc := 23) (tgt := 34) ddX7_readClause_23 (by decide) (fun _ => ?_) (fun h => absurd h (by decide))
      refine E_aload_n (pc := 34) (x := 2) ddX7_readClause_34 rfl rfl ?_
      refine E_iconst (pc := 35) (v := 1) ddX7_readClause_35 rfl ?_
      refine E_aload_n (pc := 36) (x := 2) ddX7_readClause_36 rfl rfl ?_
      refine E_getI (pc := 37) ddX7_readClause_37 ec_6 4 (Nat.le_of_ble_eq_true rfl) rfl w_1_33 hr.s0 ?_
      refine E_callV (pc := 40) (As := [.int 1, .int (I 2 4)]) (st := []) (a := 2) ddX7_readClause_40 hX7_findFault ⟨(Nat.le_of_ble_eq_true rfl), (Nat.le_of_ble_eq_true rfl)⟩ w_2_77 (ci := 6) rfl rfl hr.s0 rfl rfl (Nat.le_of_ble_eq_true rfl) (e_cc rfl (e_cc rfl e_cn)) (Nat.le_of_ble_eq_true rfl) ?_
      refine (show E mX7_findFault 0 0 0 [some (.ref 2), some (.int 1), some (.int (I 2 4))] [] z I _ from ?_)
      refine E_aload_n (pc := 0) (x := 2) ddX7_findFault_0 rfl rfl ?_
      refine E_getI (pc := 1) ddX7_findFault_1 ec_6 3 (Nat.le_of_ble_eq_true rfl) rfl w_1_32 hr.s0 ?_
      refine E_if_ne (pc := 4) (tgt := 17) ddX7_findFault_4 (by decide) (fun h => ?_) (fun h => ?_)
      · have k := k.1 h
        refine E_vret (pc := 17) ddX7_findFault_17 rfl ?_
        refine (show E mX7_readClause mc ms 43 [some (.ref 2), some (.ref p)] [] z I Q from ?_)
        exact E_vret (pc := 43) ddX7_readClause_43 rfl k
      · have k := k.2 h
        refine E_aload_n (pc := 7) (x := 2) ddX7_findFault_7 rfl rfl ?_
        refine E_iload_n (pc := 8) (x := 1) ddX7_findFault_8 rfl rfl ?_
        obtain ⟨I1, eI1⟩ : ∃ y : It, y = e_st I 2 3 1 := ⟨_, rfl⟩
        have k := k I1 eI1
        refine E_putI (pc := 9) ddX7_findFault_9 ec_6 3 (Nat.le_of_ble_eq_true rfl) rfl w_1_32 hr.s0 rfl rfl ?_
        rw [← eI1]
        refine E_aload_n (pc := 12) (x := 2) ddX7_findFault_12 rfl rfl ?_
        refine E_iload_n (pc := 13) (x := (I 2 4)) ddX7_findFault_13 rfl rfl ?_
        obtain ⟨I2, eI2⟩ : ∃ y : It, y = e_st I1 2 2 (I 2 4) := ⟨_, rfl⟩
        have k := k I2 eI2
        refine E_putI (pc := 14) ddX7_findFault_14 ec_6 2 (Nat.le_of_ble_eq_true rfl) rfl w_1_30 hr.s0 rfl rfl ?_
        rw [← eI2]
        refine E_vret (pc := 17) ddX7_findFault_17 rfl ?_
        refine (show E mX7_readClause mc ms 43 [some (.ref 2), some (.ref p)] [] z I2 Q from ?_)
        exact E_vret (pc := 43) ddX7_readClause_43 rfl k
    · have k := k.2 h
      refine E_aload_n (pc := 7) (x := 2) ddX7_letterHere_7 rfl rfl ?_
      refine E_getI (pc := 8) ddX7_letterHere_8 ec_6 4 (Nat.le_of_ble_eq_true rfl) rfl w_1_33 hr.s0 ?_
      refine E_aload_n (pc := 11) (x := 2) ddX7_letterHere_11 rfl rfl ?_
      refine E_getI (pc := 12) ddX7_letterHere_12 ec_6 1 (Nat.le_of_ble_eq_true rfl) rfl w_1_28 hr.s0 ?_
      refine E_icmp_ge (pc := 15) (tgt := 30) ddX7_letterHere_15 (by decide) (fun h => ?_) (fun h => ?_)
      · have k := k.1 h
        refine E_iconst (pc := 30) (v := (-1)) ddX7_letterHere_30 rfl ?_
        refine E_iret (pc := 31) ddX7_letterHere_31 rfl ?_
        refine (show E mX7_readClause mc ms 21 [some (.ref 2), some (.ref p)] [.int (-1)] z I Q from ?_)
        refine E_bipush (pc := 21) (v := 103) ddX7_readClause_21 rfl ?_
        refine E_icmp_ne (pc := 23) (tgt := 34) ddX7_readClause_23 (by decide) (fun _ => ?_) (fun h => absurd h (by decide))
        refine E_aload_n (pc := 34) (x := 2) ddX7_readClause_34 rfl rfl ?_
        refine E_iconst (pc := 35) (v := 1) ddX7_readClause_35 rfl ?_
        refine E_aload_n (pc := 36) (x := 2) ddX7_readClause_36 rfl rfl ?_
        refine E_getI (pc := 37) ddX7_readClause_37 ec_6 4 (Nat.le_of_ble_eq_true rfl) rfl w_1_33 hr.s0 ?_
        refine E_callV (pc := 40) (As := [.int 1, .int (I 2 4)]) (st := []) (a := 2) ddX7_readClause_40 hX7_findFault ⟨(Nat.le_of_ble_eq_true rfl), (Nat.le_of_ble_eq_true rfl)⟩ w_2_77 (ci := 6) rfl rfl hr.s0 rfl rfl (Nat.le_of_ble_eq_true rfl) (e_cc rfl (e_cc rfl e_cn)) (Nat.le_of_ble_eq_true rfl) ?_
        refine (show E mX7_findFault 0 0 0 [some (.ref 2), some (.int 1), some (.int (I 2 4))] [] z I _ from ?_)
        refine E_aload_n (pc := 0) (x := 2) ddX7_findFault_0 rfl rfl ?_
        refine E_getI (pc := 1) ddX7_findFault_1 ec_6 3 (Nat.le_of_ble_eq_true rfl) rfl w_1_32 hr.s0 ?_
        refine E_if_ne (pc := 4) (tgt := 17) ddX7_findFault_4 (by decide) (fun h => ?_) (fun h => ?_)
        · have k := k.1 h
          refine E_vret (pc := 17) ddX7_findFault_17 rfl ?_
          refine (show E mX7_readClause mc ms 43 [some (.ref 2), some (.ref p)] [] z I Q from ?_)
          exact E_vret (pc := 43) ddX7_readClause_43 rfl k
        · have k := k.2 h
          refine E_aload_n (pc := 7) (x := 2) ddX7_findFault_7 rfl rfl ?_
          refine E_iload_n (pc := 8) (x := 1) ddX7_findFault_8 rfl rfl ?_
          obtain ⟨I1, eI1⟩ : ∃ y : It, y = e_st I 2 3 1 := ⟨_, rfl⟩
          have k := k I1 eI1
          refine E_putI (pc := 9) ddX7_findFault_9 ec_6 3 (Nat.le_of_ble_eq_true rfl) rfl w_1_32 hr.s0 rfl rfl ?_
          rw [← eI1]
          refine E_aload_n (pc := 12) (x := 2) ddX7_findFault_12 rfl rfl ?_
          refine E_iload_n (pc := 13) (x := (I 2 4)) ddX7_findFault_13 rfl rfl ?_
          obtain ⟨I2, eI2⟩ : ∃ y : It, y = e_st I1 2 2 (I 2 4) := ⟨_, rfl⟩
          have k := k I2 eI2
          refine E_putI (pc := 14) ddX7_findFault_14 ec_6 2 (Nat.le_of_ble_eq_true rfl) rfl w_1_30 hr.s0 rfl rfl ?_
          rw [← eI2]
          refine E_vret (pc := 17) ddX7_findFault_17 rfl ?_
          refine (show E mX7_readClause mc ms 43 [some (.ref 2), some (.ref p)] [] z I2 Q from ?_)
          exact E_vret (pc := 43) ddX7_readClause_43 rfl k
      · have k := k.2 h
        refine E_aload_n (pc := 18) (x := 2) ddX7_letterHere_18 rfl rfl ?_
        refine E_getR (pc := 19) (x := 3) ddX7_letterHere_19 ec_6 0 (Nat.le_of_ble_eq_true rfl) rfl w_1_27 hr.s0 hr.r0 (by decide) ?_
        refine E_aload_n (pc := 22) (x := 2) ddX7_letterHere_22 rfl rfl ?_
        refine E_getI (pc := 23) ddX7_letterHere_23 ec_6 4 (Nat.le_of_ble_eq_true rfl) rfl w_1_33 hr.s0 ?_
        obtain ⟨j1, ij1, lj1, k⟩ := k
        refine E_ialdN (pc := 26) (j := j1) ddX7_letterHere_26 hr.s1 ij1 lj1 (Nat.le_of_ble_eq_true rfl) ?_
        refine E_goto (pc := 27) (tgt := 31) ddX7_letterHere_27 (by decide) ?_
        refine E_iret (pc := 31) ddX7_letterHere_31 rfl ?_
        refine (show E mX7_readClause mc ms 21 [some (.ref 2), some (.ref p)] [.int (I 3 j1)] z I Q from ?_)
        refine E_bipush (pc := 21) (v := 103) ddX7_readClause_21 rfl ?_
        refine E_icmp_ne (pc := 23) (tgt := 34) ddX7_readClause_23 (by decide) (fun h => ?_) (fun h => ?_)
        · have k := k.1 h
          refine E_aload_n (pc := 34) (x := 2) ddX7_readClause_34 rfl rfl ?_
          refine E_iconst (pc := 35) (v := 1) ddX7_readClause_35 rfl ?_
          refine E_aload_n (pc := 36) (x := 2) ddX7_readClause_36 rfl rfl ?_
          refine E_getI (pc := 37) ddX7_readClause_37 ec_6 4 (Nat.le_of_ble_eq_true rfl) rfl w_1_33 hr.s0 ?_
          refine E_callV (pc := 40) (As := [.int 1, .int (I 2 4)]) (st := []) (a := 2) ddX7_readClause_40 hX7_findFault ⟨(Nat.le_of_ble_eq_true rfl), (Nat.le_of_ble_eq_true rfl)⟩ w_2_77 (ci := 6) rfl rfl hr.s0 rfl rfl (Nat.le_of_ble_eq_true rfl) (e_cc rfl (e_cc rfl e_cn)) (Nat.le_of_ble_eq_true rfl) ?_
          refine (show E mX7_findFault 0 0 0 [some (.ref 2), some (.int 1), some (.int (I 2 4))] [] z I _ from ?_)
          refine E_aload_n (pc := 0) (x := 2) ddX7_findFault_0 rfl rfl ?_
          refine E_getI (pc := 1) ddX7_findFault_1 ec_6 3 (Nat.le_of_ble_eq_true rfl) rfl w_1_32 hr.s0 ?_
          refine E_if_ne (pc := 4) (tgt := 17) ddX7_findFault_4 (by decide) (fun h => ?_) (fun h => ?_)
          · have k := k.1 h
            refine E_vret (pc := 17) ddX7_findFault_17 rfl ?_
            refine (show E mX7_readClause mc ms 43 [some (.ref 2), some (.ref p)] [] z I Q from ?_)
            exact E_vret (pc := 43) ddX7_readClause_43 rfl k
          · have k := k.2 h
            refine E_aload_n (pc := 7) (x := 2) ddX7_findFault_7 rfl rfl ?_
            refine E_iload_n (pc := 8) (x := 1) ddX7_findFault_8 rfl rfl ?_
            obtain ⟨I2, eI2⟩ : ∃ y : It, y = e_st I 2 3 1 := ⟨_, rfl⟩
            have k := k I2 eI2
            refine E_putI (pc := 9) ddX7_findFault_9 ec_6 3 (Nat.le_of_ble_eq_true rfl) rfl w_1_32 hr.s0 rfl rfl ?_
            rw [← eI2]
            refine E_aload_n (pc := 12) (x := 2) ddX7_findFault_12 rfl rfl ?_
            refine E_iload_n (pc := 13) (x := (I 2 4)) ddX7_findFault_13 rfl rfl ?_
            obtain ⟨I3, eI3⟩ : ∃ y : It, y = e_st I2 2 2 (I 2 4) := ⟨_, rfl⟩
            have k := k I3 eI3
            refine E_putI (pc := 14) ddX7_findFault_14 ec_6 2 (Nat.le_of_ble_eq_true rfl) rfl w_1_30 hr.s0 rfl rfl ?_
            rw [← eI3]
            refine E_vret (pc := 17) ddX7_findFault_17 rfl ?_
            refine (show E mX7_readClause mc ms 43 [some (.ref 2), some (.ref p)] [] z I3 Q from ?_)
            exact E_vret (pc := 43) ddX7_readClause_43 rfl k
        · have k := k.2 h
          refine E_aload_n (pc := 26) (x := 2) ddX7_readClause_26 rfl rfl ?_
          refine E_aload_n (pc := 27) (x := p) ddX7_readClause_27 rfl rfl ?_
          exact E_callV (pc := 28) (As := [.ref p]) (st := []) (a := 2) ddX7_readClause_28 hX7_readGate ⟨(Nat.le_of_ble_eq_true rfl), (Nat.le_of_ble_eq_true rfl)⟩ w_2_96 (ci := 6) rfl rfl hr.s0 rfl rfl (Nat.le_of_ble_eq_true rfl) (e_cc rfl e_cn) (Nat.le_of_ble_eq_true rfl) (E.mono k fun _ _ _ q => E.forget q trivial)
  · have k := k.2 h
    refine E_aload_n (pc := 7) (x := 2) ddX7_letterHere_7 rfl rfl ?_
    refine E_getI (pc := 8) ddX7_letterHere_8 ec_6 4 (Nat.le_of_ble_eq_true rfl) rfl w_1_33 hr.s0 ?_
    refine E_aload_n (pc := 11) (x := 2) ddX7_letterHere_11 rfl rfl ?_
    refine E_getI (pc := 12) ddX7_letterHere_12 ec_6 1 (Nat.le_of_ble_eq_true rfl) rfl w_1_28 hr.s0 ?_
    refine E_icmp_ge (pc := 15) (tgt := 30) ddX7_letterHere_15 (by decide) (fun h => ?_) (fun h => ?_)
    · have k := k.1 h
      refine E_iconst (pc := 30) (v := (-1)) ddX7_letterHere_30 rfl ?_
      refine E_iret (pc := 31) ddX7_letterHere_31 rfl ?_
      refine (show E mX7_readClause mc ms 4 [some (.ref 2), some (.ref p)] [.int (-1)] z I Q from ?_)
      refine E_bipush (pc := 4) (v := 119) ddX7_readClause_4 rfl ?_
      refine E_icmp_ne (pc := 6) (tgt := 17) ddX7_readClause_6 (by decide) (fun _ => ?_) (fun h => absurd h (by decide))
      refine E_aload_n (pc := 17) (x := 2) ddX7_readClause_17 rfl rfl ?_
      refine E_callV (pc := 18) (As := []) (st := []) (a := 2) ddX7_readClause_18 hX7_letterHere ⟨(Nat.le_of_ble_eq_true rfl), (Nat.le_of_ble_eq_true rfl)⟩ w_2_65 (ci := 6) rfl rfl hr.s0 rfl rfl (Nat.le_of_ble_eq_true rfl) e_cn (Nat.le_of_ble_eq_true rfl) ?_
      refine (show E mX7_letterHere 0 0 0 [some (.ref 2)] [] z I _ from ?_)
      refine E_aload_n (pc := 0) (x := 2) ddX7_letterHere_0 rfl rfl ?_
      refine E_getI (pc := 1) ddX7_letterHere_1 ec_6 4 (Nat.le_of_ble_eq_true rfl) rfl w_1_33 hr.s0 ?_
      refine E_if_lt (pc := 4) (tgt := 30) ddX7_letterHere_4 (by decide) (fun h => ?_) (fun h => ?_)
      · have k := k.1 h
        refine E_iconst (pc := 30) (v := (-1)) ddX7_letterHere_30 rfl ?_
        refine E_iret (pc := 31) ddX7_letterHere_31 rfl ?_
        refine (show E mX7_readClause mc ms 21 [some (.ref 2), some (.ref p)] [.int (-1)] z I Q from ?_)
        refine E_bipush (pc := 21) (v := 103) ddX7_readClause_21 rfl ?_
        refine E_icmp_ne (pc := 23) (tgt := 34) ddX7_readClause_23 (by decide) (fun _ => ?_) (fun h => absurd h (by decide))
        refine E_aload_n (pc := 34) (x := 2) ddX7_readClause_34 rfl rfl ?_
        refine E_iconst (pc := 35) (v := 1) ddX7_readClause_35 rfl ?_
        refine E_aload_n (pc := 36) (x := 2) ddX7_readClause_36 rfl rfl ?_
        refine E_getI (pc := 37) ddX7_readClause_37 ec_6 4 (Nat.le_of_ble_eq_true rfl) rfl w_1_33 hr.s0 ?_
        refine E_callV (pc := 40) (As := [.int 1, .int (I 2 4)]) (st := []) (a := 2) ddX7_readClause_40 hX7_findFault ⟨(Nat.le_of_ble_eq_true rfl), (Nat.le_of_ble_eq_true rfl)⟩ w_2_77 (ci := 6) rfl rfl hr.s0 rfl rfl (Nat.le_of_ble_eq_true rfl) (e_cc rfl (e_cc rfl e_cn)) (Nat.le_of_ble_eq_true rfl) ?_
        refine (show E mX7_findFault 0 0 0 [some (.ref 2), some (.int 1), some (.int (I 2 4))] [] z I _ from ?_)
        refine E_aload_n (pc := 0) (x := 2) ddX7_findFault_0 rfl rfl ?_
        refine E_getI (pc := 1) ddX7_findFault_1 ec_6 3 (Nat.le_of_ble_eq_true rfl) rfl w_1_32 hr.s0 ?_
        refine E_if_ne (pc := 4) (tgt := 17) ddX7_findFault_4 (by decide) (fun h => ?_) (fun h => ?_)
        · have k := k.1 h
          refine E_vret (pc := 17) ddX7_findFault_17 rfl ?_
          refine (show E mX7_readClause mc ms 43 [some (.ref 2), some (.ref p)] [] z I Q from ?_)
          exact E_vret (pc := 43) ddX7_readClause_43 rfl k
        · have k := k.2 h
          refine E_aload_n (pc := 7) (x := 2) ddX7_findFault_7 rfl rfl ?_
          refine E_iload_n (pc := 8) (x := 1) ddX7_findFault_8 rfl rfl ?_
          obtain ⟨I1, eI1⟩ : ∃ y : It, y = e_st I 2 3 1 := ⟨_, rfl⟩
          have k := k I1 eI1
          refine E_putI (pc := 9) ddX7_findFault_9 ec_6 3 (Nat.le_of_ble_eq_true rfl) rfl w_1_32 hr.s0 rfl rfl ?_
          rw [← eI1]
          refine E_aload_n (pc := 12) (x := 2) ddX7_findFault_12 rfl rfl ?_
          refine E_iload_n (pc := 13) (x := (I 2 4)) ddX7_findFault_13 rfl rfl ?_
          obtain ⟨I2, eI2⟩ : ∃ y : It, y = e_st I1 2 2 (I 2 4) := ⟨_, rfl⟩
          have k := k I2 eI2
          refine E_putI (pc := 14) ddX7_findFault_14 ec_6 2 (Nat.le_of_ble_eq_true rfl) rfl w_1_30 hr.s0 rfl rfl ?_
          rw [← eI2]
          refine E_vret (pc := 17) ddX7_findFault_17 rfl ?_
          refine (show E mX7_readClause mc ms 43 [some (.ref 2), some (.ref p)] [] z I2 Q from ?_)
          exact E_vret (pc := 43) ddX7_readClause_43 rfl k
      · have k := k.2 h
        refine E_aload_n (pc := 7) (x := 2) ddX7_letterHere_7 rfl rfl ?_
        refine E_getI (pc := 8) ddX7_letterHere_8 ec_6 4 (Nat.le_of_ble_eq_true rfl) rfl w_1_33 hr.s0 ?_
        refine E_aload_n (pc := 11) (x := 2) ddX7_letterHere_11 rfl rfl ?_
        refine E_getI (pc := 12) ddX7_letterHere_12 ec_6 1 (Nat.le_of_ble_eq_true rfl) rfl w_1_28 hr.s0 ?_
        refine E_icmp_ge (pc := 15) (tgt := 30) ddX7_letterHere_15 (by decide) (fun h => ?_) (fun h => ?_)
        · have k := k.1 h
          refine E_iconst (pc := 30) (v := (-1)) ddX7_letterHere_30 rfl ?_
          refine E_iret (pc := 31) ddX7_letterHere_31 rfl ?_
          refine (show E mX7_readClause mc ms 21 [some (.ref 2), some (.ref p)] [.int (-1)] z I Q from ?_)
          refine E_bipush (pc := 21) (v := 103) ddX7_readClause_21 rfl ?_
          refine E_icmp_ne (pc := 23) (tgt := 34) ddX7_readClause_23 (by decide) (fun _ => ?_) (fun h => absurd h (by decide))
          refine E_aload_n (pc := 34) (x := 2) ddX7_readClause_34 rfl rfl ?_
          refine E_iconst (pc := 35) (v := 1) ddX7_readClause_35 rfl ?_
          refine E_aload_n (pc := 36) (x := 2) ddX7_readClause_36 rfl rfl ?_
          refine E_getI (pc := 37) ddX7_readClause_37 ec_6 4 (Nat.le_of_ble_eq_true rfl) rfl w_1_33 hr.s0 ?_
          refine E_callV (pc := 40) (As := [.int 1, .int (I 2 4)]) (st := []) (a := 2) ddX7_readClause_40 hX7_findFault ⟨(Nat.le_of_ble_eq_true rfl), (Nat.le_of_ble_eq_true rfl)⟩ w_2_77 (ci := 6) rfl rfl hr.s0 rfl rfl (Nat.le_of_ble_eq_true rfl) (e_cc rfl (e_cc rfl e_cn)) (Nat.le_of_ble_eq_true rfl) ?_
          refine (show E mX7_findFault 0 0 0 [some (.ref 2), some (.int 1), some (.int (I 2 4))] [] z I _ from ?_)
          refine E_aload_n (pc := 0) (x := 2) ddX7_findFault_0 rfl rfl ?_
          refine E_getI (pc := 1) ddX7_findFault_1 ec_6 3 (Nat.le_of_ble_eq_true rfl) rfl w_1_32 hr.s0 ?_
          refine E_if_ne (pc := 4) (tgt := 17) ddX7_findFault_4 (by decide) (fun h => ?_) (fun h => ?_)
          · have k := k.1 h
            refine E_vret (pc := 17) ddX7_findFault_17 rfl ?_
            refine (show E mX7_readClause mc ms 43 [some (.ref 2), some (.ref p)] [] z I Q from ?_)
            exact E_vret (pc := 43) ddX7_readClause_43 rfl k
          · have k := k.2 h
            refine E_aload_n (pc := 7) (x := 2) ddX7_findFault_7 rfl rfl ?_
            refine E_iload_n (pc := 8) (x := 1) ddX7_findFault_8 rfl rfl ?_
            obtain ⟨I1, eI1⟩ : ∃ y : It, y = e_st I 2 3 1 := ⟨_, rfl⟩
            have k := k I1 eI1
            refine E_putI (pc := 9) ddX7_findFault_9 ec_6 3 (Nat.le_of_ble_eq_true rfl) rfl w_1_32 hr.s0 rfl rfl ?_
            rw [← eI1]
            refine E_aload_n (pc := 12) (x := 2) ddX7_findFault_12 rfl rfl ?_
            refine E_iload_n (pc := 13) (x := (I 2 4)) ddX7_findFault_13 rfl rfl ?_
            obtain ⟨I2, eI2⟩ : ∃ y : It, y = e_st I1 2 2 (I 2 4) := ⟨_, rfl⟩
            have k := k I2 eI2
            refine E_putI (pc := 14) ddX7_findFault_14 ec_6 2 (Nat.le_of_ble_eq_true rfl) rfl w_1_30 hr.s0 rfl rfl ?_
            rw [← eI2]
            refine E_vret (pc := 17) ddX7_findFault_17 rfl ?_
            refine (show E mX7_readClause mc ms 43 [some (.ref 2), some (.ref p)] [] z I2 Q from ?_)
            exact E_vret (pc := 43) ddX7_readClause_43 rfl k
        · have k := k.2 h
          refine E_aload_n (pc := 18) (x := 2) ddX7_letterHere_18 rfl rfl ?_
          refine E_getR (pc := 19) (x := 3) ddX7_letterHere_19 ec_6 0 (Nat.le_of_ble_eq_true rfl) rfl w_1_27 hr.s0 hr.r0 (by decide) ?_
          refine E_aload_n (pc := 22) (x := 2) ddX7_letterHere_22 rfl rfl ?_
          refine E_getI (pc := 23) ddX7_letterHere_23 ec_6 4 (Nat.le_of_ble_eq_true rfl) rfl w_1_33 hr.s0 ?_
          obtain ⟨j1, ij1, lj1, k⟩ := k
          refine E_ialdN (pc := 26) (j := j1) ddX7_letterHere_26 hr.s1 ij1 lj1 (Nat.le_of_ble_eq_true rfl) ?_
          refine E_goto (pc := 27) (tgt := 31) ddX7_letterHere_27 (by decide) ?_
          refine E_iret (pc := 31) ddX7_letterHere_31 rfl ?_
          refine (show E mX7_readClause mc ms 21 [some (.ref 2), some (.ref p)] [.int (I 3 j1)] z I Q from ?_)
          refine E_bipush (pc := 21) (v := 103) ddX7_readClause_21 rfl ?_
          refine E_icmp_ne (pc := 23) (tgt := 34) ddX7_readClause_23 (by decide) (fun h => ?_) (fun h => ?_)
          · have k := k.1 h
            refine E_aload_n (pc := 34) (x := 2) ddX7_readClause_34 rfl rfl ?_
            refine E_iconst (pc := 35) (v := 1) ddX7_readClause_35 rfl ?_
            refine E_aload_n (pc := 36) (x := 2) ddX7_readClause_36 rfl rfl ?_
            refine E_getI (pc := 37) ddX7_readClause_37 ec_6 4 (Nat.le_of_ble_eq_true rfl) rfl w_1_33 hr.s0 ?_
            refine E_callV (pc := 40) (As := [.int 1, .int (I 2 4)]) (st := []) (a := 2) ddX7_readClause_40 hX7_findFault ⟨(Nat.le_of_ble_eq_true rfl), (Nat.le_of_ble_eq_true rfl)⟩ w_2_77 (ci := 6) rfl rfl hr.s0 rfl rfl (Nat.le_of_ble_eq_true rfl) (e_cc rfl (e_cc rfl e_cn)) (Nat.le_of_ble_eq_true rfl) ?_
            refine (show E mX7_findFault 0 0 0 [some (.ref 2), some (.int 1), some (.int (I 2 4))] [] z I _ from ?_)
            refine E_aload_n (pc := 0) (x := 2) ddX7_findFault_0 rfl rfl ?_
            refine E_getI (pc := 1) ddX7_findFault_1 ec_6 3 (Nat.le_of_ble_eq_true rfl) rfl w_1_32 hr.s0 ?_
            refine E_if_ne (pc := 4) (tgt := 17) ddX7_findFault_4 (by decide) (fun h => ?_) (fun h => ?_)
            · have k := k.1 h
              refine E_vret (pc := 17) ddX7_findFault_17 rfl ?_
              refine (show E mX7_readClause mc ms 43 [some (.ref 2), some (.ref p)] [] z I Q from ?_)
              exact E_vret (pc := 43) ddX7_readClause_43 rfl k
            · have k := k.2 h
              refine E_aload_n (pc := 7) (x := 2) ddX7_findFault_7 rfl rfl ?_
              refine E_iload_n (pc := 8) (x := 1) ddX7_findFault_8 rfl rfl ?_
              obtain ⟨I2, eI2⟩ : ∃ y : It, y = e_st I 2 3 1 := ⟨_, rfl⟩
              have k := k I2 eI2
              refine E_putI (pc := 9) ddX7_findFault_9 ec_6 3 (Nat.le_of_ble_eq_true rfl) rfl w_1_32 hr.s0 rfl rfl ?_
              rw [← eI2]
              refine E_aload_n (pc := 12) (x := 2) ddX7_findFault_12 rfl rfl ?_
              refine E_iload_n (pc := 13) (x := (I 2 4)) ddX7_findFault_13 rfl rfl ?_
              obtain ⟨I3, eI3⟩ : ∃ y : It, y = e_st I2 2 2 (I 2 4) := ⟨_, rfl⟩
              have k := k I3 eI3
              refine E_putI (pc := 14) ddX7_findFault_14 ec_6 2 (Nat.le_of_ble_eq_true rfl) rfl w_1_30 hr.s0 rfl rfl ?_
              rw [← eI3]
              refine E_vret (pc := 17) ddX7_findFault_17 rfl ?_
              refine (show E mX7_readClause mc ms 43 [some (.ref 2), some (.ref p)] [] z I3 Q from ?_)
              exact E_vret (pc := 43) ddX7_readClause_43 rfl k
          · have k := k.2 h
            refine E_aload_n (pc := 26) (x := 2) ddX7_readClause_26 rfl rfl ?_
            refine E_aload_n (pc := 27) (x := p) ddX7_readClause_27 rfl rfl ?_
            exact E_callV (pc := 28) (As := [.ref p]) (st := []) (a := 2) ddX7_readClause_28 hX7_readGate ⟨(Nat.le_of_ble_eq_true rfl), (Nat.le_of_ble_eq_true rfl)⟩ w_2_96 (ci := 6) rfl rfl hr.s0 rfl rfl (Nat.le_of_ble_eq_true rfl) (e_cc rfl e_cn) (Nat.le_of_ble_eq_true rfl) (E.mono k fun _ _ _ q => E.forget q trivial)
    · have k := k.2 h
      refine E_aload_n (pc := 18) (x := 2) ddX7_letterHere_18 rfl rfl ?_
      refine E_getR (pc := 19) (x := 3) ddX7_letterHere_19 ec_6 0 (Nat.le_of_ble_eq_true rfl) rfl w_1_27 hr.s0 hr.r0 (by decide) ?_
      refine E_aload_n (pc := 22) (x := 2) ddX7_letterHere_22 rfl rfl ?_
      refine E_getI (pc := 23) ddX7_letterHere_23 ec_6 4 (Nat.le_of_ble_eq_true rfl) rfl w_1_33 hr.s0 ?_
      obtain ⟨j1, ij1, lj1, k⟩ := k
      refine E_ialdN (pc := 26) (j := j1) ddX7_letterHere_26 hr.s1 ij1 lj1 (Nat.le_of_ble_eq_true rfl) ?_
      refine E_goto (pc := 27) (tgt := 31) ddX7_letterHere_27 (by decide) ?_
      refine E_iret (pc := 31) ddX7_letterHere_31 rfl ?_
      refine (show E mX7_readClause mc ms 4 [some (.ref 2), some (.ref p)] [.int (I 3 j1)] z I Q from ?_)
      refine E_bipush (pc := 4) (v := 119) ddX7_readClause_4 rfl ?_
      refine E_icmp_ne (pc := 6) (tgt := 17) ddX7_readClause_6 (by decide) (fun h => ?_) (fun h => ?_)
      · have k := k.1 h
        refine E_aload_n (pc := 17) (x := 2) ddX7_readClause_17 rfl rfl ?_
        refine E_callV (pc := 18) (As := []) (st := []) (a := 2) ddX7_readClause_18 hX7_letterHere ⟨(Nat.le_of_ble_eq_true rfl), (Nat.le_of_ble_eq_true rfl)⟩ w_2_65 (ci := 6) rfl rfl hr.s0 rfl rfl (Nat.le_of_ble_eq_true rfl) e_cn (Nat.le_of_ble_eq_true rfl) ?_
        refine (show E mX7_letterHere 0 0 0 [some (.ref 2)] [] z I _ from ?_)
        refine E_aload_n (pc := 0) (x := 2) ddX7_letterHere_0 rfl rfl ?_
        refine E_getI (pc := 1) ddX7_letterHere_1 ec_6 4 (Nat.le_of_ble_eq_true rfl) rfl w_1_33 hr.s0 ?_
        refine E_if_lt (pc := 4) (tgt := 30) ddX7_letterHere_4 (by decide) (fun h => ?_) (fun h => ?_)
        · have k := k.1 h
          refine E_iconst (pc := 30) (v := (-1)) ddX7_letterHere_30 rfl ?_
          refine E_iret (pc := 31) ddX7_letterHere_31 rfl ?_
          refine (show E mX7_readClause mc ms 21 [some (.ref 2), some (.ref p)] [.int (-1)] z I Q from ?_)
          refine E_bipush (pc := 21) (v := 103) ddX7_readClause_21 rfl ?_
          refine E_icmp_ne (pc := 23) (tgt := 34) ddX7_readClause_23 (by decide) (fun _ => ?_) (fun h => absurd h (by decide))
          refine E_aload_n (pc := 34) (x := 2) ddX7_readClause_34 rfl rfl ?_
          refine E_iconst (pc := 35) (v := 1) ddX7_readClause_35 rfl ?_
          refine E_aload_n (pc := 36) (x := 2) ddX7_readClause_36 rfl rfl ?_
          refine E_getI (pc := 37) ddX7_readClause_37 ec_6 4 (Nat.le_of_ble_eq_true rfl) rfl w_1_33 hr.s0 ?_
          refine E_callV (pc := 40) (As := [.int 1, .int (I 2 4)]) (st := []) (a := 2) ddX7_readClause_40 hX7_findFault ⟨(Nat.le_of_ble_eq_true rfl), (Nat.le_of_ble_eq_true rfl)⟩ w_2_77 (ci := 6) rfl rfl hr.s0 rfl rfl (Nat.le_of_ble_eq_true rfl) (e_cc rfl (e_cc rfl e_cn)) (Nat.le_of_ble_eq_true rfl) ?_
          refine (show E mX7_findFault 0 0 0 [some (.ref 2), some (.int 1), some (.int (I 2 4))] [] z I _ from ?_)
          refine E_aload_n (pc := 0) (x := 2) ddX7_findFault_0 rfl rfl ?_
          refine E_getI (pc := 1) ddX7_findFault_1 ec_6 3 (Nat.le_of_ble_eq_true rfl) rfl w_1_32 hr.s0 ?_
          refine E_if_ne (pc := 4) (tgt := 17) ddX7_findFault_4 (by decide) (fun h => ?_) (fun h => ?_)
          · have k := k.1 h
            refine E_vret (pc := 17) ddX7_findFault_17 rfl ?_
            refine (show E mX7_readClause mc ms 43 [some (.ref 2), some (.ref p)] [] z I Q from ?_)
            exact E_vret (pc := 43) ddX7_readClause_43 rfl k
          · have k := k.2 h
            refine E_aload_n (pc := 7) (x := 2) ddX7_findFault_7 rfl rfl ?_
            refine E_iload_n (pc := 8) (x := 1) ddX7_findFault_8 rfl rfl ?_
            obtain ⟨I2, eI2⟩ : ∃ y : It, y = e_st I 2 3 1 := ⟨_, rfl⟩
            have k := k I2 eI2
            refine E_putI (pc := 9) ddX7_findFault_9 ec_6 3 (Nat.le_of_ble_eq_true rfl) rfl w_1_32 hr.s0 rfl rfl ?_
            rw [← eI2]
            refine E_aload_n (pc := 12) (x := 2) ddX7_findFault_12 rfl rfl ?_
            refine E_iload_n (pc := 13) (x := (I 2 4)) ddX7_findFault_13 rfl rfl ?_
            obtain ⟨I3, eI3⟩ : ∃ y : It, y = e_st I2 2 2 (I 2 4) := ⟨_, rfl⟩
            have k := k I3 eI3
            refine E_putI (pc := 14) ddX7_findFault_14 ec_6 2 (Nat.le_of_ble_eq_true rfl) rfl w_1_30 hr.s0 rfl rfl ?_
            rw [← eI3]
            refine E_vret (pc := 17) ddX7_findFault_17 rfl ?_
            refine (show E mX7_readClause mc ms 43 [some (.ref 2), some (.ref p)] [] z I3 Q from ?_)
            exact E_vret (pc := 43) ddX7_readClause_43 rfl k
        · have k := k.2 h
          refine E_aload_n (pc := 7) (x := 2) ddX7_letterHere_7 rfl rfl ?_
          refine E_getI (pc := 8) ddX7_letterHere_8 ec_6 4 (Nat.le_of_ble_eq_true rfl) rfl w_1_33 hr.s0 ?_
          refine E_aload_n (pc := 11) (x := 2) ddX7_letterHere_11 rfl rfl ?_
          refine E_getI (pc := 12) ddX7_letterHere_12 ec_6 1 (Nat.le_of_ble_eq_true rfl) rfl w_1_28 hr.s0 ?_
          refine E_icmp_ge (pc := 15) (tgt := 30) ddX7_letterHere_15 (by decide) (fun h => ?_) (fun h => ?_)
          · have k := k.1 h
            refine E_iconst (pc := 30) (v := (-1)) ddX7_letterHere_30 rfl ?_
            refine E_iret (pc := 31) ddX7_letterHere_31 rfl ?_
            refine (show E mX7_readClause mc ms 21 [some (.ref 2), some (.ref p)] [.int (-1)] z I Q from ?_)
            refine E_bipush (pc := 21) (v := 103) ddX7_readClause_21 rfl ?_
            refine E_icmp_ne (pc := 23) (tgt := 34) ddX7_readClause_23 (by decide) (fun _ => ?_) (fun h => absurd h (by decide))
            refine E_aload_n (pc := 34) (x := 2) ddX7_readClause_34 rfl rfl ?_
            refine E_iconst (pc := 35) (v := 1) ddX7_readClause_35 rfl ?_
            refine E_aload_n (pc := 36) (x := 2) ddX7_readClause_36 rfl rfl ?_
            refine E_getI (pc := 37) ddX7_readClause_37 ec_6 4 (Nat.le_of_ble_eq_true rfl) rfl w_1_33 hr.s0 ?_
            refine E_callV (pc := 40) (As := [.int 1, .int (I 2 4)]) (st := []) (a := 2) ddX7_readClause_40 hX7_findFault ⟨(Nat.le_of_ble_eq_true rfl), (Nat.le_of_ble_eq_true rfl)⟩ w_2_77 (ci := 6) rfl rfl hr.s0 rfl rfl (Nat.le_of_ble_eq_true rfl) (e_cc rfl (e_cc rfl e_cn)) (Nat.le_of_ble_eq_true rfl) ?_
            refine (show E mX7_findFault 0 0 0 [some (.ref 2), some (.int 1), some (.int (I 2 4))] [] z I _ from ?_)
            refine E_aload_n (pc := 0) (x := 2) ddX7_findFault_0 rfl rfl ?_
            refine E_getI (pc := 1) ddX7_findFault_1 ec_6 3 (Nat.le_of_ble_eq_true rfl) rfl w_1_32 hr.s0 ?_
            refine E_if_ne (pc := 4) (tgt := 17) ddX7_findFault_4 (by decide) (fun h => ?_) (fun h => ?_)
            · have k := k.1 h
              refine E_vret (pc := 17) ddX7_findFault_17 rfl ?_
              refine (show E mX7_readClause mc ms 43 [some (.ref 2), some (.ref p)] [] z I Q from ?_)
              exact E_vret (pc := 43) ddX7_readClause_43 rfl k
            · have k := k.2 h
              refine E_aload_n (pc := 7) (x := 2) ddX7_findFault_7 rfl rfl ?_
              refine E_iload_n (pc := 8) (x := 1) ddX7_findFault_8 rfl rfl ?_
              obtain ⟨I2, eI2⟩ : ∃ y : It, y = e_st I 2 3 1 := ⟨_, rfl⟩
              have k := k I2 eI2
              refine E_putI (pc := 9) ddX7_findFault_9 ec_6 3 (Nat.le_of_ble_eq_true rfl) rfl w_1_32 hr.s0 rfl rfl ?_
              rw [← eI2]
              refine E_aload_n (pc := 12) (x := 2) ddX7_findFault_12 rfl rfl ?_
              refine E_iload_n (pc := 13) (x := (I 2 4)) ddX7_findFault_13 rfl rfl ?_
              obtain ⟨I3, eI3⟩ : ∃ y : It, y = e_st I2 2 2 (I 2 4) := ⟨_, rfl⟩
              have k := k I3 eI3
              refine E_putI (pc := 14) ddX7_findFault_14 ec_6 2 (Nat.le_of_ble_eq_true rfl) rfl w_1_30 hr.s0 rfl rfl ?_
              rw [← eI3]
              refine E_vret (pc := 17) ddX7_findFault_17 rfl ?_
              refine (show E mX7_readClause mc ms 43 [some (.ref 2), some (.ref p)] [] z I3 Q from ?_)
              exact E_vret (pc := 43) ddX7_readClause_43 rfl k
          · have k := k.2 h
            refine E_aload_n (pc := 18) (x := 2) ddX7_letterHere_18 rfl rfl ?_
            refine E_getR (pc := 19) (x := 3) ddX7_letterHere_19 ec_6 0 (Nat.le_of_ble_eq_true rfl) rfl w_1_27 hr.s0 hr.r0 (by decide) ?_
            refine E_aload_n (pc := 22) (x := 2) ddX7_letterHere_22 rfl rfl ?_
            refine E_getI (pc := 23) ddX7_letterHere_23 ec_6 4 (Nat.le_of_ble_eq_true rfl) rfl w_1_33 hr.s0 ?_
            refine E_ialdN (pc := 26) (j := j1) ddX7_letterHere_26 hr.s1 ij1 lj1 (Nat.le_of_ble_eq_true rfl) ?_
            refine E_goto (pc := 27) (tgt := 31) ddX7_letterHere_27 (by decide) ?_
            refine E_iret (pc := 31) ddX7_letterHere_31 rfl ?_
            refine (show E mX7_readClause mc ms 21 [some (.ref 2), some (.ref p)] [.int (I 3 j1)] z I Q from ?_)
            refine E_bipush (pc := 21) (v := 103) ddX7_readClause_21 rfl ?_
            refine E_icmp_ne (pc := 23) (tgt := 34) ddX7_readClause_23 (by decide) (fun h => ?_) (fun h => ?_)
            · have k := k.1 h
              refine E_aload_n (pc := 34) (x := 2) ddX7_readClause_34 rfl rfl ?_
              refine E_iconst (pc := 35) (v := 1) ddX7_readClause_35 rfl ?_
              refine E_aload_n (pc := 36) (x := 2) ddX7_readClause_36 rfl rfl ?_
              refine E_getI (pc := 37) ddX7_readClause_37 ec_6 4 (Nat.le_of_ble_eq_true rfl) rfl w_1_33 hr.s0 ?_
              refine E_callV (pc := 40) (As := [.int 1, .int (I 2 4)]) (st := []) (a := 2) ddX7_readClause_40 hX7_findFault ⟨(Nat.le_of_ble_eq_true rfl), (Nat.le_of_ble_eq_true rfl)⟩ w_2_77 (ci := 6) rfl rfl hr.s0 rfl rfl (Nat.le_of_ble_eq_true rfl) (e_cc rfl (e_cc rfl e_cn)) (Nat.le_of_ble_eq_true rfl) ?_
              refine (show E mX7_findFault 0 0 0 [some (.ref 2), some (.int 1), some (.int (I 2 4))] [] z I _ from ?_)
              refine E_aload_n (pc := 0) (x := 2) ddX7_findFault_0 rfl rfl ?_
              refine E_getI (pc := 1) ddX7_findFault_1 ec_6 3 (Nat.le_of_ble_eq_true rfl) rfl w_1_32 hr.s0 ?_
              refine E_if_ne (pc := 4) (tgt := 17) ddX7_findFault_4 (by decide) (fun h => ?_) (fun h => ?_)
              · have k := k.1 h
                refine E_vret (pc := 17) ddX7_findFault_17 rfl ?_
                refine (show E mX7_readClause mc ms 43 [some (.ref 2), some (.ref p)] [] z I Q from ?_)
                exact E_vret (pc := 43) ddX7_readClause_43 rfl k
              · have k := k.2 h
                refine E_aload_n (pc := 7) (x := 2) ddX7_findFault_7 rfl rfl ?_
                refine E_iload_n (pc := 8) (x := 1) ddX7_findFault_8 rfl rfl ?_
                obtain ⟨I2, eI2⟩ : ∃ y : It, y = e_st I 2 3 1 := ⟨_, rfl⟩
                have k := k I2 eI2
                refine E_putI (pc := 9) ddX7_findFault_9 ec_6 3 (Nat.le_of_ble_eq_true rfl) rfl w_1_32 hr.s0 rfl rfl ?_
                rw [← eI2]
                refine E_aload_n (pc := 12) (x := 2) ddX7_findFault_12 rfl rfl ?_
                refine E_iload_n (pc := 13) (x := (I 2 4)) ddX7_findFault_13 rfl rfl ?_
                obtain ⟨I3, eI3⟩ : ∃ y : It, y = e_st I2 2 2 (I 2 4) := ⟨_, rfl⟩
                have k := k I3 eI3
                refine E_putI (pc := 14) ddX7_findFault_14 ec_6 2 (Nat.le_of_ble_eq_true rfl) rfl w_1_30 hr.s0 rfl rfl ?_
                rw [← eI3]
                refine E_vret (pc := 17) ddX7_findFault_17 rfl ?_
                refine (show E mX7_readClause mc ms 43 [some (.ref 2), some (.ref p)] [] z I3 Q from ?_)
                exact E_vret (pc := 43) ddX7_readClause_43 rfl k
            · have k := k.2 h
              refine E_aload_n (pc := 26) (x := 2) ddX7_readClause_26 rfl rfl ?_
              refine E_aload_n (pc := 27) (x := p) ddX7_readClause_27 rfl rfl ?_
              exact E_callV (pc := 28) (As := [.ref p]) (st := []) (a := 2) ddX7_readClause_28 hX7_readGate ⟨(Nat.le_of_ble_eq_true rfl), (Nat.le_of_ble_eq_true rfl)⟩ w_2_96 (ci := 6) rfl rfl hr.s0 rfl rfl (Nat.le_of_ble_eq_true rfl) (e_cc rfl e_cn) (Nat.le_of_ble_eq_true rfl) (E.mono k fun _ _ _ q => E.forget q trivial)
      · have k := k.2 h
        refine E_aload_n (pc := 9) (x := 2) ddX7_readClause_9 rfl rfl ?_
        refine E_aload_n (pc := 10) (x := p) ddX7_readClause_10 rfl rfl ?_
        exact E_callV (pc := 11) (As := [.ref p]) (st := []) (a := 2) ddX7_readClause_11 hX7_readWire ⟨(Nat.le_of_ble_eq_true rfl), (Nat.le_of_ble_eq_true rfl)⟩ w_2_73 (ci := 6) rfl rfl hr.s0 rfl rfl (Nat.le_of_ble_eq_true rfl) (e_cc rfl e_cn) (Nat.le_of_ble_eq_true rfl) (E.mono k fun _ _ _ q => E.forget q trivial)
set_option maxRecDepth 100000 in
set_option maxHeartbeats 4000000 in
theorem B_X7_readClause_31 {mc ms : Nat} {z : Zt} {I : It} {Q : Option Value → Zt → It → Prop}
    (k : Q none z I) :
    E mX7_readClause mc ms 31 [none, none] [] z I Q := by
  refine E_goto (pc := 31) (tgt := 43) ddX7_readClause_31 (by decide) ?_
  exact E_vret (pc := 43) ddX7_readClause_43 rfl k
set_option maxRecDepth 100000 in
set_option maxHeartbeats 4000000 in
theorem B_X7_readClause_14 {mc ms : Nat} {z : Zt} {I : It} {Q : Option Value → Zt → It → Prop}
    (k : Q none z I) :
    E mX7_readClause mc ms 14 [none, none] [] z I Q := by
  refine E_goto (pc := 14) (tgt := 43) ddX7_readClause_14 (by decide) ?_
  exact E_vret (pc := 43) ddX7_readClause_43 rfl k
/-! X7_readWire, labels [34, 39] -/
set_option maxRecDepth 100000 in
set_option maxHeartbeats 4000000 in
theorem B_X7_readWire_0 {mc ms : Nat} {z : Zt} {I : It} {Q : Option Value → Zt → It → Prop} {p : Nat} (hr : isRd z) (hp : isP z p)
    (k : (((I p 0) < 8) → ∀ I1 : It, I1 = e_st I 2 4 ((I 2 4) + 1) → E mX7_readNumber 0 0 0 [some (.ref 2), some (.int 3), none, none] [] z I1 (fun r z' I' => E mX7_readWire mc ms 34 [some (.ref 2), some (.ref p), none] (r.toList ++ []) z' I' Q)) ∧
    ((¬ (I p 0) < 8) → ((¬ (I 2 3) = 0) → Q none z I) ∧
    (((I 2 3) = 0) → ∀ I1 : It, I1 = e_st I 2 3 3 → ∀ I2 : It, I2 = e_st I1 2 2 (I 2 4) → Q none z I2))) :
    E mX7_readWire mc ms 0 [some (.ref 2), some (.ref p), none] [] z I Q := by
  refine E_aload_n (pc := 0) (x := p) ddX7_readWire_0 rfl rfl ?_
  refine E_getI (pc := 1) ddX7_readWire_1 ec_5 0 (Nat.le_of_ble_eq_true rfl) rfl w_1_57 hp.s0 ?_
  refine E_bipush (pc := 4) (v := 8) ddX7_readWire_4 rfl ?_
  refine E_icmp_lt (pc := 6) (tgt := 19) ddX7_readWire_6 (by decide) (fun h => ?_) (fun h => ?_)
  · have k := k.1 h
    refine E_aload_n (pc := 19) (x := 2) ddX7_readWire_19 rfl rfl ?_
    refine E_dupr (pc := 20) ddX7_readWire_20 ?_
    refine E_getI (pc := 21) ddX7_readWire_21 ec_6 4 (Nat.le_of_ble_eq_true rfl) rfl w_1_33 hr.s0 ?_
    refine E_iconst (pc := 24) (v := 1) ddX7_readWire_24 rfl ?_
    refine E_iadd (pc := 25) ddX7_readWire_25 ?_
    obtain ⟨I1, eI1⟩ : ∃ y : It, y = e_st I 2 4 ((I 2 4) + 1) := ⟨_, rfl⟩
    have k := k I1 eI1
    refine E_putI (pc := 26) ddX7_readWire_26 ec_6 4 (Nat.le_of_ble_eq_true rfl) rfl w_1_33 hr.s0 rfl rfl ?_
    rw [← eI1]
    refine E_aload_n (pc := 29) (x := 2) ddX7_readWire_29 rfl rfl ?_
    refine E_iconst (pc := 30) (v := 3) ddX7_readWire_30 rfl ?_
    exact E_callV (pc := 31) (As := [.int 3]) (st := []) (a := 2) ddX7_readWire_31 hX7_readNumber ⟨(Nat.le_of_ble_eq_true rfl), (Nat.le_of_ble_eq_true rfl)⟩ w_2_81 (ci := 6) rfl rfl hr.s0 rfl rfl (Nat.le_of_ble_eq_true rfl) (e_cc rfl e_cn) (Nat.le_of_ble_eq_true rfl) k
  · have k := k.2 h
    refine E_aload_n (pc := 9) (x := 2) ddX7_readWire_9 rfl rfl ?_
    refine E_iconst (pc := 10) (v := 3) ddX7_readWire_10 rfl ?_
    refine E_aload_n (pc := 11) (x := 2) ddX7_readWire_11 rfl rfl ?_
    refine E_getI (pc := 12) ddX7_readWire_12 ec_6 4 (Nat.le_of_ble_eq_true rfl) rfl w_1_33 hr.s0 ?_
    refine E_callV (pc := 15) (As := [.int 3, .int (I 2 4)]) (st := []) (a := 2) ddX7_readWire_15 hX7_findFault ⟨(Nat.le_of_ble_eq_true rfl), (Nat.le_of_ble_eq_true rfl)⟩ w_2_77 (ci := 6) rfl rfl hr.s0 rfl rfl (Nat.le_of_ble_eq_true rfl) (e_cc rfl (e_cc rfl e_cn)) (Nat.le_of_ble_eq_true rfl) ?_
    refine (show E mX7_findFault 0 0 0 [some (.ref 2), some (.int 3), some (.int (I 2 4))] [] z I _ from ?_)
    refine E_aload_n (pc := 0) (x := 2) ddX7_findFault_0 rfl rfl ?_
    refine E_getI (pc := 1) ddX7_findFault_1 ec_6 3 (Nat.le_of_ble_eq_true rfl) rfl w_1_32 hr.s0 ?_
    refine E_if_ne (pc := 4) (tgt := 17) ddX7_findFault_4 (by decide) (fun h => ?_) (fun h => ?_)
    · have k := k.1 h
      refine E_vret (pc := 17) ddX7_findFault_17 rfl ?_
      refine (show E mX7_readWire mc ms 18 [some (.ref 2), some (.ref p), none] [] z I Q from ?_)
      exact E_vret (pc := 18) ddX7_readWire_18 rfl k
    · have k := k.2 h
      refine E_aload_n (pc := 7) (x := 2) ddX7_findFault_7 rfl rfl ?_
      refine E_iload_n (pc := 8) (x := 3) ddX7_findFault_8 rfl rfl ?_
      obtain ⟨I1, eI1⟩ : ∃ y : It, y = e_st I 2 3 3 := ⟨_, rfl⟩
      have k := k I1 eI1
      refine E_putI (pc := 9) ddX7_findFault_9 ec_6 3 (Nat.le_of_ble_eq_true rfl) rfl w_1_32 hr.s0 rfl rfl ?_
      rw [← eI1]
      refine E_aload_n (pc := 12) (x := 2) ddX7_findFault_12 rfl rfl ?_
      refine E_iload_n (pc := 13) (x := (I 2 4)) ddX7_findFault_13 rfl rfl ?_
      obtain ⟨I2, eI2⟩ : ∃ y : It, y = e_st I1 2 2 (I 2 4) := ⟨_, rfl⟩
      have k := k I2 eI2
      refine E_putI (pc := 14) ddX7_findFault_14 ec_6 2 (Nat.le_of_ble_eq_true rfl) rfl w_1_30 hr.s0 rfl rfl ?_
      rw [← eI2]
      refine E_vret (pc := 17) ddX7_findFault_17 rfl ?_
      refine (show E mX7_readWire mc ms 18 [some (.ref 2), some (.ref p), none] [] z I2 Q from ?_)
      exact E_vret (pc := 18) ddX7_readWire_18 rfl k
set_option maxRecDepth 100000 in
set_option maxHeartbeats 4000000 in
theorem B_X7_readWire_34 {mc ms : Nat} {z : Zt} {I : It} {Q : Option Value → Zt → It → Prop} {y0 : Int32} {p : Nat} (hr : isRd z) (hp : isP z p)
    (k : E mX7_readEnd 0 0 0 [some (.ref 2)] [] z I (fun r z' I' => E mX7_readWire mc ms 39 [some (.ref 2), some (.ref p), some (.int y0)] (r.toList ++ []) z' I' Q)) :
    E mX7_readWire mc ms 34 [some (.ref 2), some (.ref p), none] [.int y0] z I Q := by
  refine E_istore_n (pc := 34) (ls' := [some (.ref 2), some (.ref p), some (.int y0)]) ddX7_readWire_34 rfl (Nat.le_of_ble_eq_true rfl) rfl rfl ?_
  refine E_aload_n (pc := 35) (x := 2) ddX7_readWire_35 rfl rfl ?_
  exact E_callV (pc := 36) (As := []) (st := []) (a := 2) ddX7_readWire_36 hX7_readEnd ⟨(Nat.le_of_ble_eq_true rfl), (Nat.le_of_ble_eq_true rfl)⟩ w_2_88 (ci := 6) rfl rfl hr.s0 rfl rfl (Nat.le_of_ble_eq_true rfl) e_cn (Nat.le_of_ble_eq_true rfl) k
set_option maxRecDepth 100000 in
set_option maxHeartbeats 4000000 in
theorem B_X7_readWire_39 {mc ms : Nat} {z : Zt} {I : It} {Q : Option Value → Zt → It → Prop} {x2 : Int32} {p : Nat} (hr : isRd z) (hp : isP z p)
    (k : ((¬ (I 2 3) = 0) → Q none z I) ∧
    (((I 2 3) = 0) → ((8 ≤ (I p 0)) → Q none z I) ∧
    ((¬ 8 ≤ (I p 0)) → ∃ j1 : Nat, (I p 0) = nI j1 ∧ j1 < 8 ∧ ∀ I2 : It, I2 = e_st I (p + 1) j1 x2 → ∀ I3 : It, I3 = e_st I2 p 0 ((I2 p 0) + 1) → Q none z I3))) :
    E mX7_readWire mc ms 39 [some (.ref 2), some (.ref p), some (.int x2)] [] z I Q := by
  refine E_aload_n (pc := 39) (x := 2) ddX7_readWire_39 rfl rfl ?_
  refine E_getI (pc := 40) ddX7_readWire_40 ec_6 3 (Nat.le_of_ble_eq_true rfl) rfl w_1_32 hr.s0 ?_
  refine E_if_ne (pc := 43) (tgt := 51) ddX7_readWire_43 (by decide) (fun h => ?_) (fun h => ?_)
  · have k := k.1 h
    exact E_vret (pc := 51) ddX7_readWire_51 rfl k
  · have k := k.2 h
    refine E_aload_n (pc := 46) (x := p) ddX7_readWire_46 rfl rfl ?_
    refine E_iload_n (pc := 47) (x := x2) ddX7_readWire_47 rfl rfl ?_
    refine E_callV (pc := 48) (As := [.int x2]) (st := []) (a := p) ddX7_readWire_48 hX6_addWire ⟨(Nat.le_of_ble_eq_true rfl), (Nat.le_of_ble_eq_true rfl)⟩ w_2_92 (ci := 5) rfl rfl hp.s0 rfl rfl (Nat.le_of_ble_eq_true rfl) (e_cc rfl e_cn) (Nat.le_of_ble_eq_true rfl) ?_
    refine (show E mX6_addWire 0 0 0 [some (.ref p), some (.int x2)] [] z I _ from ?_)
    refine E_aload_n (pc := 0) (x := p) ddX6_addWire_0 rfl rfl ?_
    refine E_getI (pc := 1) ddX6_addWire_1 ec_5 0 (Nat.le_of_ble_eq_true rfl) rfl w_1_55 hp.s0 ?_
    refine E_bipush (pc := 4) (v := 8) ddX6_addWire_4 rfl ?_
    refine E_icmp_ge (pc := 6) (tgt := 29) ddX6_addWire_6 (by decide) (fun h => ?_) (fun h => ?_)
    · have k := k.1 h
      refine E_vret (pc := 29) ddX6_addWire_29 rfl ?_
      refine (show E mX7_readWire mc ms 51 [some (.ref 2), some (.ref p), some (.int x2)] [] z I Q from ?_)
      exact E_vret (pc := 51) ddX7_readWire_51 rfl k
    · have k := k.2 h
      refine E_aload_n (pc := 9) (x := p) ddX6_addWire_9 rfl rfl ?_
      refine E_getR (pc := 10) (x := (p + 1)) ddX6_addWire_10 ec_5 2 (Nat.le_of_ble_eq_true rfl) rfl w_1_63 hp.s0 hp.r2 (Nat.succ_ne_zero _) ?_
      refine E_aload_n (pc := 13) (x := p) ddX6_addWire_13 rfl rfl ?_
      refine E_getI (pc := 14) ddX6_addWire_14 ec_5 0 (Nat.le_of_ble_eq_true rfl) rfl w_1_55 hp.s0 ?_
      refine E_iload_n (pc := 17) (x := x2) ddX6_addWire_17 rfl rfl ?_
      obtain ⟨j1, ij1, lj1, k⟩ := k
      obtain ⟨I2, eI2⟩ : ∃ y : It, y = e_st I (p + 1) j1 x2 := ⟨_, rfl⟩
      have k := k I2 eI2
      refine E_iastN (pc := 18) (j := j1) ddX6_addWire_18 hp.s1 (Nat.succ_ne_zero _) ij1 lj1 (Nat.le_of_ble_eq_true rfl) ?_
      rw [← eI2]
      refine E_aload_n (pc := 19) (x := p) ddX6_addWire_19 rfl rfl ?_
      refine E_dupr (pc := 20) ddX6_addWire_20 ?_
      refine E_getI (pc := 21) ddX6_addWire_21 ec_5 0 (Nat.le_of_ble_eq_true rfl) rfl w_1_55 hp.s0 ?_
      refine E_iconst (pc := 24) (v := 1) ddX6_addWire_24 rfl ?_
      refine E_iadd (pc := 25) ddX6_addWire_25 ?_
      obtain ⟨I3, eI3⟩ : ∃ y : It, y = e_st I2 p 0 ((I2 p 0) + 1) := ⟨_, rfl⟩
      have k := k I3 eI3
      refine E_putI (pc := 26) ddX6_addWire_26 ec_5 0 (Nat.le_of_ble_eq_true rfl) rfl w_1_55 hp.s0 rfl rfl ?_
      rw [← eI3]
      refine E_vret (pc := 29) ddX6_addWire_29 rfl ?_
      refine (show E mX7_readWire mc ms 51 [some (.ref 2), some (.ref p), some (.int x2)] [] z I3 Q from ?_)
      exact E_vret (pc := 51) ddX7_readWire_51 rfl k
/-! X7_readGate, labels [48, 59, 70, 81, 93, 108, 140, 145] -/
set_option maxRecDepth 100000 in
set_option maxHeartbeats 4000000 in
theorem B_X7_readGate_0 {mc ms : Nat} {z : Zt} {I : It} {Q : Option Value → Zt → It → Prop} {p : Nat} (hr : isRd z) (hp : isP z p)
    (k : ∀ v1 : Int32, v1 = (I p 1) → ((v1 < 8) → ∀ I2 : It, I2 = e_st I 2 4 ((I 2 4) + 1) → ∀ v3 : Int32, v3 = ((I2 p 0) - 1) → E mX7_readNumber 0 0 0 [some (.ref 2), some (.int 5), none, none] [] z I2 (fun r z' I' => E mX7_readGate mc ms 48 [some (.ref 2), some (.ref p), some (.int v1), some (.int v3)] (r.toList ++ [.int v1, .ref (p + 2)]) z' I' Q)) ∧
    ((¬ v1 < 8) → ((¬ (I 2 3) = 0) → Q none z I) ∧
    (((I 2 3) = 0) → ∀ I2 : It, I2 = e_st I 2 3 3 → ∀ I3 : It, I3 = e_st I2 2 2 (I 2 4) → Q none z I3))) :
    E mX7_readGate mc ms 0 [some (.ref 2), some (.ref p), none, none] [] z I Q := by
  refine E_aload_n (pc := 0) (x := p) ddX7_readGate_0 rfl rfl ?_
  refine E_getI (pc := 1) ddX7_readGate_1 ec_5 1 (Nat.le_of_ble_eq_true rfl) rfl w_1_62 hp.s0 ?_
  obtain ⟨v1, ev1⟩ : ∃ y : Int32, y = (I p 1) := ⟨_, rfl⟩
  have k := k v1 ev1
  rw [← ev1]
  refine E_istore_n (pc := 4) (ls' := [some (.ref 2), some (.ref p), some (.int v1), none]) ddX7_readGate_4 rfl (Nat.le_of_ble_eq_true rfl) rfl rfl ?_
  refine E_iload_n (pc := 5) (x := v1) ddX7_readGate_5 rfl rfl ?_
  refine E_bipush (pc := 6) (v := 8) ddX7_readGate_6 rfl ?_
  refine E_icmp_lt (pc := 8) (tgt := 21) ddX7_readGate_8 (by decide) (fun h => ?_) (fun h => ?_)
  · have k := k.1 h
    refine E_aload_n (pc := 21) (x := 2) ddX7_readGate_21 rfl rfl ?_
    refine E_dupr (pc := 22) ddX7_readGate_22 ?_
    refine E_getI (pc := 23) ddX7_readGate_23 ec_6 4 (Nat.le_of_ble_eq_true rfl) rfl w_1_33 hr.s0 ?_
    refine E_iconst (pc := 26) (v := 1) ddX7_readGate_26 rfl ?_
    refine E_iadd (pc := 27) ddX7_readGate_27 ?_
    obtain ⟨I2, eI2⟩ : ∃ y : It, y = e_st I 2 4 ((I 2 4) + 1) := ⟨_, rfl⟩
    have k := k I2 eI2
    refine E_putI (pc := 28) ddX7_readGate_28 ec_6 4 (Nat.le_of_ble_eq_true rfl) rfl w_1_33 hr.s0 rfl rfl ?_
    rw [← eI2]
    refine E_aload_n (pc := 31) (x := p) ddX7_readGate_31 rfl rfl ?_
    refine E_getI (pc := 32) ddX7_readGate_32 ec_5 0 (Nat.le_of_ble_eq_true rfl) rfl w_1_57 hp.s0 ?_
    refine E_iconst (pc := 35) (v := 1) ddX7_readGate_35 rfl ?_
    refine E_isub (pc := 36) ddX7_readGate_36 ?_
    obtain ⟨v3, ev3⟩ : ∃ y : Int32, y = ((I2 p 0) - 1) := ⟨_, rfl⟩
    have k := k v3 ev3
    rw [← ev3]
    refine E_istore_n (pc := 37) (ls' := [some (.ref 2), some (.ref p), some (.int v1), some (.int v3)]) ddX7_readGate_37 rfl (Nat.le_of_ble_eq_true rfl) rfl rfl ?_
    refine E_aload_n (pc := 38) (x := p) ddX7_readGate_38 rfl rfl ?_
    refine E_getR (pc := 39) (x := (p + 2)) ddX7_readGate_39 ec_5 3 (Nat.le_of_ble_eq_true rfl) rfl w_1_67 hp.s0 hp.r3 (Nat.succ_ne_zero _) ?_
    refine E_iload_n (pc := 42) (x := v1) ddX7_readGate_42 rfl rfl ?_
    refine E_aload_n (pc := 43) (x := 2) ddX7_readGate_43 rfl rfl ?_
    refine E_iconst (pc := 44) (v := 5) ddX7_readGate_44 rfl ?_
    exact E_callV (pc := 45) (As := [.int 5]) (st := [.int v1, .ref (p + 2)]) (a := 2) ddX7_readGate_45 hX7_readNumber ⟨(Nat.le_of_ble_eq_true rfl), (Nat.le_of_ble_eq_true rfl)⟩ w_2_81 (ci := 6) rfl rfl hr.s0 rfl rfl (Nat.le_of_ble_eq_true rfl) (e_cc rfl e_cn) (Nat.le_of_ble_eq_true rfl) k
  · have k := k.2 h
    refine E_aload_n (pc := 11) (x := 2) ddX7_readGate_11 rfl rfl ?_
    refine E_iconst (pc := 12) (v := 3) ddX7_readGate_12 rfl ?_
    refine E_aload_n (pc := 13) (x := 2) ddX7_readGate_13 rfl rfl ?_
    refine E_getI (pc := 14) ddX7_readGate_14 ec_6 4 (Nat.le_of_ble_eq_true rfl) rfl w_1_33 hr.s0 ?_
    refine E_callV (pc := 17) (As := [.int 3, .int (I 2 4)]) (st := []) (a := 2) ddX7_readGate_17 hX7_findFault ⟨(Nat.le_of_ble_eq_true rfl), (Nat.le_of_ble_eq_true rfl)⟩ w_2_77 (ci := 6) rfl rfl hr.s0 rfl rfl (Nat.le_of_ble_eq_true rfl) (e_cc rfl (e_cc rfl e_cn)) (Nat.le_of_ble_eq_true rfl) ?_
    refine (show E mX7_findFault 0 0 0 [some (.ref 2), some (.int 3), some (.int (I 2 4))] [] z I _ from ?_)
    refine E_aload_n (pc := 0) (x := 2) ddX7_findFault_0 rfl rfl ?_
    refine E_getI (pc := 1) ddX7_findFault_1 ec_6 3 (Nat.le_of_ble_eq_true rfl) rfl w_1_32 hr.s0 ?_
    refine E_if_ne (pc := 4) (tgt := 17) ddX7_findFault_4 (by decide) (fun h => ?_) (fun h => ?_)
    · have k := k.1 h
      refine E_vret (pc := 17) ddX7_findFault_17 rfl ?_
      refine (show E mX7_readGate mc ms 20 [some (.ref 2), some (.ref p), some (.int v1), none] [] z I Q from ?_)
      exact E_vret (pc := 20) ddX7_readGate_20 rfl k
    · have k := k.2 h
      refine E_aload_n (pc := 7) (x := 2) ddX7_findFault_7 rfl rfl ?_
      refine E_iload_n (pc := 8) (x := 3) ddX7_findFault_8 rfl rfl ?_
      obtain ⟨I2, eI2⟩ : ∃ y : It, y = e_st I 2 3 3 := ⟨_, rfl⟩
      have k := k I2 eI2
      refine E_putI (pc := 9) ddX7_findFault_9 ec_6 3 (Nat.le_of_ble_eq_true rfl) rfl w_1_32 hr.s0 rfl rfl ?_
      rw [← eI2]
      refine E_aload_n (pc := 12) (x := 2) ddX7_findFault_12 rfl rfl ?_
      refine E_iload_n (pc := 13) (x := (I 2 4)) ddX7_findFault_13 rfl rfl ?_
      obtain ⟨I3, eI3⟩ : ∃ y : It, y = e_st I2 2 2 (I 2 4) := ⟨_, rfl⟩
      have k := k I3 eI3
      refine E_putI (pc := 14) ddX7_findFault_14 ec_6 2 (Nat.le_of_ble_eq_true rfl) rfl w_1_30 hr.s0 rfl rfl ?_
      rw [← eI3]
      refine E_vret (pc := 17) ddX7_findFault_17 rfl ?_
      refine (show E mX7_readGate mc ms 20 [some (.ref 2), some (.ref p), some (.int v1), none] [] z I3 Q from ?_)
      exact E_vret (pc := 20) ddX7_readGate_20 rfl k
set_option maxRecDepth 100000 in
set_option maxHeartbeats 4000000 in
theorem B_X7_readGate_48 {mc ms : Nat} {z : Zt} {I : It} {Q : Option Value → Zt → It → Prop} {x2 x3 y0 y1 : Int32} {p : Nat} (hr : isRd z) (hp : isP z p)
    (k : ∃ j1 : Nat, y1 = nI j1 ∧ j1 < 8 ∧ ∀ I2 : It, I2 = e_st I (p + 2) j1 y0 → E mX7_readNumber 0 0 0 [some (.ref 2), some (.int x3), none, none] [] z I2 (fun r z' I' => E mX7_readGate mc ms 59 [some (.ref 2), some (.ref p), some (.int x2), some (.int x3)] (r.toList ++ [.int x2, .ref (p + 3)]) z' I' Q)) :
    E mX7_readGate mc ms 48 [some (.ref 2), some (.ref p), some (.int x2), some (.int x3)] [.int y0, .int y1, .ref (p + 2)] z I Q := by
  obtain ⟨j1, ij1, lj1, k⟩ := k
  obtain ⟨I2, eI2⟩ : ∃ y : It, y = e_st I (p + 2) j1 y0 := ⟨_, rfl⟩
  have k := k I2 eI2
  refine E_iastN (pc := 48) (j := j1) ddX7_readGate_48 hp.s2 (Nat.succ_ne_zero _) ij1 lj1 (Nat.le_of_ble_eq_true rfl) ?_
  rw [← eI2]
  refine E_aload_n (pc := 49) (x := p) ddX7_readGate_49 rfl rfl ?_
  refine E_getR (pc := 50) (x := (p + 3)) ddX7_readGate_50 ec_5 4 (Nat.le_of_ble_eq_true rfl) rfl w_1_71 hp.s0 hp.r4 (Nat.succ_ne_zero _) ?_
  refine E_iload_n (pc := 53) (x := x2) ddX7_readGate_53 rfl rfl ?_
  refine E_aload_n (pc := 54) (x := 2) ddX7_readGate_54 rfl rfl ?_
  refine E_iload_n (pc := 55) (x := x3) ddX7_readGate_55 rfl rfl ?_
  exact E_callV (pc := 56) (As := [.int x3]) (st := [.int x2, .ref (p + 3)]) (a := 2) ddX7_readGate_56 hX7_readNumber ⟨(Nat.le_of_ble_eq_true rfl), (Nat.le_of_ble_eq_true rfl)⟩ w_2_81 (ci := 6) rfl rfl hr.s0 rfl rfl (Nat.le_of_ble_eq_true rfl) (e_cc rfl e_cn) (Nat.le_of_ble_eq_true rfl) k
set_option maxRecDepth 100000 in
set_option maxHeartbeats 4000000 in
theorem B_X7_readGate_59 {mc ms : Nat} {z : Zt} {I : It} {Q : Option Value → Zt → It → Prop} {x2 x3 y0 y1 : Int32} {p : Nat} (hr : isRd z) (hp : isP z p)
    (k : ∃ j1 : Nat, y1 = nI j1 ∧ j1 < 8 ∧ ∀ I2 : It, I2 = e_st I (p + 3) j1 y0 → E mX7_readNumber 0 0 0 [some (.ref 2), some (.int x3), none, none] [] z I2 (fun r z' I' => E mX7_readGate mc ms 70 [some (.ref 2), some (.ref p), some (.int x2), some (.int x3)] (r.toList ++ [.int x2, .ref (p + 4)]) z' I' Q)) :
    E mX7_readGate mc ms 59 [some (.ref 2), some (.ref p), some (.int x2), some (.int x3)] [.int y0, .int y1, .ref (p + 3)] z I Q := by
  obtain ⟨j1, ij1, lj1, k⟩ := k
  obtain ⟨I2, eI2⟩ : ∃ y : It, y = e_st I (p + 3) j1 y0 := ⟨_, rfl⟩
  have k := k I2 eI2
  refine E_iastN (pc := 59) (j := j1) ddX7_readGate_59 hp.s3 (Nat.succ_ne_zero _) ij1 lj1 (Nat.le_of_ble_eq_true rfl) ?_
  rw [← eI2]
  refine E_aload_n (pc := 60) (x := p) ddX7_readGate_60 rfl rfl ?_
  refine E_getR (pc := 61) (x := (p + 4)) ddX7_readGate_61 ec_5 5 (Nat.le_of_ble_eq_true rfl) rfl w_1_75 hp.s0 hp.r5 (Nat.succ_ne_zero _) ?_
  refine E_iload_n (pc := 64) (x := x2) ddX7_readGate_64 rfl rfl ?_
  refine E_aload_n (pc := 65) (x := 2) ddX7_readGate_65 rfl rfl ?_
  refine E_iload_n (pc := 66) (x := x3) ddX7_readGate_66 rfl rfl ?_
  exact E_callV (pc := 67) (As := [.int x3]) (st := [.int x2, .ref (p + 4)]) (a := 2) ddX7_readGate_67 hX7_readNumber ⟨(Nat.le_of_ble_eq_true rfl), (Nat.le_of_ble_eq_true rfl)⟩ w_2_81 (ci := 6) rfl rfl hr.s0 rfl rfl (Nat.le_of_ble_eq_true rfl) (e_cc rfl e_cn) (Nat.le_of_ble_eq_true rfl) k
set_option maxRecDepth 100000 in
set_option maxHeartbeats 4000000 in
theorem B_X7_readGate_70 {mc ms : Nat} {z : Zt} {I : It} {Q : Option Value → Zt → It → Prop} {x2 x3 y0 y1 : Int32} {p : Nat} (hr : isRd z) (hp : isP z p)
    (k : ∃ j1 : Nat, y1 = nI j1 ∧ j1 < 8 ∧ ∀ I2 : It, I2 = e_st I (p + 4) j1 y0 → E mX7_readNumber 0 0 0 [some (.ref 2), some (.int x3), none, none] [] z I2 (fun r z' I' => E mX7_readGate mc ms 81 [some (.ref 2), some (.ref p), some (.int x2), none] (r.toList ++ [.int x2, .ref (p + 5)]) z' I' Q)) :
    E mX7_readGate mc ms 70 [some (.ref 2), some (.ref p), some (.int x2), some (.int x3)] [.int y0, .int y1, .ref (p + 4)] z I Q := by
  obtain ⟨j1, ij1, lj1, k⟩ := k
  obtain ⟨I2, eI2⟩ : ∃ y : It, y = e_st I (p + 4) j1 y0 := ⟨_, rfl⟩
  have k := k I2 eI2
  refine E_iastN (pc := 70) (j := j1) ddX7_readGate_70 hp.s4 (Nat.succ_ne_zero _) ij1 lj1 (Nat.le_of_ble_eq_true rfl) ?_
  rw [← eI2]
  refine E_aload_n (pc := 71) (x := p) ddX7_readGate_71 rfl rfl ?_
  refine E_getR (pc := 72) (x := (p + 5)) ddX7_readGate_72 ec_5 6 (Nat.le_of_ble_eq_true rfl) rfl w_1_79 hp.s0 hp.r6 (Nat.succ_ne_zero _) ?_
  refine E_iload_n (pc := 75) (x := x2) ddX7_readGate_75 rfl rfl ?_
  refine E_aload_n (pc := 76) (x := 2) ddX7_readGate_76 rfl rfl ?_
  refine E_iload_n (pc := 77) (x := x3) ddX7_readGate_77 rfl rfl ?_
  exact E_callV (pc := 78) (As := [.int x3]) (st := [.int x2, .ref (p + 5)]) (a := 2) ddX7_readGate_78 hX7_readNumber ⟨(Nat.le_of_ble_eq_true rfl), (Nat.le_of_ble_eq_true rfl)⟩ w_2_81 (ci := 6) rfl rfl hr.s0 rfl rfl (Nat.le_of_ble_eq_true rfl) (e_cc rfl e_cn) (Nat.le_of_ble_eq_true rfl) (E.mono k fun _ _ _ q => E.forget q ⟨rfl, ⟨rfl, ⟨rfl, trivial⟩⟩⟩)
set_option maxRecDepth 100000 in
set_option maxHeartbeats 4000000 in
theorem B_X7_readGate_81 {mc ms : Nat} {z : Zt} {I : It} {Q : Option Value → Zt → It → Prop} {x2 y0 y1 : Int32} {p : Nat} (hr : isRd z) (hp : isP z p)
    (k : ∃ j1 : Nat, y1 = nI j1 ∧ j1 < 8 ∧ ∀ I2 : It, I2 = e_st I (p + 5) j1 y0 → E mX7_readNumber 0 0 0 [some (.ref 2), some (.int 20), none, none] [] z I2 (fun r z' I' => E mX7_readGate mc ms 93 [some (.ref 2), some (.ref p), some (.int x2), none] (r.toList ++ [.int x2, .ref (p + 6)]) z' I' Q)) :
    E mX7_readGate mc ms 81 [some (.ref 2), some (.ref p), some (.int x2), none] [.int y0, .int y1, .ref (p + 5)] z I Q := by
  obtain ⟨j1, ij1, lj1, k⟩ := k
  obtain ⟨I2, eI2⟩ : ∃ y : It, y = e_st I (p + 5) j1 y0 := ⟨_, rfl⟩
  have k := k I2 eI2
  refine E_iastN (pc := 81) (j := j1) ddX7_readGate_81 hp.s5 (Nat.succ_ne_zero _) ij1 lj1 (Nat.le_of_ble_eq_true rfl) ?_
  rw [← eI2]
  refine E_aload_n (pc := 82) (x := p) ddX7_readGate_82 rfl rfl ?_
  refine E_getR (pc := 83) (x := (p + 6)) ddX7_readGate_83 ec_5 7 (Nat.le_of_ble_eq_true rfl) rfl w_1_82 hp.s0 hp.r7 (Nat.succ_ne_zero _) ?_
  refine E_iload_n (pc := 86) (x := x2) ddX7_readGate_86 rfl rfl ?_
  refine E_aload_n (pc := 87) (x := 2) ddX7_readGate_87 rfl rfl ?_
  refine E_bipush (pc := 88) (v := 20) ddX7_readGate_88 rfl ?_
  exact E_callV (pc := 90) (As := [.int 20]) (st := [.int x2, .ref (p + 6)]) (a := 2) ddX7_readGate_90 hX7_readNumber ⟨(Nat.le_of_ble_eq_true rfl), (Nat.le_of_ble_eq_true rfl)⟩ w_2_81 (ci := 6) rfl rfl hr.s0 rfl rfl (Nat.le_of_ble_eq_true rfl) (e_cc rfl e_cn) (Nat.le_of_ble_eq_true rfl) k
set_option maxRecDepth 100000 in
set_option maxHeartbeats 4000000 in
theorem B_X7_readGate_93 {mc ms : Nat} {z : Zt} {I : It} {Q : Option Value → Zt → It → Prop} {x2 y0 y1 : Int32} {p : Nat} (hr : isRd z) (hp : isP z p)
    (k : ∃ j1 : Nat, y1 = nI j1 ∧ j1 < 8 ∧ ∀ I2 : It, I2 = e_st I (p + 6) j1 y0 → ∃ j3 : Nat, x2 = nI j3 ∧ j3 < 8 ∧ ((¬ (I2 (p + 6) j3) = 0) → E mX7_readNumber 0 0 0 [some (.ref 2), some (.int 1), none, none] [] z I2 (fun r z' I' => E mX7_readGate mc ms 140 [some (.ref 2), some (.ref p), none, none] (r.toList ++ [.int x2, .ref (p + 7)]) z' I' Q)) ∧
    (((I2 (p + 6) j3) = 0) → E mX6_looks 0 0 0 [some (.ref p), some (.int x2), none] [] z I2 (fun r z' I' => E mX7_readGate mc ms 108 [some (.ref 2), some (.ref p), some (.int x2), none] (r.toList ++ []) z' I' Q))) :
    E mX7_readGate mc ms 93 [some (.ref 2), some (.ref p), some (.int x2), none] [.int y0, .int y1, .ref (p + 6)] z I Q := by
  obtain ⟨j1, ij1, lj1, k⟩ := k
  obtain ⟨I2, eI2⟩ : ∃ y : It, y = e_st I (p + 6) j1 y0 := ⟨_, rfl⟩
  have k := k I2 eI2
  refine E_iastN (pc := 93) (j := j1) ddX7_readGate_93 hp.s6 (Nat.succ_ne_zero _) ij1 lj1 (Nat.le_of_ble_eq_true rfl) ?_
  rw [← eI2]
  refine E_aload_n (pc := 94) (x := p) ddX7_readGate_94 rfl rfl ?_
  refine E_getR (pc := 95) (x := (p + 6)) ddX7_readGate_95 ec_5 7 (Nat.le_of_ble_eq_true rfl) rfl w_1_82 hp.s0 hp.r7 (Nat.succ_ne_zero _) ?_
  refine E_iload_n (pc := 98) (x := x2) ddX7_readGate_98 rfl rfl ?_
  obtain ⟨j3, ij3, lj3, k⟩ := k
  refine E_ialdN (pc := 99) (j := j3) ddX7_readGate_99 hp.s6 ij3 lj3 (Nat.le_of_ble_eq_true rfl) ?_
  refine E_if_ne (pc := 100) (tgt := 130) ddX7_readGate_100 (by decide) (fun h => ?_) (fun h => ?_)
  · have k := k.1 h
    refine E_aload_n (pc := 130) (x := p) ddX7_readGate_130 rfl rfl ?_
    refine E_getR (pc := 131) (x := (p + 7)) ddX7_readGate_131 ec_5 8 (Nat.le_of_ble_eq_true rfl) rfl w_1_86 hp.s0 hp.r8 (Nat.succ_ne_zero _) ?_
    refine E_iload_n (pc := 134) (x := x2) ddX7_readGate_134 rfl rfl ?_
    refine E_aload_n (pc := 135) (x := 2) ddX7_readGate_135 rfl rfl ?_
    refine E_iconst (pc := 136) (v := 1) ddX7_readGate_136 rfl ?_
    exact E_callV (pc := 137) (As := [.int 1]) (st := [.int x2, .ref (p + 7)]) (a := 2) ddX7_readGate_137 hX7_readNumber ⟨(Nat.le_of_ble_eq_true rfl), (Nat.le_of_ble_eq_true rfl)⟩ w_2_81 (ci := 6) rfl rfl hr.s0 rfl rfl (Nat.le_of_ble_eq_true rfl) (e_cc rfl e_cn) (Nat.le_of_ble_eq_true rfl) (E.mono k fun _ _ _ q => E.forget q ⟨rfl, ⟨rfl, trivial⟩⟩)
  · have k := k.2 h
    refine E_aload_n (pc := 103) (x := p) ddX7_readGate_103 rfl rfl ?_
    refine E_iload_n (pc := 104) (x := x2) ddX7_readGate_104 rfl rfl ?_
    exact E_callV (pc := 105) (As := [.int x2]) (st := []) (a := p) ddX7_readGate_105 hX6_looks ⟨(Nat.le_of_ble_eq_true rfl), (Nat.le_of_ble_eq_true rfl)⟩ w_2_100 (ci := 5) rfl rfl hp.s0 rfl rfl (Nat.le_of_ble_eq_true rfl) (e_cc rfl e_cn) (Nat.le_of_ble_eq_true rfl) k
set_option maxRecDepth 100000 in
set_option maxHeartbeats 4000000 in
theorem B_X7_readGate_140 {mc ms : Nat} {z : Zt} {I : It} {Q : Option Value → Zt → It → Prop} {y0 y1 : Int32} {p : Nat} (hr : isRd z) (hp : isP z p)
    (k : ∃ j1 : Nat, y1 = nI j1 ∧ j1 < 8 ∧ ∀ I2 : It, I2 = e_st I (p + 7) j1 y0 → E mX7_readEnd 0 0 0 [some (.ref 2)] [] z I2 (fun r z' I' => E mX7_readGate mc ms 145 [some (.ref 2), some (.ref p), none, none] (r.toList ++ []) z' I' Q)) :
    E mX7_readGate mc ms 140 [some (.ref 2), some (.ref p), none, none] [.int y0, .int y1, .ref (p + 7)] z I Q := by
  obtain ⟨j1, ij1, lj1, k⟩ := k
  obtain ⟨I2, eI2⟩ : ∃ y : It, y = e_st I (p + 7) j1 y0 := ⟨_, rfl⟩
  have k := k I2 eI2
  refine E_iastN (pc := 140) (j := j1) ddX7_readGate_140 hp.s7 (Nat.succ_ne_zero _) ij1 lj1 (Nat.le_of_ble_eq_true rfl) ?_
  rw [← eI2]
  refine E_aload_n (pc := 141) (x := 2) ddX7_readGate_141 rfl rfl ?_
  exact E_callV (pc := 142) (As := []) (st := []) (a := 2) ddX7_readGate_142 hX7_readEnd ⟨(Nat.le_of_ble_eq_true rfl), (Nat.le_of_ble_eq_true rfl)⟩ w_2_88 (ci := 6) rfl rfl hr.s0 rfl rfl (Nat.le_of_ble_eq_true rfl) e_cn (Nat.le_of_ble_eq_true rfl) k
set_option maxRecDepth 100000 in
set_option maxHeartbeats 4000000 in
theorem B_X7_readGate_108 {mc ms : Nat} {z : Zt} {I : It} {Q : Option Value → Zt → It → Prop} {x2 y0 : Int32} {p : Nat} (hr : isRd z) (hp : isP z p)
    (k : ∃ j1 : Nat, x2 = nI j1 ∧ j1 < 8 ∧ ((¬ ((y0 >>> ((I (p + 5) j1) &&& 31)) &&& 1) = 1) → E mX7_readNumber 0 0 0 [some (.ref 2), some (.int 1), none, none] [] z I (fun r z' I' => E mX7_readGate mc ms 140 [some (.ref 2), some (.ref p), none, none] (r.toList ++ [.int x2, .ref (p + 7)]) z' I' Q)) ∧
    ((((y0 >>> ((I (p + 5) j1) &&& 31)) &&& 1) = 1) → ((¬ (I 2 3) = 0) → E mX7_readNumber 0 0 0 [some (.ref 2), some (.int 1), none, none] [] z I (fun r z' I' => E mX7_readGate mc ms 140 [some (.ref 2), some (.ref p), none, none] (r.toList ++ [.int x2, .ref (p + 7)]) z' I' Q)) ∧
    (((I 2 3) = 0) → ∀ I2 : It, I2 = e_st I 2 3 4 → ∀ I3 : It, I3 = e_st I2 2 2 (I 2 5) → E mX7_readNumber 0 0 0 [some (.ref 2), some (.int 1), none, none] [] z I3 (fun r z' I' => E mX7_readGate mc ms 140 [some (.ref 2), some (.ref p), none, none] (r.toList ++ [.int x2, .ref (p + 7)]) z' I' Q)))) :
    E mX7_readGate mc ms 108 [some (.ref 2), some (.ref p), some (.int x2), none] [.int y0] z I Q := by
  refine E_aload_n (pc := 108) (x := p) ddX7_readGate_108 rfl rfl ?_
  refine E_getR (pc := 109) (x := (p + 5)) ddX7_readGate_109 ec_5 6 (Nat.le_of_ble_eq_true rfl) rfl w_1_79 hp.s0 hp.r6 (Nat.succ_ne_zero _) ?_
  refine E_iload_n (pc := 112) (x := x2) ddX7_readGate_112 rfl rfl ?_
  obtain ⟨j1, ij1, lj1, k⟩ := k
  refine E_ialdN (pc := 113) (j := j1) ddX7_readGate_113 hp.s5 ij1 lj1 (Nat.le_of_ble_eq_true rfl) ?_
  refine E_ishr (pc := 114) ddX7_readGate_114 ?_
  refine E_iconst (pc := 115) (v := 1) ddX7_readGate_115 rfl ?_
  refine E_iand (pc := 116) ddX7_readGate_116 ?_
  refine E_iconst (pc := 117) (v := 1) ddX7_readGate_117 rfl ?_
  refine E_icmp_ne (pc := 118) (tgt := 130) ddX7_readGate_118 (by decide) (fun h => ?_) (fun h => ?_)
  · have k := k.1 h
    refine E_aload_n (pc := 130) (x := p) ddX7_readGate_130 rfl rfl ?_
    refine E_getR (pc := 131) (x := (p + 7)) ddX7_readGate_131 ec_5 8 (Nat.le_of_ble_eq_true rfl) rfl w_1_86 hp.s0 hp.r8 (Nat.succ_ne_zero _) ?_
    refine E_iload_n (pc := 134) (x := x2) ddX7_readGate_134 rfl rfl ?_
    refine E_aload_n (pc := 135) (x := 2) ddX7_readGate_135 rfl rfl ?_
    refine E_iconst (pc := 136) (v := 1) ddX7_readGate_136 rfl ?_
    exact E_callV (pc := 137) (As := [.int 1]) (st := [.int x2, .ref (p + 7)]) (a := 2) ddX7_readGate_137 hX7_readNumber ⟨(Nat.le_of_ble_eq_true rfl), (Nat.le_of_ble_eq_true rfl)⟩ w_2_81 (ci := 6) rfl rfl hr.s0 rfl rfl (Nat.le_of_ble_eq_true rfl) (e_cc rfl e_cn) (Nat.le_of_ble_eq_true rfl) (E.mono k fun _ _ _ q => E.forget q ⟨rfl, ⟨rfl, trivial⟩⟩)
  · have k := k.2 h
    refine E_aload_n (pc := 121) (x := 2) ddX7_readGate_121 rfl rfl ?_
    refine E_iconst (pc := 122) (v := 4) ddX7_readGate_122 rfl ?_
    refine E_aload_n (pc := 123) (x := 2) ddX7_readGate_123 rfl rfl ?_
    refine E_getI (pc := 124) ddX7_readGate_124 ec_6 5 (Nat.le_of_ble_eq_true rfl) rfl w_1_34 hr.s0 ?_
    refine E_callV (pc := 127) (As := [.int 4, .int (I 2 5)]) (st := []) (a := 2) ddX7_readGate_127 hX7_findFault ⟨(Nat.le_of_ble_eq_true rfl), (Nat.le_of_ble_eq_true rfl)⟩ w_2_77 (ci := 6) rfl rfl hr.s0 rfl rfl (Nat.le_of_ble_eq_true rfl) (e_cc rfl (e_cc rfl e_cn)) (Nat.le_of_ble_eq_true rfl) ?_
    refine (show E mX7_findFault 0 0 0 [some (.ref 2), some (.int 4), some (.int (I 2 5))] [] z I _ from ?_)
    refine E_aload_n (pc := 0) (x := 2) ddX7_findFault_0 rfl rfl ?_
    refine E_getI (pc := 1) ddX7_findFault_1 ec_6 3 (Nat.le_of_ble_eq_true rfl) rfl w_1_32 hr.s0 ?_
    refine E_if_ne (pc := 4) (tgt := 17) ddX7_findFault_4 (by decide) (fun h => ?_) (fun h => ?_)
    · have k := k.1 h
      refine E_vret (pc := 17) ddX7_findFault_17 rfl ?_
      refine (show E mX7_readGate mc ms 130 [some (.ref 2), some (.ref p), some (.int x2), none] [] z I Q from ?_)
      refine E_aload_n (pc := 130) (x := p) ddX7_readGate_130 rfl rfl ?_
      refine E_getR (pc := 131) (x := (p + 7)) ddX7_readGate_131 ec_5 8 (Nat.le_of_ble_eq_true rfl) rfl w_1_86 hp.s0 hp.r8 (Nat.succ_ne_zero _) ?_
      refine E_iload_n (pc := 134) (x := x2) ddX7_readGate_134 rfl rfl ?_
      refine E_aload_n (pc := 135) (x := 2) ddX7_readGate_135 rfl rfl ?_
      refine E_iconst (pc := 136) (v := 1) ddX7_readGate_136 rfl ?_
      exact E_callV (pc := 137) (As := [.int 1]) (st := [.int x2, .ref (p + 7)]) (a := 2) ddX7_readGate_137 hX7_readNumber ⟨(Nat.le_of_ble_eq_true rfl), (Nat.le_of_ble_eq_true rfl)⟩ w_2_81 (ci := 6) rfl rfl hr.s0 rfl rfl (Nat.le_of_ble_eq_true rfl) (e_cc rfl e_cn) (Nat.le_of_ble_eq_true rfl) (E.mono k fun _ _ _ q => E.forget q ⟨rfl, ⟨rfl, trivial⟩⟩)
    · have k := k.2 h
      refine E_aload_n (pc := 7) (x := 2) ddX7_findFault_7 rfl rfl ?_
      refine E_iload_n (pc := 8) (x := 4) ddX7_findFault_8 rfl rfl ?_
      obtain ⟨I2, eI2⟩ : ∃ y : It, y = e_st I 2 3 4 := ⟨_, rfl⟩
      have k := k I2 eI2
      refine E_putI (pc := 9) ddX7_findFault_9 ec_6 3 (Nat.le_of_ble_eq_true rfl) rfl w_1_32 hr.s0 rfl rfl ?_
      rw [← eI2]
      refine E_aload_n (pc := 12) (x := 2) ddX7_findFault_12 rfl rfl ?_
      refine E_iload_n (pc := 13) (x := (I 2 5)) ddX7_findFault_13 rfl rfl ?_
      obtain ⟨I3, eI3⟩ : ∃ y : It, y = e_st I2 2 2 (I 2 5) := ⟨_, rfl⟩
      have k := k I3 eI3
      refine E_putI (pc := 14) ddX7_findFault_14 ec_6 2 (Nat.le_of_ble_eq_true rfl) rfl w_1_30 hr.s0 rfl rfl ?_
      rw [← eI3]
      refine E_vret (pc := 17) ddX7_findFault_17 rfl ?_
      refine (show E mX7_readGate mc ms 130 [some (.ref 2), some (.ref p), some (.int x2), none] [] z I3 Q from ?_)
      refine E_aload_n (pc := 130) (x := p) ddX7_readGate_130 rfl rfl ?_
      refine E_getR (pc := 131) (x := (p + 7)) ddX7_readGate_131 ec_5 8 (Nat.le_of_ble_eq_true rfl) rfl w_1_86 hp.s0 hp.r8 (Nat.succ_ne_zero _) ?_
      refine E_iload_n (pc := 134) (x := x2) ddX7_readGate_134 rfl rfl ?_
      refine E_aload_n (pc := 135) (x := 2) ddX7_readGate_135 rfl rfl ?_
      refine E_iconst (pc := 136) (v := 1) ddX7_readGate_136 rfl ?_
      exact E_callV (pc := 137) (As := [.int 1]) (st := [.int x2, .ref (p + 7)]) (a := 2) ddX7_readGate_137 hX7_readNumber ⟨(Nat.le_of_ble_eq_true rfl), (Nat.le_of_ble_eq_true rfl)⟩ w_2_81 (ci := 6) rfl rfl hr.s0 rfl rfl (Nat.le_of_ble_eq_true rfl) (e_cc rfl e_cn) (Nat.le_of_ble_eq_true rfl) (E.mono k fun _ _ _ q => E.forget q ⟨rfl, ⟨rfl, trivial⟩⟩)
set_option maxRecDepth 100000 in
set_option maxHeartbeats 4000000 in
theorem B_X7_readGate_145 {mc ms : Nat} {z : Zt} {I : It} {Q : Option Value → Zt → It → Prop} {p : Nat} (hr : isRd z) (hp : isP z p)
    (k : ((¬ (I 2 3) = 0) → Q none z I) ∧
    (((I 2 3) = 0) → ∀ I1 : It, I1 = e_st I p 1 ((I p 1) + 1) → Q none z I1)) :
    E mX7_readGate mc ms 145 [some (.ref 2), some (.ref p), none, none] [] z I Q := by
  refine E_aload_n (pc := 145) (x := 2) ddX7_readGate_145 rfl rfl ?_
  refine E_getI (pc := 146) ddX7_readGate_146 ec_6 3 (Nat.le_of_ble_eq_true rfl) rfl w_1_32 hr.s0 ?_
  refine E_if_ne (pc := 149) (tgt := 162) ddX7_readGate_149 (by decide) (fun h => ?_) (fun h => ?_)
  · have k := k.1 h
    exact E_vret (pc := 162) ddX7_readGate_162 rfl k
  · have k := k.2 h
    refine E_aload_n (pc := 152) (x := p) ddX7_readGate_152 rfl rfl ?_
    refine E_dupr (pc := 153) ddX7_readGate_153 ?_
    refine E_getI (pc := 154) ddX7_readGate_154 ec_5 1 (Nat.le_of_ble_eq_true rfl) rfl w_1_62 hp.s0 ?_
    refine E_iconst (pc := 157) (v := 1) ddX7_readGate_157 rfl ?_
    refine E_iadd (pc := 158) ddX7_readGate_158 ?_
    obtain ⟨I1, eI1⟩ : ∃ y : It, y = e_st I p 1 ((I p 1) + 1) := ⟨_, rfl⟩
    have k := k I1 eI1
    refine E_putI (pc := 159) ddX7_readGate_159 ec_5 1 (Nat.le_of_ble_eq_true rfl) rfl w_1_62 hp.s0 rfl rfl ?_
    rw [← eI1]
    exact E_vret (pc := 162) ddX7_readGate_162 rfl k
/-! X7_readNumber, labels [4, 37, 96] -/
set_option maxRecDepth 100000 in
set_option maxHeartbeats 4000000 in
theorem B_X7_readNumber_0 {mc ms : Nat} {z : Zt} {I : It} {Q : Option Value → Zt → It → Prop} {x1 : Int32} (hr : isRd z)
    (k : E mX7_skipBlanks 0 0 0 [some (.ref 2)] [] z I (fun r z' I' => E mX7_readNumber mc ms 4 [some (.ref 2), some (.int x1), none, none] (r.toList ++ []) z' I' Q)) :
    E mX7_readNumber mc ms 0 [some (.ref 2), some (.int x1), none, none] [] z I Q := by
  refine E_aload_n (pc := 0) (x := 2) ddX7_readNumber_0 rfl rfl ?_
  exact E_callV (pc := 1) (As := []) (st := []) (a := 2) ddX7_readNumber_1 hX7_skipBlanks ⟨(Nat.le_of_ble_eq_true rfl), (Nat.le_of_ble_eq_true rfl)⟩ w_2_61 (ci := 6) rfl rfl hr.s0 rfl rfl (Nat.le_of_ble_eq_true rfl) e_cn (Nat.le_of_ble_eq_true rfl) k
set_option maxRecDepth 100000 in
set_option maxHeartbeats 4000000 in
theorem B_X7_readNumber_4 {mc ms : Nat} {z : Zt} {I : It} {Q : Option Value → Zt → It → Prop} {x1 : Int32} (hr : isRd z)
    (k : ∀ I1 : It, I1 = e_st I 2 5 (I 2 4) → (((I1 2 4) < 0) → ((¬ (I1 2 3) = 0) → Q (some (.int 0)) z I1) ∧
    (((I1 2 3) = 0) → ∀ I2 : It, I2 = e_st I1 2 3 1 → ∀ I3 : It, I3 = e_st I2 2 2 (I1 2 4) → Q (some (.int 0)) z I3)) ∧
    ((¬ (I1 2 4) < 0) → (((I1 2 1) ≤ (I1 2 4)) → ((¬ (I1 2 3) = 0) → Q (some (.int 0)) z I1) ∧
    (((I1 2 3) = 0) → ∀ I2 : It, I2 = e_st I1 2 3 1 → ∀ I3 : It, I3 = e_st I2 2 2 (I1 2 4) → Q (some (.int 0)) z I3)) ∧
    ((¬ (I1 2 1) ≤ (I1 2 4)) → ∃ j2 : Nat, (I1 2 4) = nI j2 ∧ j2 < 200 ∧ (((I1 3 j2) < 48) → ((¬ (I1 2 3) = 0) → Q (some (.int 0)) z I1) ∧
    (((I1 2 3) = 0) → ∀ I3 : It, I3 = e_st I1 2 3 1 → ∀ I4 : It, I4 = e_st I3 2 2 (I1 2 4) → Q (some (.int 0)) z I4)) ∧
    ((¬ (I1 3 j2) < 48) → ((57 < (I1 3 j2)) → ((¬ (I1 2 3) = 0) → Q (some (.int 0)) z I1) ∧
    (((I1 2 3) = 0) → ∀ I3 : It, I3 = e_st I1 2 3 1 → ∀ I4 : It, I4 = e_st I3 2 2 (I1 2 4) → Q (some (.int 0)) z I4)) ∧
    ((¬ 57 < (I1 3 j2)) → E mX7_readNumber mc ms 37 [some (.ref 2), some (.int x1), some (.int 0), some (.int 0)] [] z I1 Q))))) :
    E mX7_readNumber mc ms 4 [some (.ref 2), some (.int x1), none, none] [] z I Q := by
  refine E_aload_n (pc := 4) (x := 2) ddX7_readNumber_4 rfl rfl ?_
  refine E_aload_n (pc := 5) (x := 2) ddX7_readNumber_5 rfl rfl ?_
  refine E_getI (pc := 6) ddX7_readNumber_6 ec_6 4 (Nat.le_of_ble_eq_true rfl) rfl w_1_33 hr.s0 ?_
  obtain ⟨I1, eI1⟩ : ∃ y : It, y = e_st I 2 5 (I 2 4) := ⟨_, rfl⟩
  have k := k I1 eI1
  refine E_putI (pc := 9) ddX7_readNumber_9 ec_6 5 (Nat.le_of_ble_eq_true rfl) rfl w_1_34 hr.s0 rfl rfl ?_
  rw [← eI1]
  refine E_aload_n (pc := 12) (x := 2) ddX7_readNumber_12 rfl rfl ?_
  refine E_callV (pc := 13) (As := []) (st := []) (a := 2) ddX7_readNumber_13 hX7_letterHere ⟨(Nat.le_of_ble_eq_true rfl), (Nat.le_of_ble_eq_true rfl)⟩ w_2_65 (ci := 6) rfl rfl hr.s0 rfl rfl (Nat.le_of_ble_eq_true rfl) e_cn (Nat.le_of_ble_eq_true rfl) ?_
  refine (show E mX7_letterHere 0 0 0 [some (.ref 2)] [] z I1 _ from ?_)
  refine E_aload_n (pc := 0) (x := 2) ddX7_letterHere_0 rfl rfl ?_
  refine E_getI (pc := 1) ddX7_letterHere_1 ec_6 4 (Nat.le_of_ble_eq_true rfl) rfl w_1_33 hr.s0 ?_
  refine E_if_lt (pc := 4) (tgt := 30) ddX7_letterHere_4 (by decide) (fun h => ?_) (fun h => ?_)
  · have k := k.1 h
    refine E_iconst (pc := 30) (v := (-1)) ddX7_letterHere_30 rfl ?_
    refine E_iret (pc := 31) ddX7_letterHere_31 rfl ?_
    refine (show E mX7_readNumber mc ms 16 [some (.ref 2), some (.int x1), none, none] [.int (-1)] z I1 Q from ?_)
    refine E_callS (pc := 16) (As := [.int (-1)]) (st := []) ddX7_readNumber_16 hX7_isFigure ⟨(Nat.le_of_ble_eq_true rfl), (Nat.le_of_ble_eq_true rfl)⟩ w_2_85 rfl rfl (Nat.le_of_ble_eq_true rfl) (e_cc rfl e_cn) (Nat.le_of_ble_eq_true rfl) ?_
    refine (show E mX7_isFigure 0 0 0 [some (.int (-1))] [] z I1 _ from ?_)
    refine E_iload_n (pc := 0) (x := (-1)) ddX7_isFigure_0 rfl rfl ?_
    refine E_bipush (pc := 1) (v := 48) ddX7_isFigure_1 rfl ?_
    refine E_icmp_lt (pc := 3) (tgt := 16) ddX7_isFigure_3 (by decide) (fun _ => ?_) (fun h => absurd h (by decide))
    refine E_iconst (pc := 16) (v := 0) ddX7_isFigure_16 rfl ?_
    refine E_zret (pc := 17) ddX7_isFigure_17 rfl (by decide) ?_
    refine (show E mX7_readNumber mc ms 19 [some (.ref 2), some (.int x1), none, none] [.int 0] z I1 Q from ?_)
    refine E_if_ne (pc := 19) (tgt := 33) ddX7_readNumber_19 (by decide) (fun h => absurd h (by decide)) (fun _ => ?_)
    refine E_aload_n (pc := 22) (x := 2) ddX7_readNumber_22 rfl rfl ?_
    refine E_iconst (pc := 23) (v := 1) ddX7_readNumber_23 rfl ?_
    refine E_aload_n (pc := 24) (x := 2) ddX7_readNumber_24 rfl rfl ?_
    refine E_getI (pc := 25) ddX7_readNumber_25 ec_6 4 (Nat.le_of_ble_eq_true rfl) rfl w_1_33 hr.s0 ?_
    refine E_callV (pc := 28) (As := [.int 1, .int (I1 2 4)]) (st := []) (a := 2) ddX7_readNumber_28 hX7_findFault ⟨(Nat.le_of_ble_eq_true rfl), (Nat.le_of_ble_eq_true rfl)⟩ w_2_77 (ci := 6) rfl rfl hr.s0 rfl rfl (Nat.le_of_ble_eq_true rfl) (e_cc rfl (e_cc rfl e_cn)) (Nat.le_of_ble_eq_true rfl) ?_
    refine (show E mX7_findFault 0 0 0 [some (.ref 2), some (.int 1), some (.int (I1 2 4))] [] z I1 _ from ?_)
    refine E_aload_n (pc := 0) (x := 2) ddX7_findFault_0 rfl rfl ?_
    refine E_getI (pc := 1) ddX7_findFault_1 ec_6 3 (Nat.le_of_ble_eq_true rfl) rfl w_1_32 hr.s0 ?_
    refine E_if_ne (pc := 4) (tgt := 17) ddX7_findFault_4 (by decide) (fun h => ?_) (fun h => ?_)
    · have k := k.1 h
      refine E_vret (pc := 17) ddX7_findFault_17 rfl ?_
      refine (show E mX7_readNumber mc ms 31 [some (.ref 2), some (.int x1), none, none] [] z I1 Q from ?_)
      refine E_iconst (pc := 31) (v := 0) ddX7_readNumber_31 rfl ?_
      exact E_iret (pc := 32) ddX7_readNumber_32 rfl k
    · have k := k.2 h
      refine E_aload_n (pc := 7) (x := 2) ddX7_findFault_7 rfl rfl ?_
      refine E_iload_n (pc := 8) (x := 1) ddX7_findFault_8 rfl rfl ?_
      obtain ⟨I2, eI2⟩ : ∃ y : It, y = e_st I1 2 3 1 := ⟨_, rfl⟩
      have k := k I2 eI2
      refine E_putI (pc := 9) ddX7_findFault_9 ec_6 3 (Nat.le_of_ble_eq_true rfl) rfl w_1_32 hr.s0 rfl rfl ?_
      rw [← eI2]
      refine E_aload_n (pc := 12) (x := 2) ddX7_findFault_12 rfl rfl ?_
      refine E_iload_n (pc := 13) (x := (I1 2 4)) ddX7_findFault_13 rfl rfl ?_
      obtain ⟨I3, eI3⟩ : ∃ y : It, y = e_st I2 2 2 (I1 2 4) := ⟨_, rfl⟩
      have k := k I3 eI3
      refine E_putI (pc := 14) ddX7_findFault_14 ec_6 2 (Nat.le_of_ble_eq_true rfl) rfl w_1_30 hr.s0 rfl rfl ?_
      rw [← eI3]
      refine E_vret (pc := 17) ddX7_findFault_17 rfl ?_
      refine (show E mX7_readNumber mc ms 31 [some (.ref 2), some (.int x1), none, none] [] z I3 Q from ?_)
      refine E_iconst (pc := 31) (v := 0) ddX7_readNumber_31 rfl ?_
      exact E_iret (pc := 32) ddX7_readNumber_32 rfl k
  · have k := k.2 h
    refine E_aload_n (pc := 7) (x := 2) ddX7_letterHere_7 rfl rfl ?_
    refine E_getI (pc := 8) ddX7_letterHere_8 ec_6 4 (Nat.le_of_ble_eq_true rfl) rfl w_1_33 hr.s0 ?_
    refine E_aload_n (pc := 11) (x := 2) ddX7_letterHere_11 rfl rfl ?_
    refine E_getI (pc := 12) ddX7_letterHere_12 ec_6 1 (Nat.le_of_ble_eq_true rfl) rfl w_1_28 hr.s0 ?_
    refine E_icmp_ge (pc := 15) (tgt := 30) ddX7_letterHere_15 (by decide) (fun h => ?_) (fun h => ?_)
    · have k := k.1 h
      refine E_iconst (pc := 30) (v := (-1)) ddX7_letterHere_30 rfl ?_
      refine E_iret (pc := 31) ddX7_letterHere_31 rfl ?_
      refine (show E mX7_readNumber mc ms 16 [some (.ref 2), some (.int x1), none, none] [.int (-1)] z I1 Q from ?_)
      refine E_callS (pc := 16) (As := [.int (-1)]) (st := []) ddX7_readNumber_16 hX7_isFigure ⟨(Nat.le_of_ble_eq_true rfl), (Nat.le_of_ble_eq_true rfl)⟩ w_2_85 rfl rfl (Nat.le_of_ble_eq_true rfl) (e_cc rfl e_cn) (Nat.le_of_ble_eq_true rfl) ?_
      refine (show E mX7_isFigure 0 0 0 [some (.int (-1))] [] z I1 _ from ?_)
      refine E_iload_n (pc := 0) (x := (-1)) ddX7_isFigure_0 rfl rfl ?_
      refine E_bipush (pc := 1) (v := 48) ddX7_isFigure_1 rfl ?_
      refine E_icmp_lt (pc := 3) (tgt := 16) ddX7_isFigure_3 (by decide) (fun _ => ?_) (fun h => absurd h (by decide))
      refine E_iconst (pc := 16) (v := 0) ddX7_isFigure_16 rfl ?_
      refine E_zret (pc := 17) ddX7_isFigure_17 rfl (by decide) ?_
      refine (show E mX7_readNumber mc ms 19 [some (.ref 2), some (.int x1), none, none] [.int 0] z I1 Q from ?_)
      refine E_if_ne (pc := 19) (tgt := 33) ddX7_readNumber_19 (by decide) (fun h => absurd h (by decide)) (fun _ => ?_)
      refine E_aload_n (pc := 22) (x := 2) ddX7_readNumber_22 rfl rfl ?_
      refine E_iconst (pc := 23) (v := 1) ddX7_readNumber_23 rfl ?_
      refine E_aload_n (pc := 24) (x := 2) ddX7_readNumber_24 rfl rfl ?_
      refine E_getI (pc := 25) ddX7_readNumber_25 ec_6 4 (Nat.le_of_ble_eq_true rfl) rfl w_1_33 hr.s0 ?_
      refine E_callV (pc := 28) (As := [.int 1, .int (I1 2 4)]) (st := []) (a := 2) ddX7_readNumber_28 hX7_findFault ⟨(Nat.le_of_ble_eq_true rfl), (Nat.le_of_ble_eq_true rfl)⟩ w_2_77 (ci := 6) rfl rfl hr.s0 rfl rfl (Nat.le_of_ble_eq_true rfl) (e_cc rfl (e_cc rfl e_cn)) (Nat.le_of_ble_eq_true rfl) ?_
      refine (show E mX7_findFault 0 0 0 [some (.ref 2), some (.int 1), some (.int (I1 2 4))] [] z I1 _ from ?_)
      refine E_aload_n (pc := 0) (x := 2) ddX7_findFault_0 rfl rfl ?_
      refine E_getI (pc := 1) ddX7_findFault_1 ec_6 3 (Nat.le_of_ble_eq_true rfl) rfl w_1_32 hr.s0 ?_
      refine E_if_ne (pc := 4) (tgt := 17) ddX7_findFault_4 (by decide) (fun h => ?_) (fun h => ?_)
      · have k := k.1 h
        refine E_vret (pc := 17) ddX7_findFault_17 rfl ?_
        refine (show E mX7_readNumber mc ms 31 [some (.ref 2), some (.int x1), none, none] [] z I1 Q from ?_)
        refine E_iconst (pc := 31) (v := 0) ddX7_readNumber_31 rfl ?_
        exact E_iret (pc := 32) ddX7_readNumber_32 rfl k
      · have k := k.2 h
        refine E_aload_n (pc := 7) (x := 2) ddX7_findFault_7 rfl rfl ?_
        refine E_iload_n (pc := 8) (x := 1) ddX7_findFault_8 rfl rfl ?_
        obtain ⟨I2, eI2⟩ : ∃ y : It, y = e_st I1 2 3 1 := ⟨_, rfl⟩
        have k := k I2 eI2
        refine E_putI (pc := 9) ddX7_findFault_9 ec_6 3 (Nat.le_of_ble_eq_true rfl) rfl w_1_32 hr.s0 rfl rfl ?_
        rw [← eI2]
        refine E_aload_n (pc := 12) (x := 2) ddX7_findFault_12 rfl rfl ?_
        refine E_iload_n (pc := 13) (x := (I1 2 4)) ddX7_findFault_13 rfl rfl ?_
        obtain ⟨I3, eI3⟩ : ∃ y : It, y = e_st I2 2 2 (I1 2 4) := ⟨_, rfl⟩
        have k := k I3 eI3
        refine E_putI (pc := 14) ddX7_findFault_14 ec_6 2 (Nat.le_of_ble_eq_true rfl) rfl w_1_30 hr.s0 rfl rfl ?_
        rw [← eI3]
        refine E_vret (pc := 17) ddX7_findFault_17 rfl ?_
        refine (show E mX7_readNumber mc ms 31 [some (.ref 2), some (.int x1), none, none] [] z I3 Q from ?_)
        refine E_iconst (pc := 31) (v := 0) ddX7_readNumber_31 rfl ?_
        exact E_iret (pc := 32) ddX7_readNumber_32 rfl k
    · have k := k.2 h
      refine E_aload_n (pc := 18) (x := 2) ddX7_letterHere_18 rfl rfl ?_
      refine E_getR (pc := 19) (x := 3) ddX7_letterHere_19 ec_6 0 (Nat.le_of_ble_eq_true rfl) rfl w_1_27 hr.s0 hr.r0 (by decide) ?_
      refine E_aload_n (pc := 22) (x := 2) ddX7_letterHere_22 rfl rfl ?_
      refine E_getI (pc := 23) ddX7_letterHere_23 ec_6 4 (Nat.le_of_ble_eq_true rfl) rfl w_1_33 hr.s0 ?_
      obtain ⟨j2, ij2, lj2, k⟩ := k
      refine E_ialdN (pc := 26) (j := j2) ddX7_letterHere_26 hr.s1 ij2 lj2 (Nat.le_of_ble_eq_true rfl) ?_
      refine E_goto (pc := 27) (tgt := 31) ddX7_letterHere_27 (by decide) ?_
      refine E_iret (pc := 31) ddX7_letterHere_31 rfl ?_
      refine (show E mX7_readNumber mc ms 16 [some (.ref 2), some (.int x1), none, none] [.int (I1 3 j2)] z I1 Q from ?_)
      refine E_callS (pc := 16) (As := [.int (I1 3 j2)]) (st := []) ddX7_readNumber_16 hX7_isFigure ⟨(Nat.le_of_ble_eq_true rfl), (Nat.le_of_ble_eq_true rfl)⟩ w_2_85 rfl rfl (Nat.le_of_ble_eq_true rfl) (e_cc rfl e_cn) (Nat.le_of_ble_eq_true rfl) ?_
      refine (show E mX7_isFigure 0 0 0 [some (.int (I1 3 j2))] [] z I1 _ from ?_)
      refine E_iload_n (pc := 0) (x := (I1 3 j2)) ddX7_isFigure_0 rfl rfl ?_
      refine E_bipush (pc := 1) (v := 48) ddX7_isFigure_1 rfl ?_
      refine E_icmp_lt (pc := 3) (tgt := 16) ddX7_isFigure_3 (by decide) (fun h => ?_) (fun h => ?_)
      · have k := k.1 h
        refine E_iconst (pc := 16) (v := 0) ddX7_isFigure_16 rfl ?_
        refine E_zret (pc := 17) ddX7_isFigure_17 rfl (by decide) ?_
        refine (show E mX7_readNumber mc ms 19 [some (.ref 2), some (.int x1), none, none] [.int 0] z I1 Q from ?_)
        refine E_if_ne (pc := 19) (tgt := 33) ddX7_readNumber_19 (by decide) (fun h => absurd h (by decide)) (fun _ => ?_)
        refine E_aload_n (pc := 22) (x := 2) ddX7_readNumber_22 rfl rfl ?_
        refine E_iconst (pc := 23) (v := 1) ddX7_readNumber_23 rfl ?_
        refine E_aload_n (pc := 24) (x := 2) ddX7_readNumber_24 rfl rfl ?_
        refine E_getI (pc := 25) ddX7_readNumber_25 ec_6 4 (Nat.le_of_ble_eq_true rfl) rfl w_1_33 hr.s0 ?_
        refine E_callV (pc := 28) (As := [.int 1, .int (I1 2 4)]) (st := []) (a := 2) ddX7_readNumber_28 hX7_findFault ⟨(Nat.le_of_ble_eq_true rfl), (Nat.le_of_ble_eq_true rfl)⟩ w_2_77 (ci := 6) rfl rfl hr.s0 rfl rfl (Nat.le_of_ble_eq_true rfl) (e_cc rfl (e_cc rfl e_cn)) (Nat.le_of_ble_eq_true rfl) ?_
        refine (show E mX7_findFault 0 0 0 [some (.ref 2), some (.int 1), some (.int (I1 2 4))] [] z I1 _ from ?_)
        refine E_aload_n (pc := 0) (x := 2) ddX7_findFault_0 rfl rfl ?_
        refine E_getI (pc := 1) ddX7_findFault_1 ec_6 3 (Nat.le_of_ble_eq_true rfl) rfl w_1_32 hr.s0 ?_
        refine E_if_ne (pc := 4) (tgt := 17) ddX7_findFault_4 (by decide) (fun h => ?_) (fun h => ?_)
        · have k := k.1 h
          refine E_vret (pc := 17) ddX7_findFault_17 rfl ?_
          refine (show E mX7_readNumber mc ms 31 [some (.ref 2), some (.int x1), none, none] [] z I1 Q from ?_)
          refine E_iconst (pc := 31) (v := 0) ddX7_readNumber_31 rfl ?_
          exact E_iret (pc := 32) ddX7_readNumber_32 rfl k
        · have k := k.2 h
          refine E_aload_n (pc := 7) (x := 2) ddX7_findFault_7 rfl rfl ?_
          refine E_iload_n (pc := 8) (x := 1) ddX7_findFault_8 rfl rfl ?_
          obtain ⟨I3, eI3⟩ : ∃ y : It, y = e_st I1 2 3 1 := ⟨_, rfl⟩
          have k := k I3 eI3
          refine E_putI (pc := 9) ddX7_findFault_9 ec_6 3 (Nat.le_of_ble_eq_true rfl) rfl w_1_32 hr.s0 rfl rfl ?_
          rw [← eI3]
          refine E_aload_n (pc := 12) (x := 2) ddX7_findFault_12 rfl rfl ?_
          refine E_iload_n (pc := 13) (x := (I1 2 4)) ddX7_findFault_13 rfl rfl ?_
          obtain ⟨I4, eI4⟩ : ∃ y : It, y = e_st I3 2 2 (I1 2 4) := ⟨_, rfl⟩
          have k := k I4 eI4
          refine E_putI (pc := 14) ddX7_findFault_14 ec_6 2 (Nat.le_of_ble_eq_true rfl) rfl w_1_30 hr.s0 rfl rfl ?_
          rw [← eI4]
          refine E_vret (pc := 17) ddX7_findFault_17 rfl ?_
          refine (show E mX7_readNumber mc ms 31 [some (.ref 2), some (.int x1), none, none] [] z I4 Q from ?_)
          refine E_iconst (pc := 31) (v := 0) ddX7_readNumber_31 rfl ?_
          exact E_iret (pc := 32) ddX7_readNumber_32 rfl k
      · have k := k.2 h
        refine E_iload_n (pc := 6) (x := (I1 3 j2)) ddX7_isFigure_6 rfl rfl ?_
        refine E_bipush (pc := 7) (v := 57) ddX7_isFigure_7 rfl ?_
        refine E_icmp_gt (pc := 9) (tgt := 16) ddX7_isFigure_9 (by decide) (fun h => ?_) (fun h => ?_)
        · have k := k.1 h
          refine E_iconst (pc := 16) (v := 0) ddX7_isFigure_16 rfl ?_
          refine E_zret (pc := 17) ddX7_isFigure_17 rfl (by decide) ?_
          refine (show E mX7_readNumber mc ms 19 [some (.ref 2), some (.int x1), none, none] [.int 0] z I1 Q from ?_)
          refine E_if_ne (pc := 19) (tgt := 33) ddX7_readNumber_19 (by decide) (fun h => absurd h (by decide)) (fun _ => ?_)
          refine E_aload_n (pc := 22) (x := 2) ddX7_readNumber_22 rfl rfl ?_
          refine E_iconst (pc := 23) (v := 1) ddX7_readNumber_23 rfl ?_
          refine E_aload_n (pc := 24) (x := 2) ddX7_readNumber_24 rfl rfl ?_
          refine E_getI (pc := 25) ddX7_readNumber_25 ec_6 4 (Nat.le_of_ble_eq_true rfl) rfl w_1_33 hr.s0 ?_
          refine E_callV (pc := 28) (As := [.int 1, .int (I1 2 4)]) (st := []) (a := 2) ddX7_readNumber_28 hX7_findFault ⟨(Nat.le_of_ble_eq_true rfl), (Nat.le_of_ble_eq_true rfl)⟩ w_2_77 (ci := 6) rfl rfl hr.s0 rfl rfl (Nat.le_of_ble_eq_true rfl) (e_cc rfl (e_cc rfl e_cn)) (Nat.le_of_ble_eq_true rfl) ?_
          refine (show E mX7_findFault 0 0 0 [some (.ref 2), some (.int 1), some (.int (I1 2 4))] [] z I1 _ from ?_)
          refine E_aload_n (pc := 0) (x := 2) ddX7_findFault_0 rfl rfl ?_
          refine E_getI (pc := 1) ddX7_findFault_1 ec_6 3 (Nat.le_of_ble_eq_true rfl) rfl w_1_32 hr.s0 ?_
          refine E_if_ne (pc := 4) (tgt := 17) ddX7_findFault_4 (by decide) (fun h => ?_) (fun h => ?_)
          · have k := k.1 h
            refine E_vret (pc := 17) ddX7_findFault_17 rfl ?_
            refine (show E mX7_readNumber mc ms 31 [some (.ref 2), some (.int x1), none, none] [] z I1 Q from ?_)
            refine E_iconst (pc := 31) (v := 0) ddX7_readNumber_31 rfl ?_
            exact E_iret (pc := 32) ddX7_readNumber_32 rfl k
          · have k := k.2 h
            refine E_aload_n (pc := 7) (x := 2) ddX7_findFault_7 rfl rfl ?_
            refine E_iload_n (pc := 8) (x := 1) ddX7_findFault_8 rfl rfl ?_
            obtain ⟨I3, eI3⟩ : ∃ y : It, y = e_st I1 2 3 1 := ⟨_, rfl⟩
            have k := k I3 eI3
            refine E_putI (pc := 9) ddX7_findFault_9 ec_6 3 (Nat.le_of_ble_eq_true rfl) rfl w_1_32 hr.s0 rfl rfl ?_
            rw [← eI3]
            refine E_aload_n (pc := 12) (x := 2) ddX7_findFault_12 rfl rfl ?_
            refine E_iload_n (pc := 13) (x := (I1 2 4)) ddX7_findFault_13 rfl rfl ?_
            obtain ⟨I4, eI4⟩ : ∃ y : It, y = e_st I3 2 2 (I1 2 4) := ⟨_, rfl⟩
            have k := k I4 eI4
            refine E_putI (pc := 14) ddX7_findFault_14 ec_6 2 (Nat.le_of_ble_eq_true rfl) rfl w_1_30 hr.s0 rfl rfl ?_
            rw [← eI4]
            refine E_vret (pc := 17) ddX7_findFault_17 rfl ?_
            refine (show E mX7_readNumber mc ms 31 [some (.ref 2), some (.int x1), none, none] [] z I4 Q from ?_)
            refine E_iconst (pc := 31) (v := 0) ddX7_readNumber_31 rfl ?_
            exact E_iret (pc := 32) ddX7_readNumber_32 rfl k
        · have k := k.2 h
          refine E_iconst (pc := 12) (v := 1) ddX7_isFigure_12 rfl ?_
          refine E_goto (pc := 13) (tgt := 17) ddX7_isFigure_13 (by decide) ?_
          refine E_zret (pc := 17) ddX7_isFigure_17 rfl (by decide) ?_
          refine (show E mX7_readNumber mc ms 19 [some (.ref 2), some (.int x1), none, none] [.int 1] z I1 Q from ?_)
          refine E_if_ne (pc := 19) (tgt := 33) ddX7_readNumber_19 (by decide) (fun _ => ?_) (fun h => absurd h (by decide))
          refine E_iconst (pc := 33) (v := 0) ddX7_readNumber_33 rfl ?_
          refine E_istore_n (pc := 34) (ls' := [some (.ref 2), some (.int x1), some (.int 0), none]) ddX7_readNumber_34 rfl (Nat.le_of_ble_eq_true rfl) rfl rfl ?_
          refine E_iconst (pc := 35) (v := 0) ddX7_readNumber_35 rfl ?_
          refine E_istore_n (pc := 36) (ls' := [some (.ref 2), some (.int x1), some (.int 0), some (.int 0)]) ddX7_readNumber_36 rfl (Nat.le_of_ble_eq_true rfl) rfl rfl ?_
          exact k
set_option maxRecDepth 100000 in
set_option maxHeartbeats 4000000 in
theorem B_X7_readNumber_37 {mc ms : Nat} {z : Zt} {I : It} {Q : Option Value → Zt → It → Prop} {x1 x2 x3 : Int32} (hr : isRd z)
    (k : (((I 2 1) ≤ (I 2 4)) → E mX7_readNumber mc ms 96 [some (.ref 2), some (.int x1), some (.int x2), some (.int x3)] [] z I Q) ∧
    ((¬ (I 2 1) ≤ (I 2 4)) → (((I 2 4) < 0) → E mX7_readNumber mc ms 96 [some (.ref 2), some (.int x1), some (.int x2), some (.int x3)] [] z I Q) ∧
    ((¬ (I 2 4) < 0) → (((I 2 1) ≤ (I 2 4)) → E mX7_readNumber mc ms 96 [some (.ref 2), some (.int x1), some (.int x2), some (.int x3)] [] z I Q) ∧
    ((¬ (I 2 1) ≤ (I 2 4)) → ∃ j1 : Nat, (I 2 4) = nI j1 ∧ j1 < 200 ∧ (((I 3 j1) < 48) → E mX7_readNumber mc ms 96 [some (.ref 2), some (.int x1), some (.int x2), some (.int x3)] [] z I Q) ∧
    ((¬ (I 3 j1) < 48) → ((57 < (I 3 j1)) → E mX7_readNumber mc ms 96 [some (.ref 2), some (.int x1), some (.int x2), some (.int x3)] [] z I Q) ∧
    ((¬ 57 < (I 3 j1)) → ((2 ≤ x3) → ∀ I2 : It, I2 = e_st I 2 4 ((I 2 4) + 1) → E mX7_readNumber mc ms 37 [some (.ref 2), some (.int x1), some (.int x2), some (.int (x3 + 1))] [] z I2 Q) ∧
    ((¬ 2 ≤ x3) → (((I 2 4) < 0) → ∀ v2 : Int32, v2 = (((x2 * 10) + (-1)) - 48) → ∀ I3 : It, I3 = e_st I 2 4 ((I 2 4) + 1) → E mX7_readNumber mc ms 37 [some (.ref 2), some (.int x1), some (.int v2), some (.int (x3 + 1))] [] z I3 Q) ∧
    ((¬ (I 2 4) < 0) → (((I 2 1) ≤ (I 2 4)) → ∀ v2 : Int32, v2 = (((x2 * 10) + (-1)) - 48) → ∀ I3 : It, I3 = e_st I 2 4 ((I 2 4) + 1) → E mX7_readNumber mc ms 37 [some (.ref 2), some (.int x1), some (.int v2), some (.int (x3 + 1))] [] z I3 Q) ∧
    ((¬ (I 2 1) ≤ (I 2 4)) → ∀ v2 : Int32, v2 = (((x2 * 10) + (I 3 j1)) - 48) → ∀ I3 : It, I3 = e_st I 2 4 ((I 2 4) + 1) → E mX7_readNumber mc ms 37 [some (.ref 2), some (.int x1), some (.int v2), some (.int (x3 + 1))] [] z I3 Q))))))))) :
    E mX7_readNumber mc ms 37 [some (.ref 2), some (.int x1), some (.int x2), some (.int x3)] [] z I Q := by
  refine E_aload_n (pc := 37) (x := 2) ddX7_readNumber_37 rfl rfl ?_
  refine E_getI (pc := 38) ddX7_readNumber_38 ec_6 4 (Nat.le_of_ble_eq_true rfl) rfl w_1_33 hr.s0 ?_
  refine E_aload_n (pc := 41) (x := 2) ddX7_readNumber_41 rfl rfl ?_
  refine E_getI (pc := 42) ddX7_readNumber_42 ec_6 1 (Nat.le_of_ble_eq_true rfl) rfl w_1_28 hr.s0 ?_
  refine E_icmp_ge (pc := 45) (tgt := 96) ddX7_readNumber_45 (by decide) (fun h => ?_) (fun h => ?_)
  · have k := k.1 h
    exact k
  · have k := k.2 h
    refine E_aload_n (pc := 48) (x := 2) ddX7_readNumber_48 rfl rfl ?_
    refine E_callV (pc := 49) (As := []) (st := []) (a := 2) ddX7_readNumber_49 hX7_letterHere ⟨(Nat.le_of_ble_eq_true rfl), (Nat.le_of_ble_eq_true rfl)⟩ w_2_65 (ci := 6) rfl rfl hr.s0 rfl rfl (Nat.le_of_ble_eq_true rfl) e_cn (Nat.le_of_ble_eq_true rfl) ?_
    refine (show E mX7_letterHere 0 0 0 [some (.ref 2)] [] z I _ from ?_)
    refine E_aload_n (pc := 0) (x := 2) ddX7_letterHere_0 rfl rfl ?_
    refine E_getI (pc := 1) ddX7_letterHere_1 ec_6 4 (Nat.le_of_ble_eq_true rfl) rfl w_1_33 hr.s0 ?_
    refine E_if_lt (pc := 4) (tgt := 30) ddX7_letterHere_4 (by decide) (fun h => ?_) (fun h => ?_)
    · have k := k.1 h
      refine E_iconst (pc := 30) (v := (-1)) ddX7_letterHere_30 rfl ?_
      refine E_iret (pc := 31) ddX7_letterHere_31 rfl ?_
      refine (show E mX7_readNumber mc ms 52 [some (.ref 2), some (.int x1), some (.int x2), some (.int x3)] [.int (-1)] z I Q from ?_)
      refine E_callS (pc := 52) (As := [.int (-1)]) (st := []) ddX7_readNumber_52 hX7_isFigure ⟨(Nat.le_of_ble_eq_true rfl), (Nat.le_of_ble_eq_true rfl)⟩ w_2_85 rfl rfl (Nat.le_of_ble_eq_true rfl) (e_cc rfl e_cn) (Nat.le_of_ble_eq_true rfl) ?_
      refine (show E mX7_isFigure 0 0 0 [some (.int (-1))] [] z I _ from ?_)
      refine E_iload_n (pc := 0) (x := (-1)) ddX7_isFigure_0 rfl rfl ?_
      refine E_bipush (pc := 1) (v := 48) ddX7_isFigure_1 rfl ?_
      refine E_icmp_lt (pc := 3) (tgt := 16) ddX7_isFigure_3 (by decide) (fun _ => ?_) (fun h => absurd h (by decide))
      refine E_iconst (pc := 16) (v := 0) ddX7_isFigure_16 rfl ?_
      refine E_zret (pc := 17) ddX7_isFigure_17 rfl (by decide) ?_
      refine (show E mX7_readNumber mc ms 55 [some (.ref 2), some (.int x1), some (.int x2), some (.int x3)] [.int 0] z I Q from ?_)
      refine E_if_eq (pc := 55) (tgt := 96) ddX7_readNumber_55 (by decide) (fun _ => ?_) (fun h => absurd h (by decide))
      exact k
    · have k := k.2 h
      refine E_aload_n (pc := 7) (x := 2) ddX7_letterHere_7 rfl rfl ?_
      refine E_getI (pc := 8) ddX7_letterHere_8 ec_6 4 (Nat.le_of_ble_eq_true rfl) rfl w_1_33 hr.s0 ?_
      refine E_aload_n (pc := 11) (x := 2) ddX7_letterHere_11 rfl rfl ?_
      refine E_getI (pc := 12) ddX7_letterHere_12 ec_6 1 (Nat.le_of_ble_eq_true rfl) rfl w_1_28 hr.s0 ?_
      refine E_icmp_ge (pc := 15) (tgt := 30) ddX7_letterHere_15 (by decide) (fun h => ?_) (fun h => ?_)
      · have k := k.1 h
        refine E_iconst (pc := 30) (v := (-1)) ddX7_letterHere_30 rfl ?_
        refine E_iret (pc := 31) ddX7_letterHere_31 rfl ?_
        refine (show E mX7_readNumber mc ms 52 [some (.ref 2), some (.int x1), some (.int x2), some (.int x3)] [.int (-1)] z I Q from ?_)
        refine E_callS (pc := 52) (As := [.int (-1)]) (st := []) ddX7_readNumber_52 hX7_isFigure ⟨(Nat.le_of_ble_eq_true rfl), (Nat.le_of_ble_eq_true rfl)⟩ w_2_85 rfl rfl (Nat.le_of_ble_eq_true rfl) (e_cc rfl e_cn) (Nat.le_of_ble_eq_true rfl) ?_
        refine (show E mX7_isFigure 0 0 0 [some (.int (-1))] [] z I _ from ?_)
        refine E_iload_n (pc := 0) (x := (-1)) ddX7_isFigure_0 rfl rfl ?_
        refine E_bipush (pc := 1) (v := 48) ddX7_isFigure_1 rfl ?_
        refine E_icmp_lt (pc := 3) (tgt := 16) ddX7_isFigure_3 (by decide) (fun _ => ?_) (fun h => absurd h (by decide))
        refine E_iconst (pc := 16) (v := 0) ddX7_isFigure_16 rfl ?_
        refine E_zret (pc := 17) ddX7_isFigure_17 rfl (by decide) ?_
        refine (show E mX7_readNumber mc ms 55 [some (.ref 2), some (.int x1), some (.int x2), some (.int x3)] [.int 0] z I Q from ?_)
        refine E_if_eq (pc := 55) (tgt := 96) ddX7_readNumber_55 (by decide) (fun _ => ?_) (fun h => absurd h (by decide))
        exact k
      · have k := k.2 h
        refine E_aload_n (pc := 18) (x := 2) ddX7_letterHere_18 rfl rfl ?_
        refine E_getR (pc := 19) (x := 3) ddX7_letterHere_19 ec_6 0 (Nat.le_of_ble_eq_true rfl) rfl w_1_27 hr.s0 hr.r0 (by decide) ?_
        refine E_aload_n (pc := 22) (x := 2) ddX7_letterHere_22 rfl rfl ?_
        refine E_getI (pc := 23) ddX7_letterHere_23 ec_6 4 (Nat.le_of_ble_eq_true rfl) rfl w_1_33 hr.s0 ?_
        obtain ⟨j1, ij1, lj1, k⟩ := k
        refine E_ialdN (pc := 26) (j := j1) ddX7_letterHere_26 hr.s1 ij1 lj1 (Nat.le_of_ble_eq_true rfl) ?_
        refine E_goto (pc := 27) (tgt := 31) ddX7_letterHere_27 (by decide) ?_
        refine E_iret (pc := 31) ddX7_letterHere_31 rfl ?_
        refine (show E mX7_readNumber mc ms 52 [some (.ref 2), some (.int x1), some (.int x2), some (.int x3)] [.int (I 3 j1)] z I Q from ?_)
        refine E_callS (pc := 52) (As := [.int (I 3 j1)]) (st := []) ddX7_readNumber_52 hX7_isFigure ⟨(Nat.le_of_ble_eq_true rfl), (Nat.le_of_ble_eq_true rfl)⟩ w_2_85 rfl rfl (Nat.le_of_ble_eq_true rfl) (e_cc rfl e_cn) (Nat.le_of_ble_eq_true rfl) ?_
        refine (show E mX7_isFigure 0 0 0 [some (.int (I 3 j1))] [] z I _ from ?_)
        refine E_iload_n (pc := 0) (x := (I 3 j1)) ddX7_isFigure_0 rfl rfl ?_
        refine E_bipush (pc := 1) (v := 48) ddX7_isFigure_1 rfl ?_
        refine E_icmp_lt (pc := 3) (tgt := 16) ddX7_isFigure_3 (by decide) (fun h => ?_) (fun h => ?_)
        · have k := k.1 h
          refine E_iconst (pc := 16) (v := 0) ddX7_isFigure_16 rfl ?_
          refine E_zret (pc := 17) ddX7_isFigure_17 rfl (by decide) ?_
          refine (show E mX7_readNumber mc ms 55 [some (.ref 2), some (.int x1), some (.int x2), some (.int x3)] [.int 0] z I Q from ?_)
          refine E_if_eq (pc := 55) (tgt := 96) ddX7_readNumber_55 (by decide) (fun _ => ?_) (fun h => absurd h (by decide))
          exact k
        · have k := k.2 h
          refine E_iload_n (pc := 6) (x := (I 3 j1)) ddX7_isFigure_6 rfl rfl ?_
          refine E_bipush (pc := 7) (v := 57) ddX7_isFigure_7 rfl ?_
          refine E_icmp_gt (pc := 9) (tgt := 16) ddX7_isFigure_9 (by decide) (fun h => ?_) (fun h => ?_)
          · have k := k.1 h
            refine E_iconst (pc := 16) (v := 0) ddX7_isFigure_16 rfl ?_
            refine E_zret (pc := 17) ddX7_isFigure_17 rfl (by decide) ?_
            refine (show E mX7_readNumber mc ms 55 [some (.ref 2), some (.int x1), some (.int x2), some (.int x3)] [.int 0] z I Q from ?_)
            refine E_if_eq (pc := 55) (tgt := 96) ddX7_readNumber_55 (by decide) (fun _ => ?_) (fun h => absurd h (by decide))
            exact k
          · have k := k.2 h
            refine E_iconst (pc := 12) (v := 1) ddX7_isFigure_12 rfl ?_
            refine E_goto (pc := 13) (tgt := 17) ddX7_isFigure_13 (by decide) ?_
            refine E_zret (pc := 17) ddX7_isFigure_17 rfl (by decide) ?_
            refine (show E mX7_readNumber mc ms 55 [some (.ref 2), some (.int x1), some (.int x2), some (.int x3)] [.int 1] z I Q from ?_)
            refine E_if_eq (pc := 55) (tgt := 96) ddX7_readNumber_55 (by decide) (fun h => absurd h (by decide)) (fun _ => ?_)
            refine E_iload_n (pc := 58) (x := x3) ddX7_readNumber_58 rfl rfl ?_
            refine E_iconst (pc := 59) (v := 2) ddX7_readNumber_59 rfl ?_
            refine E_icmp_ge (pc := 60) (tgt := 78) ddX7_readNumber_60 (by decide) (fun h => ?_) (fun h => ?_)
            · have k := k.1 h
              refine E_iload_n (pc := 78) (x := x2) ddX7_readNumber_78 rfl rfl ?_
              refine E_istore_n (pc := 79) (ls' := [some (.ref 2), some (.int x1), some (.int x2), some (.int x3)]) ddX7_readNumber_79 rfl (Nat.le_of_ble_eq_true rfl) rfl rfl ?_
              refine E_iinc (pc := 80) (v := (x3 + 1)) (ls' := [some (.ref 2), some (.int x1), some (.int x2), some (.int (x3 + 1))]) ddX7_readNumber_80 rfl rfl (Nat.le_of_ble_eq_true rfl) rfl rfl ?_
              refine E_aload_n (pc := 83) (x := 2) ddX7_readNumber_83 rfl rfl ?_
              refine E_dupr (pc := 84) ddX7_readNumber_84 ?_
              refine E_getI (pc := 85) ddX7_readNumber_85 ec_6 4 (Nat.le_of_ble_eq_true rfl) rfl w_1_33 hr.s0 ?_
              refine E_iconst (pc := 88) (v := 1) ddX7_readNumber_88 rfl ?_
              refine E_iadd (pc := 89) ddX7_readNumber_89 ?_
              obtain ⟨I2, eI2⟩ : ∃ y : It, y = e_st I 2 4 ((I 2 4) + 1) := ⟨_, rfl⟩
              have k := k I2 eI2
              refine E_putI (pc := 90) ddX7_readNumber_90 ec_6 4 (Nat.le_of_ble_eq_true rfl) rfl w_1_33 hr.s0 rfl rfl ?_
              rw [← eI2]
              refine E_goto (pc := 93) (tgt := 37) ddX7_readNumber_93 (by decide) ?_
              exact k
            · have k := k.2 h
              refine E_iload_n (pc := 63) (x := x2) ddX7_readNumber_63 rfl rfl ?_
              refine E_bipush (pc := 64) (v := 10) ddX7_readNumber_64 rfl ?_
              refine E_imul (pc := 66) ddX7_readNumber_66 ?_
              refine E_aload_n (pc := 67) (x := 2) ddX7_readNumber_67 rfl rfl ?_
              refine E_callV (pc := 68) (As := []) (st := [.int (x2 * 10)]) (a := 2) ddX7_readNumber_68 hX7_letterHere ⟨(Nat.le_of_ble_eq_true rfl), (Nat.le_of_ble_eq_true rfl)⟩ w_2_65 (ci := 6) rfl rfl hr.s0 rfl rfl (Nat.le_of_ble_eq_true rfl) e_cn (Nat.le_of_ble_eq_true rfl) ?_
              refine (show E mX7_letterHere 0 0 0 [some (.ref 2)] [] z I _ from ?_)
              refine E_aload_n (pc := 0) (x := 2) ddX7_letterHere_0 rfl rfl ?_
              refine E_getI (pc := 1) ddX7_letterHere_1 ec_6 4 (Nat.le_of_ble_eq_true rfl) rfl w_1_33 hr.s0 ?_
              refine E_if_lt (pc := 4) (tgt := 30) ddX7_letterHere_4 (by decide) (fun h => ?_) (fun h => ?_)
              · have k := k.1 h
                refine E_iconst (pc := 30) (v := (-1)) ddX7_letterHere_30 rfl ?_
                refine E_iret (pc := 31) ddX7_letterHere_31 rfl ?_
                refine (show E mX7_readNumber mc ms 71 [some (.ref 2), some (.int x1), some (.int x2), some (.int x3)] [.int (-1), .int (x2 * 10)] z I Q from ?_)
                refine E_iadd (pc := 71) ddX7_readNumber_71 ?_
                refine E_bipush (pc := 72) (v := 48) ddX7_readNumber_72 rfl ?_
                refine E_isub (pc := 74) ddX7_readNumber_74 ?_
                refine E_goto (pc := 75) (tgt := 79) ddX7_readNumber_75 (by decide) ?_
                obtain ⟨v2, ev2⟩ : ∃ y : Int32, y = (((x2 * 10) + (-1)) - 48) := ⟨_, rfl⟩
                have k := k v2 ev2
                rw [← ev2]
                refine E_istore_n (pc := 79) (ls' := [some (.ref 2), some (.int x1), some (.int v2), some (.int x3)]) ddX7_readNumber_79 rfl (Nat.le_of_ble_eq_true rfl) rfl rfl ?_
                refine E_iinc (pc := 80) (v := (x3 + 1)) (ls' := [some (.ref 2), some (.int x1), some (.int v2), some (.int (x3 + 1))]) ddX7_readNumber_80 rfl rfl (Nat.le_of_ble_eq_true rfl) rfl rfl ?_
                refine E_aload_n (pc := 83) (x := 2) ddX7_readNumber_83 rfl rfl ?_
                refine E_dupr (pc := 84) ddX7_readNumber_84 ?_
                refine E_getI (pc := 85) ddX7_readNumber_85 ec_6 4 (Nat.le_of_ble_eq_true rfl) rfl w_1_33 hr.s0 ?_
                refine E_iconst (pc := 88) (v := 1) ddX7_readNumber_88 rfl ?_
                refine E_iadd (pc := 89) ddX7_readNumber_89 ?_
                obtain ⟨I3, eI3⟩ : ∃ y : It, y = e_st I 2 4 ((I 2 4) + 1) := ⟨_, rfl⟩
                have k := k I3 eI3
                refine E_putI (pc := 90) ddX7_readNumber_90 ec_6 4 (Nat.le_of_ble_eq_true rfl) rfl w_1_33 hr.s0 rfl rfl ?_
                rw [← eI3]
                refine E_goto (pc := 93) (tgt := 37) ddX7_readNumber_93 (by decide) ?_
                exact k
              · have k := k.2 h
                refine E_aload_n (pc := 7) (x := 2) ddX7_letterHere_7 rfl rfl ?_
                refine E_getI (pc := 8) ddX7_letterHere_8 ec_6 4 (Nat.le_of_ble_eq_true rfl) rfl w_1_33 hr.s0 ?_
                refine E_aload_n (pc := 11) (x := 2) ddX7_letterHere_11 rfl rfl ?_
                refine E_getI (pc := 12) ddX7_letterHere_12 ec_6 1 (Nat.le_of_ble_eq_true rfl) rfl w_1_28 hr.s0 ?_
                refine E_icmp_ge (pc := 15) (tgt := 30) ddX7_letterHere_15 (by decide) (fun h => ?_) (fun h => ?_)
                · have k := k.1 h
                  refine E_iconst (pc := 30) (v := (-1)) ddX7_letterHere_30 rfl ?_
                  refine E_iret (pc := 31) ddX7_letterHere_31 rfl ?_
                  refine (show E mX7_readNumber mc ms 71 [some (.ref 2), some (.int x1), some (.int x2), some (.int x3)] [.int (-1), .int (x2 * 10)] z I Q from ?_)
                  refine E_iadd (pc := 71) ddX7_readNumber_71 ?_
                  refine E_bipush (pc := 72) (v := 48) ddX7_readNumber_72 rfl ?_
                  refine E_isub (pc := 74) ddX7_readNumber_74 ?_
                  refine E_goto (pc := 75) (tgt := 79) ddX7_readNumber_75 (by decide) ?_
                  obtain ⟨v2, ev2⟩ : ∃ y : Int32, y = (((x2 * 10) + (-1)) - 48) := ⟨_, rfl⟩
                  have k := k v2 ev2
                  rw [← ev2]
                  refine E_istore_n (pc := 79) (ls' := [some (.ref 2), some (.int x1), some (.int v2), some (.int x3)]) ddX7_readNumber_79 rfl (Nat.le_of_ble_eq_true rfl) rfl rfl ?_
                  refine E_iinc (pc := 80) (v := (x3 + 1)) (ls' := [some (.ref 2), some (.int x1), some (.int v2), some (.int (x3 + 1))]) ddX7_readNumber_80 rfl rfl (Nat.le_of_ble_eq_true rfl) rfl rfl ?_
                  refine E_aload_n (pc := 83) (x := 2) ddX7_readNumber_83 rfl rfl ?_
                  refine E_dupr (pc := 84) ddX7_readNumber_84 ?_
                  refine E_getI (pc := 85) ddX7_readNumber_85 ec_6 4 (Nat.le_of_ble_eq_true rfl) rfl w_1_33 hr.s0 ?_
                  refine E_iconst (pc := 88) (v := 1) ddX7_readNumber_88 rfl ?_
                  refine E_iadd (pc := 89) ddX7_readNumber_89 ?_
                  obtain ⟨I3, eI3⟩ : ∃ y : It, y = e_st I 2 4 ((I 2 4) + 1) := ⟨_, rfl⟩
                  have k := k I3 eI3
                  refine E_putI (pc := 90) ddX7_readNumber_90 ec_6 4 (Nat.le_of_ble_eq_true rfl) rfl w_1_33 hr.s0 rfl rfl ?_
                  rw [← eI3]
                  refine E_goto (pc := 93) (tgt := 37) ddX7_readNumber_93 (by decide) ?_
                  exact k
                · have k := k.2 h
                  refine E_aload_n (pc := 18) (x := 2) ddX7_letterHere_18 rfl rfl ?_
                  refine E_getR (pc := 19) (x := 3) ddX7_letterHere_19 ec_6 0 (Nat.le_of_ble_eq_true rfl) rfl w_1_27 hr.s0 hr.r0 (by decide) ?_
                  refine E_aload_n (pc := 22) (x := 2) ddX7_letterHere_22 rfl rfl ?_
                  refine E_getI (pc := 23) ddX7_letterHere_23 ec_6 4 (Nat.le_of_ble_eq_true rfl) rfl w_1_33 hr.s0 ?_
                  refine E_ialdN (pc := 26) (j := j1) ddX7_letterHere_26 hr.s1 ij1 lj1 (Nat.le_of_ble_eq_true rfl) ?_
                  refine E_goto (pc := 27) (tgt := 31) ddX7_letterHere_27 (by decide) ?_
                  refine E_iret (pc := 31) ddX7_letterHere_31 rfl ?_
                  refine (show E mX7_readNumber mc ms 71 [some (.ref 2), some (.int x1), some (.int x2), some (.int x3)] [.int (I 3 j1), .int (x2 * 10)] z I Q from ?_)
                  refine E_iadd (pc := 71) ddX7_readNumber_71 ?_
                  refine E_bipush (pc := 72) (v := 48) ddX7_readNumber_72 rfl ?_
                  refine E_isub (pc := 74) ddX7_readNumber_74 ?_
                  refine E_goto (pc := 75) (tgt := 79) ddX7_readNumber_75 (by decide) ?_
                  obtain ⟨v2, ev2⟩ : ∃ y : Int32, y = (((x2 * 10) + (I 3 j1)) - 48) := ⟨_, rfl⟩
                  have k := k v2 ev2
                  rw [← ev2]
                  refine E_istore_n (pc := 79) (ls' := [some (.ref 2), some (.int x1), some (.int v2), some (.int x3)]) ddX7_readNumber_79 rfl (Nat.le_of_ble_eq_true rfl) rfl rfl ?_
                  refine E_iinc (pc := 80) (v := (x3 + 1)) (ls' := [some (.ref 2), some (.int x1), some (.int v2), some (.int (x3 + 1))]) ddX7_readNumber_80 rfl rfl (Nat.le_of_ble_eq_true rfl) rfl rfl ?_
                  refine E_aload_n (pc := 83) (x := 2) ddX7_readNumber_83 rfl rfl ?_
                  refine E_dupr (pc := 84) ddX7_readNumber_84 ?_
                  refine E_getI (pc := 85) ddX7_readNumber_85 ec_6 4 (Nat.le_of_ble_eq_true rfl) rfl w_1_33 hr.s0 ?_
                  refine E_iconst (pc := 88) (v := 1) ddX7_readNumber_88 rfl ?_
                  refine E_iadd (pc := 89) ddX7_readNumber_89 ?_
                  obtain ⟨I3, eI3⟩ : ∃ y : It, y = e_st I 2 4 ((I 2 4) + 1) := ⟨_, rfl⟩
                  have k := k I3 eI3
                  refine E_putI (pc := 90) ddX7_readNumber_90 ec_6 4 (Nat.le_of_ble_eq_true rfl) rfl w_1_33 hr.s0 rfl rfl ?_
                  rw [← eI3]
                  refine E_goto (pc := 93) (tgt := 37) ddX7_readNumber_93 (by decide) ?_
                  exact k
set_option maxRecDepth 100000 in
set_option maxHeartbeats 4000000 in
theorem B_X7_readNumber_96 {mc ms : Nat} {z : Zt} {I : It} {Q : Option Value → Zt → It → Prop} {x1 x2 x3 : Int32} (hr : isRd z)
    (k : ((2 < x3) → ((¬ (I 2 3) = 0) → Q (some (.int 0)) z I) ∧
    (((I 2 3) = 0) → ∀ I1 : It, I1 = e_st I 2 3 2 → ∀ I2 : It, I2 = e_st I1 2 2 (I 2 5) → Q (some (.int 0)) z I2)) ∧
    ((¬ 2 < x3) → ((x2 ≤ x1) → Q (some (.int x2)) z I) ∧
    ((¬ x2 ≤ x1) → ((¬ (I 2 3) = 0) → Q (some (.int 0)) z I) ∧
    (((I 2 3) = 0) → ∀ I1 : It, I1 = e_st I 2 3 2 → ∀ I2 : It, I2 = e_st I1 2 2 (I 2 5) → Q (some (.int 0)) z I2)))) :
    E mX7_readNumber mc ms 96 [some (.ref 2), some (.int x1), some (.int x2), some (.int x3)] [] z I Q := by
  refine E_iload_n (pc := 96) (x := x3) ddX7_readNumber_96 rfl rfl ?_
  refine E_iconst (pc := 97) (v := 2) ddX7_readNumber_97 rfl ?_
  refine E_icmp_gt (pc := 98) (tgt := 106) ddX7_readNumber_98 (by decide) (fun h => ?_) (fun h => ?_)
  · have k := k.1 h
    refine E_aload_n (pc := 106) (x := 2) ddX7_readNumber_106 rfl rfl ?_
    refine E_iconst (pc := 107) (v := 2) ddX7_readNumber_107 rfl ?_
    refine E_aload_n (pc := 108) (x := 2) ddX7_readNumber_108 rfl rfl ?_
    refine E_getI (pc := 109) ddX7_readNumber_109 ec_6 5 (Nat.le_of_ble_eq_true rfl) rfl w_1_34 hr.s0 ?_
    refine E_callV (pc := 112) (As := [.int 2, .int (I 2 5)]) (st := []) (a := 2) ddX7_readNumber_112 hX7_findFault ⟨(Nat.le_of_ble_eq_true rfl), (Nat.le_of_ble_eq_true rfl)⟩ w_2_77 (ci := 6) rfl rfl hr.s0 rfl rfl (Nat.le_of_ble_eq_true rfl) (e_cc rfl (e_cc rfl e_cn)) (Nat.le_of_ble_eq_true rfl) ?_
    refine (show E mX7_findFault 0 0 0 [some (.ref 2), some (.int 2), some (.int (I 2 5))] [] z I _ from ?_)
    refine E_aload_n (pc := 0) (x := 2) ddX7_findFault_0 rfl rfl ?_
    refine E_getI (pc := 1) ddX7_findFault_1 ec_6 3 (Nat.le_of_ble_eq_true rfl) rfl w_1_32 hr.s0 ?_
    refine E_if_ne (pc := 4) (tgt := 17) ddX7_findFault_4 (by decide) (fun h => ?_) (fun h => ?_)
    · have k := k.1 h
      refine E_vret (pc := 17) ddX7_findFault_17 rfl ?_
      refine (show E mX7_readNumber mc ms 115 [some (.ref 2), some (.int x1), some (.int x2), some (.int x3)] [] z I Q from ?_)
      refine E_iconst (pc := 115) (v := 0) ddX7_readNumber_115 rfl ?_
      exact E_iret (pc := 116) ddX7_readNumber_116 rfl k
    · have k := k.2 h
      refine E_aload_n (pc := 7) (x := 2) ddX7_findFault_7 rfl rfl ?_
      refine E_iload_n (pc := 8) (x := 2) ddX7_findFault_8 rfl rfl ?_
      obtain ⟨I1, eI1⟩ : ∃ y : It, y = e_st I 2 3 2 := ⟨_, rfl⟩
      have k := k I1 eI1
      refine E_putI (pc := 9) ddX7_findFault_9 ec_6 3 (Nat.le_of_ble_eq_true rfl) rfl w_1_32 hr.s0 rfl rfl ?_
      rw [← eI1]
      refine E_aload_n (pc := 12) (x := 2) ddX7_findFault_12 rfl rfl ?_
      refine E_iload_n (pc := 13) (x := (I 2 5)) ddX7_findFault_13 rfl rfl ?_
      obtain ⟨I2, eI2⟩ : ∃ y : It, y = e_st I1 2 2 (I 2 5) := ⟨_, rfl⟩
      have k := k I2 eI2
      refine E_putI (pc := 14) ddX7_findFault_14 ec_6 2 (Nat.le_of_ble_eq_true rfl) rfl w_1_30 hr.s0 rfl rfl ?_
      rw [← eI2]
      refine E_vret (pc := 17) ddX7_findFault_17 rfl ?_
      refine (show E mX7_readNumber mc ms 115 [some (.ref 2), some (.int x1), some (.int x2), some (.int x3)] [] z I2 Q from ?_)
      refine E_iconst (pc := 115) (v := 0) ddX7_readNumber_115 rfl ?_
      exact E_iret (pc := 116) ddX7_readNumber_116 rfl k
  · have k := k.2 h
    refine E_iload_n (pc := 101) (x := x2) ddX7_readNumber_101 rfl rfl ?_
    refine E_iload_n (pc := 102) (x := x1) ddX7_readNumber_102 rfl rfl ?_
    refine E_icmp_le (pc := 103) (tgt := 117) ddX7_readNumber_103 (by decide) (fun h => ?_) (fun h => ?_)
    · have k := k.1 h
      refine E_iload_n (pc := 117) (x := x2) ddX7_readNumber_117 rfl rfl ?_
      exact E_iret (pc := 118) ddX7_readNumber_118 rfl k
    · have k := k.2 h
      refine E_aload_n (pc := 106) (x := 2) ddX7_readNumber_106 rfl rfl ?_
      refine E_iconst (pc := 107) (v := 2) ddX7_readNumber_107 rfl ?_
      refine E_aload_n (pc := 108) (x := 2) ddX7_readNumber_108 rfl rfl ?_
      refine E_getI (pc := 109) ddX7_readNumber_109 ec_6 5 (Nat.le_of_ble_eq_true rfl) rfl w_1_34 hr.s0 ?_
      refine E_callV (pc := 112) (As := [.int 2, .int (I 2 5)]) (st := []) (a := 2) ddX7_readNumber_112 hX7_findFault ⟨(Nat.le_of_ble_eq_true rfl), (Nat.le_of_ble_eq_true rfl)⟩ w_2_77 (ci := 6) rfl rfl hr.s0 rfl rfl (Nat.le_of_ble_eq_true rfl) (e_cc rfl (e_cc rfl e_cn)) (Nat.le_of_ble_eq_true rfl) ?_
      refine (show E mX7_findFault 0 0 0 [some (.ref 2), some (.int 2), some (.int (I 2 5))] [] z I _ from ?_)
      refine E_aload_n (pc := 0) (x := 2) ddX7_findFault_0 rfl rfl ?_
      refine E_getI (pc := 1) ddX7_findFault_1 ec_6 3 (Nat.le_of_ble_eq_true rfl) rfl w_1_32 hr.s0 ?_
      refine E_if_ne (pc := 4) (tgt := 17) ddX7_findFault_4 (by decide) (fun h => ?_) (fun h => ?_)
      · have k := k.1 h
        refine E_vret (pc := 17) ddX7_findFault_17 rfl ?_
        refine (show E mX7_readNumber mc ms 115 [some (.ref 2), some (.int x1), some (.int x2), some (.int x3)] [] z I Q from ?_)
        refine E_iconst (pc := 115) (v := 0) ddX7_readNumber_115 rfl ?_
        exact E_iret (pc := 116) ddX7_readNumber_116 rfl k
      · have k := k.2 h
        refine E_aload_n (pc := 7) (x := 2) ddX7_findFault_7 rfl rfl ?_
        refine E_iload_n (pc := 8) (x := 2) ddX7_findFault_8 rfl rfl ?_
        obtain ⟨I1, eI1⟩ : ∃ y : It, y = e_st I 2 3 2 := ⟨_, rfl⟩
        have k := k I1 eI1
        refine E_putI (pc := 9) ddX7_findFault_9 ec_6 3 (Nat.le_of_ble_eq_true rfl) rfl w_1_32 hr.s0 rfl rfl ?_
        rw [← eI1]
        refine E_aload_n (pc := 12) (x := 2) ddX7_findFault_12 rfl rfl ?_
        refine E_iload_n (pc := 13) (x := (I 2 5)) ddX7_findFault_13 rfl rfl ?_
        obtain ⟨I2, eI2⟩ : ∃ y : It, y = e_st I1 2 2 (I 2 5) := ⟨_, rfl⟩
        have k := k I2 eI2
        refine E_putI (pc := 14) ddX7_findFault_14 ec_6 2 (Nat.le_of_ble_eq_true rfl) rfl w_1_30 hr.s0 rfl rfl ?_
        rw [← eI2]
        refine E_vret (pc := 17) ddX7_findFault_17 rfl ?_
        refine (show E mX7_readNumber mc ms 115 [some (.ref 2), some (.int x1), some (.int x2), some (.int x3)] [] z I2 Q from ?_)
        refine E_iconst (pc := 115) (v := 0) ddX7_readNumber_115 rfl ?_
        exact E_iret (pc := 116) ddX7_readNumber_116 rfl k
/-! X7_readEnd, labels [4] -/
set_option maxRecDepth 100000 in
set_option maxHeartbeats 4000000 in
theorem B_X7_readEnd_0 {mc ms : Nat} {z : Zt} {I : It} {Q : Option Value → Zt → It → Prop} (hr : isRd z)
    (k : E mX7_skipBlanks 0 0 0 [some (.ref 2)] [] z I (fun r z' I' => E mX7_readEnd mc ms 4 [some (.ref 2)] (r.toList ++ []) z' I' Q)) :
    E mX7_readEnd mc ms 0 [some (.ref 2)] [] z I Q := by
  refine E_aload_n (pc := 0) (x := 2) ddX7_readEnd_0 rfl rfl ?_
  exact E_callV (pc := 1) (As := []) (st := []) (a := 2) ddX7_readEnd_1 hX7_skipBlanks ⟨(Nat.le_of_ble_eq_true rfl), (Nat.le_of_ble_eq_true rfl)⟩ w_2_61 (ci := 6) rfl rfl hr.s0 rfl rfl (Nat.le_of_ble_eq_true rfl) e_cn (Nat.le_of_ble_eq_true rfl) k
set_option maxRecDepth 100000 in
set_option maxHeartbeats 4000000 in
theorem B_X7_readEnd_4 {mc ms : Nat} {z : Zt} {I : It} {Q : Option Value → Zt → It → Prop} (hr : isRd z)
    (k : (((I 2 4) < 0) → ((¬ (I 2 3) = 0) → ∀ I1 : It, I1 = e_st I 2 4 ((I 2 4) + 1) → Q none z I1) ∧
    (((I 2 3) = 0) → ∀ I1 : It, I1 = e_st I 2 3 1 → ∀ I2 : It, I2 = e_st I1 2 2 (I 2 4) → ∀ I3 : It, I3 = e_st I2 2 4 ((I2 2 4) + 1) → Q none z I3)) ∧
    ((¬ (I 2 4) < 0) → (((I 2 1) ≤ (I 2 4)) → ((¬ (I 2 3) = 0) → ∀ I1 : It, I1 = e_st I 2 4 ((I 2 4) + 1) → Q none z I1) ∧
    (((I 2 3) = 0) → ∀ I1 : It, I1 = e_st I 2 3 1 → ∀ I2 : It, I2 = e_st I1 2 2 (I 2 4) → ∀ I3 : It, I3 = e_st I2 2 4 ((I2 2 4) + 1) → Q none z I3)) ∧
    ((¬ (I 2 1) ≤ (I 2 4)) → ∃ j1 : Nat, (I 2 4) = nI j1 ∧ j1 < 200 ∧ (((I 3 j1) = 59) → ∀ I2 : It, I2 = e_st I 2 4 ((I 2 4) + 1) → Q none z I2) ∧
    ((¬ (I 3 j1) = 59) → ((¬ (I 2 3) = 0) → ∀ I2 : It, I2 = e_st I 2 4 ((I 2 4) + 1) → Q none z I2) ∧
    (((I 2 3) = 0) → ∀ I2 : It, I2 = e_st I 2 3 1 → ∀ I3 : It, I3 = e_st I2 2 2 (I 2 4) → ∀ I4 : It, I4 = e_st I3 2 4 ((I3 2 4) + 1) → Q none z I4))))) :
    E mX7_readEnd mc ms 4 [some (.ref 2)] [] z I Q := by
  refine E_aload_n (pc := 4) (x := 2) ddX7_readEnd_4 rfl rfl ?_
  refine E_callV (pc := 5) (As := []) (st := []) (a := 2) ddX7_readEnd_5 hX7_letterHere ⟨(Nat.le_of_ble_eq_true rfl), (Nat.le_of_ble_eq_true rfl)⟩ w_2_65 (ci := 6) rfl rfl hr.s0 rfl rfl (Nat.le_of_ble_eq_true rfl) e_cn (Nat.le_of_ble_eq_true rfl) ?_
  refine (show E mX7_letterHere 0 0 0 [some (.ref 2)] [] z I _ from ?_)
  refine E_aload_n (pc := 0) (x := 2) ddX7_letterHere_0 rfl rfl ?_
  refine E_getI (pc := 1) ddX7_letterHere_1 ec_6 4 (Nat.le_of_ble_eq_true rfl) rfl w_1_33 hr.s0 ?_
  refine E_if_lt (pc := 4) (tgt := 30) ddX7_letterHere_4 (by decide) (fun h => ?_) (fun h => ?_)
  · have k := k.1 h
    refine E_iconst (pc := 30) (v := (-1)) ddX7_letterHere_30 rfl ?_
    refine E_iret (pc := 31) ddX7_letterHere_31 rfl ?_
    refine (show E mX7_readEnd mc ms 8 [some (.ref 2)] [.int (-1)] z I Q from ?_)
    refine E_bipush (pc := 8) (v := 59) ddX7_readEnd_8 rfl ?_
    refine E_icmp_eq (pc := 10) (tgt := 22) ddX7_readEnd_10 (by decide) (fun h => absurd h (by decide)) (fun _ => ?_)
    refine E_aload_n (pc := 13) (x := 2) ddX7_readEnd_13 rfl rfl ?_
    refine E_iconst (pc := 14) (v := 1) ddX7_readEnd_14 rfl ?_
    refine E_aload_n (pc := 15) (x := 2) ddX7_readEnd_15 rfl rfl ?_
    refine E_getI (pc := 16) ddX7_readEnd_16 ec_6 4 (Nat.le_of_ble_eq_true rfl) rfl w_1_33 hr.s0 ?_
    refine E_callV (pc := 19) (As := [.int 1, .int (I 2 4)]) (st := []) (a := 2) ddX7_readEnd_19 hX7_findFault ⟨(Nat.le_of_ble_eq_true rfl), (Nat.le_of_ble_eq_true rfl)⟩ w_2_77 (ci := 6) rfl rfl hr.s0 rfl rfl (Nat.le_of_ble_eq_true rfl) (e_cc rfl (e_cc rfl e_cn)) (Nat.le_of_ble_eq_true rfl) ?_
    refine (show E mX7_findFault 0 0 0 [some (.ref 2), some (.int 1), some (.int (I 2 4))] [] z I _ from ?_)
    refine E_aload_n (pc := 0) (x := 2) ddX7_findFault_0 rfl rfl ?_
    refine E_getI (pc := 1) ddX7_findFault_1 ec_6 3 (Nat.le_of_ble_eq_true rfl) rfl w_1_32 hr.s0 ?_
    refine E_if_ne (pc := 4) (tgt := 17) ddX7_findFault_4 (by decide) (fun h => ?_) (fun h => ?_)
    · have k := k.1 h
      refine E_vret (pc := 17) ddX7_findFault_17 rfl ?_
      refine (show E mX7_readEnd mc ms 22 [some (.ref 2)] [] z I Q from ?_)
      refine E_aload_n (pc := 22) (x := 2) ddX7_readEnd_22 rfl rfl ?_
      refine E_dupr (pc := 23) ddX7_readEnd_23 ?_
      refine E_getI (pc := 24) ddX7_readEnd_24 ec_6 4 (Nat.le_of_ble_eq_true rfl) rfl w_1_33 hr.s0 ?_
      refine E_iconst (pc := 27) (v := 1) ddX7_readEnd_27 rfl ?_
      refine E_iadd (pc := 28) ddX7_readEnd_28 ?_
      obtain ⟨I1, eI1⟩ : ∃ y : It, y = e_st I 2 4 ((I 2 4) + 1) := ⟨_, rfl⟩
      have k := k I1 eI1
      refine E_putI (pc := 29) ddX7_readEnd_29 ec_6 4 (Nat.le_of_ble_eq_true rfl) rfl w_1_33 hr.s0 rfl rfl ?_
      rw [← eI1]
      exact E_vret (pc := 32) ddX7_readEnd_32 rfl k
    · have k := k.2 h
      refine E_aload_n (pc := 7) (x := 2) ddX7_findFault_7 rfl rfl ?_
      refine E_iload_n (pc := 8) (x := 1) ddX7_findFault_8 rfl rfl ?_
      obtain ⟨I1, eI1⟩ : ∃ y : It, y = e_st I 2 3 1 := ⟨_, rfl⟩
      have k := k I1 eI1
      refine E_putI (pc := 9) ddX7_findFault_9 ec_6 3 (Nat.le_of_ble_eq_true rfl) rfl w_1_32 hr.s0 rfl rfl ?_
      rw [← eI1]
      refine E_aload_n (pc := 12) (x := 2) ddX7_findFault_12 rfl rfl ?_
      refine E_iload_n (pc := 13) (x := (I 2 4)) ddX7_findFault_13 rfl rfl ?_
      obtain ⟨I2, eI2⟩ : ∃ y : It, y = e_st I1 2 2 (I 2 4) := ⟨_, rfl⟩
      have k := k I2 eI2
      refine E_putI (pc := 14) ddX7_findFault_14 ec_6 2 (Nat.le_of_ble_eq_true rfl) rfl w_1_30 hr.s0 rfl rfl ?_
      rw [← eI2]
      refine E_vret (pc := 17) ddX7_findFault_17 rfl ?_
      refine (show E mX7_readEnd mc ms 22 [some (.ref 2)] [] z I2 Q from ?_)
      refine E_aload_n (pc := 22) (x := 2) ddX7_readEnd_22 rfl rfl ?_
      refine E_dupr (pc := 23) ddX7_readEnd_23 ?_
      refine E_getI (pc := 24) ddX7_readEnd_24 ec_6 4 (Nat.le_of_ble_eq_true rfl) rfl w_1_33 hr.s0 ?_
      refine E_iconst (pc := 27) (v := 1) ddX7_readEnd_27 rfl ?_
      refine E_iadd (pc := 28) ddX7_readEnd_28 ?_
      obtain ⟨I3, eI3⟩ : ∃ y : It, y = e_st I2 2 4 ((I2 2 4) + 1) := ⟨_, rfl⟩
      have k := k I3 eI3
      refine E_putI (pc := 29) ddX7_readEnd_29 ec_6 4 (Nat.le_of_ble_eq_true rfl) rfl w_1_33 hr.s0 rfl rfl ?_
      rw [← eI3]
      exact E_vret (pc := 32) ddX7_readEnd_32 rfl k
  · have k := k.2 h
    refine E_aload_n (pc := 7) (x := 2) ddX7_letterHere_7 rfl rfl ?_
    refine E_getI (pc := 8) ddX7_letterHere_8 ec_6 4 (Nat.le_of_ble_eq_true rfl) rfl w_1_33 hr.s0 ?_
    refine E_aload_n (pc := 11) (x := 2) ddX7_letterHere_11 rfl rfl ?_
    refine E_getI (pc := 12) ddX7_letterHere_12 ec_6 1 (Nat.le_of_ble_eq_true rfl) rfl w_1_28 hr.s0 ?_
    refine E_icmp_ge (pc := 15) (tgt := 30) ddX7_letterHere_15 (by decide) (fun h => ?_) (fun h => ?_)
    · have k := k.1 h
      refine E_iconst (pc := 30) (v := (-1)) ddX7_letterHere_30 rfl ?_
      refine E_iret (pc := 31) ddX7_letterHere_31 rfl ?_
      refine (show E mX7_readEnd mc ms 8 [some (.ref 2)] [.int (-1)] z I Q from ?_)
      refine E_bipush (pc := 8) (v := 59) ddX7_readEnd_8 rfl ?_
      refine E_icmp_eq (pc := 10) (tgt := 22) ddX7_readEnd_10 (by decide) (fun h => absurd h (by decide)) (fun _ => ?_)
      refine E_aload_n (pc := 13) (x := 2) ddX7_readEnd_13 rfl rfl ?_
      refine E_iconst (pc := 14) (v := 1) ddX7_readEnd_14 rfl ?_
      refine E_aload_n (pc := 15) (x := 2) ddX7_readEnd_15 rfl rfl ?_
      refine E_getI (pc := 16) ddX7_readEnd_16 ec_6 4 (Nat.le_of_ble_eq_true rfl) rfl w_1_33 hr.s0 ?_
      refine E_callV (pc := 19) (As := [.int 1, .int (I 2 4)]) (st := []) (a := 2) ddX7_readEnd_19 hX7_findFault ⟨(Nat.le_of_ble_eq_true rfl), (Nat.le_of_ble_eq_true rfl)⟩ w_2_77 (ci := 6) rfl rfl hr.s0 rfl rfl (Nat.le_of_ble_eq_true rfl) (e_cc rfl (e_cc rfl e_cn)) (Nat.le_of_ble_eq_true rfl) ?_
      refine (show E mX7_findFault 0 0 0 [some (.ref 2), some (.int 1), some (.int (I 2 4))] [] z I _ from ?_)
      refine E_aload_n (pc := 0) (x := 2) ddX7_findFault_0 rfl rfl ?_
      refine E_getI (pc := 1) ddX7_findFault_1 ec_6 3 (Nat.le_of_ble_eq_true rfl) rfl w_1_32 hr.s0 ?_
      refine E_if_ne (pc := 4) (tgt := 17) ddX7_findFault_4 (by decide) (fun h => ?_) (fun h => ?_)
      · have k := k.1 h
        refine E_vret (pc := 17) ddX7_findFault_17 rfl ?_
        refine (show E mX7_readEnd mc ms 22 [some (.ref 2)] [] z I Q from ?_)
        refine E_aload_n (pc := 22) (x := 2) ddX7_readEnd_22 rfl rfl ?_
        refine E_dupr (pc := 23) ddX7_readEnd_23 ?_
        refine E_getI (pc := 24) ddX7_readEnd_24 ec_6 4 (Nat.le_of_ble_eq_true rfl) rfl w_1_33 hr.s0 ?_
        refine E_iconst (pc := 27) (v := 1) ddX7_readEnd_27 rfl ?_
        refine E_iadd (pc := 28) ddX7_readEnd_28 ?_
        obtain ⟨I1, eI1⟩ : ∃ y : It, y = e_st I 2 4 ((I 2 4) + 1) := ⟨_, rfl⟩
        have k := k I1 eI1
        refine E_putI (pc := 29) ddX7_readEnd_29 ec_6 4 (Nat.le_of_ble_eq_true rfl) rfl w_1_33 hr.s0 rfl rfl ?_
        rw [← eI1]
        exact E_vret (pc := 32) ddX7_readEnd_32 rfl k
      · have k := k.2 h
        refine E_aload_n (pc := 7) (x := 2) ddX7_findFault_7 rfl rfl ?_
        refine E_iload_n (pc := 8) (x := 1) ddX7_findFault_8 rfl rfl ?_
        obtain ⟨I1, eI1⟩ : ∃ y : It, y = e_st I 2 3 1 := ⟨_, rfl⟩
        have k := k I1 eI1
        refine E_putI (pc := 9) ddX7_findFault_9 ec_6 3 (Nat.le_of_ble_eq_true rfl) rfl w_1_32 hr.s0 rfl rfl ?_
        rw [← eI1]
        refine E_aload_n (pc := 12) (x := 2) ddX7_findFault_12 rfl rfl ?_
        refine E_iload_n (pc := 13) (x := (I 2 4)) ddX7_findFault_13 rfl rfl ?_
        obtain ⟨I2, eI2⟩ : ∃ y : It, y = e_st I1 2 2 (I 2 4) := ⟨_, rfl⟩
        have k := k I2 eI2
        refine E_putI (pc := 14) ddX7_findFault_14 ec_6 2 (Nat.le_of_ble_eq_true rfl) rfl w_1_30 hr.s0 rfl rfl ?_
        rw [← eI2]
        refine E_vret (pc := 17) ddX7_findFault_17 rfl ?_
        refine (show E mX7_readEnd mc ms 22 [some (.ref 2)] [] z I2 Q from ?_)
        refine E_aload_n (pc := 22) (x := 2) ddX7_readEnd_22 rfl rfl ?_
        refine E_dupr (pc := 23) ddX7_readEnd_23 ?_
        refine E_getI (pc := 24) ddX7_readEnd_24 ec_6 4 (Nat.le_of_ble_eq_true rfl) rfl w_1_33 hr.s0 ?_
        refine E_iconst (pc := 27) (v := 1) ddX7_readEnd_27 rfl ?_
        refine E_iadd (pc := 28) ddX7_readEnd_28 ?_
        obtain ⟨I3, eI3⟩ : ∃ y : It, y = e_st I2 2 4 ((I2 2 4) + 1) := ⟨_, rfl⟩
        have k := k I3 eI3
        refine E_putI (pc := 29) ddX7_readEnd_29 ec_6 4 (Nat.le_of_ble_eq_true rfl) rfl w_1_33 hr.s0 rfl rfl ?_
        rw [← eI3]
        exact E_vret (pc := 32) ddX7_readEnd_32 rfl k
    · have k := k.2 h
      refine E_aload_n (pc := 18) (x := 2) ddX7_letterHere_18 rfl rfl ?_
      refine E_getR (pc := 19) (x := 3) ddX7_letterHere_19 ec_6 0 (Nat.le_of_ble_eq_true rfl) rfl w_1_27 hr.s0 hr.r0 (by decide) ?_
      refine E_aload_n (pc := 22) (x := 2) ddX7_letterHere_22 rfl rfl ?_
      refine E_getI (pc := 23) ddX7_letterHere_23 ec_6 4 (Nat.le_of_ble_eq_true rfl) rfl w_1_33 hr.s0 ?_
      obtain ⟨j1, ij1, lj1, k⟩ := k
      refine E_ialdN (pc := 26) (j := j1) ddX7_letterHere_26 hr.s1 ij1 lj1 (Nat.le_of_ble_eq_true rfl) ?_
      refine E_goto (pc := 27) (tgt := 31) ddX7_letterHere_27 (by decide) ?_
      refine E_iret (pc := 31) ddX7_letterHere_31 rfl ?_
      refine (show E mX7_readEnd mc ms 8 [some (.ref 2)] [.int (I 3 j1)] z I Q from ?_)
      refine E_bipush (pc := 8) (v := 59) ddX7_readEnd_8 rfl ?_
      refine E_icmp_eq (pc := 10) (tgt := 22) ddX7_readEnd_10 (by decide) (fun h => ?_) (fun h => ?_)
      · have k := k.1 h
        refine E_aload_n (pc := 22) (x := 2) ddX7_readEnd_22 rfl rfl ?_
        refine E_dupr (pc := 23) ddX7_readEnd_23 ?_
        refine E_getI (pc := 24) ddX7_readEnd_24 ec_6 4 (Nat.le_of_ble_eq_true rfl) rfl w_1_33 hr.s0 ?_
        refine E_iconst (pc := 27) (v := 1) ddX7_readEnd_27 rfl ?_
        refine E_iadd (pc := 28) ddX7_readEnd_28 ?_
        obtain ⟨I2, eI2⟩ : ∃ y : It, y = e_st I 2 4 ((I 2 4) + 1) := ⟨_, rfl⟩
        have k := k I2 eI2
        refine E_putI (pc := 29) ddX7_readEnd_29 ec_6 4 (Nat.le_of_ble_eq_true rfl) rfl w_1_33 hr.s0 rfl rfl ?_
        rw [← eI2]
        exact E_vret (pc := 32) ddX7_readEnd_32 rfl k
      · have k := k.2 h
        refine E_aload_n (pc := 13) (x := 2) ddX7_readEnd_13 rfl rfl ?_
        refine E_iconst (pc := 14) (v := 1) ddX7_readEnd_14 rfl ?_
        refine E_aload_n (pc := 15) (x := 2) ddX7_readEnd_15 rfl rfl ?_
        refine E_getI (pc := 16) ddX7_readEnd_16 ec_6 4 (Nat.le_of_ble_eq_true rfl) rfl w_1_33 hr.s0 ?_
        refine E_callV (pc := 19) (As := [.int 1, .int (I 2 4)]) (st := []) (a := 2) ddX7_readEnd_19 hX7_findFault ⟨(Nat.le_of_ble_eq_true rfl), (Nat.le_of_ble_eq_true rfl)⟩ w_2_77 (ci := 6) rfl rfl hr.s0 rfl rfl (Nat.le_of_ble_eq_true rfl) (e_cc rfl (e_cc rfl e_cn)) (Nat.le_of_ble_eq_true rfl) ?_
        refine (show E mX7_findFault 0 0 0 [some (.ref 2), some (.int 1), some (.int (I 2 4))] [] z I _ from ?_)
        refine E_aload_n (pc := 0) (x := 2) ddX7_findFault_0 rfl rfl ?_
        refine E_getI (pc := 1) ddX7_findFault_1 ec_6 3 (Nat.le_of_ble_eq_true rfl) rfl w_1_32 hr.s0 ?_
        refine E_if_ne (pc := 4) (tgt := 17) ddX7_findFault_4 (by decide) (fun h => ?_) (fun h => ?_)
        · have k := k.1 h
          refine E_vret (pc := 17) ddX7_findFault_17 rfl ?_
          refine (show E mX7_readEnd mc ms 22 [some (.ref 2)] [] z I Q from ?_)
          refine E_aload_n (pc := 22) (x := 2) ddX7_readEnd_22 rfl rfl ?_
          refine E_dupr (pc := 23) ddX7_readEnd_23 ?_
          refine E_getI (pc := 24) ddX7_readEnd_24 ec_6 4 (Nat.le_of_ble_eq_true rfl) rfl w_1_33 hr.s0 ?_
          refine E_iconst (pc := 27) (v := 1) ddX7_readEnd_27 rfl ?_
          refine E_iadd (pc := 28) ddX7_readEnd_28 ?_
          obtain ⟨I2, eI2⟩ : ∃ y : It, y = e_st I 2 4 ((I 2 4) + 1) := ⟨_, rfl⟩
          have k := k I2 eI2
          refine E_putI (pc := 29) ddX7_readEnd_29 ec_6 4 (Nat.le_of_ble_eq_true rfl) rfl w_1_33 hr.s0 rfl rfl ?_
          rw [← eI2]
          exact E_vret (pc := 32) ddX7_readEnd_32 rfl k
        · have k := k.2 h
          refine E_aload_n (pc := 7) (x := 2) ddX7_findFault_7 rfl rfl ?_
          refine E_iload_n (pc := 8) (x := 1) ddX7_findFault_8 rfl rfl ?_
          obtain ⟨I2, eI2⟩ : ∃ y : It, y = e_st I 2 3 1 := ⟨_, rfl⟩
          have k := k I2 eI2
          refine E_putI (pc := 9) ddX7_findFault_9 ec_6 3 (Nat.le_of_ble_eq_true rfl) rfl w_1_32 hr.s0 rfl rfl ?_
          rw [← eI2]
          refine E_aload_n (pc := 12) (x := 2) ddX7_findFault_12 rfl rfl ?_
          refine E_iload_n (pc := 13) (x := (I 2 4)) ddX7_findFault_13 rfl rfl ?_
          obtain ⟨I3, eI3⟩ : ∃ y : It, y = e_st I2 2 2 (I 2 4) := ⟨_, rfl⟩
          have k := k I3 eI3
          refine E_putI (pc := 14) ddX7_findFault_14 ec_6 2 (Nat.le_of_ble_eq_true rfl) rfl w_1_30 hr.s0 rfl rfl ?_
          rw [← eI3]
          refine E_vret (pc := 17) ddX7_findFault_17 rfl ?_
          refine (show E mX7_readEnd mc ms 22 [some (.ref 2)] [] z I3 Q from ?_)
          refine E_aload_n (pc := 22) (x := 2) ddX7_readEnd_22 rfl rfl ?_
          refine E_dupr (pc := 23) ddX7_readEnd_23 ?_
          refine E_getI (pc := 24) ddX7_readEnd_24 ec_6 4 (Nat.le_of_ble_eq_true rfl) rfl w_1_33 hr.s0 ?_
          refine E_iconst (pc := 27) (v := 1) ddX7_readEnd_27 rfl ?_
          refine E_iadd (pc := 28) ddX7_readEnd_28 ?_
          obtain ⟨I4, eI4⟩ : ∃ y : It, y = e_st I3 2 4 ((I3 2 4) + 1) := ⟨_, rfl⟩
          have k := k I4 eI4
          refine E_putI (pc := 29) ddX7_readEnd_29 ec_6 4 (Nat.le_of_ble_eq_true rfl) rfl w_1_33 hr.s0 rfl rfl ?_
          rw [← eI4]
          exact E_vret (pc := 32) ddX7_readEnd_32 rfl k
/-! X7_skipBlanks, labels [0] -/
set_option maxRecDepth 100000 in
set_option maxHeartbeats 4000000 in
theorem B_X7_skipBlanks_0 {mc ms : Nat} {z : Zt} {I : It} {Q : Option Value → Zt → It → Prop} (hr : isRd z)
    (k : (((I 2 1) ≤ (I 2 4)) → Q none z I) ∧
    ((¬ (I 2 1) ≤ (I 2 4)) → (((I 2 4) < 0) → Q none z I) ∧
    ((¬ (I 2 4) < 0) → (((I 2 1) ≤ (I 2 4)) → Q none z I) ∧
    ((¬ (I 2 1) ≤ (I 2 4)) → ∃ j1 : Nat, (I 2 4) = nI j1 ∧ j1 < 200 ∧ ((¬ (I 3 j1) = 32) → Q none z I) ∧
    (((I 3 j1) = 32) → ∀ I2 : It, I2 = e_st I 2 4 ((I 2 4) + 1) → E mX7_skipBlanks mc ms 0 [some (.ref 2)] [] z I2 Q))))) :
    E mX7_skipBlanks mc ms 0 [some (.ref 2)] [] z I Q := by
  refine E_aload_n (pc := 0) (x := 2) ddX7_skipBlanks_0 rfl rfl ?_
  refine E_getI (pc := 1) ddX7_skipBlanks_1 ec_6 4 (Nat.le_of_ble_eq_true rfl) rfl w_1_33 hr.s0 ?_
  refine E_aload_n (pc := 4) (x := 2) ddX7_skipBlanks_4 rfl rfl ?_
  refine E_getI (pc := 5) ddX7_skipBlanks_5 ec_6 1 (Nat.le_of_ble_eq_true rfl) rfl w_1_28 hr.s0 ?_
  refine E_icmp_ge (pc := 8) (tgt := 33) ddX7_skipBlanks_8 (by decide) (fun h => ?_) (fun h => ?_)
  · have k := k.1 h
    exact E_vret (pc := 33) ddX7_skipBlanks_33 rfl k
  · have k := k.2 h
    refine E_aload_n (pc := 11) (x := 2) ddX7_skipBlanks_11 rfl rfl ?_
    refine E_callV (pc := 12) (As := []) (st := []) (a := 2) ddX7_skipBlanks_12 hX7_letterHere ⟨(Nat.le_of_ble_eq_true rfl), (Nat.le_of_ble_eq_true rfl)⟩ w_2_65 (ci := 6) rfl rfl hr.s0 rfl rfl (Nat.le_of_ble_eq_true rfl) e_cn (Nat.le_of_ble_eq_true rfl) ?_
    refine (show E mX7_letterHere 0 0 0 [some (.ref 2)] [] z I _ from ?_)
    refine E_aload_n (pc := 0) (x := 2) ddX7_letterHere_0 rfl rfl ?_
    refine E_getI (pc := 1) ddX7_letterHere_1 ec_6 4 (Nat.le_of_ble_eq_true rfl) rfl w_1_33 hr.s0 ?_
    refine E_if_lt (pc := 4) (tgt := 30) ddX7_letterHere_4 (by decide) (fun h => ?_) (fun h => ?_)
    · have k := k.1 h
      refine E_iconst (pc := 30) (v := (-1)) ddX7_letterHere_30 rfl ?_
      refine E_iret (pc := 31) ddX7_letterHere_31 rfl ?_
      refine (show E mX7_skipBlanks mc ms 15 [some (.ref 2)] [.int (-1)] z I Q from ?_)
      refine E_bipush (pc := 15) (v := 32) ddX7_skipBlanks_15 rfl ?_
      refine E_icmp_ne (pc := 17) (tgt := 33) ddX7_skipBlanks_17 (by decide) (fun _ => ?_) (fun h => absurd h (by decide))
      exact E_vret (pc := 33) ddX7_skipBlanks_33 rfl k
    · have k := k.2 h
      refine E_aload_n (pc := 7) (x := 2) ddX7_letterHere_7 rfl rfl ?_
      refine E_getI (pc := 8) ddX7_letterHere_8 ec_6 4 (Nat.le_of_ble_eq_true rfl) rfl w_1_33 hr.s0 ?_
      refine E_aload_n (pc := 11) (x := 2) ddX7_letterHere_11 rfl rfl ?_
      refine E_getI (pc := 12) ddX7_letterHere_12 ec_6 1 (Nat.le_of_ble_eq_true rfl) rfl w_1_28 hr.s0 ?_
      refine E_icmp_ge (pc := 15) (tgt := 30) ddX7_letterHere_15 (by decide) (fun h => ?_) (fun h => ?_)
      · have k := k.1 h
        refine E_iconst (pc := 30) (v := (-1)) ddX7_letterHere_30 rfl ?_
        refine E_iret (pc := 31) ddX7_letterHere_31 rfl ?_
        refine (show E mX7_skipBlanks mc ms 15 [some (.ref 2)] [.int (-1)] z I Q from ?_)
        refine E_bipush (pc := 15) (v := 32) ddX7_skipBlanks_15 rfl ?_
        refine E_icmp_ne (pc := 17) (tgt := 33) ddX7_skipBlanks_17 (by decide) (fun _ => ?_) (fun h => absurd h (by decide))
        exact E_vret (pc := 33) ddX7_skipBlanks_33 rfl k
      · have k := k.2 h
        refine E_aload_n (pc := 18) (x := 2) ddX7_letterHere_18 rfl rfl ?_
        refine E_getR (pc := 19) (x := 3) ddX7_letterHere_19 ec_6 0 (Nat.le_of_ble_eq_true rfl) rfl w_1_27 hr.s0 hr.r0 (by decide) ?_
        refine E_aload_n (pc := 22) (x := 2) ddX7_letterHere_22 rfl rfl ?_
        refine E_getI (pc := 23) ddX7_letterHere_23 ec_6 4 (Nat.le_of_ble_eq_true rfl) rfl w_1_33 hr.s0 ?_
        obtain ⟨j1, ij1, lj1, k⟩ := k
        refine E_ialdN (pc := 26) (j := j1) ddX7_letterHere_26 hr.s1 ij1 lj1 (Nat.le_of_ble_eq_true rfl) ?_
        refine E_goto (pc := 27) (tgt := 31) ddX7_letterHere_27 (by decide) ?_
        refine E_iret (pc := 31) ddX7_letterHere_31 rfl ?_
        refine (show E mX7_skipBlanks mc ms 15 [some (.ref 2)] [.int (I 3 j1)] z I Q from ?_)
        refine E_bipush (pc := 15) (v := 32) ddX7_skipBlanks_15 rfl ?_
        refine E_icmp_ne (pc := 17) (tgt := 33) ddX7_skipBlanks_17 (by decide) (fun h => ?_) (fun h => ?_)
        · have k := k.1 h
          exact E_vret (pc := 33) ddX7_skipBlanks_33 rfl k
        · have k := k.2 h
          refine E_aload_n (pc := 20) (x := 2) ddX7_skipBlanks_20 rfl rfl ?_
          refine E_dupr (pc := 21) ddX7_skipBlanks_21 ?_
          refine E_getI (pc := 22) ddX7_skipBlanks_22 ec_6 4 (Nat.le_of_ble_eq_true rfl) rfl w_1_33 hr.s0 ?_
          refine E_iconst (pc := 25) (v := 1) ddX7_skipBlanks_25 rfl ?_
          refine E_iadd (pc := 26) ddX7_skipBlanks_26 ?_
          obtain ⟨I2, eI2⟩ : ∃ y : It, y = e_st I 2 4 ((I 2 4) + 1) := ⟨_, rfl⟩
          have k := k I2 eI2
          refine E_putI (pc := 27) ddX7_skipBlanks_27 ec_6 4 (Nat.le_of_ble_eq_true rfl) rfl w_1_33 hr.s0 rfl rfl ?_
          rw [← eI2]
          refine E_goto (pc := 30) (tgt := 0) ddX7_skipBlanks_30 (by decide) ?_
          exact k
