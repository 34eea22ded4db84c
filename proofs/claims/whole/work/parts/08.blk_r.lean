/-! X9_copyRow, labels [2] -/
set_option maxRecDepth 100000 in
set_option maxHeartbeats 4000000 in
theorem B_X9_copyRow_0 {mc ms : Nat} {z : Zt} {I : It} {Q : Option Value → Zt → It → Prop} {x1 x2 : Int32} (ho : isO z)
    (k : E mX9_copyRow mc ms 2 [some (.ref 308), some (.int x1), some (.int x2), some (.int 0)] [] z I Q) :
    E mX9_copyRow mc ms 0 [some (.ref 308), some (.int x1), some (.int x2), none] [] z I Q := by
  refine E_iconst (pc := 0) (v := 0) ddX9_copyRow_0 rfl ?_
  refine E_istore_n (pc := 1) (ls' := [some (.ref 308), some (.int x1), some (.int x2), some (.int 0)]) ddX9_copyRow_1 rfl (Nat.le_of_ble_eq_true rfl) rfl rfl ?_
  exact k
set_option maxRecDepth 100000 in
set_option maxHeartbeats 4000000 in
theorem B_X9_copyRow_2 {mc ms : Nat} {z : Zt} {I : It} {Q : Option Value → Zt → It → Prop} {x1 x2 x3 : Int32} (ho : isO z)
    (k : ((344 ≤ x3) → Q none z I) ∧
    ((¬ 344 ≤ x3) → ∃ j1 : Nat, (x1 + x3) = nI j1 ∧ j1 < 6880 ∧ ∃ j2 : Nat, (x2 + x3) = nI j2 ∧ j2 < 6880 ∧ ∀ I3 : It, I3 = e_st I 309 j2 (I 309 j1) → E mX9_copyRow mc ms 2 [some (.ref 308), some (.int x1), some (.int x2), some (.int (x3 + 1))] [] z I3 Q)) :
    E mX9_copyRow mc ms 2 [some (.ref 308), some (.int x1), some (.int x2), some (.int x3)] [] z I Q := by
  refine E_iload_n (pc := 2) (x := x3) ddX9_copyRow_2 rfl rfl ?_
  refine E_sipush (pc := 3) (v := 344) ddX9_copyRow_3 rfl ?_
  refine E_icmp_ge (pc := 6) (tgt := 31) ddX9_copyRow_6 (by decide) (fun h => ?_) (fun h => ?_)
  · have k := k.1 h
    exact E_vret (pc := 31) ddX9_copyRow_31 rfl k
  · have k := k.2 h
    refine E_aload_n (pc := 9) (x := 308) ddX9_copyRow_9 rfl rfl ?_
    refine E_getR (pc := 10) (x := 309) ddX9_copyRow_10 ec_8 0 (Nat.le_of_ble_eq_true rfl) rfl w_3_182 ho.s0 ho.r0 (by decide) ?_
    refine E_iload_n (pc := 13) (x := x2) ddX9_copyRow_13 rfl rfl ?_
    refine E_iload_n (pc := 14) (x := x3) ddX9_copyRow_14 rfl rfl ?_
    refine E_iadd (pc := 15) ddX9_copyRow_15 ?_
    refine E_aload_n (pc := 16) (x := 308) ddX9_copyRow_16 rfl rfl ?_
    refine E_getR (pc := 17) (x := 309) ddX9_copyRow_17 ec_8 0 (Nat.le_of_ble_eq_true rfl) rfl w_3_182 ho.s0 ho.r0 (by decide) ?_
    refine E_iload_n (pc := 20) (x := x1) ddX9_copyRow_20 rfl rfl ?_
    refine E_iload_n (pc := 21) (x := x3) ddX9_copyRow_21 rfl rfl ?_
    refine E_iadd (pc := 22) ddX9_copyRow_22 ?_
    obtain ⟨j1, ij1, lj1, k⟩ := k
    refine E_ialdN (pc := 23) (j := j1) ddX9_copyRow_23 ho.s1 ij1 lj1 (Nat.le_of_ble_eq_true rfl) ?_
    obtain ⟨j2, ij2, lj2, k⟩ := k
    obtain ⟨I3, eI3⟩ : ∃ y : It, y = e_st I 309 j2 (I 309 j1) := ⟨_, rfl⟩
    have k := k I3 eI3
    refine E_iastN (pc := 24) (j := j2) ddX9_copyRow_24 ho.s1 (by decide) ij2 lj2 (Nat.le_of_ble_eq_true rfl) ?_
    rw [← eI3]
    refine E_iinc (pc := 25) (v := (x3 + 1)) (ls' := [some (.ref 308), some (.int x1), some (.int x2), some (.int (x3 + 1))]) ddX9_copyRow_25 rfl rfl (Nat.le_of_ble_eq_true rfl) rfl rfl ?_
    refine E_goto (pc := 28) (tgt := 2) ddX9_copyRow_28 (by decide) ?_
    exact k
/-! X9_comesOf, labels [] -/
set_option maxRecDepth 100000 in
set_option maxHeartbeats 4000000 in
theorem B_X9_comesOf_0 {mc ms : Nat} {z : Zt} {I : It} {Q : Option Value → Zt → It → Prop} {x1 x2 : Int32} (ho : isO z)
    (k : ∃ j1 : Nat, ((6 * x2) + 1) = nI j1 ∧ j1 < 48 ∧ ∃ j2 : Nat, ((x1 + 8) + (I 310 j1)) = nI j2 ∧ j2 < 6880 ∧ ∀ v3 : Int32, v3 = (I 309 j2) → ∃ j4 : Nat, ((6 * x2) + 2) = nI j4 ∧ j4 < 48 ∧ ∃ j5 : Nat, ((x1 + 8) + (I 310 j4)) = nI j5 ∧ j5 < 6880 ∧ ∀ v6 : Int32, v6 = (I 309 j5) → ∃ j7 : Nat, ((6 * x2) + 0) = nI j7 ∧ j7 < 48 ∧ ((¬ (I 310 j7) = 5) → Q (some (.int (f_X9_made (I 310 j7) v3 v6))) z I) ∧
    (((I 310 j7) = 5) → ((¬ v6 = 1) → ∃ j8 : Nat, ((x1 + 176) + x2) = nI j8 ∧ j8 < 6880 ∧ Q (some (.int (I 309 j8))) z I) ∧
    ((v6 = 1) → Q (some (.int (f_X9_firm v3))) z I))) :
    E mX9_comesOf mc ms 0 [some (.ref 308), some (.int x1), some (.int x2), none, none] [] z I Q := by
  refine E_aload_n (pc := 0) (x := 308) ddX9_comesOf_0 rfl rfl ?_
  refine E_getR (pc := 1) (x := 309) ddX9_comesOf_1 ec_8 0 (Nat.le_of_ble_eq_true rfl) rfl w_3_182 ho.s0 ho.r0 (by decide) ?_
  refine E_iload_n (pc := 4) (x := x1) ddX9_comesOf_4 rfl rfl ?_
  refine E_bipush (pc := 5) (v := 8) ddX9_comesOf_5 rfl ?_
  refine E_iadd (pc := 7) ddX9_comesOf_7 ?_
  refine E_aload_n (pc := 8) (x := 308) ddX9_comesOf_8 rfl rfl ?_
  refine E_iload_n (pc := 9) (x := x2) ddX9_comesOf_9 rfl rfl ?_
  refine E_iconst (pc := 10) (v := 1) ddX9_comesOf_10 rfl ?_
  refine E_callV (pc := 11) (As := [.int x2, .int 1]) (st := [.int (x1 + 8), .ref 309]) (a := 308) ddX9_comesOf_11 hX9_of ⟨(Nat.le_of_ble_eq_true rfl), (Nat.le_of_ble_eq_true rfl)⟩ w_4_50 (ci := 8) rfl rfl ho.s0 rfl rfl (Nat.le_of_ble_eq_true rfl) (e_cc rfl (e_cc rfl e_cn)) (Nat.le_of_ble_eq_true rfl) ?_
  refine (show E mX9_of 0 0 0 [some (.ref 308), some (.int x2), some (.int 1)] [] z I _ from ?_)
  refine E_aload_n (pc := 0) (x := 308) ddX9_of_0 rfl rfl ?_
  refine E_getR (pc := 1) (x := 310) ddX9_of_1 ec_8 3 (Nat.le_of_ble_eq_true rfl) rfl w_3_185 ho.s0 ho.r3 (by decide) ?_
  refine E_bipush (pc := 4) (v := 6) ddX9_of_4 rfl ?_
  refine E_iload_n (pc := 6) (x := x2) ddX9_of_6 rfl rfl ?_
  refine E_imul (pc := 7) ddX9_of_7 ?_
  refine E_iload_n (pc := 8) (x := 1) ddX9_of_8 rfl rfl ?_
  refine E_iadd (pc := 9) ddX9_of_9 ?_
  obtain ⟨j1, ij1, lj1, k⟩ := k
  refine E_ialdN (pc := 10) (j := j1) ddX9_of_10 ho.s2 ij1 lj1 (Nat.le_of_ble_eq_true rfl) ?_
  refine E_iret (pc := 11) ddX9_of_11 rfl ?_
  refine (show E mX9_comesOf mc ms 14 [some (.ref 308), some (.int x1), some (.int x2), none, none] [.int (I 310 j1), .int (x1 + 8), .ref 309] z I Q from ?_)
  refine E_iadd (pc := 14) ddX9_comesOf_14 ?_
  obtain ⟨j2, ij2, lj2, k⟩ := k
  refine E_ialdN (pc := 15) (j := j2) ddX9_comesOf_15 ho.s1 ij2 lj2 (Nat.le_of_ble_eq_true rfl) ?_
  obtain ⟨v3, ev3⟩ : ∃ y : Int32, y = (I 309 j2) := ⟨_, rfl⟩
  have k := k v3 ev3
  rw [← ev3]
  refine E_istore_n (pc := 16) (ls' := [some (.ref 308), some (.int x1), some (.int x2), some (.int v3), none]) ddX9_comesOf_16 rfl (Nat.le_of_ble_eq_true rfl) rfl rfl ?_
  refine E_aload_n (pc := 17) (x := 308) ddX9_comesOf_17 rfl rfl ?_
  refine E_getR (pc := 18) (x := 309) ddX9_comesOf_18 ec_8 0 (Nat.le_of_ble_eq_true rfl) rfl w_3_182 ho.s0 ho.r0 (by decide) ?_
  refine E_iload_n (pc := 21) (x := x1) ddX9_comesOf_21 rfl rfl ?_
  refine E_bipush (pc := 22) (v := 8) ddX9_comesOf_22 rfl ?_
  refine E_iadd (pc := 24) ddX9_comesOf_24 ?_
  refine E_aload_n (pc := 25) (x := 308) ddX9_comesOf_25 rfl rfl ?_
  refine E_iload_n (pc := 26) (x := x2) ddX9_comesOf_26 rfl rfl ?_
  refine E_iconst (pc := 27) (v := 2) ddX9_comesOf_27 rfl ?_
  refine E_callV (pc := 28) (As := [.int x2, .int 2]) (st := [.int (x1 + 8), .ref 309]) (a := 308) ddX9_comesOf_28 hX9_of ⟨(Nat.le_of_ble_eq_true rfl), (Nat.le_of_ble_eq_true rfl)⟩ w_4_50 (ci := 8) rfl rfl ho.s0 rfl rfl (Nat.le_of_ble_eq_true rfl) (e_cc rfl (e_cc rfl e_cn)) (Nat.le_of_ble_eq_true rfl) ?_
  refine (show E mX9_of 0 0 0 [some (.ref 308), some (.int x2), some (.int 2)] [] z I _ from ?_)
  refine E_aload_n (pc := 0) (x := 308) ddX9_of_0 rfl rfl ?_
  refine E_getR (pc := 1) (x := 310) ddX9_of_1 ec_8 3 (Nat.le_of_ble_eq_true rfl) rfl w_3_185 ho.s0 ho.r3 (by decide) ?_
  refine E_bipush (pc := 4) (v := 6) ddX9_of_4 rfl ?_
  refine E_iload_n (pc := 6) (x := x2) ddX9_of_6 rfl rfl ?_
  refine E_imul (pc := 7) ddX9_of_7 ?_
  refine E_iload_n (pc := 8) (x := 2) ddX9_of_8 rfl rfl ?_
  refine E_iadd (pc := 9) ddX9_of_9 ?_
  obtain ⟨j4, ij4, lj4, k⟩ := k
  refine E_ialdN (pc := 10) (j := j4) ddX9_of_10 ho.s2 ij4 lj4 (Nat.le_of_ble_eq_true rfl) ?_
  refine E_iret (pc := 11) ddX9_of_11 rfl ?_
  refine (show E mX9_comesOf mc ms 31 [some (.ref 308), some (.int x1), some (.int x2), some (.int v3), none] [.int (I 310 j4), .int (x1 + 8), .ref 309] z I Q from ?_)
  refine E_iadd (pc := 31) ddX9_comesOf_31 ?_
  obtain ⟨j5, ij5, lj5, k⟩ := k
  refine E_ialdN (pc := 32) (j := j5) ddX9_comesOf_32 ho.s1 ij5 lj5 (Nat.le_of_ble_eq_true rfl) ?_
  obtain ⟨v6, ev6⟩ : ∃ y : Int32, y = (I 309 j5) := ⟨_, rfl⟩
  have k := k v6 ev6
  rw [← ev6]
  refine E_istore (pc := 33) (ls' := [some (.ref 308), some (.int x1), some (.int x2), some (.int v3), some (.int v6)]) ddX9_comesOf_33 (Nat.le_of_ble_eq_true rfl) rfl rfl ?_
  refine E_aload_n (pc := 35) (x := 308) ddX9_comesOf_35 rfl rfl ?_
  refine E_iload_n (pc := 36) (x := x2) ddX9_comesOf_36 rfl rfl ?_
  refine E_iconst (pc := 37) (v := 0) ddX9_comesOf_37 rfl ?_
  refine E_callV (pc := 38) (As := [.int x2, .int 0]) (st := []) (a := 308) ddX9_comesOf_38 hX9_of ⟨(Nat.le_of_ble_eq_true rfl), (Nat.le_of_ble_eq_true rfl)⟩ w_4_50 (ci := 8) rfl rfl ho.s0 rfl rfl (Nat.le_of_ble_eq_true rfl) (e_cc rfl (e_cc rfl e_cn)) (Nat.le_of_ble_eq_true rfl) ?_
  refine (show E mX9_of 0 0 0 [some (.ref 308), some (.int x2), some (.int 0)] [] z I _ from ?_)
  refine E_aload_n (pc := 0) (x := 308) ddX9_of_0 rfl rfl ?_
  refine E_getR (pc := 1) (x := 310) ddX9_of_1 ec_8 3 (Nat.le_of_ble_eq_true rfl) rfl w_3_185 ho.s0 ho.r3 (by decide) ?_
  refine E_bipush (pc := 4) (v := 6) ddX9_of_4 rfl ?_
  refine E_iload_n (pc := 6) (x := x2) ddX9_of_6 rfl rfl ?_
  refine E_imul (pc := 7) ddX9_of_7 ?_
  refine E_iload_n (pc := 8) (x := 0) ddX9_of_8 rfl rfl ?_
  refine E_iadd (pc := 9) ddX9_of_9 ?_
  obtain ⟨j7, ij7, lj7, k⟩ := k
  refine E_ialdN (pc := 10) (j := j7) ddX9_of_10 ho.s2 ij7 lj7 (Nat.le_of_ble_eq_true rfl) ?_
  refine E_iret (pc := 11) ddX9_of_11 rfl ?_
  refine (show E mX9_comesOf mc ms 41 [some (.ref 308), some (.int x1), some (.int x2), some (.int v3), some (.int v6)] [.int (I 310 j7)] z I Q from ?_)
  refine E_iconst (pc := 41) (v := 5) ddX9_comesOf_41 rfl ?_
  refine E_icmp_ne (pc := 42) (tgt := 71) ddX9_comesOf_42 (by decide) (fun h => ?_) (fun h => ?_)
  · have k := k.1 h
    refine E_aload_n (pc := 71) (x := 308) ddX9_comesOf_71 rfl rfl ?_
    refine E_iload_n (pc := 72) (x := x2) ddX9_comesOf_72 rfl rfl ?_
    refine E_iconst (pc := 73) (v := 0) ddX9_comesOf_73 rfl ?_
    refine E_callV (pc := 74) (As := [.int x2, .int 0]) (st := []) (a := 308) ddX9_comesOf_74 hX9_of ⟨(Nat.le_of_ble_eq_true rfl), (Nat.le_of_ble_eq_true rfl)⟩ w_4_50 (ci := 8) rfl rfl ho.s0 rfl rfl (Nat.le_of_ble_eq_true rfl) (e_cc rfl (e_cc rfl e_cn)) (Nat.le_of_ble_eq_true rfl) ?_
    refine (show E mX9_of 0 0 0 [some (.ref 308), some (.int x2), some (.int 0)] [] z I _ from ?_)
    refine E_aload_n (pc := 0) (x := 308) ddX9_of_0 rfl rfl ?_
    refine E_getR (pc := 1) (x := 310) ddX9_of_1 ec_8 3 (Nat.le_of_ble_eq_true rfl) rfl w_3_185 ho.s0 ho.r3 (by decide) ?_
    refine E_bipush (pc := 4) (v := 6) ddX9_of_4 rfl ?_
    refine E_iload_n (pc := 6) (x := x2) ddX9_of_6 rfl rfl ?_
    refine E_imul (pc := 7) ddX9_of_7 ?_
    refine E_iload_n (pc := 8) (x := 0) ddX9_of_8 rfl rfl ?_
    refine E_iadd (pc := 9) ddX9_of_9 ?_
    refine E_ialdN (pc := 10) (j := j7) ddX9_of_10 ho.s2 ij7 lj7 (Nat.le_of_ble_eq_true rfl) ?_
    refine E_iret (pc := 11) ddX9_of_11 rfl ?_
    refine (show E mX9_comesOf mc ms 77 [some (.ref 308), some (.int x1), some (.int x2), some (.int v3), some (.int v6)] [.int (I 310 j7)] z I Q from ?_)
    refine E_iload_n (pc := 77) (x := v3) ddX9_comesOf_77 rfl rfl ?_
    refine E_iload (pc := 78) (x := v6) ddX9_comesOf_78 rfl ?_
    refine E_callS (pc := 80) (As := [.int (I 310 j7), .int v3, .int v6]) (st := []) ddX9_comesOf_80 hX9_made ⟨(Nat.le_of_ble_eq_true rfl), (Nat.le_of_ble_eq_true rfl)⟩ w_4_69 rfl rfl (Nat.le_of_ble_eq_true rfl) (e_cc rfl (e_cc rfl (e_cc rfl e_cn))) (Nat.le_of_ble_eq_true rfl) (C_X9_made ?_)
    refine (show E mX9_comesOf mc ms 83 [some (.ref 308), some (.int x1), some (.int x2), some (.int v3), some (.int v6)] [.int (f_X9_made (I 310 j7) v3 v6)] z I Q from ?_)
    exact E_iret (pc := 83) ddX9_comesOf_83 rfl k
  · have k := k.2 h
    refine E_iload (pc := 45) (x := v6) ddX9_comesOf_45 rfl ?_
    refine E_iconst (pc := 47) (v := 1) ddX9_comesOf_47 rfl ?_
    refine E_icmp_ne (pc := 48) (tgt := 58) ddX9_comesOf_48 (by decide) (fun h => ?_) (fun h => ?_)
    · have k := k.1 h
      refine E_aload_n (pc := 58) (x := 308) ddX9_comesOf_58 rfl rfl ?_
      refine E_getR (pc := 59) (x := 309) ddX9_comesOf_59 ec_8 0 (Nat.le_of_ble_eq_true rfl) rfl w_3_182 ho.s0 ho.r0 (by decide) ?_
      refine E_iload_n (pc := 62) (x := x1) ddX9_comesOf_62 rfl rfl ?_
      refine E_sipush (pc := 63) (v := 176) ddX9_comesOf_63 rfl ?_
      refine E_iadd (pc := 66) ddX9_comesOf_66 ?_
      refine E_iload_n (pc := 67) (x := x2) ddX9_comesOf_67 rfl rfl ?_
      refine E_iadd (pc := 68) ddX9_comesOf_68 ?_
      obtain ⟨j8, ij8, lj8, k⟩ := k
      refine E_ialdN (pc := 69) (j := j8) ddX9_comesOf_69 ho.s1 ij8 lj8 (Nat.le_of_ble_eq_true rfl) ?_
      exact E_iret (pc := 70) ddX9_comesOf_70 rfl k
    · have k := k.2 h
      refine E_iload_n (pc := 51) (x := v3) ddX9_comesOf_51 rfl rfl ?_
      refine E_callS (pc := 52) (As := [.int v3]) (st := []) ddX9_comesOf_52 hX9_firm ⟨(Nat.le_of_ble_eq_true rfl), (Nat.le_of_ble_eq_true rfl)⟩ w_4_66 rfl rfl (Nat.le_of_ble_eq_true rfl) (e_cc rfl e_cn) (Nat.le_of_ble_eq_true rfl) (C_X9_firm ?_)
      refine (show E mX9_comesOf mc ms 55 [some (.ref 308), some (.int x1), some (.int x2), some (.int v3), some (.int v6)] [.int (f_X9_firm v3)] z I Q from ?_)
      refine E_goto (pc := 55) (tgt := 70) ddX9_comesOf_55 (by decide) ?_
      exact E_iret (pc := 70) ddX9_comesOf_70 rfl k
/-! X9_looksAt, labels [] -/
set_option maxRecDepth 100000 in
set_option maxHeartbeats 4000000 in
theorem B_X9_looksAt_0 {mc ms : Nat} {z : Zt} {I : It} {Q : Option Value → Zt → It → Prop} {x1 x2 : Int32} (ho : isO z)
    (k : ∃ j1 : Nat, ((6 * x1) + 1) = nI j1 ∧ j1 < 48 ∧ (((I 310 j1) = x2) → Q (some (.int 1)) z I) ∧
    ((¬ (I 310 j1) = x2) → ∃ j2 : Nat, ((6 * x1) + 0) = nI j2 ∧ j2 < 48 ∧ (((I 310 j2) = 0) → Q (some (.int 0)) z I) ∧
    ((¬ (I 310 j2) = 0) → ∃ j3 : Nat, ((6 * x1) + 2) = nI j3 ∧ j3 < 48 ∧ ((¬ (I 310 j3) = x2) → Q (some (.int 0)) z I) ∧
    (((I 310 j3) = x2) → Q (some (.int 1)) z I)))) :
    E mX9_looksAt mc ms 0 [some (.ref 308), some (.int x1), some (.int x2)] [] z I Q := by
  refine E_aload_n (pc := 0) (x := 308) ddX9_looksAt_0 rfl rfl ?_
  refine E_iload_n (pc := 1) (x := x1) ddX9_looksAt_1 rfl rfl ?_
  refine E_iconst (pc := 2) (v := 1) ddX9_looksAt_2 rfl ?_
  refine E_callV (pc := 3) (As := [.int x1, .int 1]) (st := []) (a := 308) ddX9_looksAt_3 hX9_of ⟨(Nat.le_of_ble_eq_true rfl), (Nat.le_of_ble_eq_true rfl)⟩ w_4_50 (ci := 8) rfl rfl ho.s0 rfl rfl (Nat.le_of_ble_eq_true rfl) (e_cc rfl (e_cc rfl e_cn)) (Nat.le_of_ble_eq_true rfl) ?_
  refine (show E mX9_of 0 0 0 [some (.ref 308), some (.int x1), some (.int 1)] [] z I _ from ?_)
  refine E_aload_n (pc := 0) (x := 308) ddX9_of_0 rfl rfl ?_
  refine E_getR (pc := 1) (x := 310) ddX9_of_1 ec_8 3 (Nat.le_of_ble_eq_true rfl) rfl w_3_185 ho.s0 ho.r3 (by decide) ?_
  refine E_bipush (pc := 4) (v := 6) ddX9_of_4 rfl ?_
  refine E_iload_n (pc := 6) (x := x1) ddX9_of_6 rfl rfl ?_
  refine E_imul (pc := 7) ddX9_of_7 ?_
  refine E_iload_n (pc := 8) (x := 1) ddX9_of_8 rfl rfl ?_
  refine E_iadd (pc := 9) ddX9_of_9 ?_
  obtain ⟨j1, ij1, lj1, k⟩ := k
  refine E_ialdN (pc := 10) (j := j1) ddX9_of_10 ho.s2 ij1 lj1 (Nat.le_of_ble_eq_true rfl) ?_
  refine E_iret (pc := 11) ddX9_of_11 rfl ?_
  refine (show E mX9_looksAt mc ms 6 [some (.ref 308), some (.int x1), some (.int x2)] [.int (I 310 j1)] z I Q from ?_)
  refine E_iload_n (pc := 6) (x := x2) ddX9_looksAt_6 rfl rfl ?_
  refine E_icmp_eq (pc := 7) (tgt := 29) ddX9_looksAt_7 (by decide) (fun h => ?_) (fun h => ?_)
  · have k := k.1 h
    refine E_iconst (pc := 29) (v := 1) ddX9_looksAt_29 rfl ?_
    refine E_goto (pc := 30) (tgt := 34) ddX9_looksAt_30 (by decide) ?_
    exact E_zret (pc := 34) ddX9_looksAt_34 rfl (by decide) k
  · have k := k.2 h
    refine E_aload_n (pc := 10) (x := 308) ddX9_looksAt_10 rfl rfl ?_
    refine E_iload_n (pc := 11) (x := x1) ddX9_looksAt_11 rfl rfl ?_
    refine E_iconst (pc := 12) (v := 0) ddX9_looksAt_12 rfl ?_
    refine E_callV (pc := 13) (As := [.int x1, .int 0]) (st := []) (a := 308) ddX9_looksAt_13 hX9_of ⟨(Nat.le_of_ble_eq_true rfl), (Nat.le_of_ble_eq_true rfl)⟩ w_4_50 (ci := 8) rfl rfl ho.s0 rfl rfl (Nat.le_of_ble_eq_true rfl) (e_cc rfl (e_cc rfl e_cn)) (Nat.le_of_ble_eq_true rfl) ?_
    refine (show E mX9_of 0 0 0 [some (.ref 308), some (.int x1), some (.int 0)] [] z I _ from ?_)
    refine E_aload_n (pc := 0) (x := 308) ddX9_of_0 rfl rfl ?_
    refine E_getR (pc := 1) (x := 310) ddX9_of_1 ec_8 3 (Nat.le_of_ble_eq_true rfl) rfl w_3_185 ho.s0 ho.r3 (by decide) ?_
    refine E_bipush (pc := 4) (v := 6) ddX9_of_4 rfl ?_
    refine E_iload_n (pc := 6) (x := x1) ddX9_of_6 rfl rfl ?_
    refine E_imul (pc := 7) ddX9_of_7 ?_
    refine E_iload_n (pc := 8) (x := 0) ddX9_of_8 rfl rfl ?_
    refine E_iadd (pc := 9) ddX9_of_9 ?_
    obtain ⟨j2, ij2, lj2, k⟩ := k
    refine E_ialdN (pc := 10) (j := j2) ddX9_of_10 ho.s2 ij2 lj2 (Nat.le_of_ble_eq_true rfl) ?_
    refine E_iret (pc := 11) ddX9_of_11 rfl ?_
    refine (show E mX9_looksAt mc ms 16 [some (.ref 308), some (.int x1), some (.int x2)] [.int (I 310 j2)] z I Q from ?_)
    refine E_if_eq (pc := 16) (tgt := 33) ddX9_looksAt_16 (by decide) (fun h => ?_) (fun h => ?_)
    · have k := k.1 h
      refine E_iconst (pc := 33) (v := 0) ddX9_looksAt_33 rfl ?_
      exact E_zret (pc := 34) ddX9_looksAt_34 rfl (by decide) k
    · have k := k.2 h
      refine E_aload_n (pc := 19) (x := 308) ddX9_looksAt_19 rfl rfl ?_
      refine E_iload_n (pc := 20) (x := x1) ddX9_looksAt_20 rfl rfl ?_
      refine E_iconst (pc := 21) (v := 2) ddX9_looksAt_21 rfl ?_
      refine E_callV (pc := 22) (As := [.int x1, .int 2]) (st := []) (a := 308) ddX9_looksAt_22 hX9_of ⟨(Nat.le_of_ble_eq_true rfl), (Nat.le_of_ble_eq_true rfl)⟩ w_4_50 (ci := 8) rfl rfl ho.s0 rfl rfl (Nat.le_of_ble_eq_true rfl) (e_cc rfl (e_cc rfl e_cn)) (Nat.le_of_ble_eq_true rfl) ?_
      refine (show E mX9_of 0 0 0 [some (.ref 308), some (.int x1), some (.int 2)] [] z I _ from ?_)
      refine E_aload_n (pc := 0) (x := 308) ddX9_of_0 rfl rfl ?_
      refine E_getR (pc := 1) (x := 310) ddX9_of_1 ec_8 3 (Nat.le_of_ble_eq_true rfl) rfl w_3_185 ho.s0 ho.r3 (by decide) ?_
      refine E_bipush (pc := 4) (v := 6) ddX9_of_4 rfl ?_
      refine E_iload_n (pc := 6) (x := x1) ddX9_of_6 rfl rfl ?_
      refine E_imul (pc := 7) ddX9_of_7 ?_
      refine E_iload_n (pc := 8) (x := 2) ddX9_of_8 rfl rfl ?_
      refine E_iadd (pc := 9) ddX9_of_9 ?_
      obtain ⟨j3, ij3, lj3, k⟩ := k
      refine E_ialdN (pc := 10) (j := j3) ddX9_of_10 ho.s2 ij3 lj3 (Nat.le_of_ble_eq_true rfl) ?_
      refine E_iret (pc := 11) ddX9_of_11 rfl ?_
      refine (show E mX9_looksAt mc ms 25 [some (.ref 308), some (.int x1), some (.int x2)] [.int (I 310 j3)] z I Q from ?_)
      refine E_iload_n (pc := 25) (x := x2) ddX9_looksAt_25 rfl rfl ?_
      refine E_icmp_ne (pc := 26) (tgt := 33) ddX9_looksAt_26 (by decide) (fun h => ?_) (fun h => ?_)
      · have k := k.1 h
        refine E_iconst (pc := 33) (v := 0) ddX9_looksAt_33 rfl ?_
        exact E_zret (pc := 34) ddX9_looksAt_34 rfl (by decide) k
      · have k := k.2 h
        refine E_iconst (pc := 29) (v := 1) ddX9_looksAt_29 rfl ?_
        refine E_goto (pc := 30) (tgt := 34) ddX9_looksAt_30 (by decide) ?_
        exact E_zret (pc := 34) ddX9_looksAt_34 rfl (by decide) k
/-! X9_driversOf, labels [4] -/
set_option maxRecDepth 100000 in
set_option maxHeartbeats 4000000 in
theorem B_X9_driversOf_0 {mc ms : Nat} {z : Zt} {I : It} {Q : Option Value → Zt → It → Prop} {x1 : Int32} (ho : isO z)
    (k : E mX9_driversOf mc ms 4 [some (.ref 308), some (.int x1), some (.int 0), some (.int 0)] [] z I Q) :
    E mX9_driversOf mc ms 0 [some (.ref 308), some (.int x1), none, none] [] z I Q := by
  refine E_iconst (pc := 0) (v := 0) ddX9_driversOf_0 rfl ?_
  refine E_istore_n (pc := 1) (ls' := [some (.ref 308), some (.int x1), some (.int 0), none]) ddX9_driversOf_1 rfl (Nat.le_of_ble_eq_true rfl) rfl rfl ?_
  refine E_iconst (pc := 2) (v := 0) ddX9_driversOf_2 rfl ?_
  refine E_istore_n (pc := 3) (ls' := [some (.ref 308), some (.int x1), some (.int 0), some (.int 0)]) ddX9_driversOf_3 rfl (Nat.le_of_ble_eq_true rfl) rfl rfl ?_
  exact k
set_option maxRecDepth 100000 in
set_option maxHeartbeats 4000000 in
theorem B_X9_driversOf_4 {mc ms : Nat} {z : Zt} {I : It} {Q : Option Value → Zt → It → Prop} {x1 x2 x3 : Int32} (ho : isO z)
    (k : (((I 308 2) ≤ x3) → Q (some (.int x2)) z I) ∧
    ((¬ (I 308 2) ≤ x3) → ∃ j1 : Nat, ((6 * x3) + 3) = nI j1 ∧ j1 < 48 ∧ ((¬ (I 310 j1) = x1) → ∀ v2 : Int32, v2 = (x2 + 0) → E mX9_driversOf mc ms 4 [some (.ref 308), some (.int x1), some (.int v2), some (.int (x3 + 1))] [] z I Q) ∧
    (((I 310 j1) = x1) → ∀ v2 : Int32, v2 = (x2 + 1) → E mX9_driversOf mc ms 4 [some (.ref 308), some (.int x1), some (.int v2), some (.int (x3 + 1))] [] z I Q))) :
    E mX9_driversOf mc ms 4 [some (.ref 308), some (.int x1), some (.int x2), some (.int x3)] [] z I Q := by
  refine E_iload_n (pc := 4) (x := x3) ddX9_driversOf_4 rfl rfl ?_
  refine E_aload_n (pc := 5) (x := 308) ddX9_driversOf_5 rfl rfl ?_
  refine E_getI (pc := 6) ddX9_driversOf_6 ec_8 2 (Nat.le_of_ble_eq_true rfl) rfl w_3_184 ho.s0 ?_
  refine E_icmp_ge (pc := 9) (tgt := 36) ddX9_driversOf_9 (by decide) (fun h => ?_) (fun h => ?_)
  · have k := k.1 h
    refine E_iload_n (pc := 36) (x := x2) ddX9_driversOf_36 rfl rfl ?_
    exact E_iret (pc := 37) ddX9_driversOf_37 rfl k
  · have k := k.2 h
    refine E_iload_n (pc := 12) (x := x2) ddX9_driversOf_12 rfl rfl ?_
    refine E_aload_n (pc := 13) (x := 308) ddX9_driversOf_13 rfl rfl ?_
    refine E_iload_n (pc := 14) (x := x3) ddX9_driversOf_14 rfl rfl ?_
    refine E_iconst (pc := 15) (v := 3) ddX9_driversOf_15 rfl ?_
    refine E_callV (pc := 16) (As := [.int x3, .int 3]) (st := [.int x2]) (a := 308) ddX9_driversOf_16 hX9_of ⟨(Nat.le_of_ble_eq_true rfl), (Nat.le_of_ble_eq_true rfl)⟩ w_4_50 (ci := 8) rfl rfl ho.s0 rfl rfl (Nat.le_of_ble_eq_true rfl) (e_cc rfl (e_cc rfl e_cn)) (Nat.le_of_ble_eq_true rfl) ?_
    refine (show E mX9_of 0 0 0 [some (.ref 308), some (.int x3), some (.int 3)] [] z I _ from ?_)
    refine E_aload_n (pc := 0) (x := 308) ddX9_of_0 rfl rfl ?_
    refine E_getR (pc := 1) (x := 310) ddX9_of_1 ec_8 3 (Nat.le_of_ble_eq_true rfl) rfl w_3_185 ho.s0 ho.r3 (by decide) ?_
    refine E_bipush (pc := 4) (v := 6) ddX9_of_4 rfl ?_
    refine E_iload_n (pc := 6) (x := x3) ddX9_of_6 rfl rfl ?_
    refine E_imul (pc := 7) ddX9_of_7 ?_
    refine E_iload_n (pc := 8) (x := 3) ddX9_of_8 rfl rfl ?_
    refine E_iadd (pc := 9) ddX9_of_9 ?_
    obtain ⟨j1, ij1, lj1, k⟩ := k
    refine E_ialdN (pc := 10) (j := j1) ddX9_of_10 ho.s2 ij1 lj1 (Nat.le_of_ble_eq_true rfl) ?_
    refine E_iret (pc := 11) ddX9_of_11 rfl ?_
    refine (show E mX9_driversOf mc ms 19 [some (.ref 308), some (.int x1), some (.int x2), some (.int x3)] [.int (I 310 j1), .int x2] z I Q from ?_)
    refine E_iload_n (pc := 19) (x := x1) ddX9_driversOf_19 rfl rfl ?_
    refine E_icmp_ne (pc := 20) (tgt := 27) ddX9_driversOf_20 (by decide) (fun h => ?_) (fun h => ?_)
    · have k := k.1 h
      refine E_iconst (pc := 27) (v := 0) ddX9_driversOf_27 rfl ?_
      refine E_iadd (pc := 28) ddX9_driversOf_28 ?_
      obtain ⟨v2, ev2⟩ : ∃ y : Int32, y = (x2 + 0) := ⟨_, rfl⟩
      have k := k v2 ev2
      rw [← ev2]
      refine E_istore_n (pc := 29) (ls' := [some (.ref 308), some (.int x1), some (.int v2), some (.int x3)]) ddX9_driversOf_29 rfl (Nat.le_of_ble_eq_true rfl) rfl rfl ?_
      refine E_iinc (pc := 30) (v := (x3 + 1)) (ls' := [some (.ref 308), some (.int x1), some (.int v2), some (.int (x3 + 1))]) ddX9_driversOf_30 rfl rfl (Nat.le_of_ble_eq_true rfl) rfl rfl ?_
      refine E_goto (pc := 33) (tgt := 4) ddX9_driversOf_33 (by decide) ?_
      exact k
    · have k := k.2 h
      refine E_iconst (pc := 23) (v := 1) ddX9_driversOf_23 rfl ?_
      refine E_goto (pc := 24) (tgt := 28) ddX9_driversOf_24 (by decide) ?_
      refine E_iadd (pc := 28) ddX9_driversOf_28 ?_
      obtain ⟨v2, ev2⟩ : ∃ y : Int32, y = (x2 + 1) := ⟨_, rfl⟩
      have k := k v2 ev2
      rw [← ev2]
      refine E_istore_n (pc := 29) (ls' := [some (.ref 308), some (.int x1), some (.int v2), some (.int x3)]) ddX9_driversOf_29 rfl (Nat.le_of_ble_eq_true rfl) rfl rfl ?_
      refine E_iinc (pc := 30) (v := (x3 + 1)) (ls' := [some (.ref 308), some (.int x1), some (.int v2), some (.int (x3 + 1))]) ddX9_driversOf_30 rfl rfl (Nat.le_of_ble_eq_true rfl) rfl rfl ?_
      refine E_goto (pc := 33) (tgt := 4) ddX9_driversOf_33 (by decide) ?_
      exact k
/-! X9_drivenTo, labels [6] -/
set_option maxRecDepth 100000 in
set_option maxHeartbeats 4000000 in
theorem B_X9_drivenTo_0 {mc ms : Nat} {z : Zt} {I : It} {Q : Option Value → Zt → It → Prop} {x1 x2 x3 : Int32} (ho : isO z)
    (k : E mX9_drivenTo mc ms 6 [some (.ref 308), some (.int x1), some (.int x2), some (.int x3), some (.int 2), some (.int 0)] [] z I Q) :
    E mX9_drivenTo mc ms 0 [some (.ref 308), some (.int x1), some (.int x2), some (.int x3), none, none] [] z I Q := by
  refine E_iconst (pc := 0) (v := 2) ddX9_drivenTo_0 rfl ?_
  refine E_istore (pc := 1) (ls' := [some (.ref 308), some (.int x1), some (.int x2), some (.int x3), some (.int 2), none]) ddX9_drivenTo_1 (Nat.le_of_ble_eq_true rfl) rfl rfl ?_
  refine E_iconst (pc := 3) (v := 0) ddX9_drivenTo_3 rfl ?_
  refine E_istore (pc := 4) (ls' := [some (.ref 308), some (.int x1), some (.int x2), some (.int x3), some (.int 2), some (.int 0)]) ddX9_drivenTo_4 (Nat.le_of_ble_eq_true rfl) rfl rfl ?_
  exact k
set_option maxRecDepth 100000 in
set_option maxHeartbeats 4000000 in
theorem B_X9_drivenTo_6 {mc ms : Nat} {z : Zt} {I : It} {Q : Option Value → Zt → It → Prop} {x1 x2 x3 x4 x5 : Int32} (ho : isO z)
    (k : (((I 308 2) ≤ x5) → Q (some (.int x4)) z I) ∧
    ((¬ (I 308 2) ≤ x5) → ((x5 = x3) → E mX9_drivenTo mc ms 6 [some (.ref 308), some (.int x1), some (.int x2), some (.int x3), some (.int x4), some (.int (x5 + 1))] [] z I Q) ∧
    ((¬ x5 = x3) → ∃ j1 : Nat, ((6 * x5) + 3) = nI j1 ∧ j1 < 48 ∧ ((¬ (I 310 j1) = x2) → E mX9_drivenTo mc ms 6 [some (.ref 308), some (.int x1), some (.int x2), some (.int x3), some (.int x4), some (.int (x5 + 1))] [] z I Q) ∧
    (((I 310 j1) = x2) → ∃ j2 : Nat, ((x1 + 176) + x5) = nI j2 ∧ j2 < 6880 ∧ ∀ v3 : Int32, v3 = (f_X9_together x4 (I 309 j2)) → E mX9_drivenTo mc ms 6 [some (.ref 308), some (.int x1), some (.int x2), some (.int x3), some (.int v3), some (.int (x5 + 1))] [] z I Q)))) :
    E mX9_drivenTo mc ms 6 [some (.ref 308), some (.int x1), some (.int x2), some (.int x3), some (.int x4), some (.int x5)] [] z I Q := by
  refine E_iload (pc := 6) (x := x5) ddX9_drivenTo_6 rfl ?_
  refine E_aload_n (pc := 8) (x := 308) ddX9_drivenTo_8 rfl rfl ?_
  refine E_getI (pc := 9) ddX9_drivenTo_9 ec_8 2 (Nat.le_of_ble_eq_true rfl) rfl w_3_184 ho.s0 ?_
  refine E_icmp_ge (pc := 12) (tgt := 63) ddX9_drivenTo_12 (by decide) (fun h => ?_) (fun h => ?_)
  · have k := k.1 h
    refine E_iload (pc := 63) (x := x4) ddX9_drivenTo_63 rfl ?_
    exact E_iret (pc := 65) ddX9_drivenTo_65 rfl k
  · have k := k.2 h
    refine E_iload (pc := 15) (x := x5) ddX9_drivenTo_15 rfl ?_
    refine E_iload_n (pc := 17) (x := x3) ddX9_drivenTo_17 rfl rfl ?_
    refine E_icmp_eq (pc := 18) (tgt := 53) ddX9_drivenTo_18 (by decide) (fun h => ?_) (fun h => ?_)
    · have k := k.1 h
      refine E_iload (pc := 53) (x := x4) ddX9_drivenTo_53 rfl ?_
      refine E_istore (pc := 55) (ls' := [some (.ref 308), some (.int x1), some (.int x2), some (.int x3), some (.int x4), some (.int x5)]) ddX9_drivenTo_55 (Nat.le_of_ble_eq_true rfl) rfl rfl ?_
      refine E_iinc (pc := 57) (v := (x5 + 1)) (ls' := [some (.ref 308), some (.int x1), some (.int x2), some (.int x3), some (.int x4), some (.int (x5 + 1))]) ddX9_drivenTo_57 rfl rfl (Nat.le_of_ble_eq_true rfl) rfl rfl ?_
      refine E_goto (pc := 60) (tgt := 6) ddX9_drivenTo_60 (by decide) ?_
      exact k
    · have k := k.2 h
      refine E_aload_n (pc := 21) (x := 308) ddX9_drivenTo_21 rfl rfl ?_
      refine E_iload (pc := 22) (x := x5) ddX9_drivenTo_22 rfl ?_
      refine E_iconst (pc := 24) (v := 3) ddX9_drivenTo_24 rfl ?_
      refine E_callV (pc := 25) (As := [.int x5, .int 3]) (st := []) (a := 308) ddX9_drivenTo_25 hX9_of ⟨(Nat.le_of_ble_eq_true rfl), (Nat.le_of_ble_eq_true rfl)⟩ w_4_50 (ci := 8) rfl rfl ho.s0 rfl rfl (Nat.le_of_ble_eq_true rfl) (e_cc rfl (e_cc rfl e_cn)) (Nat.le_of_ble_eq_true rfl) ?_
      refine (show E mX9_of 0 0 0 [some (.ref 308), some (.int x5), some (.int 3)] [] z I _ from ?_)
      refine E_aload_n (pc := 0) (x := 308) ddX9_of_0 rfl rfl ?_
      refine E_getR (pc := 1) (x := 310) ddX9_of_1 ec_8 3 (Nat.le_of_ble_eq_true rfl) rfl w_3_185 ho.s0 ho.r3 (by decide) ?_
      refine E_bipush (pc := 4) (v := 6) ddX9_of_4 rfl ?_
      refine E_iload_n (pc := 6) (x := x5) ddX9_of_6 rfl rfl ?_
      refine E_imul (pc := 7) ddX9_of_7 ?_
      refine E_iload_n (pc := 8) (x := 3) ddX9_of_8 rfl rfl ?_
      refine E_iadd (pc := 9) ddX9_of_9 ?_
      obtain ⟨j1, ij1, lj1, k⟩ := k
      refine E_ialdN (pc := 10) (j := j1) ddX9_of_10 ho.s2 ij1 lj1 (Nat.le_of_ble_eq_true rfl) ?_
      refine E_iret (pc := 11) ddX9_of_11 rfl ?_
      refine (show E mX9_drivenTo mc ms 28 [some (.ref 308), some (.int x1), some (.int x2), some (.int x3), some (.int x4), some (.int x5)] [.int (I 310 j1)] z I Q from ?_)
      refine E_iload_n (pc := 28) (x := x2) ddX9_drivenTo_28 rfl rfl ?_
      refine E_icmp_ne (pc := 29) (tgt := 53) ddX9_drivenTo_29 (by decide) (fun h => ?_) (fun h => ?_)
      · have k := k.1 h
        refine E_iload (pc := 53) (x := x4) ddX9_drivenTo_53 rfl ?_
        refine E_istore (pc := 55) (ls' := [some (.ref 308), some (.int x1), some (.int x2), some (.int x3), some (.int x4), some (.int x5)]) ddX9_drivenTo_55 (Nat.le_of_ble_eq_true rfl) rfl rfl ?_
        refine E_iinc (pc := 57) (v := (x5 + 1)) (ls' := [some (.ref 308), some (.int x1), some (.int x2), some (.int x3), some (.int x4), some (.int (x5 + 1))]) ddX9_drivenTo_57 rfl rfl (Nat.le_of_ble_eq_true rfl) rfl rfl ?_
        refine E_goto (pc := 60) (tgt := 6) ddX9_drivenTo_60 (by decide) ?_
        exact k
      · have k := k.2 h
        refine E_iload (pc := 32) (x := x4) ddX9_drivenTo_32 rfl ?_
        refine E_aload_n (pc := 34) (x := 308) ddX9_drivenTo_34 rfl rfl ?_
        refine E_getR (pc := 35) (x := 309) ddX9_drivenTo_35 ec_8 0 (Nat.le_of_ble_eq_true rfl) rfl w_3_182 ho.s0 ho.r0 (by decide) ?_
        refine E_iload_n (pc := 38) (x := x1) ddX9_drivenTo_38 rfl rfl ?_
        refine E_sipush (pc := 39) (v := 176) ddX9_drivenTo_39 rfl ?_
        refine E_iadd (pc := 42) ddX9_drivenTo_42 ?_
        refine E_iload (pc := 43) (x := x5) ddX9_drivenTo_43 rfl ?_
        refine E_iadd (pc := 45) ddX9_drivenTo_45 ?_
        obtain ⟨j2, ij2, lj2, k⟩ := k
        refine E_ialdN (pc := 46) (j := j2) ddX9_drivenTo_46 ho.s1 ij2 lj2 (Nat.le_of_ble_eq_true rfl) ?_
        refine E_callS (pc := 47) (As := [.int x4, .int (I 309 j2)]) (st := []) ddX9_drivenTo_47 hX9_together ⟨(Nat.le_of_ble_eq_true rfl), (Nat.le_of_ble_eq_true rfl)⟩ w_4_132 rfl rfl (Nat.le_of_ble_eq_true rfl) (e_cc rfl (e_cc rfl e_cn)) (Nat.le_of_ble_eq_true rfl) (C_X9_together ?_)
        refine (show E mX9_drivenTo mc ms 50 [some (.ref 308), some (.int x1), some (.int x2), some (.int x3), some (.int x4), some (.int x5)] [.int (f_X9_together x4 (I 309 j2))] z I Q from ?_)
        refine E_goto (pc := 50) (tgt := 55) ddX9_drivenTo_50 (by decide) ?_
        obtain ⟨v3, ev3⟩ : ∃ y : Int32, y = (f_X9_together x4 (I 309 j2)) := ⟨_, rfl⟩
        have k := k v3 ev3
        rw [← ev3]
        refine E_istore (pc := 55) (ls' := [some (.ref 308), some (.int x1), some (.int x2), some (.int x3), some (.int v3), some (.int x5)]) ddX9_drivenTo_55 (Nat.le_of_ble_eq_true rfl) rfl rfl ?_
        refine E_iinc (pc := 57) (v := (x5 + 1)) (ls' := [some (.ref 308), some (.int x1), some (.int x2), some (.int x3), some (.int v3), some (.int (x5 + 1))]) ddX9_drivenTo_57 rfl rfl (Nat.le_of_ble_eq_true rfl) rfl rfl ?_
        refine E_goto (pc := 60) (tgt := 6) ddX9_drivenTo_60 (by decide) ?_
        exact k
/-! X9_dropFirst, labels [19] -/
set_option maxRecDepth 100000 in
set_option maxHeartbeats 4000000 in
theorem B_X9_dropFirst_0 {mc ms : Nat} {z : Zt} {I : It} {Q : Option Value → Zt → It → Prop} {x1 x2 x3 : Int32} (ho : isO z)
    (k : ∃ j1 : Nat, ((x1 + 184) + x2) = nI j1 ∧ j1 < 6880 ∧ ∀ v2 : Int32, v2 = ((I 309 j1) - x3) → E mX9_dropFirst mc ms 19 [some (.ref 308), some (.int x1), some (.int x2), some (.int x3), some (.int v2), some (.int 0)] [] z I Q) :
    E mX9_dropFirst mc ms 0 [some (.ref 308), some (.int x1), some (.int x2), some (.int x3), none, none] [] z I Q := by
  refine E_aload_n (pc := 0) (x := 308) ddX9_dropFirst_0 rfl rfl ?_
  refine E_getR (pc := 1) (x := 309) ddX9_dropFirst_1 ec_8 0 (Nat.le_of_ble_eq_true rfl) rfl w_3_182 ho.s0 ho.r0 (by decide) ?_
  refine E_iload_n (pc := 4) (x := x1) ddX9_dropFirst_4 rfl rfl ?_
  refine E_sipush (pc := 5) (v := 184) ddX9_dropFirst_5 rfl ?_
  refine E_iadd (pc := 8) ddX9_dropFirst_8 ?_
  refine E_iload_n (pc := 9) (x := x2) ddX9_dropFirst_9 rfl rfl ?_
  refine E_iadd (pc := 10) ddX9_dropFirst_10 ?_
  obtain ⟨j1, ij1, lj1, k⟩ := k
  refine E_ialdN (pc := 11) (j := j1) ddX9_dropFirst_11 ho.s1 ij1 lj1 (Nat.le_of_ble_eq_true rfl) ?_
  refine E_iload_n (pc := 12) (x := x3) ddX9_dropFirst_12 rfl rfl ?_
  refine E_isub (pc := 13) ddX9_dropFirst_13 ?_
  obtain ⟨v2, ev2⟩ : ∃ y : Int32, y = ((I 309 j1) - x3) := ⟨_, rfl⟩
  have k := k v2 ev2
  rw [← ev2]
  refine E_istore (pc := 14) (ls' := [some (.ref 308), some (.int x1), some (.int x2), some (.int x3), some (.int v2), none]) ddX9_dropFirst_14 (Nat.le_of_ble_eq_true rfl) rfl rfl ?_
  refine E_iconst (pc := 16) (v := 0) ddX9_dropFirst_16 rfl ?_
  refine E_istore (pc := 17) (ls' := [some (.ref 308), some (.int x1), some (.int x2), some (.int x3), some (.int v2), some (.int 0)]) ddX9_dropFirst_17 (Nat.le_of_ble_eq_true rfl) rfl rfl ?_
  exact k
set_option maxRecDepth 100000 in
set_option maxHeartbeats 4000000 in
theorem B_X9_dropFirst_19 {mc ms : Nat} {z : Zt} {I : It} {Q : Option Value → Zt → It → Prop} {x1 x2 x3 x4 x5 : Int32} (ho : isO z)
    (k : ((x4 ≤ x5) → ∃ j1 : Nat, ((x1 + 184) + x2) = nI j1 ∧ j1 < 6880 ∧ ∀ I2 : It, I2 = e_st I 309 j1 x4 → Q none z I2) ∧
    ((¬ x4 ≤ x5) → ∃ j1 : Nat, ((((x1 + 192) + (8 * x2)) + x5) + x3) = nI j1 ∧ j1 < 6880 ∧ ∃ j2 : Nat, (((x1 + 192) + (8 * x2)) + x5) = nI j2 ∧ j2 < 6880 ∧ ∀ I3 : It, I3 = e_st I 309 j2 (I 309 j1) → ∃ j4 : Nat, ((((x1 + 256) + (8 * x2)) + x5) + x3) = nI j4 ∧ j4 < 6880 ∧ ∃ j5 : Nat, (((x1 + 256) + (8 * x2)) + x5) = nI j5 ∧ j5 < 6880 ∧ ∀ I6 : It, I6 = e_st I3 309 j5 (I3 309 j4) → E mX9_dropFirst mc ms 19 [some (.ref 308), some (.int x1), some (.int x2), some (.int x3), some (.int x4), some (.int (x5 + 1))] [] z I6 Q)) :
    E mX9_dropFirst mc ms 19 [some (.ref 308), some (.int x1), some (.int x2), some (.int x3), some (.int x4), some (.int x5)] [] z I Q := by
  refine E_iload (pc := 19) (x := x5) ddX9_dropFirst_19 rfl ?_
  refine E_iload (pc := 21) (x := x4) ddX9_dropFirst_21 rfl ?_
  refine E_icmp_ge (pc := 23) (tgt := 108) ddX9_dropFirst_23 (by decide) (fun h => ?_) (fun h => ?_)
  · have k := k.1 h
    refine E_aload_n (pc := 108) (x := 308) ddX9_dropFirst_108 rfl rfl ?_
    refine E_getR (pc := 109) (x := 309) ddX9_dropFirst_109 ec_8 0 (Nat.le_of_ble_eq_true rfl) rfl w_3_182 ho.s0 ho.r0 (by decide) ?_
    refine E_iload_n (pc := 112) (x := x1) ddX9_dropFirst_112 rfl rfl ?_
    refine E_sipush (pc := 113) (v := 184) ddX9_dropFirst_113 rfl ?_
    refine E_iadd (pc := 116) ddX9_dropFirst_116 ?_
    refine E_iload_n (pc := 117) (x := x2) ddX9_dropFirst_117 rfl rfl ?_
    refine E_iadd (pc := 118) ddX9_dropFirst_118 ?_
    refine E_iload (pc := 119) (x := x4) ddX9_dropFirst_119 rfl ?_
    obtain ⟨j1, ij1, lj1, k⟩ := k
    obtain ⟨I2, eI2⟩ : ∃ y : It, y = e_st I 309 j1 x4 := ⟨_, rfl⟩
    have k := k I2 eI2
    refine E_iastN (pc := 121) (j := j1) ddX9_dropFirst_121 ho.s1 (by decide) ij1 lj1 (Nat.le_of_ble_eq_true rfl) ?_
    rw [← eI2]
    exact E_vret (pc := 122) ddX9_dropFirst_122 rfl k
  · have k := k.2 h
    refine E_aload_n (pc := 26) (x := 308) ddX9_dropFirst_26 rfl rfl ?_
    refine E_getR (pc := 27) (x := 309) ddX9_dropFirst_27 ec_8 0 (Nat.le_of_ble_eq_true rfl) rfl w_3_182 ho.s0 ho.r0 (by decide) ?_
    refine E_iload_n (pc := 30) (x := x1) ddX9_dropFirst_30 rfl rfl ?_
    refine E_sipush (pc := 31) (v := 192) ddX9_dropFirst_31 rfl ?_
    refine E_iadd (pc := 34) ddX9_dropFirst_34 ?_
    refine E_bipush (pc := 35) (v := 8) ddX9_dropFirst_35 rfl ?_
    refine E_iload_n (pc := 37) (x := x2) ddX9_dropFirst_37 rfl rfl ?_
    refine E_imul (pc := 38) ddX9_dropFirst_38 ?_
    refine E_iadd (pc := 39) ddX9_dropFirst_39 ?_
    refine E_iload (pc := 40) (x := x5) ddX9_dropFirst_40 rfl ?_
    refine E_iadd (pc := 42) ddX9_dropFirst_42 ?_
    refine E_aload_n (pc := 43) (x := 308) ddX9_dropFirst_43 rfl rfl ?_
    refine E_getR (pc := 44) (x := 309) ddX9_dropFirst_44 ec_8 0 (Nat.le_of_ble_eq_true rfl) rfl w_3_182 ho.s0 ho.r0 (by decide) ?_
    refine E_iload_n (pc := 47) (x := x1) ddX9_dropFirst_47 rfl rfl ?_
    refine E_sipush (pc := 48) (v := 192) ddX9_dropFirst_48 rfl ?_
    refine E_iadd (pc := 51) ddX9_dropFirst_51 ?_
    refine E_bipush (pc := 52) (v := 8) ddX9_dropFirst_52 rfl ?_
    refine E_iload_n (pc := 54) (x := x2) ddX9_dropFirst_54 rfl rfl ?_
    refine E_imul (pc := 55) ddX9_dropFirst_55 ?_
    refine E_iadd (pc := 56) ddX9_dropFirst_56 ?_
    refine E_iload (pc := 57) (x := x5) ddX9_dropFirst_57 rfl ?_
    refine E_iadd (pc := 59) ddX9_dropFirst_59 ?_
    refine E_iload_n (pc := 60) (x := x3) ddX9_dropFirst_60 rfl rfl ?_
    refine E_iadd (pc := 61) ddX9_dropFirst_61 ?_
    obtain ⟨j1, ij1, lj1, k⟩ := k
    refine E_ialdN (pc := 62) (j := j1) ddX9_dropFirst_62 ho.s1 ij1 lj1 (Nat.le_of_ble_eq_true rfl) ?_
    obtain ⟨j2, ij2, lj2, k⟩ := k
    obtain ⟨I3, eI3⟩ : ∃ y : It, y = e_st I 309 j2 (I 309 j1) := ⟨_, rfl⟩
    have k := k I3 eI3
    refine E_iastN (pc := 63) (j := j2) ddX9_dropFirst_63 ho.s1 (by decide) ij2 lj2 (Nat.le_of_ble_eq_true rfl) ?_
    rw [← eI3]
    refine E_aload_n (pc := 64) (x := 308) ddX9_dropFirst_64 rfl rfl ?_
    refine E_getR (pc := 65) (x := 309) ddX9_dropFirst_65 ec_8 0 (Nat.le_of_ble_eq_true rfl) rfl w_3_182 ho.s0 ho.r0 (by decide) ?_
    refine E_iload_n (pc := 68) (x := x1) ddX9_dropFirst_68 rfl rfl ?_
    refine E_sipush (pc := 69) (v := 256) ddX9_dropFirst_69 rfl ?_
    refine E_iadd (pc := 72) ddX9_dropFirst_72 ?_
    refine E_bipush (pc := 73) (v := 8) ddX9_dropFirst_73 rfl ?_
    refine E_iload_n (pc := 75) (x := x2) ddX9_dropFirst_75 rfl rfl ?_
    refine E_imul (pc := 76) ddX9_dropFirst_76 ?_
    refine E_iadd (pc := 77) ddX9_dropFirst_77 ?_
    refine E_iload (pc := 78) (x := x5) ddX9_dropFirst_78 rfl ?_
    refine E_iadd (pc := 80) ddX9_dropFirst_80 ?_
    refine E_aload_n (pc := 81) (x := 308) ddX9_dropFirst_81 rfl rfl ?_
    refine E_getR (pc := 82) (x := 309) ddX9_dropFirst_82 ec_8 0 (Nat.le_of_ble_eq_true rfl) rfl w_3_182 ho.s0 ho.r0 (by decide) ?_
    refine E_iload_n (pc := 85) (x := x1) ddX9_dropFirst_85 rfl rfl ?_
    refine E_sipush (pc := 86) (v := 256) ddX9_dropFirst_86 rfl ?_
    refine E_iadd (pc := 89) ddX9_dropFirst_89 ?_
    refine E_bipush (pc := 90) (v := 8) ddX9_dropFirst_90 rfl ?_
    refine E_iload_n (pc := 92) (x := x2) ddX9_dropFirst_92 rfl rfl ?_
    refine E_imul (pc := 93) ddX9_dropFirst_93 ?_
    refine E_iadd (pc := 94) ddX9_dropFirst_94 ?_
    refine E_iload (pc := 95) (x := x5) ddX9_dropFirst_95 rfl ?_
    refine E_iadd (pc := 97) ddX9_dropFirst_97 ?_
    refine E_iload_n (pc := 98) (x := x3) ddX9_dropFirst_98 rfl rfl ?_
    refine E_iadd (pc := 99) ddX9_dropFirst_99 ?_
    obtain ⟨j4, ij4, lj4, k⟩ := k
    refine E_ialdN (pc := 100) (j := j4) ddX9_dropFirst_100 ho.s1 ij4 lj4 (Nat.le_of_ble_eq_true rfl) ?_
    obtain ⟨j5, ij5, lj5, k⟩ := k
    obtain ⟨I6, eI6⟩ : ∃ y : It, y = e_st I3 309 j5 (I3 309 j4) := ⟨_, rfl⟩
    have k := k I6 eI6
    refine E_iastN (pc := 101) (j := j5) ddX9_dropFirst_101 ho.s1 (by decide) ij5 lj5 (Nat.le_of_ble_eq_true rfl) ?_
    rw [← eI6]
    refine E_iinc (pc := 102) (v := (x5 + 1)) (ls' := [some (.ref 308), some (.int x1), some (.int x2), some (.int x3), some (.int x4), some (.int (x5 + 1))]) ddX9_dropFirst_102 rfl rfl (Nat.le_of_ble_eq_true rfl) rfl rfl ?_
    refine E_goto (pc := 105) (tgt := 19) ddX9_dropFirst_105 (by decide) ?_
    exact k
/-! X9_tell, labels [6, 30, 113, 175, 199] -/
set_option maxRecDepth 100000 in
set_option maxHeartbeats 4000000 in
theorem B_X9_tell_0 {mc ms : Nat} {z : Zt} {I : It} {Q : Option Value → Zt → It → Prop} {x1 x2 : Int32} (ho : isO z)
    (k : E mX9_comesOf 0 0 0 [some (.ref 308), some (.int x1), some (.int x2), none, none] [] z I (fun r z' I' => E mX9_tell mc ms 6 [some (.ref 308), some (.int x1), some (.int x2), none, none, none, none, none] (r.toList ++ []) z' I' Q)) :
    E mX9_tell mc ms 0 [some (.ref 308), some (.int x1), some (.int x2), none, none, none, none, none] [] z I Q := by
  refine E_aload_n (pc := 0) (x := 308) ddX9_tell_0 rfl rfl ?_
  refine E_iload_n (pc := 1) (x := x1) ddX9_tell_1 rfl rfl ?_
  refine E_iload_n (pc := 2) (x := x2) ddX9_tell_2 rfl rfl ?_
  exact E_callV (pc := 3) (As := [.int x1, .int x2]) (st := []) (a := 308) ddX9_tell_3 hX9_comesOf ⟨(Nat.le_of_ble_eq_true rfl), (Nat.le_of_ble_eq_true rfl)⟩ w_4_62 (ci := 8) rfl rfl ho.s0 rfl rfl (Nat.le_of_ble_eq_true rfl) (e_cc rfl (e_cc rfl e_cn)) (Nat.le_of_ble_eq_true rfl) k
set_option maxRecDepth 100000 in
set_option maxHeartbeats 4000000 in
theorem B_X9_tell_6 {mc ms : Nat} {z : Zt} {I : It} {Q : Option Value → Zt → It → Prop} {x1 x2 y0 : Int32} (ho : isO z)
    (k : ∃ j1 : Nat, (x1 + 0) = nI j1 ∧ j1 < 6880 ∧ ∃ j2 : Nat, ((6 * x2) + 4) = nI j2 ∧ j2 < 48 ∧ ∀ v3 : Int32, v3 = ((I 309 j1) + (I 310 j2)) → ∀ v4 : Int32, v4 = (8 * x2) → E mX9_tell mc ms 30 [some (.ref 308), some (.int x1), some (.int x2), some (.int y0), some (.int v3), some (.int v4), none, none] [] z I Q) :
    E mX9_tell mc ms 6 [some (.ref 308), some (.int x1), some (.int x2), none, none, none, none, none] [.int y0] z I Q := by
  refine E_istore_n (pc := 6) (ls' := [some (.ref 308), some (.int x1), some (.int x2), some (.int y0), none, none, none, none]) ddX9_tell_6 rfl (Nat.le_of_ble_eq_true rfl) rfl rfl ?_
  refine E_aload_n (pc := 7) (x := 308) ddX9_tell_7 rfl rfl ?_
  refine E_getR (pc := 8) (x := 309) ddX9_tell_8 ec_8 0 (Nat.le_of_ble_eq_true rfl) rfl w_3_182 ho.s0 ho.r0 (by decide) ?_
  refine E_iload_n (pc := 11) (x := x1) ddX9_tell_11 rfl rfl ?_
  refine E_iconst (pc := 12) (v := 0) ddX9_tell_12 rfl ?_
  refine E_iadd (pc := 13) ddX9_tell_13 ?_
  obtain ⟨j1, ij1, lj1, k⟩ := k
  refine E_ialdN (pc := 14) (j := j1) ddX9_tell_14 ho.s1 ij1 lj1 (Nat.le_of_ble_eq_true rfl) ?_
  refine E_aload_n (pc := 15) (x := 308) ddX9_tell_15 rfl rfl ?_
  refine E_iload_n (pc := 16) (x := x2) ddX9_tell_16 rfl rfl ?_
  refine E_iconst (pc := 17) (v := 4) ddX9_tell_17 rfl ?_
  refine E_callV (pc := 18) (As := [.int x2, .int 4]) (st := [.int (I 309 j1)]) (a := 308) ddX9_tell_18 hX9_of ⟨(Nat.le_of_ble_eq_true rfl), (Nat.le_of_ble_eq_true rfl)⟩ w_4_50 (ci := 8) rfl rfl ho.s0 rfl rfl (Nat.le_of_ble_eq_true rfl) (e_cc rfl (e_cc rfl e_cn)) (Nat.le_of_ble_eq_true rfl) ?_
  refine (show E mX9_of 0 0 0 [some (.ref 308), some (.int x2), some (.int 4)] [] z I _ from ?_)
  refine E_aload_n (pc := 0) (x := 308) ddX9_of_0 rfl rfl ?_
  refine E_getR (pc := 1) (x := 310) ddX9_of_1 ec_8 3 (Nat.le_of_ble_eq_true rfl) rfl w_3_185 ho.s0 ho.r3 (by decide) ?_
  refine E_bipush (pc := 4) (v := 6) ddX9_of_4 rfl ?_
  refine E_iload_n (pc := 6) (x := x2) ddX9_of_6 rfl rfl ?_
  refine E_imul (pc := 7) ddX9_of_7 ?_
  refine E_iload_n (pc := 8) (x := 4) ddX9_of_8 rfl rfl ?_
  refine E_iadd (pc := 9) ddX9_of_9 ?_
  obtain ⟨j2, ij2, lj2, k⟩ := k
  refine E_ialdN (pc := 10) (j := j2) ddX9_of_10 ho.s2 ij2 lj2 (Nat.le_of_ble_eq_true rfl) ?_
  refine E_iret (pc := 11) ddX9_of_11 rfl ?_
  refine (show E mX9_tell mc ms 21 [some (.ref 308), some (.int x1), some (.int x2), some (.int y0), none, none, none, none] [.int (I 310 j2), .int (I 309 j1)] z I Q from ?_)
  refine E_iadd (pc := 21) ddX9_tell_21 ?_
  obtain ⟨v3, ev3⟩ : ∃ y : Int32, y = ((I 309 j1) + (I 310 j2)) := ⟨_, rfl⟩
  have k := k v3 ev3
  rw [← ev3]
  refine E_istore (pc := 22) (ls' := [some (.ref 308), some (.int x1), some (.int x2), some (.int y0), some (.int v3), none, none, none]) ddX9_tell_22 (Nat.le_of_ble_eq_true rfl) rfl rfl ?_
  refine E_bipush (pc := 24) (v := 8) ddX9_tell_24 rfl ?_
  refine E_iload_n (pc := 26) (x := x2) ddX9_tell_26 rfl rfl ?_
  refine E_imul (pc := 27) ddX9_tell_27 ?_
  obtain ⟨v4, ev4⟩ : ∃ y : Int32, y = (8 * x2) := ⟨_, rfl⟩
  have k := k v4 ev4
  rw [← ev4]
  refine E_istore (pc := 28) (ls' := [some (.ref 308), some (.int x1), some (.int x2), some (.int y0), some (.int v3), some (.int v4), none, none]) ddX9_tell_28 (Nat.le_of_ble_eq_true rfl) rfl rfl ?_
  exact k
set_option maxRecDepth 100000 in
set_option maxHeartbeats 4000000 in
theorem B_X9_tell_30 {mc ms : Nat} {z : Zt} {I : It} {Q : Option Value → Zt → It → Prop} {x1 x2 x3 x4 x5 : Int32} (ho : isO z)
    (k : ∃ j1 : Nat, ((x1 + 184) + x2) = nI j1 ∧ j1 < 6880 ∧ (((I 309 j1) ≤ 0) → ∃ j2 : Nat, ((6 * x2) + 5) = nI j2 ∧ j2 < 48 ∧ ((¬ (I 310 j2) = 1) → E mX9_tell mc ms 175 [some (.ref 308), some (.int x1), some (.int x2), some (.int x3), some (.int x4), some (.int x5), none, none] [] z I Q) ∧
    (((I 310 j2) = 1) → E mX9_tell mc ms 113 [some (.ref 308), some (.int x1), some (.int x2), some (.int x3), some (.int x4), some (.int x5), some (.int 0), some (.int 0)] [] z I Q)) ∧
    ((¬ (I 309 j1) ≤ 0) → ∃ j2 : Nat, ((((x1 + 192) + x5) + (I 309 j1)) - 1) = nI j2 ∧ j2 < 6880 ∧ (((I 309 j2) < x4) → ∃ j3 : Nat, ((6 * x2) + 5) = nI j3 ∧ j3 < 48 ∧ ((¬ (I 310 j3) = 1) → E mX9_tell mc ms 175 [some (.ref 308), some (.int x1), some (.int x2), some (.int x3), some (.int x4), some (.int x5), none, none] [] z I Q) ∧
    (((I 310 j3) = 1) → E mX9_tell mc ms 113 [some (.ref 308), some (.int x1), some (.int x2), some (.int x3), some (.int x4), some (.int x5), some (.int 0), some (.int 0)] [] z I Q)) ∧
    ((¬ (I 309 j2) < x4) → ∀ I3 : It, I3 = e_st I 309 j1 ((I 309 j1) - 1) → E mX9_tell mc ms 30 [some (.ref 308), some (.int x1), some (.int x2), some (.int x3), some (.int x4), some (.int x5), none, none] [] z I3 Q))) :
    E mX9_tell mc ms 30 [some (.ref 308), some (.int x1), some (.int x2), some (.int x3), some (.int x4), some (.int x5), none, none] [] z I Q := by
  refine E_aload_n (pc := 30) (x := 308) ddX9_tell_30 rfl rfl ?_
  refine E_getR (pc := 31) (x := 309) ddX9_tell_31 ec_8 0 (Nat.le_of_ble_eq_true rfl) rfl w_3_182 ho.s0 ho.r0 (by decide) ?_
  refine E_iload_n (pc := 34) (x := x1) ddX9_tell_34 rfl rfl ?_
  refine E_sipush (pc := 35) (v := 184) ddX9_tell_35 rfl ?_
  refine E_iadd (pc := 38) ddX9_tell_38 ?_
  refine E_iload_n (pc := 39) (x := x2) ddX9_tell_39 rfl rfl ?_
  refine E_iadd (pc := 40) ddX9_tell_40 ?_
  obtain ⟨j1, ij1, lj1, k⟩ := k
  refine E_ialdN (pc := 41) (j := j1) ddX9_tell_41 ho.s1 ij1 lj1 (Nat.le_of_ble_eq_true rfl) ?_
  refine E_if_le (pc := 42) (tgt := 97) ddX9_tell_42 (by decide) (fun h => ?_) (fun h => ?_)
  · have k := k.1 h
    refine E_aload_n (pc := 97) (x := 308) ddX9_tell_97 rfl rfl ?_
    refine E_iload_n (pc := 98) (x := x2) ddX9_tell_98 rfl rfl ?_
    refine E_iconst (pc := 99) (v := 5) ddX9_tell_99 rfl ?_
    refine E_callV (pc := 100) (As := [.int x2, .int 5]) (st := []) (a := 308) ddX9_tell_100 hX9_of ⟨(Nat.le_of_ble_eq_true rfl), (Nat.le_of_ble_eq_true rfl)⟩ w_4_50 (ci := 8) rfl rfl ho.s0 rfl rfl (Nat.le_of_ble_eq_true rfl) (e_cc rfl (e_cc rfl e_cn)) (Nat.le_of_ble_eq_true rfl) ?_
    refine (show E mX9_of 0 0 0 [some (.ref 308), some (.int x2), some (.int 5)] [] z I _ from ?_)
    refine E_aload_n (pc := 0) (x := 308) ddX9_of_0 rfl rfl ?_
    refine E_getR (pc := 1) (x := 310) ddX9_of_1 ec_8 3 (Nat.le_of_ble_eq_true rfl) rfl w_3_185 ho.s0 ho.r3 (by decide) ?_
    refine E_bipush (pc := 4) (v := 6) ddX9_of_4 rfl ?_
    refine E_iload_n (pc := 6) (x := x2) ddX9_of_6 rfl rfl ?_
    refine E_imul (pc := 7) ddX9_of_7 ?_
    refine E_iload_n (pc := 8) (x := 5) ddX9_of_8 rfl rfl ?_
    refine E_iadd (pc := 9) ddX9_of_9 ?_
    obtain ⟨j2, ij2, lj2, k⟩ := k
    refine E_ialdN (pc := 10) (j := j2) ddX9_of_10 ho.s2 ij2 lj2 (Nat.le_of_ble_eq_true rfl) ?_
    refine E_iret (pc := 11) ddX9_of_11 rfl ?_
    refine (show E mX9_tell mc ms 103 [some (.ref 308), some (.int x1), some (.int x2), some (.int x3), some (.int x4), some (.int x5), none, none] [.int (I 310 j2)] z I Q from ?_)
    refine E_iconst (pc := 103) (v := 1) ddX9_tell_103 rfl ?_
    refine E_icmp_ne (pc := 104) (tgt := 175) ddX9_tell_104 (by decide) (fun h => ?_) (fun h => ?_)
    · have k := k.1 h
      exact k
    · have k := k.2 h
      refine E_iconst (pc := 107) (v := 0) ddX9_tell_107 rfl ?_
      refine E_istore (pc := 108) (ls' := [some (.ref 308), some (.int x1), some (.int x2), some (.int x3), some (.int x4), some (.int x5), some (.int 0), none]) ddX9_tell_108 (Nat.le_of_ble_eq_true rfl) rfl rfl ?_
      refine E_iconst (pc := 110) (v := 0) ddX9_tell_110 rfl ?_
      refine E_istore (pc := 111) (ls' := [some (.ref 308), some (.int x1), some (.int x2), some (.int x3), some (.int x4), some (.int x5), some (.int 0), some (.int 0)]) ddX9_tell_111 (Nat.le_of_ble_eq_true rfl) rfl rfl ?_
      exact k
  · have k := k.2 h
    refine E_aload_n (pc := 45) (x := 308) ddX9_tell_45 rfl rfl ?_
    refine E_getR (pc := 46) (x := 309) ddX9_tell_46 ec_8 0 (Nat.le_of_ble_eq_true rfl) rfl w_3_182 ho.s0 ho.r0 (by decide) ?_
    refine E_iload_n (pc := 49) (x := x1) ddX9_tell_49 rfl rfl ?_
    refine E_sipush (pc := 50) (v := 192) ddX9_tell_50 rfl ?_
    refine E_iadd (pc := 53) ddX9_tell_53 ?_
    refine E_iload (pc := 54) (x := x5) ddX9_tell_54 rfl ?_
    refine E_iadd (pc := 56) ddX9_tell_56 ?_
    refine E_aload_n (pc := 57) (x := 308) ddX9_tell_57 rfl rfl ?_
    refine E_getR (pc := 58) (x := 309) ddX9_tell_58 ec_8 0 (Nat.le_of_ble_eq_true rfl) rfl w_3_182 ho.s0 ho.r0 (by decide) ?_
    refine E_iload_n (pc := 61) (x := x1) ddX9_tell_61 rfl rfl ?_
    refine E_sipush (pc := 62) (v := 184) ddX9_tell_62 rfl ?_
    refine E_iadd (pc := 65) ddX9_tell_65 ?_
    refine E_iload_n (pc := 66) (x := x2) ddX9_tell_66 rfl rfl ?_
    refine E_iadd (pc := 67) ddX9_tell_67 ?_
    refine E_ialdN (pc := 68) (j := j1) ddX9_tell_68 ho.s1 ij1 lj1 (Nat.le_of_ble_eq_true rfl) ?_
    refine E_iadd (pc := 69) ddX9_tell_69 ?_
    refine E_iconst (pc := 70) (v := 1) ddX9_tell_70 rfl ?_
    refine E_isub (pc := 71) ddX9_tell_71 ?_
    obtain ⟨j2, ij2, lj2, k⟩ := k
    refine E_ialdN (pc := 72) (j := j2) ddX9_tell_72 ho.s1 ij2 lj2 (Nat.le_of_ble_eq_true rfl) ?_
    refine E_iload (pc := 73) (x := x4) ddX9_tell_73 rfl ?_
    refine E_icmp_lt (pc := 75) (tgt := 97) ddX9_tell_75 (by decide) (fun h => ?_) (fun h => ?_)
    · have k := k.1 h
      refine E_aload_n (pc := 97) (x := 308) ddX9_tell_97 rfl rfl ?_
      refine E_iload_n (pc := 98) (x := x2) ddX9_tell_98 rfl rfl ?_
      refine E_iconst (pc := 99) (v := 5) ddX9_tell_99 rfl ?_
      refine E_callV (pc := 100) (As := [.int x2, .int 5]) (st := []) (a := 308) ddX9_tell_100 hX9_of ⟨(Nat.le_of_ble_eq_true rfl), (Nat.le_of_ble_eq_true rfl)⟩ w_4_50 (ci := 8) rfl rfl ho.s0 rfl rfl (Nat.le_of_ble_eq_true rfl) (e_cc rfl (e_cc rfl e_cn)) (Nat.le_of_ble_eq_true rfl) ?_
      refine (show E mX9_of 0 0 0 [some (.ref 308), some (.int x2), some (.int 5)] [] z I _ from ?_)
      refine E_aload_n (pc := 0) (x := 308) ddX9_of_0 rfl rfl ?_
      refine E_getR (pc := 1) (x := 310) ddX9_of_1 ec_8 3 (Nat.le_of_ble_eq_true rfl) rfl w_3_185 ho.s0 ho.r3 (by decide) ?_
      refine E_bipush (pc := 4) (v := 6) ddX9_of_4 rfl ?_
      refine E_iload_n (pc := 6) (x := x2) ddX9_of_6 rfl rfl ?_
      refine E_imul (pc := 7) ddX9_of_7 ?_
      refine E_iload_n (pc := 8) (x := 5) ddX9_of_8 rfl rfl ?_
      refine E_iadd (pc := 9) ddX9_of_9 ?_
      obtain ⟨j3, ij3, lj3, k⟩ := k
      refine E_ialdN (pc := 10) (j := j3) ddX9_of_10 ho.s2 ij3 lj3 (Nat.le_of_ble_eq_true rfl) ?_
      refine E_iret (pc := 11) ddX9_of_11 rfl ?_
      refine (show E mX9_tell mc ms 103 [some (.ref 308), some (.int x1), some (.int x2), some (.int x3), some (.int x4), some (.int x5), none, none] [.int (I 310 j3)] z I Q from ?_)
      refine E_iconst (pc := 103) (v := 1) ddX9_tell_103 rfl ?_
      refine E_icmp_ne (pc := 104) (tgt := 175) ddX9_tell_104 (by decide) (fun h => ?_) (fun h => ?_)
      · have k := k.1 h
        exact k
      · have k := k.2 h
        refine E_iconst (pc := 107) (v := 0) ddX9_tell_107 rfl ?_
        refine E_istore (pc := 108) (ls' := [some (.ref 308), some (.int x1), some (.int x2), some (.int x3), some (.int x4), some (.int x5), some (.int 0), none]) ddX9_tell_108 (Nat.le_of_ble_eq_true rfl) rfl rfl ?_
        refine E_iconst (pc := 110) (v := 0) ddX9_tell_110 rfl ?_
        refine E_istore (pc := 111) (ls' := [some (.ref 308), some (.int x1), some (.int x2), some (.int x3), some (.int x4), some (.int x5), some (.int 0), some (.int 0)]) ddX9_tell_111 (Nat.le_of_ble_eq_true rfl) rfl rfl ?_
        exact k
    · have k := k.2 h
      refine E_aload_n (pc := 78) (x := 308) ddX9_tell_78 rfl rfl ?_
      refine E_getR (pc := 79) (x := 309) ddX9_tell_79 ec_8 0 (Nat.le_of_ble_eq_true rfl) rfl w_3_182 ho.s0 ho.r0 (by decide) ?_
      refine E_iload_n (pc := 82) (x := x1) ddX9_tell_82 rfl rfl ?_
      refine E_sipush (pc := 83) (v := 184) ddX9_tell_83 rfl ?_
      refine E_iadd (pc := 86) ddX9_tell_86 ?_
      refine E_iload_n (pc := 87) (x := x2) ddX9_tell_87 rfl rfl ?_
      refine E_iadd (pc := 88) ddX9_tell_88 ?_
      refine E_dup2 (pc := 89) ddX9_tell_89 ?_
      refine E_ialdN (pc := 90) (j := j1) ddX9_tell_90 ho.s1 ij1 lj1 (Nat.le_of_ble_eq_true rfl) ?_
      refine E_iconst (pc := 91) (v := 1) ddX9_tell_91 rfl ?_
      refine E_isub (pc := 92) ddX9_tell_92 ?_
      obtain ⟨I3, eI3⟩ : ∃ y : It, y = e_st I 309 j1 ((I 309 j1) - 1) := ⟨_, rfl⟩
      have k := k I3 eI3
      refine E_iastN (pc := 93) (j := j1) ddX9_tell_93 ho.s1 (by decide) ij1 lj1 (Nat.le_of_ble_eq_true rfl) ?_
      rw [← eI3]
      refine E_goto (pc := 94) (tgt := 30) ddX9_tell_94 (by decide) ?_
      exact k
set_option maxRecDepth 100000 in
set_option maxHeartbeats 4000000 in
theorem B_X9_tell_175 {mc ms : Nat} {z : Zt} {I : It} {Q : Option Value → Zt → It → Prop} {x1 x2 x3 x4 x5 : Int32} (ho : isO z)
    (k : ∃ j1 : Nat, ((x1 + 184) + x2) = nI j1 ∧ j1 < 6880 ∧ ((¬ (I 309 j1) = 8) → E mX9_tell mc ms 199 [some (.ref 308), some (.int x1), some (.int x2), some (.int x3), some (.int x4), some (.int x5), none, none] [] z I Q) ∧
    (((I 309 j1) = 8) → E mX9_dropFirst 0 0 0 [some (.ref 308), some (.int x1), some (.int x2), some (.int 1), none, none] [] z I (fun r z' I' => E mX9_tell mc ms 199 [some (.ref 308), some (.int x1), some (.int x2), some (.int x3), some (.int x4), some (.int x5), none, none] (r.toList ++ []) z' I' Q))) :
    E mX9_tell mc ms 175 [some (.ref 308), some (.int x1), some (.int x2), some (.int x3), some (.int x4), some (.int x5), none, none] [] z I Q := by
  refine E_aload_n (pc := 175) (x := 308) ddX9_tell_175 rfl rfl ?_
  refine E_getR (pc := 176) (x := 309) ddX9_tell_176 ec_8 0 (Nat.le_of_ble_eq_true rfl) rfl w_3_182 ho.s0 ho.r0 (by decide) ?_
  refine E_iload_n (pc := 179) (x := x1) ddX9_tell_179 rfl rfl ?_
  refine E_sipush (pc := 180) (v := 184) ddX9_tell_180 rfl ?_
  refine E_iadd (pc := 183) ddX9_tell_183 ?_
  refine E_iload_n (pc := 184) (x := x2) ddX9_tell_184 rfl rfl ?_
  refine E_iadd (pc := 185) ddX9_tell_185 ?_
  obtain ⟨j1, ij1, lj1, k⟩ := k
  refine E_ialdN (pc := 186) (j := j1) ddX9_tell_186 ho.s1 ij1 lj1 (Nat.le_of_ble_eq_true rfl) ?_
  refine E_bipush (pc := 187) (v := 8) ddX9_tell_187 rfl ?_
  refine E_icmp_ne (pc := 189) (tgt := 199) ddX9_tell_189 (by decide) (fun h => ?_) (fun h => ?_)
  · have k := k.1 h
    exact k
  · have k := k.2 h
    refine E_aload_n (pc := 192) (x := 308) ddX9_tell_192 rfl rfl ?_
    refine E_iload_n (pc := 193) (x := x1) ddX9_tell_193 rfl rfl ?_
    refine E_iload_n (pc := 194) (x := x2) ddX9_tell_194 rfl rfl ?_
    refine E_iconst (pc := 195) (v := 1) ddX9_tell_195 rfl ?_
    exact E_callV (pc := 196) (As := [.int x1, .int x2, .int 1]) (st := []) (a := 308) ddX9_tell_196 hX9_dropFirst ⟨(Nat.le_of_ble_eq_true rfl), (Nat.le_of_ble_eq_true rfl)⟩ w_4_72 (ci := 8) rfl rfl ho.s0 rfl rfl (Nat.le_of_ble_eq_true rfl) (e_cc rfl (e_cc rfl (e_cc rfl e_cn))) (Nat.le_of_ble_eq_true rfl) k
set_option maxRecDepth 100000 in
set_option maxHeartbeats 4000000 in
theorem B_X9_tell_113 {mc ms : Nat} {z : Zt} {I : It} {Q : Option Value → Zt → It → Prop} {x1 x2 x3 x4 x5 x6 x7 : Int32} (ho : isO z)
    (k : ∃ j1 : Nat, ((x1 + 184) + x2) = nI j1 ∧ j1 < 6880 ∧ (((I 309 j1) ≤ x7) → E mX9_dropFirst 0 0 0 [some (.ref 308), some (.int x1), some (.int x2), some (.int x6), none, none] [] z I (fun r z' I' => E mX9_tell mc ms 175 [some (.ref 308), some (.int x1), some (.int x2), some (.int x3), some (.int x4), some (.int x5), none, none] (r.toList ++ []) z' I' Q)) ∧
    ((¬ (I 309 j1) ≤ x7) → ∃ j2 : Nat, (((x1 + 256) + x5) + x7) = nI j2 ∧ j2 < 6880 ∧ ((¬ (I 309 j2) = x3) → ∀ v3 : Int32, v3 = (x7 + 1) → E mX9_tell mc ms 113 [some (.ref 308), some (.int x1), some (.int x2), some (.int x3), some (.int x4), some (.int x5), some (.int v3), some (.int (x7 + 1))] [] z I Q) ∧
    (((I 309 j2) = x3) → E mX9_tell mc ms 113 [some (.ref 308), some (.int x1), some (.int x2), some (.int x3), some (.int x4), some (.int x5), some (.int x6), some (.int (x7 + 1))] [] z I Q))) :
    E mX9_tell mc ms 113 [some (.ref 308), some (.int x1), some (.int x2), some (.int x3), some (.int x4), some (.int x5), some (.int x6), some (.int x7)] [] z I Q := by
  refine E_iload (pc := 113) (x := x7) ddX9_tell_113 rfl ?_
  refine E_aload_n (pc := 115) (x := 308) ddX9_tell_115 rfl rfl ?_
  refine E_getR (pc := 116) (x := 309) ddX9_tell_116 ec_8 0 (Nat.le_of_ble_eq_true rfl) rfl w_3_182 ho.s0 ho.r0 (by decide) ?_
  refine E_iload_n (pc := 119) (x := x1) ddX9_tell_119 rfl rfl ?_
  refine E_sipush (pc := 120) (v := 184) ddX9_tell_120 rfl ?_
  refine E_iadd (pc := 123) ddX9_tell_123 ?_
  refine E_iload_n (pc := 124) (x := x2) ddX9_tell_124 rfl rfl ?_
  refine E_iadd (pc := 125) ddX9_tell_125 ?_
  obtain ⟨j1, ij1, lj1, k⟩ := k
  refine E_ialdN (pc := 126) (j := j1) ddX9_tell_126 ho.s1 ij1 lj1 (Nat.le_of_ble_eq_true rfl) ?_
  refine E_icmp_ge (pc := 127) (tgt := 167) ddX9_tell_127 (by decide) (fun h => ?_) (fun h => ?_)
  · have k := k.1 h
    refine E_aload_n (pc := 167) (x := 308) ddX9_tell_167 rfl rfl ?_
    refine E_iload_n (pc := 168) (x := x1) ddX9_tell_168 rfl rfl ?_
    refine E_iload_n (pc := 169) (x := x2) ddX9_tell_169 rfl rfl ?_
    refine E_iload (pc := 170) (x := x6) ddX9_tell_170 rfl ?_
    exact E_callV (pc := 172) (As := [.int x1, .int x2, .int x6]) (st := []) (a := 308) ddX9_tell_172 hX9_dropFirst ⟨(Nat.le_of_ble_eq_true rfl), (Nat.le_of_ble_eq_true rfl)⟩ w_4_72 (ci := 8) rfl rfl ho.s0 rfl rfl (Nat.le_of_ble_eq_true rfl) (e_cc rfl (e_cc rfl (e_cc rfl e_cn))) (Nat.le_of_ble_eq_true rfl) (E.mono k fun _ _ _ q => E.forget q ⟨rfl, ⟨rfl, ⟨rfl, ⟨rfl, ⟨rfl, ⟨rfl, trivial⟩⟩⟩⟩⟩⟩)
  · have k := k.2 h
    refine E_aload_n (pc := 130) (x := 308) ddX9_tell_130 rfl rfl ?_
    refine E_getR (pc := 131) (x := 309) ddX9_tell_131 ec_8 0 (Nat.le_of_ble_eq_true rfl) rfl w_3_182 ho.s0 ho.r0 (by decide) ?_
    refine E_iload_n (pc := 134) (x := x1) ddX9_tell_134 rfl rfl ?_
    refine E_sipush (pc := 135) (v := 256) ddX9_tell_135 rfl ?_
    refine E_iadd (pc := 138) ddX9_tell_138 ?_
    refine E_iload (pc := 139) (x := x5) ddX9_tell_139 rfl ?_
    refine E_iadd (pc := 141) ddX9_tell_141 ?_
    refine E_iload (pc := 142) (x := x7) ddX9_tell_142 rfl ?_
    refine E_iadd (pc := 144) ddX9_tell_144 ?_
    obtain ⟨j2, ij2, lj2, k⟩ := k
    refine E_ialdN (pc := 145) (j := j2) ddX9_tell_145 ho.s1 ij2 lj2 (Nat.le_of_ble_eq_true rfl) ?_
    refine E_iload_n (pc := 146) (x := x3) ddX9_tell_146 rfl rfl ?_
    refine E_icmp_ne (pc := 147) (tgt := 155) ddX9_tell_147 (by decide) (fun h => ?_) (fun h => ?_)
    · have k := k.1 h
      refine E_iload (pc := 155) (x := x7) ddX9_tell_155 rfl ?_
      refine E_iconst (pc := 157) (v := 1) ddX9_tell_157 rfl ?_
      refine E_iadd (pc := 158) ddX9_tell_158 ?_
      obtain ⟨v3, ev3⟩ : ∃ y : Int32, y = (x7 + 1) := ⟨_, rfl⟩
      have k := k v3 ev3
      rw [← ev3]
      refine E_istore (pc := 159) (ls' := [some (.ref 308), some (.int x1), some (.int x2), some (.int x3), some (.int x4), some (.int x5), some (.int v3), some (.int x7)]) ddX9_tell_159 (Nat.le_of_ble_eq_true rfl) rfl rfl ?_
      refine E_iinc (pc := 161) (v := (x7 + 1)) (ls' := [some (.ref 308), some (.int x1), some (.int x2), some (.int x3), some (.int x4), some (.int x5), some (.int v3), some (.int (x7 + 1))]) ddX9_tell_161 rfl rfl (Nat.le_of_ble_eq_true rfl) rfl rfl ?_
      refine E_goto (pc := 164) (tgt := 113) ddX9_tell_164 (by decide) ?_
      exact k
    · have k := k.2 h
      refine E_iload (pc := 150) (x := x6) ddX9_tell_150 rfl ?_
      refine E_goto (pc := 152) (tgt := 159) ddX9_tell_152 (by decide) ?_
      refine E_istore (pc := 159) (ls' := [some (.ref 308), some (.int x1), some (.int x2), some (.int x3), some (.int x4), some (.int x5), some (.int x6), some (.int x7)]) ddX9_tell_159 (Nat.le_of_ble_eq_true rfl) rfl rfl ?_
      refine E_iinc (pc := 161) (v := (x7 + 1)) (ls' := [some (.ref 308), some (.int x1), some (.int x2), some (.int x3), some (.int x4), some (.int x5), some (.int x6), some (.int (x7 + 1))]) ddX9_tell_161 rfl rfl (Nat.le_of_ble_eq_true rfl) rfl rfl ?_
      refine E_goto (pc := 164) (tgt := 113) ddX9_tell_164 (by decide) ?_
      exact k
set_option maxRecDepth 100000 in
set_option maxHeartbeats 4000000 in
theorem B_X9_tell_199 {mc ms : Nat} {z : Zt} {I : It} {Q : Option Value → Zt → It → Prop} {x1 x2 x3 x4 x5 : Int32} (ho : isO z)
    (k : ∃ j1 : Nat, ((x1 + 184) + x2) = nI j1 ∧ j1 < 6880 ∧ ∀ v2 : Int32, v2 = (I 309 j1) → ∃ j3 : Nat, (((x1 + 192) + x5) + v2) = nI j3 ∧ j3 < 6880 ∧ ∀ I4 : It, I4 = e_st I 309 j3 x4 → ∃ j5 : Nat, (((x1 + 256) + x5) + v2) = nI j5 ∧ j5 < 6880 ∧ ∀ I6 : It, I6 = e_st I4 309 j5 x3 → ∀ I7 : It, I7 = e_st I6 309 j1 (v2 + 1) → Q none z I7) :
    E mX9_tell mc ms 199 [some (.ref 308), some (.int x1), some (.int x2), some (.int x3), some (.int x4), some (.int x5), none, none] [] z I Q := by
  refine E_aload_n (pc := 199) (x := 308) ddX9_tell_199 rfl rfl ?_
  refine E_getR (pc := 200) (x := 309) ddX9_tell_200 ec_8 0 (Nat.le_of_ble_eq_true rfl) rfl w_3_182 ho.s0 ho.r0 (by decide) ?_
  refine E_iload_n (pc := 203) (x := x1) ddX9_tell_203 rfl rfl ?_
  refine E_sipush (pc := 204) (v := 184) ddX9_tell_204 rfl ?_
  refine E_iadd (pc := 207) ddX9_tell_207 ?_
  refine E_iload_n (pc := 208) (x := x2) ddX9_tell_208 rfl rfl ?_
  refine E_iadd (pc := 209) ddX9_tell_209 ?_
  obtain ⟨j1, ij1, lj1, k⟩ := k
  refine E_ialdN (pc := 210) (j := j1) ddX9_tell_210 ho.s1 ij1 lj1 (Nat.le_of_ble_eq_true rfl) ?_
  obtain ⟨v2, ev2⟩ : ∃ y : Int32, y = (I 309 j1) := ⟨_, rfl⟩
  have k := k v2 ev2
  rw [← ev2]
  refine E_istore (pc := 211) (ls' := [some (.ref 308), some (.int x1), some (.int x2), some (.int x3), some (.int x4), some (.int x5), some (.int v2), none]) ddX9_tell_211 (Nat.le_of_ble_eq_true rfl) rfl rfl ?_
  refine E_aload_n (pc := 213) (x := 308) ddX9_tell_213 rfl rfl ?_
  refine E_getR (pc := 214) (x := 309) ddX9_tell_214 ec_8 0 (Nat.le_of_ble_eq_true rfl) rfl w_3_182 ho.s0 ho.r0 (by decide) ?_
  refine E_iload_n (pc := 217) (x := x1) ddX9_tell_217 rfl rfl ?_
  refine E_sipush (pc := 218) (v := 192) ddX9_tell_218 rfl ?_
  refine E_iadd (pc := 221) ddX9_tell_221 ?_
  refine E_iload (pc := 222) (x := x5) ddX9_tell_222 rfl ?_
  refine E_iadd (pc := 224) ddX9_tell_224 ?_
  refine E_iload (pc := 225) (x := v2) ddX9_tell_225 rfl ?_
  refine E_iadd (pc := 227) ddX9_tell_227 ?_
  refine E_iload (pc := 228) (x := x4) ddX9_tell_228 rfl ?_
  obtain ⟨j3, ij3, lj3, k⟩ := k
  obtain ⟨I4, eI4⟩ : ∃ y : It, y = e_st I 309 j3 x4 := ⟨_, rfl⟩
  have k := k I4 eI4
  refine E_iastN (pc := 230) (j := j3) ddX9_tell_230 ho.s1 (by decide) ij3 lj3 (Nat.le_of_ble_eq_true rfl) ?_
  rw [← eI4]
  refine E_aload_n (pc := 231) (x := 308) ddX9_tell_231 rfl rfl ?_
  refine E_getR (pc := 232) (x := 309) ddX9_tell_232 ec_8 0 (Nat.le_of_ble_eq_true rfl) rfl w_3_182 ho.s0 ho.r0 (by decide) ?_
  refine E_iload_n (pc := 235) (x := x1) ddX9_tell_235 rfl rfl ?_
  refine E_sipush (pc := 236) (v := 256) ddX9_tell_236 rfl ?_
  refine E_iadd (pc := 239) ddX9_tell_239 ?_
  refine E_iload (pc := 240) (x := x5) ddX9_tell_240 rfl ?_
  refine E_iadd (pc := 242) ddX9_tell_242 ?_
  refine E_iload (pc := 243) (x := v2) ddX9_tell_243 rfl ?_
  refine E_iadd (pc := 245) ddX9_tell_245 ?_
  refine E_iload_n (pc := 246) (x := x3) ddX9_tell_246 rfl rfl ?_
  obtain ⟨j5, ij5, lj5, k⟩ := k
  obtain ⟨I6, eI6⟩ : ∃ y : It, y = e_st I4 309 j5 x3 := ⟨_, rfl⟩
  have k := k I6 eI6
  refine E_iastN (pc := 247) (j := j5) ddX9_tell_247 ho.s1 (by decide) ij5 lj5 (Nat.le_of_ble_eq_true rfl) ?_
  rw [← eI6]
  refine E_aload_n (pc := 248) (x := 308) ddX9_tell_248 rfl rfl ?_
  refine E_getR (pc := 249) (x := 309) ddX9_tell_249 ec_8 0 (Nat.le_of_ble_eq_true rfl) rfl w_3_182 ho.s0 ho.r0 (by decide) ?_
  refine E_iload_n (pc := 252) (x := x1) ddX9_tell_252 rfl rfl ?_
  refine E_sipush (pc := 253) (v := 184) ddX9_tell_253 rfl ?_
  refine E_iadd (pc := 256) ddX9_tell_256 ?_
  refine E_iload_n (pc := 257) (x := x2) ddX9_tell_257 rfl rfl ?_
  refine E_iadd (pc := 258) ddX9_tell_258 ?_
  refine E_iload (pc := 259) (x := v2) ddX9_tell_259 rfl ?_
  refine E_iconst (pc := 261) (v := 1) ddX9_tell_261 rfl ?_
  refine E_iadd (pc := 262) ddX9_tell_262 ?_
  obtain ⟨I7, eI7⟩ : ∃ y : It, y = e_st I6 309 j1 (v2 + 1) := ⟨_, rfl⟩
  have k := k I7 eI7
  refine E_iastN (pc := 263) (j := j1) ddX9_tell_263 ho.s1 (by decide) ij1 lj1 (Nat.le_of_ble_eq_true rfl) ?_
  rw [← eI7]
  exact E_vret (pc := 264) ddX9_tell_264 rfl k
/-! X9_tellAll, labels [2, 16] -/
set_option maxRecDepth 100000 in
set_option maxHeartbeats 4000000 in
theorem B_X9_tellAll_0 {mc ms : Nat} {z : Zt} {I : It} {Q : Option Value → Zt → It → Prop} {x1 : Int32} (ho : isO z)
    (k : E mX9_tellAll mc ms 2 [some (.ref 308), some (.int x1), some (.int 0)] [] z I Q) :
    E mX9_tellAll mc ms 0 [some (.ref 308), some (.int x1), none] [] z I Q := by
  refine E_iconst (pc := 0) (v := 0) ddX9_tellAll_0 rfl ?_
  refine E_istore_n (pc := 1) (ls' := [some (.ref 308), some (.int x1), some (.int 0)]) ddX9_tellAll_1 rfl (Nat.le_of_ble_eq_true rfl) rfl rfl ?_
  exact k
set_option maxRecDepth 100000 in
set_option maxHeartbeats 4000000 in
theorem B_X9_tellAll_2 {mc ms : Nat} {z : Zt} {I : It} {Q : Option Value → Zt → It → Prop} {x1 x2 : Int32} (ho : isO z)
    (k : (((I 308 2) ≤ x2) → Q none z I) ∧
    ((¬ (I 308 2) ≤ x2) → E mX9_tell 0 0 0 [some (.ref 308), some (.int x1), some (.int x2), none, none, none, none, none] [] z I (fun r z' I' => E mX9_tellAll mc ms 16 [some (.ref 308), some (.int x1), some (.int x2)] (r.toList ++ []) z' I' Q))) :
    E mX9_tellAll mc ms 2 [some (.ref 308), some (.int x1), some (.int x2)] [] z I Q := by
  refine E_iload_n (pc := 2) (x := x2) ddX9_tellAll_2 rfl rfl ?_
  refine E_aload_n (pc := 3) (x := 308) ddX9_tellAll_3 rfl rfl ?_
  refine E_getI (pc := 4) ddX9_tellAll_4 ec_8 2 (Nat.le_of_ble_eq_true rfl) rfl w_3_184 ho.s0 ?_
  refine E_icmp_ge (pc := 7) (tgt := 22) ddX9_tellAll_7 (by decide) (fun h => ?_) (fun h => ?_)
  · have k := k.1 h
    exact E_vret (pc := 22) ddX9_tellAll_22 rfl k
  · have k := k.2 h
    refine E_aload_n (pc := 10) (x := 308) ddX9_tellAll_10 rfl rfl ?_
    refine E_iload_n (pc := 11) (x := x1) ddX9_tellAll_11 rfl rfl ?_
    refine E_iload_n (pc := 12) (x := x2) ddX9_tellAll_12 rfl rfl ?_
    exact E_callV (pc := 13) (As := [.int x1, .int x2]) (st := []) (a := 308) ddX9_tellAll_13 hX9_tell ⟨(Nat.le_of_ble_eq_true rfl), (Nat.le_of_ble_eq_true rfl)⟩ w_4_58 (ci := 8) rfl rfl ho.s0 rfl rfl (Nat.le_of_ble_eq_true rfl) (e_cc rfl (e_cc rfl e_cn)) (Nat.le_of_ble_eq_true rfl) k
set_option maxRecDepth 100000 in
set_option maxHeartbeats 4000000 in
theorem B_X9_tellAll_16 {mc ms : Nat} {z : Zt} {I : It} {Q : Option Value → Zt → It → Prop} {x1 x2 : Int32} (ho : isO z)
    (k : E mX9_tellAll mc ms 2 [some (.ref 308), some (.int x1), some (.int (x2 + 1))] [] z I Q) :
    E mX9_tellAll mc ms 16 [some (.ref 308), some (.int x1), some (.int x2)] [] z I Q := by
  refine E_iinc (pc := 16) (v := (x2 + 1)) (ls' := [some (.ref 308), some (.int x1), some (.int (x2 + 1))]) ddX9_tellAll_16 rfl rfl (Nat.le_of_ble_eq_true rfl) rfl rfl ?_
  refine E_goto (pc := 19) (tgt := 2) ddX9_tellAll_19 (by decide) ?_
  exact k
/-! X9_dropHand, labels [14] -/
set_option maxRecDepth 100000 in
set_option maxHeartbeats 4000000 in
theorem B_X9_dropHand_0 {mc ms : Nat} {z : Zt} {I : It} {Q : Option Value → Zt → It → Prop} {x1 : Int32} (ho : isO z)
    (k : ∃ j1 : Nat, (x1 + 3) = nI j1 ∧ j1 < 6880 ∧ ∀ I2 : It, I2 = e_st I 309 j1 ((I 309 j1) - 1) → E mX9_dropHand mc ms 14 [some (.ref 308), some (.int x1), some (.int 0)] [] z I2 Q) :
    E mX9_dropHand mc ms 0 [some (.ref 308), some (.int x1), none] [] z I Q := by
  refine E_aload_n (pc := 0) (x := 308) ddX9_dropHand_0 rfl rfl ?_
  refine E_getR (pc := 1) (x := 309) ddX9_dropHand_1 ec_8 0 (Nat.le_of_ble_eq_true rfl) rfl w_3_182 ho.s0 ho.r0 (by decide) ?_
  refine E_iload_n (pc := 4) (x := x1) ddX9_dropHand_4 rfl rfl ?_
  refine E_iconst (pc := 5) (v := 3) ddX9_dropHand_5 rfl ?_
  refine E_iadd (pc := 6) ddX9_dropHand_6 ?_
  refine E_dup2 (pc := 7) ddX9_dropHand_7 ?_
  obtain ⟨j1, ij1, lj1, k⟩ := k
  refine E_ialdN (pc := 8) (j := j1) ddX9_dropHand_8 ho.s1 ij1 lj1 (Nat.le_of_ble_eq_true rfl) ?_
  refine E_iconst (pc := 9) (v := 1) ddX9_dropHand_9 rfl ?_
  refine E_isub (pc := 10) ddX9_dropHand_10 ?_
  obtain ⟨I2, eI2⟩ : ∃ y : It, y = e_st I 309 j1 ((I 309 j1) - 1) := ⟨_, rfl⟩
  have k := k I2 eI2
  refine E_iastN (pc := 11) (j := j1) ddX9_dropHand_11 ho.s1 (by decide) ij1 lj1 (Nat.le_of_ble_eq_true rfl) ?_
  rw [← eI2]
  refine E_iconst (pc := 12) (v := 0) ddX9_dropHand_12 rfl ?_
  refine E_istore_n (pc := 13) (ls' := [some (.ref 308), some (.int x1), some (.int 0)]) ddX9_dropHand_13 rfl (Nat.le_of_ble_eq_true rfl) rfl rfl ?_
  exact k
set_option maxRecDepth 100000 in
set_option maxHeartbeats 4000000 in
theorem B_X9_dropHand_14 {mc ms : Nat} {z : Zt} {I : It} {Q : Option Value → Zt → It → Prop} {x1 x2 : Int32} (ho : isO z)
    (k : ∃ j1 : Nat, (x1 + 3) = nI j1 ∧ j1 < 6880 ∧ (((I 309 j1) ≤ x2) → Q none z I) ∧
    ((¬ (I 309 j1) ≤ x2) → ∃ j2 : Nat, (((x1 + 320) + x2) + 1) = nI j2 ∧ j2 < 6880 ∧ ∃ j3 : Nat, ((x1 + 320) + x2) = nI j3 ∧ j3 < 6880 ∧ ∀ I4 : It, I4 = e_st I 309 j3 (I 309 j2) → ∃ j5 : Nat, (((x1 + 328) + x2) + 1) = nI j5 ∧ j5 < 6880 ∧ ∃ j6 : Nat, ((x1 + 328) + x2) = nI j6 ∧ j6 < 6880 ∧ ∀ I7 : It, I7 = e_st I4 309 j6 (I4 309 j5) → ∃ j8 : Nat, (((x1 + 336) + x2) + 1) = nI j8 ∧ j8 < 6880 ∧ ∃ j9 : Nat, ((x1 + 336) + x2) = nI j9 ∧ j9 < 6880 ∧ ∀ I10 : It, I10 = e_st I7 309 j9 (I7 309 j8) → E mX9_dropHand mc ms 14 [some (.ref 308), some (.int x1), some (.int (x2 + 1))] [] z I10 Q)) :
    E mX9_dropHand mc ms 14 [some (.ref 308), some (.int x1), some (.int x2)] [] z I Q := by
  refine E_iload_n (pc := 14) (x := x2) ddX9_dropHand_14 rfl rfl ?_
  refine E_aload_n (pc := 15) (x := 308) ddX9_dropHand_15 rfl rfl ?_
  refine E_getR (pc := 16) (x := 309) ddX9_dropHand_16 ec_8 0 (Nat.le_of_ble_eq_true rfl) rfl w_3_182 ho.s0 ho.r0 (by decide) ?_
  refine E_iload_n (pc := 19) (x := x1) ddX9_dropHand_19 rfl rfl ?_
  refine E_iconst (pc := 20) (v := 3) ddX9_dropHand_20 rfl ?_
  refine E_iadd (pc := 21) ddX9_dropHand_21 ?_
  obtain ⟨j1, ij1, lj1, k⟩ := k
  refine E_ialdN (pc := 22) (j := j1) ddX9_dropHand_22 ho.s1 ij1 lj1 (Nat.le_of_ble_eq_true rfl) ?_
  refine E_icmp_ge (pc := 23) (tgt := 110) ddX9_dropHand_23 (by decide) (fun h => ?_) (fun h => ?_)
  · have k := k.1 h
    exact E_vret (pc := 110) ddX9_dropHand_110 rfl k
  · have k := k.2 h
    refine E_aload_n (pc := 26) (x := 308) ddX9_dropHand_26 rfl rfl ?_
    refine E_getR (pc := 27) (x := 309) ddX9_dropHand_27 ec_8 0 (Nat.le_of_ble_eq_true rfl) rfl w_3_182 ho.s0 ho.r0 (by decide) ?_
    refine E_iload_n (pc := 30) (x := x1) ddX9_dropHand_30 rfl rfl ?_
    refine E_sipush (pc := 31) (v := 320) ddX9_dropHand_31 rfl ?_
    refine E_iadd (pc := 34) ddX9_dropHand_34 ?_
    refine E_iload_n (pc := 35) (x := x2) ddX9_dropHand_35 rfl rfl ?_
    refine E_iadd (pc := 36) ddX9_dropHand_36 ?_
    refine E_aload_n (pc := 37) (x := 308) ddX9_dropHand_37 rfl rfl ?_
    refine E_getR (pc := 38) (x := 309) ddX9_dropHand_38 ec_8 0 (Nat.le_of_ble_eq_true rfl) rfl w_3_182 ho.s0 ho.r0 (by decide) ?_
    refine E_iload_n (pc := 41) (x := x1) ddX9_dropHand_41 rfl rfl ?_
    refine E_sipush (pc := 42) (v := 320) ddX9_dropHand_42 rfl ?_
    refine E_iadd (pc := 45) ddX9_dropHand_45 ?_
    refine E_iload_n (pc := 46) (x := x2) ddX9_dropHand_46 rfl rfl ?_
    refine E_iadd (pc := 47) ddX9_dropHand_47 ?_
    refine E_iconst (pc := 48) (v := 1) ddX9_dropHand_48 rfl ?_
    refine E_iadd (pc := 49) ddX9_dropHand_49 ?_
    obtain ⟨j2, ij2, lj2, k⟩ := k
    refine E_ialdN (pc := 50) (j := j2) ddX9_dropHand_50 ho.s1 ij2 lj2 (Nat.le_of_ble_eq_true rfl) ?_
    obtain ⟨j3, ij3, lj3, k⟩ := k
    obtain ⟨I4, eI4⟩ : ∃ y : It, y = e_st I 309 j3 (I 309 j2) := ⟨_, rfl⟩
    have k := k I4 eI4
    refine E_iastN (pc := 51) (j := j3) ddX9_dropHand_51 ho.s1 (by decide) ij3 lj3 (Nat.le_of_ble_eq_true rfl) ?_
    rw [← eI4]
    refine E_aload_n (pc := 52) (x := 308) ddX9_dropHand_52 rfl rfl ?_
    refine E_getR (pc := 53) (x := 309) ddX9_dropHand_53 ec_8 0 (Nat.le_of_ble_eq_true rfl) rfl w_3_182 ho.s0 ho.r0 (by decide) ?_
    refine E_iload_n (pc := 56) (x := x1) ddX9_dropHand_56 rfl rfl ?_
    refine E_sipush (pc := 57) (v := 328) ddX9_dropHand_57 rfl ?_
    refine E_iadd (pc := 60) ddX9_dropHand_60 ?_
    refine E_iload_n (pc := 61) (x := x2) ddX9_dropHand_61 rfl rfl ?_
    refine E_iadd (pc := 62) ddX9_dropHand_62 ?_
    refine E_aload_n (pc := 63) (x := 308) ddX9_dropHand_63 rfl rfl ?_
    refine E_getR (pc := 64) (x := 309) ddX9_dropHand_64 ec_8 0 (Nat.le_of_ble_eq_true rfl) rfl w_3_182 ho.s0 ho.r0 (by decide) ?_
    refine E_iload_n (pc := 67) (x := x1) ddX9_dropHand_67 rfl rfl ?_
    refine E_sipush (pc := 68) (v := 328) ddX9_dropHand_68 rfl ?_
    refine E_iadd (pc := 71) ddX9_dropHand_71 ?_
    refine E_iload_n (pc := 72) (x := x2) ddX9_dropHand_72 rfl rfl ?_
    refine E_iadd (pc := 73) ddX9_dropHand_73 ?_
    refine E_iconst (pc := 74) (v := 1) ddX9_dropHand_74 rfl ?_
    refine E_iadd (pc := 75) ddX9_dropHand_75 ?_
    obtain ⟨j5, ij5, lj5, k⟩ := k
    refine E_ialdN (pc := 76) (j := j5) ddX9_dropHand_76 ho.s1 ij5 lj5 (Nat.le_of_ble_eq_true rfl) ?_
    obtain ⟨j6, ij6, lj6, k⟩ := k
    obtain ⟨I7, eI7⟩ : ∃ y : It, y = e_st I4 309 j6 (I4 309 j5) := ⟨_, rfl⟩
    have k := k I7 eI7
    refine E_iastN (pc := 77) (j := j6) ddX9_dropHand_77 ho.s1 (by decide) ij6 lj6 (Nat.le_of_ble_eq_true rfl) ?_
    rw [← eI7]
    refine E_aload_n (pc := 78) (x := 308) ddX9_dropHand_78 rfl rfl ?_
    refine E_getR (pc := 79) (x := 309) ddX9_dropHand_79 ec_8 0 (Nat.le_of_ble_eq_true rfl) rfl w_3_182 ho.s0 ho.r0 (by decide) ?_
    refine E_iload_n (pc := 82) (x := x1) ddX9_dropHand_82 rfl rfl ?_
    refine E_sipush (pc := 83) (v := 336) ddX9_dropHand_83 rfl ?_
    refine E_iadd (pc := 86) ddX9_dropHand_86 ?_
    refine E_iload_n (pc := 87) (x := x2) ddX9_dropHand_87 rfl rfl ?_
    refine E_iadd (pc := 88) ddX9_dropHand_88 ?_
    refine E_aload_n (pc := 89) (x := 308) ddX9_dropHand_89 rfl rfl ?_
    refine E_getR (pc := 90) (x := 309) ddX9_dropHand_90 ec_8 0 (Nat.le_of_ble_eq_true rfl) rfl w_3_182 ho.s0 ho.r0 (by decide) ?_
    refine E_iload_n (pc := 93) (x := x1) ddX9_dropHand_93 rfl rfl ?_
    refine E_sipush (pc := 94) (v := 336) ddX9_dropHand_94 rfl ?_
    refine E_iadd (pc := 97) ddX9_dropHand_97 ?_
    refine E_iload_n (pc := 98) (x := x2) ddX9_dropHand_98 rfl rfl ?_
    refine E_iadd (pc := 99) ddX9_dropHand_99 ?_
    refine E_iconst (pc := 100) (v := 1) ddX9_dropHand_100 rfl ?_
    refine E_iadd (pc := 101) ddX9_dropHand_101 ?_
    obtain ⟨j8, ij8, lj8, k⟩ := k
    refine E_ialdN (pc := 102) (j := j8) ddX9_dropHand_102 ho.s1 ij8 lj8 (Nat.le_of_ble_eq_true rfl) ?_
    obtain ⟨j9, ij9, lj9, k⟩ := k
    obtain ⟨I10, eI10⟩ : ∃ y : It, y = e_st I7 309 j9 (I7 309 j8) := ⟨_, rfl⟩
    have k := k I10 eI10
    refine E_iastN (pc := 103) (j := j9) ddX9_dropHand_103 ho.s1 (by decide) ij9 lj9 (Nat.le_of_ble_eq_true rfl) ?_
    rw [← eI10]
    refine E_iinc (pc := 104) (v := (x2 + 1)) (ls' := [some (.ref 308), some (.int x1), some (.int (x2 + 1))]) ddX9_dropHand_104 rfl rfl (Nat.le_of_ble_eq_true rfl) rfl rfl ?_
    refine E_goto (pc := 107) (tgt := 14) ddX9_dropHand_107 (by decide) ?_
    exact k
/-! X9_waits, labels [28] -/
set_option maxRecDepth 100000 in
set_option maxHeartbeats 4000000 in
theorem B_X9_waits_0 {mc ms : Nat} {z : Zt} {I : It} {Q : Option Value → Zt → It → Prop} {x1 : Int32} (ho : isO z)
    (k : ∃ j1 : Nat, (x1 + 3) = nI j1 ∧ j1 < 6880 ∧ (((I 309 j1) ≤ 0) → E mX9_waits mc ms 28 [some (.ref 308), some (.int x1), some (.int (-1)), some (.int 0), none] [] z I Q) ∧
    ((¬ (I 309 j1) ≤ 0) → ∃ j2 : Nat, (x1 + 320) = nI j2 ∧ j2 < 6880 ∧ ∀ v3 : Int32, v3 = (I 309 j2) → E mX9_waits mc ms 28 [some (.ref 308), some (.int x1), some (.int v3), some (.int 0), none] [] z I Q)) :
    E mX9_waits mc ms 0 [some (.ref 308), some (.int x1), none, none, none] [] z I Q := by
  refine E_aload_n (pc := 0) (x := 308) ddX9_waits_0 rfl rfl ?_
  refine E_getR (pc := 1) (x := 309) ddX9_waits_1 ec_8 0 (Nat.le_of_ble_eq_true rfl) rfl w_3_182 ho.s0 ho.r0 (by decide) ?_
  refine E_iload_n (pc := 4) (x := x1) ddX9_waits_4 rfl rfl ?_
  refine E_iconst (pc := 5) (v := 3) ddX9_waits_5 rfl ?_
  refine E_iadd (pc := 6) ddX9_waits_6 ?_
  obtain ⟨j1, ij1, lj1, k⟩ := k
  refine E_ialdN (pc := 7) (j := j1) ddX9_waits_7 ho.s1 ij1 lj1 (Nat.le_of_ble_eq_true rfl) ?_
  refine E_if_le (pc := 8) (tgt := 24) ddX9_waits_8 (by decide) (fun h => ?_) (fun h => ?_)
  · have k := k.1 h
    refine E_iconst (pc := 24) (v := (-1)) ddX9_waits_24 rfl ?_
    refine E_istore_n (pc := 25) (ls' := [some (.ref 308), some (.int x1), some (.int (-1)), none, none]) ddX9_waits_25 rfl (Nat.le_of_ble_eq_true rfl) rfl rfl ?_
    refine E_iconst (pc := 26) (v := 0) ddX9_waits_26 rfl ?_
    refine E_istore_n (pc := 27) (ls' := [some (.ref 308), some (.int x1), some (.int (-1)), some (.int 0), none]) ddX9_waits_27 rfl (Nat.le_of_ble_eq_true rfl) rfl rfl ?_
    exact k
  · have k := k.2 h
    refine E_aload_n (pc := 11) (x := 308) ddX9_waits_11 rfl rfl ?_
    refine E_getR (pc := 12) (x := 309) ddX9_waits_12 ec_8 0 (Nat.le_of_ble_eq_true rfl) rfl w_3_182 ho.s0 ho.r0 (by decide) ?_
    refine E_iload_n (pc := 15) (x := x1) ddX9_waits_15 rfl rfl ?_
    refine E_sipush (pc := 16) (v := 320) ddX9_waits_16 rfl ?_
    refine E_iadd (pc := 19) ddX9_waits_19 ?_
    obtain ⟨j2, ij2, lj2, k⟩ := k
    refine E_ialdN (pc := 20) (j := j2) ddX9_waits_20 ho.s1 ij2 lj2 (Nat.le_of_ble_eq_true rfl) ?_
    refine E_goto (pc := 21) (tgt := 25) ddX9_waits_21 (by decide) ?_
    obtain ⟨v3, ev3⟩ : ∃ y : Int32, y = (I 309 j2) := ⟨_, rfl⟩
    have k := k v3 ev3
    rw [← ev3]
    refine E_istore_n (pc := 25) (ls' := [some (.ref 308), some (.int x1), some (.int v3), none, none]) ddX9_waits_25 rfl (Nat.le_of_ble_eq_true rfl) rfl rfl ?_
    refine E_iconst (pc := 26) (v := 0) ddX9_waits_26 rfl ?_
    refine E_istore_n (pc := 27) (ls' := [some (.ref 308), some (.int x1), some (.int v3), some (.int 0), none]) ddX9_waits_27 rfl (Nat.le_of_ble_eq_true rfl) rfl rfl ?_
    exact k
set_option maxRecDepth 100000 in
set_option maxHeartbeats 4000000 in
theorem B_X9_waits_28 {mc ms : Nat} {z : Zt} {I : It} {Q : Option Value → Zt → It → Prop} {x1 x2 x3 : Int32} (ho : isO z)
    (k : (((I 308 2) ≤ x3) → Q (some (.int x2)) z I) ∧
    ((¬ (I 308 2) ≤ x3) → ∃ j1 : Nat, ((x1 + 192) + (8 * x3)) = nI j1 ∧ j1 < 6880 ∧ ∀ v2 : Int32, v2 = (I 309 j1) → ∃ j3 : Nat, ((x1 + 184) + x3) = nI j3 ∧ j3 < 6880 ∧ (((I 309 j3) ≤ 0) → E mX9_waits mc ms 28 [some (.ref 308), some (.int x1), some (.int x2), some (.int (x3 + 1)), none] [] z I Q) ∧
    ((¬ (I 309 j3) ≤ 0) → ((x2 = (-1)) → E mX9_waits mc ms 28 [some (.ref 308), some (.int x1), some (.int v2), some (.int (x3 + 1)), none] [] z I Q) ∧
    ((¬ x2 = (-1)) → ((x2 ≤ v2) → E mX9_waits mc ms 28 [some (.ref 308), some (.int x1), some (.int x2), some (.int (x3 + 1)), none] [] z I Q) ∧
    ((¬ x2 ≤ v2) → E mX9_waits mc ms 28 [some (.ref 308), some (.int x1), some (.int v2), some (.int (x3 + 1)), none] [] z I Q))))) :
    E mX9_waits mc ms 28 [some (.ref 308), some (.int x1), some (.int x2), some (.int x3), none] [] z I Q := by
  refine E_iload_n (pc := 28) (x := x3) ddX9_waits_28 rfl rfl ?_
  refine E_aload_n (pc := 29) (x := 308) ddX9_waits_29 rfl rfl ?_
  refine E_getI (pc := 30) ddX9_waits_30 ec_8 2 (Nat.le_of_ble_eq_true rfl) rfl w_3_184 ho.s0 ?_
  refine E_icmp_ge (pc := 33) (tgt := 92) ddX9_waits_33 (by decide) (fun h => ?_) (fun h => ?_)
  · have k := k.1 h
    refine E_iload_n (pc := 92) (x := x2) ddX9_waits_92 rfl rfl ?_
    exact E_iret (pc := 93) ddX9_waits_93 rfl k
  · have k := k.2 h
    refine E_aload_n (pc := 36) (x := 308) ddX9_waits_36 rfl rfl ?_
    refine E_getR (pc := 37) (x := 309) ddX9_waits_37 ec_8 0 (Nat.le_of_ble_eq_true rfl) rfl w_3_182 ho.s0 ho.r0 (by decide) ?_
    refine E_iload_n (pc := 40) (x := x1) ddX9_waits_40 rfl rfl ?_
    refine E_sipush (pc := 41) (v := 192) ddX9_waits_41 rfl ?_
    refine E_iadd (pc := 44) ddX9_waits_44 ?_
    refine E_bipush (pc := 45) (v := 8) ddX9_waits_45 rfl ?_
    refine E_iload_n (pc := 47) (x := x3) ddX9_waits_47 rfl rfl ?_
    refine E_imul (pc := 48) ddX9_waits_48 ?_
    refine E_iadd (pc := 49) ddX9_waits_49 ?_
    obtain ⟨j1, ij1, lj1, k⟩ := k
    refine E_ialdN (pc := 50) (j := j1) ddX9_waits_50 ho.s1 ij1 lj1 (Nat.le_of_ble_eq_true rfl) ?_
    obtain ⟨v2, ev2⟩ : ∃ y : Int32, y = (I 309 j1) := ⟨_, rfl⟩
    have k := k v2 ev2
    rw [← ev2]
    refine E_istore (pc := 51) (ls' := [some (.ref 308), some (.int x1), some (.int x2), some (.int x3), some (.int v2)]) ddX9_waits_51 (Nat.le_of_ble_eq_true rfl) rfl rfl ?_
    refine E_aload_n (pc := 53) (x := 308) ddX9_waits_53 rfl rfl ?_
    refine E_getR (pc := 54) (x := 309) ddX9_waits_54 ec_8 0 (Nat.le_of_ble_eq_true rfl) rfl w_3_182 ho.s0 ho.r0 (by decide) ?_
    refine E_iload_n (pc := 57) (x := x1) ddX9_waits_57 rfl rfl ?_
    refine E_sipush (pc := 58) (v := 184) ddX9_waits_58 rfl ?_
    refine E_iadd (pc := 61) ddX9_waits_61 ?_
    refine E_iload_n (pc := 62) (x := x3) ddX9_waits_62 rfl rfl ?_
    refine E_iadd (pc := 63) ddX9_waits_63 ?_
    obtain ⟨j3, ij3, lj3, k⟩ := k
    refine E_ialdN (pc := 64) (j := j3) ddX9_waits_64 ho.s1 ij3 lj3 (Nat.le_of_ble_eq_true rfl) ?_
    refine E_if_le (pc := 65) (tgt := 84) ddX9_waits_65 (by decide) (fun h => ?_) (fun h => ?_)
    · have k := k.1 h
      refine E_iload_n (pc := 84) (x := x2) ddX9_waits_84 rfl rfl ?_
      refine E_istore_n (pc := 85) (ls' := [some (.ref 308), some (.int x1), some (.int x2), some (.int x3), some (.int v2)]) ddX9_waits_85 rfl (Nat.le_of_ble_eq_true rfl) rfl rfl ?_
      refine E_iinc (pc := 86) (v := (x3 + 1)) (ls' := [some (.ref 308), some (.int x1), some (.int x2), some (.int (x3 + 1)), some (.int v2)]) ddX9_waits_86 rfl rfl (Nat.le_of_ble_eq_true rfl) rfl rfl ?_
      refine E_goto (pc := 89) (tgt := 28) ddX9_waits_89 (by decide) ?_
      exact E.forget k ⟨rfl, ⟨rfl, ⟨rfl, ⟨rfl, trivial⟩⟩⟩⟩
    · have k := k.2 h
      refine E_iload_n (pc := 68) (x := x2) ddX9_waits_68 rfl rfl ?_
      refine E_iconst (pc := 69) (v := (-1)) ddX9_waits_69 rfl ?_
      refine E_icmp_eq (pc := 70) (tgt := 79) ddX9_waits_70 (by decide) (fun h => ?_) (fun h => ?_)
      · have k := k.1 h
        refine E_iload (pc := 79) (x := v2) ddX9_waits_79 rfl ?_
        refine E_goto (pc := 81) (tgt := 85) ddX9_waits_81 (by decide) ?_
        refine E_istore_n (pc := 85) (ls' := [some (.ref 308), some (.int x1), some (.int v2), some (.int x3), some (.int v2)]) ddX9_waits_85 rfl (Nat.le_of_ble_eq_true rfl) rfl rfl ?_
        refine E_iinc (pc := 86) (v := (x3 + 1)) (ls' := [some (.ref 308), some (.int x1), some (.int v2), some (.int (x3 + 1)), some (.int v2)]) ddX9_waits_86 rfl rfl (Nat.le_of_ble_eq_true rfl) rfl rfl ?_
        refine E_goto (pc := 89) (tgt := 28) ddX9_waits_89 (by decide) ?_
        exact E.forget k ⟨rfl, ⟨rfl, ⟨rfl, ⟨rfl, trivial⟩⟩⟩⟩
      · have k := k.2 h
        refine E_iload (pc := 73) (x := v2) ddX9_waits_73 rfl ?_
        refine E_iload_n (pc := 75) (x := x2) ddX9_waits_75 rfl rfl ?_
        refine E_icmp_ge (pc := 76) (tgt := 84) ddX9_waits_76 (by decide) (fun h => ?_) (fun h => ?_)
        · have k := k.1 h
          refine E_iload_n (pc := 84) (x := x2) ddX9_waits_84 rfl rfl ?_
          refine E_istore_n (pc := 85) (ls' := [some (.ref 308), some (.int x1), some (.int x2), some (.int x3), some (.int v2)]) ddX9_waits_85 rfl (Nat.le_of_ble_eq_true rfl) rfl rfl ?_
          refine E_iinc (pc := 86) (v := (x3 + 1)) (ls' := [some (.ref 308), some (.int x1), some (.int x2), some (.int (x3 + 1)), some (.int v2)]) ddX9_waits_86 rfl rfl (Nat.le_of_ble_eq_true rfl) rfl rfl ?_
          refine E_goto (pc := 89) (tgt := 28) ddX9_waits_89 (by decide) ?_
          exact E.forget k ⟨rfl, ⟨rfl, ⟨rfl, ⟨rfl, trivial⟩⟩⟩⟩
        · have k := k.2 h
          refine E_iload (pc := 79) (x := v2) ddX9_waits_79 rfl ?_
          refine E_goto (pc := 81) (tgt := 85) ddX9_waits_81 (by decide) ?_
          refine E_istore_n (pc := 85) (ls' := [some (.ref 308), some (.int x1), some (.int v2), some (.int x3), some (.int v2)]) ddX9_waits_85 rfl (Nat.le_of_ble_eq_true rfl) rfl rfl ?_
          refine E_iinc (pc := 86) (v := (x3 + 1)) (ls' := [some (.ref 308), some (.int x1), some (.int v2), some (.int (x3 + 1)), some (.int v2)]) ddX9_waits_86 rfl rfl (Nat.le_of_ble_eq_true rfl) rfl rfl ?_
          refine E_goto (pc := 89) (tgt := 28) ddX9_waits_89 (by decide) ?_
          exact E.forget k ⟨rfl, ⟨rfl, ⟨rfl, ⟨rfl, trivial⟩⟩⟩⟩
/-! X9_change, labels [93, 133] -/
set_option maxRecDepth 100000 in
set_option maxHeartbeats 4000000 in
theorem B_X9_change_0 {mc ms : Nat} {z : Zt} {I : It} {Q : Option Value → Zt → It → Prop} {x1 x2 x3 : Int32} (ho : isO z)
    (k : ∃ j1 : Nat, (x1 + 0) = nI j1 ∧ j1 < 6880 ∧ ∀ v2 : Int32, v2 = (I 309 j1) → ∃ j3 : Nat, ((x1 + 8) + x2) = nI j3 ∧ j3 < 6880 ∧ ∀ I4 : It, I4 = e_st I 309 j3 x3 → ∃ j5 : Nat, ((x1 + 16) + x2) = nI j5 ∧ j5 < 6880 ∧ ∀ I6 : It, I6 = e_st I4 309 j5 (f_X9_least ((I4 309 j5) + 1) 9999) → ∃ j7 : Nat, ((x1 + 24) + x2) = nI j7 ∧ j7 < 6880 ∧ ((¬ (I6 309 j7) = v2) → ∃ j8 : Nat, ((x1 + 32) + x2) = nI j8 ∧ j8 < 6880 ∧ E mX9_change mc ms 93 [some (.ref 308), some (.int x1), some (.int x2), some (.int x3), some (.int v2), none, none, none] [.int (I6 309 j8), .int ((x1 + 32) + x2), .ref 309] z I6 Q) ∧
    (((I6 309 j7) = v2) → E mX9_change mc ms 93 [some (.ref 308), some (.int x1), some (.int x2), some (.int x3), some (.int v2), none, none, none] [.int 1, .int ((x1 + 32) + x2), .ref 309] z I6 Q)) :
    E mX9_change mc ms 0 [some (.ref 308), some (.int x1), some (.int x2), some (.int x3), none, none, none, none] [] z I Q := by
  refine E_aload_n (pc := 0) (x := 308) ddX9_change_0 rfl rfl ?_
  refine E_getR (pc := 1) (x := 309) ddX9_change_1 ec_8 0 (Nat.le_of_ble_eq_true rfl) rfl w_3_182 ho.s0 ho.r0 (by decide) ?_
  refine E_iload_n (pc := 4) (x := x1) ddX9_change_4 rfl rfl ?_
  refine E_iconst (pc := 5) (v := 0) ddX9_change_5 rfl ?_
  refine E_iadd (pc := 6) ddX9_change_6 ?_
  obtain ⟨j1, ij1, lj1, k⟩ := k
  refine E_ialdN (pc := 7) (j := j1) ddX9_change_7 ho.s1 ij1 lj1 (Nat.le_of_ble_eq_true rfl) ?_
  obtain ⟨v2, ev2⟩ : ∃ y : Int32, y = (I 309 j1) := ⟨_, rfl⟩
  have k := k v2 ev2
  rw [← ev2]
  refine E_istore (pc := 8) (ls' := [some (.ref 308), some (.int x1), some (.int x2), some (.int x3), some (.int v2), none, none, none]) ddX9_change_8 (Nat.le_of_ble_eq_true rfl) rfl rfl ?_
  refine E_aload_n (pc := 10) (x := 308) ddX9_change_10 rfl rfl ?_
  refine E_getR (pc := 11) (x := 309) ddX9_change_11 ec_8 0 (Nat.le_of_ble_eq_true rfl) rfl w_3_182 ho.s0 ho.r0 (by decide) ?_
  refine E_iload_n (pc := 14) (x := x1) ddX9_change_14 rfl rfl ?_
  refine E_bipush (pc := 15) (v := 8) ddX9_change_15 rfl ?_
  refine E_iadd (pc := 17) ddX9_change_17 ?_
  refine E_iload_n (pc := 18) (x := x2) ddX9_change_18 rfl rfl ?_
  refine E_iadd (pc := 19) ddX9_change_19 ?_
  refine E_iload_n (pc := 20) (x := x3) ddX9_change_20 rfl rfl ?_
  obtain ⟨j3, ij3, lj3, k⟩ := k
  obtain ⟨I4, eI4⟩ : ∃ y : It, y = e_st I 309 j3 x3 := ⟨_, rfl⟩
  have k := k I4 eI4
  refine E_iastN (pc := 21) (j := j3) ddX9_change_21 ho.s1 (by decide) ij3 lj3 (Nat.le_of_ble_eq_true rfl) ?_
  rw [← eI4]
  refine E_aload_n (pc := 22) (x := 308) ddX9_change_22 rfl rfl ?_
  refine E_getR (pc := 23) (x := 309) ddX9_change_23 ec_8 0 (Nat.le_of_ble_eq_true rfl) rfl w_3_182 ho.s0 ho.r0 (by decide) ?_
  refine E_iload_n (pc := 26) (x := x1) ddX9_change_26 rfl rfl ?_
  refine E_bipush (pc := 27) (v := 16) ddX9_change_27 rfl ?_
  refine E_iadd (pc := 29) ddX9_change_29 ?_
  refine E_iload_n (pc := 30) (x := x2) ddX9_change_30 rfl rfl ?_
  refine E_iadd (pc := 31) ddX9_change_31 ?_
  refine E_aload_n (pc := 32) (x := 308) ddX9_change_32 rfl rfl ?_
  refine E_getR (pc := 33) (x := 309) ddX9_change_33 ec_8 0 (Nat.le_of_ble_eq_true rfl) rfl w_3_182 ho.s0 ho.r0 (by decide) ?_
  refine E_iload_n (pc := 36) (x := x1) ddX9_change_36 rfl rfl ?_
  refine E_bipush (pc := 37) (v := 16) ddX9_change_37 rfl ?_
  refine E_iadd (pc := 39) ddX9_change_39 ?_
  refine E_iload_n (pc := 40) (x := x2) ddX9_change_40 rfl rfl ?_
  refine E_iadd (pc := 41) ddX9_change_41 ?_
  obtain ⟨j5, ij5, lj5, k⟩ := k
  refine E_ialdN (pc := 42) (j := j5) ddX9_change_42 ho.s1 ij5 lj5 (Nat.le_of_ble_eq_true rfl) ?_
  refine E_iconst (pc := 43) (v := 1) ddX9_change_43 rfl ?_
  refine E_iadd (pc := 44) ddX9_change_44 ?_
  refine E_sipush (pc := 45) (v := 9999) ddX9_change_45 rfl ?_
  refine E_callS (pc := 48) (As := [.int ((I4 309 j5) + 1), .int 9999]) (st := [.int ((x1 + 16) + x2), .ref 309]) ddX9_change_48 hX9_least ⟨(Nat.le_of_ble_eq_true rfl), (Nat.le_of_ble_eq_true rfl)⟩ w_4_121 rfl rfl (Nat.le_of_ble_eq_true rfl) (e_cc rfl (e_cc rfl e_cn)) (Nat.le_of_ble_eq_true rfl) (C_X9_least ?_)
  refine (show E mX9_change mc ms 51 [some (.ref 308), some (.int x1), some (.int x2), some (.int x3), some (.int v2), none, none, none] [.int (f_X9_least ((I4 309 j5) + 1) 9999), .int ((x1 + 16) + x2), .ref 309] z I4 Q from ?_)
  obtain ⟨I6, eI6⟩ : ∃ y : It, y = e_st I4 309 j5 (f_X9_least ((I4 309 j5) + 1) 9999) := ⟨_, rfl⟩
  have k := k I6 eI6
  refine E_iastN (pc := 51) (j := j5) ddX9_change_51 ho.s1 (by decide) ij5 lj5 (Nat.le_of_ble_eq_true rfl) ?_
  rw [← eI6]
  refine E_aload_n (pc := 52) (x := 308) ddX9_change_52 rfl rfl ?_
  refine E_getR (pc := 53) (x := 309) ddX9_change_53 ec_8 0 (Nat.le_of_ble_eq_true rfl) rfl w_3_182 ho.s0 ho.r0 (by decide) ?_
  refine E_iload_n (pc := 56) (x := x1) ddX9_change_56 rfl rfl ?_
  refine E_bipush (pc := 57) (v := 32) ddX9_change_57 rfl ?_
  refine E_iadd (pc := 59) ddX9_change_59 ?_
  refine E_iload_n (pc := 60) (x := x2) ddX9_change_60 rfl rfl ?_
  refine E_iadd (pc := 61) ddX9_change_61 ?_
  refine E_aload_n (pc := 62) (x := 308) ddX9_change_62 rfl rfl ?_
  refine E_getR (pc := 63) (x := 309) ddX9_change_63 ec_8 0 (Nat.le_of_ble_eq_true rfl) rfl w_3_182 ho.s0 ho.r0 (by decide) ?_
  refine E_iload_n (pc := 66) (x := x1) ddX9_change_66 rfl rfl ?_
  refine E_bipush (pc := 67) (v := 24) ddX9_change_67 rfl ?_
  refine E_iadd (pc := 69) ddX9_change_69 ?_
  refine E_iload_n (pc := 70) (x := x2) ddX9_change_70 rfl rfl ?_
  refine E_iadd (pc := 71) ddX9_change_71 ?_
  obtain ⟨j7, ij7, lj7, k⟩ := k
  refine E_ialdN (pc := 72) (j := j7) ddX9_change_72 ho.s1 ij7 lj7 (Nat.le_of_ble_eq_true rfl) ?_
  refine E_iload (pc := 73) (x := v2) ddX9_change_73 rfl ?_
  refine E_icmp_ne (pc := 75) (tgt := 82) ddX9_change_75 (by decide) (fun h => ?_) (fun h => ?_)
  · have k := k.1 h
    refine E_aload_n (pc := 82) (x := 308) ddX9_change_82 rfl rfl ?_
    refine E_getR (pc := 83) (x := 309) ddX9_change_83 ec_8 0 (Nat.le_of_ble_eq_true rfl) rfl w_3_182 ho.s0 ho.r0 (by decide) ?_
    refine E_iload_n (pc := 86) (x := x1) ddX9_change_86 rfl rfl ?_
    refine E_bipush (pc := 87) (v := 32) ddX9_change_87 rfl ?_
    refine E_iadd (pc := 89) ddX9_change_89 ?_
    refine E_iload_n (pc := 90) (x := x2) ddX9_change_90 rfl rfl ?_
    refine E_iadd (pc := 91) ddX9_change_91 ?_
    obtain ⟨j8, ij8, lj8, k⟩ := k
    refine E_ialdN (pc := 92) (j := j8) ddX9_change_92 ho.s1 ij8 lj8 (Nat.le_of_ble_eq_true rfl) ?_
    exact k
  · have k := k.2 h
    refine E_iconst (pc := 78) (v := 1) ddX9_change_78 rfl ?_
    refine E_goto (pc := 79) (tgt := 93) ddX9_change_79 (by decide) ?_
    exact k
set_option maxRecDepth 100000 in
set_option maxHeartbeats 4000000 in
theorem B_X9_change_93 {mc ms : Nat} {z : Zt} {I : It} {Q : Option Value → Zt → It → Prop} {x1 x2 x3 x4 y0 y1 : Int32} (ho : isO z)
    (k : ∃ j1 : Nat, y1 = nI j1 ∧ j1 < 6880 ∧ ∀ I2 : It, I2 = e_st I 309 j1 y0 → ∃ j3 : Nat, ((x1 + 24) + x2) = nI j3 ∧ j3 < 6880 ∧ ∀ I4 : It, I4 = e_st I2 309 j3 x4 → ∀ v5 : Int32, v5 = ((x1 + 48) + (8 * x2)) → ∀ v6 : Int32, v6 = ((x1 + 112) + (8 * x2)) → E mX9_change mc ms 133 [some (.ref 308), some (.int x1), some (.int x2), some (.int x3), some (.int x4), some (.int v5), some (.int v6), some (.int 7)] [] z I4 Q) :
    E mX9_change mc ms 93 [some (.ref 308), some (.int x1), some (.int x2), some (.int x3), some (.int x4), none, none, none] [.int y0, .int y1, .ref 309] z I Q := by
  obtain ⟨j1, ij1, lj1, k⟩ := k
  obtain ⟨I2, eI2⟩ : ∃ y : It, y = e_st I 309 j1 y0 := ⟨_, rfl⟩
  have k := k I2 eI2
  refine E_iastN (pc := 93) (j := j1) ddX9_change_93 ho.s1 (by decide) ij1 lj1 (Nat.le_of_ble_eq_true rfl) ?_
  rw [← eI2]
  refine E_aload_n (pc := 94) (x := 308) ddX9_change_94 rfl rfl ?_
  refine E_getR (pc := 95) (x := 309) ddX9_change_95 ec_8 0 (Nat.le_of_ble_eq_true rfl) rfl w_3_182 ho.s0 ho.r0 (by decide) ?_
  refine E_iload_n (pc := 98) (x := x1) ddX9_change_98 rfl rfl ?_
  refine E_bipush (pc := 99) (v := 24) ddX9_change_99 rfl ?_
  refine E_iadd (pc := 101) ddX9_change_101 ?_
  refine E_iload_n (pc := 102) (x := x2) ddX9_change_102 rfl rfl ?_
  refine E_iadd (pc := 103) ddX9_change_103 ?_
  refine E_iload (pc := 104) (x := x4) ddX9_change_104 rfl ?_
  obtain ⟨j3, ij3, lj3, k⟩ := k
  obtain ⟨I4, eI4⟩ : ∃ y : It, y = e_st I2 309 j3 x4 := ⟨_, rfl⟩
  have k := k I4 eI4
  refine E_iastN (pc := 106) (j := j3) ddX9_change_106 ho.s1 (by decide) ij3 lj3 (Nat.le_of_ble_eq_true rfl) ?_
  rw [← eI4]
  refine E_iload_n (pc := 107) (x := x1) ddX9_change_107 rfl rfl ?_
  refine E_bipush (pc := 108) (v := 48) ddX9_change_108 rfl ?_
  refine E_iadd (pc := 110) ddX9_change_110 ?_
  refine E_bipush (pc := 111) (v := 8) ddX9_change_111 rfl ?_
  refine E_iload_n (pc := 113) (x := x2) ddX9_change_113 rfl rfl ?_
  refine E_imul (pc := 114) ddX9_change_114 ?_
  refine E_iadd (pc := 115) ddX9_change_115 ?_
  obtain ⟨v5, ev5⟩ : ∃ y : Int32, y = ((x1 + 48) + (8 * x2)) := ⟨_, rfl⟩
  have k := k v5 ev5
  rw [← ev5]
  refine E_istore (pc := 116) (ls' := [some (.ref 308), some (.int x1), some (.int x2), some (.int x3), some (.int x4), some (.int v5), none, none]) ddX9_change_116 (Nat.le_of_ble_eq_true rfl) rfl rfl ?_
  refine E_iload_n (pc := 118) (x := x1) ddX9_change_118 rfl rfl ?_
  refine E_bipush (pc := 119) (v := 112) ddX9_change_119 rfl ?_
  refine E_iadd (pc := 121) ddX9_change_121 ?_
  refine E_bipush (pc := 122) (v := 8) ddX9_change_122 rfl ?_
  refine E_iload_n (pc := 124) (x := x2) ddX9_change_124 rfl rfl ?_
  refine E_imul (pc := 125) ddX9_change_125 ?_
  refine E_iadd (pc := 126) ddX9_change_126 ?_
  obtain ⟨v6, ev6⟩ : ∃ y : Int32, y = ((x1 + 112) + (8 * x2)) := ⟨_, rfl⟩
  have k := k v6 ev6
  rw [← ev6]
  refine E_istore (pc := 127) (ls' := [some (.ref 308), some (.int x1), some (.int x2), some (.int x3), some (.int x4), some (.int v5), some (.int v6), none]) ddX9_change_127 (Nat.le_of_ble_eq_true rfl) rfl rfl ?_
  refine E_bipush (pc := 129) (v := 7) ddX9_change_129 rfl ?_
  refine E_istore (pc := 131) (ls' := [some (.ref 308), some (.int x1), some (.int x2), some (.int x3), some (.int x4), some (.int v5), some (.int v6), some (.int 7)]) ddX9_change_131 (Nat.le_of_ble_eq_true rfl) rfl rfl ?_
  exact k
set_option maxRecDepth 100000 in
set_option maxHeartbeats 4000000 in
theorem B_X9_change_133 {mc ms : Nat} {z : Zt} {I : It} {Q : Option Value → Zt → It → Prop} {x1 x2 x3 x4 x5 x6 x7 : Int32} (ho : isO z)
    (k : ((x7 ≤ 0) → ∃ j1 : Nat, x5 = nI j1 ∧ j1 < 6880 ∧ ∀ I2 : It, I2 = e_st I 309 j1 x4 → ∃ j3 : Nat, x6 = nI j3 ∧ j3 < 6880 ∧ ∀ I4 : It, I4 = e_st I2 309 j3 x3 → ∃ j5 : Nat, ((x1 + 40) + x2) = nI j5 ∧ j5 < 6880 ∧ ∀ I6 : It, I6 = e_st I4 309 j5 (f_X9_least ((I4 309 j5) + 1) 8) → Q none z I6) ∧
    ((¬ x7 ≤ 0) → ∃ j1 : Nat, ((x5 + x7) - 1) = nI j1 ∧ j1 < 6880 ∧ ∃ j2 : Nat, (x5 + x7) = nI j2 ∧ j2 < 6880 ∧ ∀ I3 : It, I3 = e_st I 309 j2 (I 309 j1) → ∃ j4 : Nat, ((x6 + x7) - 1) = nI j4 ∧ j4 < 6880 ∧ ∃ j5 : Nat, (x6 + x7) = nI j5 ∧ j5 < 6880 ∧ ∀ I6 : It, I6 = e_st I3 309 j5 (I3 309 j4) → E mX9_change mc ms 133 [some (.ref 308), some (.int x1), some (.int x2), some (.int x3), some (.int x4), some (.int x5), some (.int x6), some (.int (x7 + (-1)))] [] z I6 Q)) :
    E mX9_change mc ms 133 [some (.ref 308), some (.int x1), some (.int x2), some (.int x3), some (.int x4), some (.int x5), some (.int x6), some (.int x7)] [] z I Q := by
  refine E_iload (pc := 133) (x := x7) ddX9_change_133 rfl ?_
  refine E_if_le (pc := 135) (tgt := 188) ddX9_change_135 (by decide) (fun h => ?_) (fun h => ?_)
  · have k := k.1 h
    refine E_aload_n (pc := 188) (x := 308) ddX9_change_188 rfl rfl ?_
    refine E_getR (pc := 189) (x := 309) ddX9_change_189 ec_8 0 (Nat.le_of_ble_eq_true rfl) rfl w_3_182 ho.s0 ho.r0 (by decide) ?_
    refine E_iload (pc := 192) (x := x5) ddX9_change_192 rfl ?_
    refine E_iload (pc := 194) (x := x4) ddX9_change_194 rfl ?_
    obtain ⟨j1, ij1, lj1, k⟩ := k
    obtain ⟨I2, eI2⟩ : ∃ y : It, y = e_st I 309 j1 x4 := ⟨_, rfl⟩
    have k := k I2 eI2
    refine E_iastN (pc := 196) (j := j1) ddX9_change_196 ho.s1 (by decide) ij1 lj1 (Nat.le_of_ble_eq_true rfl) ?_
    rw [← eI2]
    refine E_aload_n (pc := 197) (x := 308) ddX9_change_197 rfl rfl ?_
    refine E_getR (pc := 198) (x := 309) ddX9_change_198 ec_8 0 (Nat.le_of_ble_eq_true rfl) rfl w_3_182 ho.s0 ho.r0 (by decide) ?_
    refine E_iload (pc := 201) (x := x6) ddX9_change_201 rfl ?_
    refine E_iload_n (pc := 203) (x := x3) ddX9_change_203 rfl rfl ?_
    obtain ⟨j3, ij3, lj3, k⟩ := k
    obtain ⟨I4, eI4⟩ : ∃ y : It, y = e_st I2 309 j3 x3 := ⟨_, rfl⟩
    have k := k I4 eI4
    refine E_iastN (pc := 204) (j := j3) ddX9_change_204 ho.s1 (by decide) ij3 lj3 (Nat.le_of_ble_eq_true rfl) ?_
    rw [← eI4]
    refine E_aload_n (pc := 205) (x := 308) ddX9_change_205 rfl rfl ?_
    refine E_getR (pc := 206) (x := 309) ddX9_change_206 ec_8 0 (Nat.le_of_ble_eq_true rfl) rfl w_3_182 ho.s0 ho.r0 (by decide) ?_
    refine E_iload_n (pc := 209) (x := x1) ddX9_change_209 rfl rfl ?_
    refine E_bipush (pc := 210) (v := 40) ddX9_change_210 rfl ?_
    refine E_iadd (pc := 212) ddX9_change_212 ?_
    refine E_iload_n (pc := 213) (x := x2) ddX9_change_213 rfl rfl ?_
    refine E_iadd (pc := 214) ddX9_change_214 ?_
    refine E_aload_n (pc := 215) (x := 308) ddX9_change_215 rfl rfl ?_
    refine E_getR (pc := 216) (x := 309) ddX9_change_216 ec_8 0 (Nat.le_of_ble_eq_true rfl) rfl w_3_182 ho.s0 ho.r0 (by decide) ?_
    refine E_iload_n (pc := 219) (x := x1) ddX9_change_219 rfl rfl ?_
    refine E_bipush (pc := 220) (v := 40) ddX9_change_220 rfl ?_
    refine E_iadd (pc := 222) ddX9_change_222 ?_
    refine E_iload_n (pc := 223) (x := x2) ddX9_change_223 rfl rfl ?_
    refine E_iadd (pc := 224) ddX9_change_224 ?_
    obtain ⟨j5, ij5, lj5, k⟩ := k
    refine E_ialdN (pc := 225) (j := j5) ddX9_change_225 ho.s1 ij5 lj5 (Nat.le_of_ble_eq_true rfl) ?_
    refine E_iconst (pc := 226) (v := 1) ddX9_change_226 rfl ?_
    refine E_iadd (pc := 227) ddX9_change_227 ?_
    refine E_bipush (pc := 228) (v := 8) ddX9_change_228 rfl ?_
    refine E_callS (pc := 230) (As := [.int ((I4 309 j5) + 1), .int 8]) (st := [.int ((x1 + 40) + x2), .ref 309]) ddX9_change_230 hX9_least ⟨(Nat.le_of_ble_eq_true rfl), (Nat.le_of_ble_eq_true rfl)⟩ w_4_121 rfl rfl (Nat.le_of_ble_eq_true rfl) (e_cc rfl (e_cc rfl e_cn)) (Nat.le_of_ble_eq_true rfl) (C_X9_least ?_)
    refine (show E mX9_change mc ms 233 [some (.ref 308), some (.int x1), some (.int x2), some (.int x3), some (.int x4), some (.int x5), some (.int x6), some (.int x7)] [.int (f_X9_least ((I4 309 j5) + 1) 8), .int ((x1 + 40) + x2), .ref 309] z I4 Q from ?_)
    obtain ⟨I6, eI6⟩ : ∃ y : It, y = e_st I4 309 j5 (f_X9_least ((I4 309 j5) + 1) 8) := ⟨_, rfl⟩
    have k := k I6 eI6
    refine E_iastN (pc := 233) (j := j5) ddX9_change_233 ho.s1 (by decide) ij5 lj5 (Nat.le_of_ble_eq_true rfl) ?_
    rw [← eI6]
    exact E_vret (pc := 234) ddX9_change_234 rfl k
  · have k := k.2 h
    refine E_aload_n (pc := 138) (x := 308) ddX9_change_138 rfl rfl ?_
    refine E_getR (pc := 139) (x := 309) ddX9_change_139 ec_8 0 (Nat.le_of_ble_eq_true rfl) rfl w_3_182 ho.s0 ho.r0 (by decide) ?_
    refine E_iload (pc := 142) (x := x5) ddX9_change_142 rfl ?_
    refine E_iload (pc := 144) (x := x7) ddX9_change_144 rfl ?_
    refine E_iadd (pc := 146) ddX9_change_146 ?_
    refine E_aload_n (pc := 147) (x := 308) ddX9_change_147 rfl rfl ?_
    refine E_getR (pc := 148) (x := 309) ddX9_change_148 ec_8 0 (Nat.le_of_ble_eq_true rfl) rfl w_3_182 ho.s0 ho.r0 (by decide) ?_
    refine E_iload (pc := 151) (x := x5) ddX9_change_151 rfl ?_
    refine E_iload (pc := 153) (x := x7) ddX9_change_153 rfl ?_
    refine E_iadd (pc := 155) ddX9_change_155 ?_
    refine E_iconst (pc := 156) (v := 1) ddX9_change_156 rfl ?_
    refine E_isub (pc := 157) ddX9_change_157 ?_
    obtain ⟨j1, ij1, lj1, k⟩ := k
    refine E_ialdN (pc := 158) (j := j1) ddX9_change_158 ho.s1 ij1 lj1 (Nat.le_of_ble_eq_true rfl) ?_
    obtain ⟨j2, ij2, lj2, k⟩ := k
    obtain ⟨I3, eI3⟩ : ∃ y : It, y = e_st I 309 j2 (I 309 j1) := ⟨_, rfl⟩
    have k := k I3 eI3
    refine E_iastN (pc := 159) (j := j2) ddX9_change_159 ho.s1 (by decide) ij2 lj2 (Nat.le_of_ble_eq_true rfl) ?_
    rw [← eI3]
    refine E_aload_n (pc := 160) (x := 308) ddX9_change_160 rfl rfl ?_
    refine E_getR (pc := 161) (x := 309) ddX9_change_161 ec_8 0 (Nat.le_of_ble_eq_true rfl) rfl w_3_182 ho.s0 ho.r0 (by decide) ?_
    refine E_iload (pc := 164) (x := x6) ddX9_change_164 rfl ?_
    refine E_iload (pc := 166) (x := x7) ddX9_change_166 rfl ?_
    refine E_iadd (pc := 168) ddX9_change_168 ?_
    refine E_aload_n (pc := 169) (x := 308) ddX9_change_169 rfl rfl ?_
    refine E_getR (pc := 170) (x := 309) ddX9_change_170 ec_8 0 (Nat.le_of_ble_eq_true rfl) rfl w_3_182 ho.s0 ho.r0 (by decide) ?_
    refine E_iload (pc := 173) (x := x6) ddX9_change_173 rfl ?_
    refine E_iload (pc := 175) (x := x7) ddX9_change_175 rfl ?_
    refine E_iadd (pc := 177) ddX9_change_177 ?_
    refine E_iconst (pc := 178) (v := 1) ddX9_change_178 rfl ?_
    refine E_isub (pc := 179) ddX9_change_179 ?_
    obtain ⟨j4, ij4, lj4, k⟩ := k
    refine E_ialdN (pc := 180) (j := j4) ddX9_change_180 ho.s1 ij4 lj4 (Nat.le_of_ble_eq_true rfl) ?_
    obtain ⟨j5, ij5, lj5, k⟩ := k
    obtain ⟨I6, eI6⟩ : ∃ y : It, y = e_st I3 309 j5 (I3 309 j4) := ⟨_, rfl⟩
    have k := k I6 eI6
    refine E_iastN (pc := 181) (j := j5) ddX9_change_181 ho.s1 (by decide) ij5 lj5 (Nat.le_of_ble_eq_true rfl) ?_
    rw [← eI6]
    refine E_iinc (pc := 182) (v := (x7 + (-1))) (ls' := [some (.ref 308), some (.int x1), some (.int x2), some (.int x3), some (.int x4), some (.int x5), some (.int x6), some (.int (x7 + (-1)))]) ddX9_change_182 rfl rfl (Nat.le_of_ble_eq_true rfl) rfl rfl ?_
    refine E_goto (pc := 185) (tgt := 133) ddX9_change_185 (by decide) ?_
    exact k
/-! X9_cycle, labels [17, 99, 158, 190, 205, 216, 242, 270, 291, 306, 339, 367] -/
set_option maxRecDepth 100000 in
set_option maxHeartbeats 4000000 in
theorem B_X9_cycle_0 {mc ms : Nat} {z : Zt} {I : It} {Q : Option Value → Zt → It → Prop} {x1 : Int32} (ho : isO z)
    (k : ∃ j1 : Nat, (x1 + 0) = nI j1 ∧ j1 < 6880 ∧ ∀ v2 : Int32, v2 = (I 309 j1) → E mX9_cycle mc ms 17 [some (.ref 308), some (.int x1), some (.int v2), some (.int (-1)), some (.int 2), some (.int 0), none, none, none, none] [] z I Q) :
    E mX9_cycle mc ms 0 [some (.ref 308), some (.int x1), none, none, none, none, none, none, none, none] [] z I Q := by
  refine E_aload_n (pc := 0) (x := 308) ddX9_cycle_0 rfl rfl ?_
  refine E_getR (pc := 1) (x := 309) ddX9_cycle_1 ec_8 0 (Nat.le_of_ble_eq_true rfl) rfl w_3_182 ho.s0 ho.r0 (by decide) ?_
  refine E_iload_n (pc := 4) (x := x1) ddX9_cycle_4 rfl rfl ?_
  refine E_iconst (pc := 5) (v := 0) ddX9_cycle_5 rfl ?_
  refine E_iadd (pc := 6) ddX9_cycle_6 ?_
  obtain ⟨j1, ij1, lj1, k⟩ := k
  refine E_ialdN (pc := 7) (j := j1) ddX9_cycle_7 ho.s1 ij1 lj1 (Nat.le_of_ble_eq_true rfl) ?_
  obtain ⟨v2, ev2⟩ : ∃ y : Int32, y = (I 309 j1) := ⟨_, rfl⟩
  have k := k v2 ev2
  rw [← ev2]
  refine E_istore_n (pc := 8) (ls' := [some (.ref 308), some (.int x1), some (.int v2), none, none, none, none, none, none, none]) ddX9_cycle_8 rfl (Nat.le_of_ble_eq_true rfl) rfl rfl ?_
  refine E_iconst (pc := 9) (v := (-1)) ddX9_cycle_9 rfl ?_
  refine E_istore_n (pc := 10) (ls' := [some (.ref 308), some (.int x1), some (.int v2), some (.int (-1)), none, none, none, none, none, none]) ddX9_cycle_10 rfl (Nat.le_of_ble_eq_true rfl) rfl rfl ?_
  refine E_iconst (pc := 11) (v := 2) ddX9_cycle_11 rfl ?_
  refine E_istore (pc := 12) (ls' := [some (.ref 308), some (.int x1), some (.int v2), some (.int (-1)), some (.int 2), none, none, none, none, none]) ddX9_cycle_12 (Nat.le_of_ble_eq_true rfl) rfl rfl ?_
  refine E_iconst (pc := 14) (v := 0) ddX9_cycle_14 rfl ?_
  refine E_istore (pc := 15) (ls' := [some (.ref 308), some (.int x1), some (.int v2), some (.int (-1)), some (.int 2), some (.int 0), none, none, none, none]) ddX9_cycle_15 (Nat.le_of_ble_eq_true rfl) rfl rfl ?_
  exact k
set_option maxRecDepth 100000 in
set_option maxHeartbeats 4000000 in
theorem B_X9_cycle_17 {mc ms : Nat} {z : Zt} {I : It} {Q : Option Value → Zt → It → Prop} {x1 x2 x3 x4 x5 : Int32} (ho : isO z)
    (k : (((I 308 2) ≤ x5) → ∃ j1 : Nat, (x1 + 3) = nI j1 ∧ j1 < 6880 ∧ (((I 309 j1) ≤ 0) → E mX9_cycle mc ms 158 [some (.ref 308), some (.int x1), none, some (.int x3), some (.int x4), none, none, none, none, none] [] z I Q) ∧
    ((¬ (I 309 j1) ≤ 0) → ∃ j2 : Nat, (x1 + 320) = nI j2 ∧ j2 < 6880 ∧ ((¬ (I 309 j2) = x2) → E mX9_cycle mc ms 158 [some (.ref 308), some (.int x1), none, some (.int x3), some (.int x4), none, none, none, none, none] [] z I Q) ∧
    (((I 309 j2) = x2) → ∃ j3 : Nat, (x1 + 328) = nI j3 ∧ j3 < 6880 ∧ ∀ v4 : Int32, v4 = (I 309 j3) → ∃ j5 : Nat, (x1 + 336) = nI j5 ∧ j5 < 6880 ∧ ∀ v6 : Int32, v6 = (I 309 j5) → E mX9_dropHand 0 0 0 [some (.ref 308), some (.int x1), none] [] z I (fun r z' I' => E mX9_cycle mc ms 158 [some (.ref 308), some (.int x1), none, some (.int v4), some (.int v6), none, none, none, none, none] (r.toList ++ []) z' I' Q)))) ∧
    ((¬ (I 308 2) ≤ x5) → ∃ j1 : Nat, ((x1 + 184) + x5) = nI j1 ∧ j1 < 6880 ∧ (((I 309 j1) ≤ 0) → E mX9_cycle mc ms 17 [some (.ref 308), some (.int x1), some (.int x2), some (.int x3), some (.int x4), some (.int (x5 + 1)), none, none, none, none] [] z I Q) ∧
    ((¬ (I 309 j1) ≤ 0) → ∃ j2 : Nat, ((x1 + 192) + (8 * x5)) = nI j2 ∧ j2 < 6880 ∧ ((¬ (I 309 j2) = x2) → E mX9_cycle mc ms 17 [some (.ref 308), some (.int x1), some (.int x2), some (.int x3), some (.int x4), some (.int (x5 + 1)), none, none, none, none] [] z I Q) ∧
    (((I 309 j2) = x2) → ∃ j3 : Nat, ((x1 + 256) + (8 * x5)) = nI j3 ∧ j3 < 6880 ∧ ∃ j4 : Nat, ((x1 + 176) + x5) = nI j4 ∧ j4 < 6880 ∧ ∀ I5 : It, I5 = e_st I 309 j4 (I 309 j3) → E mX9_dropFirst 0 0 0 [some (.ref 308), some (.int x1), some (.int x5), some (.int 1), none, none] [] z I5 (fun r z' I' => E mX9_cycle mc ms 99 [some (.ref 308), some (.int x1), some (.int x2), some (.int x3), some (.int x4), some (.int x5), none, none, none, none] (r.toList ++ []) z' I' Q))))) :
    E mX9_cycle mc ms 17 [some (.ref 308), some (.int x1), some (.int x2), some (.int x3), some (.int x4), some (.int x5), none, none, none, none] [] z I Q := by
  refine E_iload (pc := 17) (x := x5) ddX9_cycle_17 rfl ?_
  refine E_aload_n (pc := 19) (x := 308) ddX9_cycle_19 rfl rfl ?_
  refine E_getI (pc := 20) ddX9_cycle_20 ec_8 2 (Nat.le_of_ble_eq_true rfl) rfl w_3_184 ho.s0 ?_
  refine E_icmp_ge (pc := 23) (tgt := 105) ddX9_cycle_23 (by decide) (fun h => ?_) (fun h => ?_)
  · have k := k.1 h
    refine E_aload_n (pc := 105) (x := 308) ddX9_cycle_105 rfl rfl ?_
    refine E_getR (pc := 106) (x := 309) ddX9_cycle_106 ec_8 0 (Nat.le_of_ble_eq_true rfl) rfl w_3_182 ho.s0 ho.r0 (by decide) ?_
    refine E_iload_n (pc := 109) (x := x1) ddX9_cycle_109 rfl rfl ?_
    refine E_iconst (pc := 110) (v := 3) ddX9_cycle_110 rfl ?_
    refine E_iadd (pc := 111) ddX9_cycle_111 ?_
    obtain ⟨j1, ij1, lj1, k⟩ := k
    refine E_ialdN (pc := 112) (j := j1) ddX9_cycle_112 ho.s1 ij1 lj1 (Nat.le_of_ble_eq_true rfl) ?_
    refine E_if_le (pc := 113) (tgt := 158) ddX9_cycle_113 (by decide) (fun h => ?_) (fun h => ?_)
    · have k := k.1 h
      exact E.forget k ⟨rfl, ⟨rfl, ⟨rfl, ⟨rfl, trivial⟩⟩⟩⟩
    · have k := k.2 h
      refine E_aload_n (pc := 116) (x := 308) ddX9_cycle_116 rfl rfl ?_
      refine E_getR (pc := 117) (x := 309) ddX9_cycle_117 ec_8 0 (Nat.le_of_ble_eq_true rfl) rfl w_3_182 ho.s0 ho.r0 (by decide) ?_
      refine E_iload_n (pc := 120) (x := x1) ddX9_cycle_120 rfl rfl ?_
      refine E_sipush (pc := 121) (v := 320) ddX9_cycle_121 rfl ?_
      refine E_iadd (pc := 124) ddX9_cycle_124 ?_
      obtain ⟨j2, ij2, lj2, k⟩ := k
      refine E_ialdN (pc := 125) (j := j2) ddX9_cycle_125 ho.s1 ij2 lj2 (Nat.le_of_ble_eq_true rfl) ?_
      refine E_iload_n (pc := 126) (x := x2) ddX9_cycle_126 rfl rfl ?_
      refine E_icmp_ne (pc := 127) (tgt := 158) ddX9_cycle_127 (by decide) (fun h => ?_) (fun h => ?_)
      · have k := k.1 h
        exact E.forget k ⟨rfl, ⟨rfl, ⟨rfl, ⟨rfl, trivial⟩⟩⟩⟩
      · have k := k.2 h
        refine E_aload_n (pc := 130) (x := 308) ddX9_cycle_130 rfl rfl ?_
        refine E_getR (pc := 131) (x := 309) ddX9_cycle_131 ec_8 0 (Nat.le_of_ble_eq_true rfl) rfl w_3_182 ho.s0 ho.r0 (by decide) ?_
        refine E_iload_n (pc := 134) (x := x1) ddX9_cycle_134 rfl rfl ?_
        refine E_sipush (pc := 135) (v := 328) ddX9_cycle_135 rfl ?_
        refine E_iadd (pc := 138) ddX9_cycle_138 ?_
        obtain ⟨j3, ij3, lj3, k⟩ := k
        refine E_ialdN (pc := 139) (j := j3) ddX9_cycle_139 ho.s1 ij3 lj3 (Nat.le_of_ble_eq_true rfl) ?_
        obtain ⟨v4, ev4⟩ : ∃ y : Int32, y = (I 309 j3) := ⟨_, rfl⟩
        have k := k v4 ev4
        rw [← ev4]
        refine E_istore_n (pc := 140) (ls' := [some (.ref 308), some (.int x1), some (.int x2), some (.int v4), some (.int x4), some (.int x5), none, none, none, none]) ddX9_cycle_140 rfl (Nat.le_of_ble_eq_true rfl) rfl rfl ?_
        refine E_aload_n (pc := 141) (x := 308) ddX9_cycle_141 rfl rfl ?_
        refine E_getR (pc := 142) (x := 309) ddX9_cycle_142 ec_8 0 (Nat.le_of_ble_eq_true rfl) rfl w_3_182 ho.s0 ho.r0 (by decide) ?_
        refine E_iload_n (pc := 145) (x := x1) ddX9_cycle_145 rfl rfl ?_
        refine E_sipush (pc := 146) (v := 336) ddX9_cycle_146 rfl ?_
        refine E_iadd (pc := 149) ddX9_cycle_149 ?_
        obtain ⟨j5, ij5, lj5, k⟩ := k
        refine E_ialdN (pc := 150) (j := j5) ddX9_cycle_150 ho.s1 ij5 lj5 (Nat.le_of_ble_eq_true rfl) ?_
        obtain ⟨v6, ev6⟩ : ∃ y : Int32, y = (I 309 j5) := ⟨_, rfl⟩
        have k := k v6 ev6
        rw [← ev6]
        refine E_istore (pc := 151) (ls' := [some (.ref 308), some (.int x1), some (.int x2), some (.int v4), some (.int v6), some (.int x5), none, none, none, none]) ddX9_cycle_151 (Nat.le_of_ble_eq_true rfl) rfl rfl ?_
        refine E_aload_n (pc := 153) (x := 308) ddX9_cycle_153 rfl rfl ?_
        refine E_iload_n (pc := 154) (x := x1) ddX9_cycle_154 rfl rfl ?_
        exact E_callV (pc := 155) (As := [.int x1]) (st := []) (a := 308) ddX9_cycle_155 hX9_dropHand ⟨(Nat.le_of_ble_eq_true rfl), (Nat.le_of_ble_eq_true rfl)⟩ w_4_116 (ci := 8) rfl rfl ho.s0 rfl rfl (Nat.le_of_ble_eq_true rfl) (e_cc rfl e_cn) (Nat.le_of_ble_eq_true rfl) (E.mono k fun _ _ _ q => E.forget q ⟨rfl, ⟨rfl, ⟨rfl, ⟨rfl, trivial⟩⟩⟩⟩)
  · have k := k.2 h
    refine E_aload_n (pc := 26) (x := 308) ddX9_cycle_26 rfl rfl ?_
    refine E_getR (pc := 27) (x := 309) ddX9_cycle_27 ec_8 0 (Nat.le_of_ble_eq_true rfl) rfl w_3_182 ho.s0 ho.r0 (by decide) ?_
    refine E_iload_n (pc := 30) (x := x1) ddX9_cycle_30 rfl rfl ?_
    refine E_sipush (pc := 31) (v := 184) ddX9_cycle_31 rfl ?_
    refine E_iadd (pc := 34) ddX9_cycle_34 ?_
    refine E_iload (pc := 35) (x := x5) ddX9_cycle_35 rfl ?_
    refine E_iadd (pc := 37) ddX9_cycle_37 ?_
    obtain ⟨j1, ij1, lj1, k⟩ := k
    refine E_ialdN (pc := 38) (j := j1) ddX9_cycle_38 ho.s1 ij1 lj1 (Nat.le_of_ble_eq_true rfl) ?_
    refine E_if_le (pc := 39) (tgt := 99) ddX9_cycle_39 (by decide) (fun h => ?_) (fun h => ?_)
    · have k := k.1 h
      refine E_iinc (pc := 99) (v := (x5 + 1)) (ls' := [some (.ref 308), some (.int x1), some (.int x2), some (.int x3), some (.int x4), some (.int (x5 + 1)), none, none, none, none]) ddX9_cycle_99 rfl rfl (Nat.le_of_ble_eq_true rfl) rfl rfl ?_
      refine E_goto (pc := 102) (tgt := 17) ddX9_cycle_102 (by decide) ?_
      exact k
    · have k := k.2 h
      refine E_aload_n (pc := 42) (x := 308) ddX9_cycle_42 rfl rfl ?_
      refine E_getR (pc := 43) (x := 309) ddX9_cycle_43 ec_8 0 (Nat.le_of_ble_eq_true rfl) rfl w_3_182 ho.s0 ho.r0 (by decide) ?_
      refine E_iload_n (pc := 46) (x := x1) ddX9_cycle_46 rfl rfl ?_
      refine E_sipush (pc := 47) (v := 192) ddX9_cycle_47 rfl ?_
      refine E_iadd (pc := 50) ddX9_cycle_50 ?_
      refine E_bipush (pc := 51) (v := 8) ddX9_cycle_51 rfl ?_
      refine E_iload (pc := 53) (x := x5) ddX9_cycle_53 rfl ?_
      refine E_imul (pc := 55) ddX9_cycle_55 ?_
      refine E_iadd (pc := 56) ddX9_cycle_56 ?_
      obtain ⟨j2, ij2, lj2, k⟩ := k
      refine E_ialdN (pc := 57) (j := j2) ddX9_cycle_57 ho.s1 ij2 lj2 (Nat.le_of_ble_eq_true rfl) ?_
      refine E_iload_n (pc := 58) (x := x2) ddX9_cycle_58 rfl rfl ?_
      refine E_icmp_ne (pc := 59) (tgt := 99) ddX9_cycle_59 (by decide) (fun h => ?_) (fun h => ?_)
      · have k := k.1 h
        refine E_iinc (pc := 99) (v := (x5 + 1)) (ls' := [some (.ref 308), some (.int x1), some (.int x2), some (.int x3), some (.int x4), some (.int (x5 + 1)), none, none, none, none]) ddX9_cycle_99 rfl rfl (Nat.le_of_ble_eq_true rfl) rfl rfl ?_
        refine E_goto (pc := 102) (tgt := 17) ddX9_cycle_102 (by decide) ?_
        exact k
      · have k := k.2 h
        refine E_aload_n (pc := 62) (x := 308) ddX9_cycle_62 rfl rfl ?_
        refine E_getR (pc := 63) (x := 309) ddX9_cycle_63 ec_8 0 (Nat.le_of_ble_eq_true rfl) rfl w_3_182 ho.s0 ho.r0 (by decide) ?_
        refine E_iload_n (pc := 66) (x := x1) ddX9_cycle_66 rfl rfl ?_
        refine E_sipush (pc := 67) (v := 176) ddX9_cycle_67 rfl ?_
        refine E_iadd (pc := 70) ddX9_cycle_70 ?_
        refine E_iload (pc := 71) (x := x5) ddX9_cycle_71 rfl ?_
        refine E_iadd (pc := 73) ddX9_cycle_73 ?_
        refine E_aload_n (pc := 74) (x := 308) ddX9_cycle_74 rfl rfl ?_
        refine E_getR (pc := 75) (x := 309) ddX9_cycle_75 ec_8 0 (Nat.le_of_ble_eq_true rfl) rfl w_3_182 ho.s0 ho.r0 (by decide) ?_
        refine E_iload_n (pc := 78) (x := x1) ddX9_cycle_78 rfl rfl ?_
        refine E_sipush (pc := 79) (v := 256) ddX9_cycle_79 rfl ?_
        refine E_iadd (pc := 82) ddX9_cycle_82 ?_
        refine E_bipush (pc := 83) (v := 8) ddX9_cycle_83 rfl ?_
        refine E_iload (pc := 85) (x := x5) ddX9_cycle_85 rfl ?_
        refine E_imul (pc := 87) ddX9_cycle_87 ?_
        refine E_iadd (pc := 88) ddX9_cycle_88 ?_
        obtain ⟨j3, ij3, lj3, k⟩ := k
        refine E_ialdN (pc := 89) (j := j3) ddX9_cycle_89 ho.s1 ij3 lj3 (Nat.le_of_ble_eq_true rfl) ?_
        obtain ⟨j4, ij4, lj4, k⟩ := k
        obtain ⟨I5, eI5⟩ : ∃ y : It, y = e_st I 309 j4 (I 309 j3) := ⟨_, rfl⟩
        have k := k I5 eI5
        refine E_iastN (pc := 90) (j := j4) ddX9_cycle_90 ho.s1 (by decide) ij4 lj4 (Nat.le_of_ble_eq_true rfl) ?_
        rw [← eI5]
        refine E_aload_n (pc := 91) (x := 308) ddX9_cycle_91 rfl rfl ?_
        refine E_iload_n (pc := 92) (x := x1) ddX9_cycle_92 rfl rfl ?_
        refine E_iload (pc := 93) (x := x5) ddX9_cycle_93 rfl ?_
        refine E_iconst (pc := 95) (v := 1) ddX9_cycle_95 rfl ?_
        exact E_callV (pc := 96) (As := [.int x1, .int x5, .int 1]) (st := []) (a := 308) ddX9_cycle_96 hX9_dropFirst ⟨(Nat.le_of_ble_eq_true rfl), (Nat.le_of_ble_eq_true rfl)⟩ w_4_72 (ci := 8) rfl rfl ho.s0 rfl rfl (Nat.le_of_ble_eq_true rfl) (e_cc rfl (e_cc rfl (e_cc rfl e_cn))) (Nat.le_of_ble_eq_true rfl) k
set_option maxRecDepth 100000 in
set_option maxHeartbeats 4000000 in
theorem B_X9_cycle_158 {mc ms : Nat} {z : Zt} {I : It} {Q : Option Value → Zt → It → Prop} {x1 x3 x4 : Int32} (ho : isO z)
    (k : ∃ j1 : Nat, (x1 + 1) = nI j1 ∧ j1 < 6880 ∧ ∀ I2 : It, I2 = e_st I 309 j1 (f_X9_least ((I 309 j1) + 1) 99999) → E mX9_cycle mc ms 190 [some (.ref 308), some (.int x1), none, some (.int x3), some (.int x4), some (.int 0), some (.int 0), some (.int 0), none, none] [] z I2 Q) :
    E mX9_cycle mc ms 158 [some (.ref 308), some (.int x1), none, some (.int x3), some (.int x4), none, none, none, none, none] [] z I Q := by
  refine E_aload_n (pc := 158) (x := 308) ddX9_cycle_158 rfl rfl ?_
  refine E_getR (pc := 159) (x := 309) ddX9_cycle_159 ec_8 0 (Nat.le_of_ble_eq_true rfl) rfl w_3_182 ho.s0 ho.r0 (by decide) ?_
  refine E_iload_n (pc := 162) (x := x1) ddX9_cycle_162 rfl rfl ?_
  refine E_iconst (pc := 163) (v := 1) ddX9_cycle_163 rfl ?_
  refine E_iadd (pc := 164) ddX9_cycle_164 ?_
  refine E_aload_n (pc := 165) (x := 308) ddX9_cycle_165 rfl rfl ?_
  refine E_getR (pc := 166) (x := 309) ddX9_cycle_166 ec_8 0 (Nat.le_of_ble_eq_true rfl) rfl w_3_182 ho.s0 ho.r0 (by decide) ?_
  refine E_iload_n (pc := 169) (x := x1) ddX9_cycle_169 rfl rfl ?_
  refine E_iconst (pc := 170) (v := 1) ddX9_cycle_170 rfl ?_
  refine E_iadd (pc := 171) ddX9_cycle_171 ?_
  obtain ⟨j1, ij1, lj1, k⟩ := k
  refine E_ialdN (pc := 172) (j := j1) ddX9_cycle_172 ho.s1 ij1 lj1 (Nat.le_of_ble_eq_true rfl) ?_
  refine E_iconst (pc := 173) (v := 1) ddX9_cycle_173 rfl ?_
  refine E_iadd (pc := 174) ddX9_cycle_174 ?_
  refine E_ldc (pc := 175) (v := 99999) ddX9_cycle_175 w_4_120 ?_
  refine E_callS (pc := 177) (As := [.int ((I 309 j1) + 1), .int 99999]) (st := [.int (x1 + 1), .ref 309]) ddX9_cycle_177 hX9_least ⟨(Nat.le_of_ble_eq_true rfl), (Nat.le_of_ble_eq_true rfl)⟩ w_4_121 rfl rfl (Nat.le_of_ble_eq_true rfl) (e_cc rfl (e_cc rfl e_cn)) (Nat.le_of_ble_eq_true rfl) (C_X9_least ?_)
  refine (show E mX9_cycle mc ms 180 [some (.ref 308), some (.int x1), none, some (.int x3), some (.int x4), none, none, none, none, none] [.int (f_X9_least ((I 309 j1) + 1) 99999), .int (x1 + 1), .ref 309] z I Q from ?_)
  obtain ⟨I2, eI2⟩ : ∃ y : It, y = e_st I 309 j1 (f_X9_least ((I 309 j1) + 1) 99999) := ⟨_, rfl⟩
  have k := k I2 eI2
  refine E_iastN (pc := 180) (j := j1) ddX9_cycle_180 ho.s1 (by decide) ij1 lj1 (Nat.le_of_ble_eq_true rfl) ?_
  rw [← eI2]
  refine E_iconst (pc := 181) (v := 0) ddX9_cycle_181 rfl ?_
  refine E_istore (pc := 182) (ls' := [some (.ref 308), some (.int x1), none, some (.int x3), some (.int x4), some (.int 0), none, none, none, none]) ddX9_cycle_182 (Nat.le_of_ble_eq_true rfl) rfl rfl ?_
  refine E_iconst (pc := 184) (v := 0) ddX9_cycle_184 rfl ?_
  refine E_istore (pc := 185) (ls' := [some (.ref 308), some (.int x1), none, some (.int x3), some (.int x4), some (.int 0), some (.int 0), none, none, none]) ddX9_cycle_185 (Nat.le_of_ble_eq_true rfl) rfl rfl ?_
  refine E_iconst (pc := 187) (v := 0) ddX9_cycle_187 rfl ?_
  refine E_istore (pc := 188) (ls' := [some (.ref 308), some (.int x1), none, some (.int x3), some (.int x4), some (.int 0), some (.int 0), some (.int 0), none, none]) ddX9_cycle_188 (Nat.le_of_ble_eq_true rfl) rfl rfl ?_
  exact k
set_option maxRecDepth 100000 in
set_option maxHeartbeats 4000000 in
theorem B_X9_cycle_99 {mc ms : Nat} {z : Zt} {I : It} {Q : Option Value → Zt → It → Prop} {x1 x2 x3 x4 x5 : Int32} (ho : isO z)
    (k : E mX9_cycle mc ms 17 [some (.ref 308), some (.int x1), some (.int x2), some (.int x3), some (.int x4), some (.int (x5 + 1)), none, none, none, none] [] z I Q) :
    E mX9_cycle mc ms 99 [some (.ref 308), some (.int x1), some (.int x2), some (.int x3), some (.int x4), some (.int x5), none, none, none, none] [] z I Q := by
  refine E_iinc (pc := 99) (v := (x5 + 1)) (ls' := [some (.ref 308), some (.int x1), some (.int x2), some (.int x3), some (.int x4), some (.int (x5 + 1)), none, none, none, none]) ddX9_cycle_99 rfl rfl (Nat.le_of_ble_eq_true rfl) rfl rfl ?_
  refine E_goto (pc := 102) (tgt := 17) ddX9_cycle_102 (by decide) ?_
  exact k
set_option maxRecDepth 100000 in
set_option maxHeartbeats 4000000 in
theorem B_X9_cycle_190 {mc ms : Nat} {z : Zt} {I : It} {Q : Option Value → Zt → It → Prop} {x1 x3 x4 x5 x6 x7 : Int32} (ho : isO z)
    (k : (((I 308 1) ≤ x7) → E mX9_cycle mc ms 291 [some (.ref 308), some (.int x1), none, none, none, some (.int x5), some (.int x6), some (.int 0), none, none] [] z I Q) ∧
    ((¬ (I 308 1) ≤ x7) → E mX9_driversOf 0 0 0 [some (.ref 308), some (.int x7), none, none] [] z I (fun r z' I' => E mX9_cycle mc ms 205 [some (.ref 308), some (.int x1), none, some (.int x3), some (.int x4), some (.int x5), some (.int x6), some (.int x7), none, none] (r.toList ++ []) z' I' Q))) :
    E mX9_cycle mc ms 190 [some (.ref 308), some (.int x1), none, some (.int x3), some (.int x4), some (.int x5), some (.int x6), some (.int x7), none, none] [] z I Q := by
  refine E_iload (pc := 190) (x := x7) ddX9_cycle_190 rfl ?_
  refine E_aload_n (pc := 192) (x := 308) ddX9_cycle_192 rfl rfl ?_
  refine E_getI (pc := 193) ddX9_cycle_193 ec_8 1 (Nat.le_of_ble_eq_true rfl) rfl w_3_183 ho.s0 ?_
  refine E_icmp_ge (pc := 196) (tgt := 288) ddX9_cycle_196 (by decide) (fun h => ?_) (fun h => ?_)
  · have k := k.1 h
    refine E_iconst (pc := 288) (v := 0) ddX9_cycle_288 rfl ?_
    refine E_istore (pc := 289) (ls' := [some (.ref 308), some (.int x1), none, some (.int x3), some (.int x4), some (.int x5), some (.int x6), some (.int 0), none, none]) ddX9_cycle_289 (Nat.le_of_ble_eq_true rfl) rfl rfl ?_
    exact E.forget k ⟨rfl, ⟨rfl, ⟨rfl, ⟨rfl, ⟨rfl, trivial⟩⟩⟩⟩⟩
  · have k := k.2 h
    refine E_aload_n (pc := 199) (x := 308) ddX9_cycle_199 rfl rfl ?_
    refine E_iload (pc := 200) (x := x7) ddX9_cycle_200 rfl ?_
    exact E_callV (pc := 202) (As := [.int x7]) (st := []) (a := 308) ddX9_cycle_202 hX9_driversOf ⟨(Nat.le_of_ble_eq_true rfl), (Nat.le_of_ble_eq_true rfl)⟩ w_4_124 (ci := 8) rfl rfl ho.s0 rfl rfl (Nat.le_of_ble_eq_true rfl) (e_cc rfl e_cn) (Nat.le_of_ble_eq_true rfl) k
set_option maxRecDepth 100000 in
set_option maxHeartbeats 4000000 in
theorem B_X9_cycle_291 {mc ms : Nat} {z : Zt} {I : It} {Q : Option Value → Zt → It → Prop} {x1 x5 x6 x7 : Int32} (ho : isO z)
    (k : (((I 308 2) ≤ x7) → Q (some (.int x6)) z I) ∧
    ((¬ (I 308 2) ≤ x7) → E mX9_cycle mc ms 306 [some (.ref 308), some (.int x1), none, none, none, some (.int x5), some (.int x6), some (.int x7), some (.int 0), some (.int 0)] [] z I Q)) :
    E mX9_cycle mc ms 291 [some (.ref 308), some (.int x1), none, none, none, some (.int x5), some (.int x6), some (.int x7), none, none] [] z I Q := by
  refine E_iload (pc := 291) (x := x7) ddX9_cycle_291 rfl ?_
  refine E_aload_n (pc := 293) (x := 308) ddX9_cycle_293 rfl rfl ?_
  refine E_getI (pc := 294) ddX9_cycle_294 ec_8 2 (Nat.le_of_ble_eq_true rfl) rfl w_3_184 ho.s0 ?_
  refine E_icmp_ge (pc := 297) (tgt := 373) ddX9_cycle_297 (by decide) (fun h => ?_) (fun h => ?_)
  · have k := k.1 h
    refine E_iload (pc := 373) (x := x6) ddX9_cycle_373 rfl ?_
    exact E_iret (pc := 375) ddX9_cycle_375 rfl k
  · have k := k.2 h
    refine E_iconst (pc := 300) (v := 0) ddX9_cycle_300 rfl ?_
    refine E_istore (pc := 301) (ls' := [some (.ref 308), some (.int x1), none, none, none, some (.int x5), some (.int x6), some (.int x7), some (.int 0), none]) ddX9_cycle_301 (Nat.le_of_ble_eq_true rfl) rfl rfl ?_
    refine E_iconst (pc := 303) (v := 0) ddX9_cycle_303 rfl ?_
    refine E_istore (pc := 304) (ls' := [some (.ref 308), some (.int x1), none, none, none, some (.int x5), some (.int x6), some (.int x7), some (.int 0), some (.int 0)]) ddX9_cycle_304 (Nat.le_of_ble_eq_true rfl) rfl rfl ?_
    exact k
set_option maxRecDepth 100000 in
set_option maxHeartbeats 4000000 in
theorem B_X9_cycle_205 {mc ms : Nat} {z : Zt} {I : It} {Q : Option Value → Zt → It → Prop} {x1 x3 x4 x5 x6 x7 y0 : Int32} (ho : isO z)
    (k : ((y0 ≤ 0) → ((¬ x7 = x3) → ∃ j1 : Nat, ((x1 + 8) + x7) = nI j1 ∧ j1 < 6880 ∧ E mX9_cycle mc ms 242 [some (.ref 308), some (.int x1), none, some (.int x3), some (.int x4), some (.int x5), some (.int x6), some (.int x7), none, none] [.int (I 309 j1)] z I Q) ∧
    ((x7 = x3) → E mX9_cycle mc ms 242 [some (.ref 308), some (.int x1), none, some (.int x3), some (.int x4), some (.int x5), some (.int x6), some (.int x7), none, none] [.int x4] z I Q)) ∧
    ((¬ y0 ≤ 0) → E mX9_drivenTo 0 0 0 [some (.ref 308), some (.int x1), some (.int x7), some (.int (-1)), none, none] [] z I (fun r z' I' => E mX9_cycle mc ms 216 [some (.ref 308), some (.int x1), none, some (.int x3), some (.int x4), some (.int x5), some (.int x6), some (.int x7), none, none] (r.toList ++ []) z' I' Q))) :
    E mX9_cycle mc ms 205 [some (.ref 308), some (.int x1), none, some (.int x3), some (.int x4), some (.int x5), some (.int x6), some (.int x7), none, none] [.int y0] z I Q := by
  refine E_if_le (pc := 205) (tgt := 219) ddX9_cycle_205 (by decide) (fun h => ?_) (fun h => ?_)
  · have k := k.1 h
    refine E_iload (pc := 219) (x := x7) ddX9_cycle_219 rfl ?_
    refine E_iload_n (pc := 221) (x := x3) ddX9_cycle_221 rfl rfl ?_
    refine E_icmp_ne (pc := 222) (tgt := 230) ddX9_cycle_222 (by decide) (fun h => ?_) (fun h => ?_)
    · have k := k.1 h
      refine E_aload_n (pc := 230) (x := 308) ddX9_cycle_230 rfl rfl ?_
      refine E_getR (pc := 231) (x := 309) ddX9_cycle_231 ec_8 0 (Nat.le_of_ble_eq_true rfl) rfl w_3_182 ho.s0 ho.r0 (by decide) ?_
      refine E_iload_n (pc := 234) (x := x1) ddX9_cycle_234 rfl rfl ?_
      refine E_bipush (pc := 235) (v := 8) ddX9_cycle_235 rfl ?_
      refine E_iadd (pc := 237) ddX9_cycle_237 ?_
      refine E_iload (pc := 238) (x := x7) ddX9_cycle_238 rfl ?_
      refine E_iadd (pc := 240) ddX9_cycle_240 ?_
      obtain ⟨j1, ij1, lj1, k⟩ := k
      refine E_ialdN (pc := 241) (j := j1) ddX9_cycle_241 ho.s1 ij1 lj1 (Nat.le_of_ble_eq_true rfl) ?_
      exact k
    · have k := k.2 h
      refine E_iload (pc := 225) (x := x4) ddX9_cycle_225 rfl ?_
      refine E_goto (pc := 227) (tgt := 242) ddX9_cycle_227 (by decide) ?_
      exact k
  · have k := k.2 h
    refine E_aload_n (pc := 208) (x := 308) ddX9_cycle_208 rfl rfl ?_
    refine E_iload_n (pc := 209) (x := x1) ddX9_cycle_209 rfl rfl ?_
    refine E_iload (pc := 210) (x := x7) ddX9_cycle_210 rfl ?_
    refine E_iconst (pc := 212) (v := (-1)) ddX9_cycle_212 rfl ?_
    exact E_callV (pc := 213) (As := [.int x1, .int x7, .int (-1)]) (st := []) (a := 308) ddX9_cycle_213 hX9_drivenTo ⟨(Nat.le_of_ble_eq_true rfl), (Nat.le_of_ble_eq_true rfl)⟩ w_4_128 (ci := 8) rfl rfl ho.s0 rfl rfl (Nat.le_of_ble_eq_true rfl) (e_cc rfl (e_cc rfl (e_cc rfl e_cn))) (Nat.le_of_ble_eq_true rfl) k
set_option maxRecDepth 100000 in
set_option maxHeartbeats 4000000 in
theorem B_X9_cycle_306 {mc ms : Nat} {z : Zt} {I : It} {Q : Option Value → Zt → It → Prop} {x1 x5 x6 x7 x8 x9 : Int32} (ho : isO z)
    (k : (((I 308 1) ≤ x9) → ((x8 = 0) → E mX9_cycle mc ms 291 [some (.ref 308), some (.int x1), none, none, none, some (.int x5), some (.int x6), some (.int (x7 + 1)), none, none] [] z I Q) ∧
    ((¬ x8 = 0) → E mX9_tell 0 0 0 [some (.ref 308), some (.int x1), some (.int x7), none, none, none, none, none] [] z I (fun r z' I' => E mX9_cycle mc ms 367 [some (.ref 308), some (.int x1), none, none, none, some (.int x5), some (.int x6), some (.int x7), none, none] (r.toList ++ []) z' I' Q))) ∧
    ((¬ (I 308 1) ≤ x9) → ((¬ x8 = 0) → E mX9_cycle mc ms 306 [some (.ref 308), some (.int x1), none, none, none, some (.int x5), some (.int x6), some (.int x7), some (.int 1), some (.int (x9 + 1))] [] z I Q) ∧
    ((x8 = 0) → ((¬ ((x5 >>> (x9 &&& 31)) &&& 1) = 1) → E mX9_cycle mc ms 306 [some (.ref 308), some (.int x1), none, none, none, some (.int x5), some (.int x6), some (.int x7), some (.int 0), some (.int (x9 + 1))] [] z I Q) ∧
    ((((x5 >>> (x9 &&& 31)) &&& 1) = 1) → E mX9_looksAt 0 0 0 [some (.ref 308), some (.int x7), some (.int x9)] [] z I (fun r z' I' => E mX9_cycle mc ms 339 [some (.ref 308), some (.int x1), none, none, none, some (.int x5), some (.int x6), some (.int x7), none, some (.int x9)] (r.toList ++ []) z' I' Q))))) :
    E mX9_cycle mc ms 306 [some (.ref 308), some (.int x1), none, none, none, some (.int x5), some (.int x6), some (.int x7), some (.int x8), some (.int x9)] [] z I Q := by
  refine E_iload (pc := 306) (x := x9) ddX9_cycle_306 rfl ?_
  refine E_aload_n (pc := 308) (x := 308) ddX9_cycle_308 rfl rfl ?_
  refine E_getI (pc := 309) ddX9_cycle_309 ec_8 1 (Nat.le_of_ble_eq_true rfl) rfl w_3_183 ho.s0 ?_
  refine E_icmp_ge (pc := 312) (tgt := 355) ddX9_cycle_312 (by decide) (fun h => ?_) (fun h => ?_)
  · have k := k.1 h
    refine E_iload (pc := 355) (x := x8) ddX9_cycle_355 rfl ?_
    refine E_if_eq (pc := 357) (tgt := 367) ddX9_cycle_357 (by decide) (fun h => ?_) (fun h => ?_)
    · have k := k.1 h
      refine E_iinc (pc := 367) (v := (x7 + 1)) (ls' := [some (.ref 308), some (.int x1), none, none, none, some (.int x5), some (.int x6), some (.int (x7 + 1)), some (.int x8), some (.int x9)]) ddX9_cycle_367 rfl rfl (Nat.le_of_ble_eq_true rfl) rfl rfl ?_
      refine E_goto (pc := 370) (tgt := 291) ddX9_cycle_370 (by decide) ?_
      exact E.forget k ⟨rfl, ⟨rfl, ⟨rfl, ⟨rfl, ⟨rfl, trivial⟩⟩⟩⟩⟩
    · have k := k.2 h
      refine E_aload_n (pc := 360) (x := 308) ddX9_cycle_360 rfl rfl ?_
      refine E_iload_n (pc := 361) (x := x1) ddX9_cycle_361 rfl rfl ?_
      refine E_iload (pc := 362) (x := x7) ddX9_cycle_362 rfl ?_
      exact E_callV (pc := 364) (As := [.int x1, .int x7]) (st := []) (a := 308) ddX9_cycle_364 hX9_tell ⟨(Nat.le_of_ble_eq_true rfl), (Nat.le_of_ble_eq_true rfl)⟩ w_4_58 (ci := 8) rfl rfl ho.s0 rfl rfl (Nat.le_of_ble_eq_true rfl) (e_cc rfl (e_cc rfl e_cn)) (Nat.le_of_ble_eq_true rfl) (E.mono k fun _ _ _ q => E.forget q ⟨rfl, ⟨rfl, ⟨rfl, ⟨rfl, ⟨rfl, trivial⟩⟩⟩⟩⟩)
  · have k := k.2 h
    refine E_iload (pc := 315) (x := x8) ddX9_cycle_315 rfl ?_
    refine E_if_ne (pc := 317) (tgt := 342) ddX9_cycle_317 (by decide) (fun h => ?_) (fun h => ?_)
    · have k := k.1 h
      refine E_iconst (pc := 342) (v := 1) ddX9_cycle_342 rfl ?_
      refine E_goto (pc := 343) (tgt := 347) ddX9_cycle_343 (by decide) ?_
      refine E_istore (pc := 347) (ls' := [some (.ref 308), some (.int x1), none, none, none, some (.int x5), some (.int x6), some (.int x7), some (.int 1), some (.int x9)]) ddX9_cycle_347 (Nat.le_of_ble_eq_true rfl) rfl rfl ?_
      refine E_iinc (pc := 349) (v := (x9 + 1)) (ls' := [some (.ref 308), some (.int x1), none, none, none, some (.int x5), some (.int x6), some (.int x7), some (.int 1), some (.int (x9 + 1))]) ddX9_cycle_349 rfl rfl (Nat.le_of_ble_eq_true rfl) rfl rfl ?_
      refine E_goto (pc := 352) (tgt := 306) ddX9_cycle_352 (by decide) ?_
      exact k
    · have k := k.2 h
      refine E_iload (pc := 320) (x := x5) ddX9_cycle_320 rfl ?_
      refine E_iload (pc := 322) (x := x9) ddX9_cycle_322 rfl ?_
      refine E_ishr (pc := 324) ddX9_cycle_324 ?_
      refine E_iconst (pc := 325) (v := 1) ddX9_cycle_325 rfl ?_
      refine E_iand (pc := 326) ddX9_cycle_326 ?_
      refine E_iconst (pc := 327) (v := 1) ddX9_cycle_327 rfl ?_
      refine E_icmp_ne (pc := 328) (tgt := 346) ddX9_cycle_328 (by decide) (fun h => ?_) (fun h => ?_)
      · have k := k.1 h
        refine E_iconst (pc := 346) (v := 0) ddX9_cycle_346 rfl ?_
        refine E_istore (pc := 347) (ls' := [some (.ref 308), some (.int x1), none, none, none, some (.int x5), some (.int x6), some (.int x7), some (.int 0), some (.int x9)]) ddX9_cycle_347 (Nat.le_of_ble_eq_true rfl) rfl rfl ?_
        refine E_iinc (pc := 349) (v := (x9 + 1)) (ls' := [some (.ref 308), some (.int x1), none, none, none, some (.int x5), some (.int x6), some (.int x7), some (.int 0), some (.int (x9 + 1))]) ddX9_cycle_349 rfl rfl (Nat.le_of_ble_eq_true rfl) rfl rfl ?_
        refine E_goto (pc := 352) (tgt := 306) ddX9_cycle_352 (by decide) ?_
        exact k
      · have k := k.2 h
        refine E_aload_n (pc := 331) (x := 308) ddX9_cycle_331 rfl rfl ?_
        refine E_iload (pc := 332) (x := x7) ddX9_cycle_332 rfl ?_
        refine E_iload (pc := 334) (x := x9) ddX9_cycle_334 rfl ?_
        exact E_callV (pc := 336) (As := [.int x7, .int x9]) (st := []) (a := 308) ddX9_cycle_336 hX9_looksAt ⟨(Nat.le_of_ble_eq_true rfl), (Nat.le_of_ble_eq_true rfl)⟩ w_4_139 (ci := 8) rfl rfl ho.s0 rfl rfl (Nat.le_of_ble_eq_true rfl) (e_cc rfl (e_cc rfl e_cn)) (Nat.le_of_ble_eq_true rfl) (E.mono k fun _ _ _ q => E.forget q ⟨rfl, ⟨rfl, ⟨rfl, ⟨rfl, ⟨rfl, ⟨rfl, trivial⟩⟩⟩⟩⟩⟩)
set_option maxRecDepth 100000 in
set_option maxHeartbeats 4000000 in
theorem B_X9_cycle_242 {mc ms : Nat} {z : Zt} {I : It} {Q : Option Value → Zt → It → Prop} {x1 x3 x4 x5 x6 x7 y0 : Int32} (ho : isO z)
    (k : ∃ j1 : Nat, ((x1 + 8) + x7) = nI j1 ∧ j1 < 6880 ∧ ((y0 = (I 309 j1)) → E mX9_cycle mc ms 190 [some (.ref 308), some (.int x1), none, some (.int x3), some (.int x4), some (.int x5), some (.int x6), some (.int (x7 + 1)), none, none] [] z I Q) ∧
    ((¬ y0 = (I 309 j1)) → E mX9_change 0 0 0 [some (.ref 308), some (.int x1), some (.int x7), some (.int y0), none, none, none, none] [] z I (fun r z' I' => E mX9_cycle mc ms 270 [some (.ref 308), some (.int x1), none, some (.int x3), some (.int x4), some (.int x5), some (.int x6), some (.int x7), none, none] (r.toList ++ []) z' I' Q))) :
    E mX9_cycle mc ms 242 [some (.ref 308), some (.int x1), none, some (.int x3), some (.int x4), some (.int x5), some (.int x6), some (.int x7), none, none] [.int y0] z I Q := by
  refine E_istore (pc := 242) (ls' := [some (.ref 308), some (.int x1), none, some (.int x3), some (.int x4), some (.int x5), some (.int x6), some (.int x7), some (.int y0), none]) ddX9_cycle_242 (Nat.le_of_ble_eq_true rfl) rfl rfl ?_
  refine E_iload (pc := 244) (x := y0) ddX9_cycle_244 rfl ?_
  refine E_aload_n (pc := 246) (x := 308) ddX9_cycle_246 rfl rfl ?_
  refine E_getR (pc := 247) (x := 309) ddX9_cycle_247 ec_8 0 (Nat.le_of_ble_eq_true rfl) rfl w_3_182 ho.s0 ho.r0 (by decide) ?_
  refine E_iload_n (pc := 250) (x := x1) ddX9_cycle_250 rfl rfl ?_
  refine E_bipush (pc := 251) (v := 8) ddX9_cycle_251 rfl ?_
  refine E_iadd (pc := 253) ddX9_cycle_253 ?_
  refine E_iload (pc := 254) (x := x7) ddX9_cycle_254 rfl ?_
  refine E_iadd (pc := 256) ddX9_cycle_256 ?_
  obtain ⟨j1, ij1, lj1, k⟩ := k
  refine E_ialdN (pc := 257) (j := j1) ddX9_cycle_257 ho.s1 ij1 lj1 (Nat.le_of_ble_eq_true rfl) ?_
  refine E_icmp_eq (pc := 258) (tgt := 282) ddX9_cycle_258 (by decide) (fun h => ?_) (fun h => ?_)
  · have k := k.1 h
    refine E_iinc (pc := 282) (v := (x7 + 1)) (ls' := [some (.ref 308), some (.int x1), none, some (.int x3), some (.int x4), some (.int x5), some (.int x6), some (.int (x7 + 1)), some (.int y0), none]) ddX9_cycle_282 rfl rfl (Nat.le_of_ble_eq_true rfl) rfl rfl ?_
    refine E_goto (pc := 285) (tgt := 190) ddX9_cycle_285 (by decide) ?_
    exact E.forget k ⟨rfl, ⟨rfl, ⟨rfl, ⟨rfl, ⟨rfl, ⟨rfl, ⟨rfl, trivial⟩⟩⟩⟩⟩⟩⟩
  · have k := k.2 h
    refine E_aload_n (pc := 261) (x := 308) ddX9_cycle_261 rfl rfl ?_
    refine E_iload_n (pc := 262) (x := x1) ddX9_cycle_262 rfl rfl ?_
    refine E_iload (pc := 263) (x := x7) ddX9_cycle_263 rfl ?_
    refine E_iload (pc := 265) (x := y0) ddX9_cycle_265 rfl ?_
    exact E_callV (pc := 267) (As := [.int x1, .int x7, .int y0]) (st := []) (a := 308) ddX9_cycle_267 hX9_change ⟨(Nat.le_of_ble_eq_true rfl), (Nat.le_of_ble_eq_true rfl)⟩ w_4_135 (ci := 8) rfl rfl ho.s0 rfl rfl (Nat.le_of_ble_eq_true rfl) (e_cc rfl (e_cc rfl (e_cc rfl e_cn))) (Nat.le_of_ble_eq_true rfl) (E.mono k fun _ _ _ q => E.forget q ⟨rfl, ⟨rfl, ⟨rfl, ⟨rfl, ⟨rfl, ⟨rfl, ⟨rfl, trivial⟩⟩⟩⟩⟩⟩⟩)
set_option maxRecDepth 100000 in
set_option maxHeartbeats 4000000 in
theorem B_X9_cycle_216 {mc ms : Nat} {z : Zt} {I : It} {Q : Option Value → Zt → It → Prop} {x1 x3 x4 x5 x6 x7 y0 : Int32} (ho : isO z)
    (k : E mX9_cycle mc ms 242 [some (.ref 308), some (.int x1), none, some (.int x3), some (.int x4), some (.int x5), some (.int x6), some (.int x7), none, none] [.int y0] z I Q) :
    E mX9_cycle mc ms 216 [some (.ref 308), some (.int x1), none, some (.int x3), some (.int x4), some (.int x5), some (.int x6), some (.int x7), none, none] [.int y0] z I Q := by
  refine E_goto (pc := 216) (tgt := 242) ddX9_cycle_216 (by decide) ?_
  exact k
set_option maxRecDepth 100000 in
set_option maxHeartbeats 4000000 in
theorem B_X9_cycle_367 {mc ms : Nat} {z : Zt} {I : It} {Q : Option Value → Zt → It → Prop} {x1 x5 x6 x7 : Int32} (ho : isO z)
    (k : E mX9_cycle mc ms 291 [some (.ref 308), some (.int x1), none, none, none, some (.int x5), some (.int x6), some (.int (x7 + 1)), none, none] [] z I Q) :
    E mX9_cycle mc ms 367 [some (.ref 308), some (.int x1), none, none, none, some (.int x5), some (.int x6), some (.int x7), none, none] [] z I Q := by
  refine E_iinc (pc := 367) (v := (x7 + 1)) (ls' := [some (.ref 308), some (.int x1), none, none, none, some (.int x5), some (.int x6), some (.int (x7 + 1)), none, none]) ddX9_cycle_367 rfl rfl (Nat.le_of_ble_eq_true rfl) rfl rfl ?_
  refine E_goto (pc := 370) (tgt := 291) ddX9_cycle_370 (by decide) ?_
  exact k
set_option maxRecDepth 100000 in
set_option maxHeartbeats 4000000 in
theorem B_X9_cycle_339 {mc ms : Nat} {z : Zt} {I : It} {Q : Option Value → Zt → It → Prop} {x1 x5 x6 x7 x9 y0 : Int32} (ho : isO z)
    (k : ((y0 = 0) → E mX9_cycle mc ms 306 [some (.ref 308), some (.int x1), none, none, none, some (.int x5), some (.int x6), some (.int x7), some (.int 0), some (.int (x9 + 1))] [] z I Q) ∧
    ((¬ y0 = 0) → E mX9_cycle mc ms 306 [some (.ref 308), some (.int x1), none, none, none, some (.int x5), some (.int x6), some (.int x7), some (.int 1), some (.int (x9 + 1))] [] z I Q)) :
    E mX9_cycle mc ms 339 [some (.ref 308), some (.int x1), none, none, none, some (.int x5), some (.int x6), some (.int x7), none, some (.int x9)] [.int y0] z I Q := by
  refine E_if_eq (pc := 339) (tgt := 346) ddX9_cycle_339 (by decide) (fun h => ?_) (fun h => ?_)
  · have k := k.1 h
    refine E_iconst (pc := 346) (v := 0) ddX9_cycle_346 rfl ?_
    refine E_istore (pc := 347) (ls' := [some (.ref 308), some (.int x1), none, none, none, some (.int x5), some (.int x6), some (.int x7), some (.int 0), some (.int x9)]) ddX9_cycle_347 (Nat.le_of_ble_eq_true rfl) rfl rfl ?_
    refine E_iinc (pc := 349) (v := (x9 + 1)) (ls' := [some (.ref 308), some (.int x1), none, none, none, some (.int x5), some (.int x6), some (.int x7), some (.int 0), some (.int (x9 + 1))]) ddX9_cycle_349 rfl rfl (Nat.le_of_ble_eq_true rfl) rfl rfl ?_
    refine E_goto (pc := 352) (tgt := 306) ddX9_cycle_352 (by decide) ?_
    exact k
  · have k := k.2 h
    refine E_iconst (pc := 342) (v := 1) ddX9_cycle_342 rfl ?_
    refine E_goto (pc := 343) (tgt := 347) ddX9_cycle_343 (by decide) ?_
    refine E_istore (pc := 347) (ls' := [some (.ref 308), some (.int x1), none, none, none, some (.int x5), some (.int x6), some (.int x7), some (.int 1), some (.int x9)]) ddX9_cycle_347 (Nat.le_of_ble_eq_true rfl) rfl rfl ?_
    refine E_iinc (pc := 349) (v := (x9 + 1)) (ls' := [some (.ref 308), some (.int x1), none, none, none, some (.int x5), some (.int x6), some (.int x7), some (.int 1), some (.int (x9 + 1))]) ddX9_cycle_349 rfl rfl (Nat.le_of_ble_eq_true rfl) rfl rfl ?_
    refine E_goto (pc := 352) (tgt := 306) ddX9_cycle_352 (by decide) ?_
    exact k
set_option maxRecDepth 100000 in
set_option maxHeartbeats 4000000 in
theorem B_X9_cycle_270 {mc ms : Nat} {z : Zt} {I : It} {Q : Option Value → Zt → It → Prop} {x1 x3 x4 x5 x6 x7 : Int32} (ho : isO z)
    (k : ∀ v1 : Int32, v1 = (x5 ||| (1 <<< (x7 &&& 31))) → E mX9_cycle mc ms 190 [some (.ref 308), some (.int x1), none, some (.int x3), some (.int x4), some (.int v1), some (.int (x6 + 1)), some (.int (x7 + 1)), none, none] [] z I Q) :
    E mX9_cycle mc ms 270 [some (.ref 308), some (.int x1), none, some (.int x3), some (.int x4), some (.int x5), some (.int x6), some (.int x7), none, none] [] z I Q := by
  refine E_iload (pc := 270) (x := x5) ddX9_cycle_270 rfl ?_
  refine E_iconst (pc := 272) (v := 1) ddX9_cycle_272 rfl ?_
  refine E_iload (pc := 273) (x := x7) ddX9_cycle_273 rfl ?_
  refine E_ishl (pc := 275) ddX9_cycle_275 ?_
  refine E_ior (pc := 276) ddX9_cycle_276 ?_
  obtain ⟨v1, ev1⟩ : ∃ y : Int32, y = (x5 ||| (1 <<< (x7 &&& 31))) := ⟨_, rfl⟩
  have k := k v1 ev1
  rw [← ev1]
  refine E_istore (pc := 277) (ls' := [some (.ref 308), some (.int x1), none, some (.int x3), some (.int x4), some (.int v1), some (.int x6), some (.int x7), none, none]) ddX9_cycle_277 (Nat.le_of_ble_eq_true rfl) rfl rfl ?_
  refine E_iinc (pc := 279) (v := (x6 + 1)) (ls' := [some (.ref 308), some (.int x1), none, some (.int x3), some (.int x4), some (.int v1), some (.int (x6 + 1)), some (.int x7), none, none]) ddX9_cycle_279 rfl rfl (Nat.le_of_ble_eq_true rfl) rfl rfl ?_
  refine E_iinc (pc := 282) (v := (x7 + 1)) (ls' := [some (.ref 308), some (.int x1), none, some (.int x3), some (.int x4), some (.int v1), some (.int (x6 + 1)), some (.int (x7 + 1)), none, none]) ddX9_cycle_282 rfl rfl (Nat.le_of_ble_eq_true rfl) rfl rfl ?_
  refine E_goto (pc := 285) (tgt := 190) ddX9_cycle_285 (by decide) ?_
  exact k
/-! X9_stepIn, labels [5, 40, 51, 68, 81, 108] -/
set_option maxRecDepth 100000 in
set_option maxHeartbeats 4000000 in
theorem B_X9_stepIn_0 {mc ms : Nat} {z : Zt} {I : It} {Q : Option Value → Zt → It → Prop} {x1 : Int32} (ho : isO z)
    (k : E mX9_waits 0 0 0 [some (.ref 308), some (.int x1), none, none, none] [] z I (fun r z' I' => E mX9_stepIn mc ms 5 [some (.ref 308), some (.int x1), none, none, none] (r.toList ++ []) z' I' Q)) :
    E mX9_stepIn mc ms 0 [some (.ref 308), some (.int x1), none, none, none] [] z I Q := by
  refine E_aload_n (pc := 0) (x := 308) ddX9_stepIn_0 rfl rfl ?_
  refine E_iload_n (pc := 1) (x := x1) ddX9_stepIn_1 rfl rfl ?_
  exact E_callV (pc := 2) (As := [.int x1]) (st := []) (a := 308) ddX9_stepIn_2 hX9_waits ⟨(Nat.le_of_ble_eq_true rfl), (Nat.le_of_ble_eq_true rfl)⟩ w_4_88 (ci := 8) rfl rfl ho.s0 rfl rfl (Nat.le_of_ble_eq_true rfl) (e_cc rfl e_cn) (Nat.le_of_ble_eq_true rfl) k
set_option maxRecDepth 100000 in
set_option maxHeartbeats 4000000 in
theorem B_X9_stepIn_5 {mc ms : Nat} {z : Zt} {I : It} {Q : Option Value → Zt → It → Prop} {x1 y0 : Int32} (ho : isO z)
    (k : ∃ j1 : Nat, (x1 + 0) = nI j1 ∧ j1 < 6880 ∧ ((y0 ≤ (I 309 j1)) → ∀ I2 : It, I2 = e_st I 309 j1 (I 309 j1) → E mX9_stepIn mc ms 40 [some (.ref 308), some (.int x1), none, some (.int 0), none] [] z I2 Q) ∧
    ((¬ y0 ≤ (I 309 j1)) → ∀ I2 : It, I2 = e_st I 309 j1 y0 → E mX9_stepIn mc ms 40 [some (.ref 308), some (.int x1), none, some (.int 0), none] [] z I2 Q)) :
    E mX9_stepIn mc ms 5 [some (.ref 308), some (.int x1), none, none, none] [.int y0] z I Q := by
  refine E_istore_n (pc := 5) (ls' := [some (.ref 308), some (.int x1), some (.int y0), none, none]) ddX9_stepIn_5 rfl (Nat.le_of_ble_eq_true rfl) rfl rfl ?_
  refine E_aload_n (pc := 6) (x := 308) ddX9_stepIn_6 rfl rfl ?_
  refine E_getR (pc := 7) (x := 309) ddX9_stepIn_7 ec_8 0 (Nat.le_of_ble_eq_true rfl) rfl w_3_182 ho.s0 ho.r0 (by decide) ?_
  refine E_iload_n (pc := 10) (x := x1) ddX9_stepIn_10 rfl rfl ?_
  refine E_iconst (pc := 11) (v := 0) ddX9_stepIn_11 rfl ?_
  refine E_iadd (pc := 12) ddX9_stepIn_12 ?_
  refine E_iload_n (pc := 13) (x := y0) ddX9_stepIn_13 rfl rfl ?_
  refine E_aload_n (pc := 14) (x := 308) ddX9_stepIn_14 rfl rfl ?_
  refine E_getR (pc := 15) (x := 309) ddX9_stepIn_15 ec_8 0 (Nat.le_of_ble_eq_true rfl) rfl w_3_182 ho.s0 ho.r0 (by decide) ?_
  refine E_iload_n (pc := 18) (x := x1) ddX9_stepIn_18 rfl rfl ?_
  refine E_iconst (pc := 19) (v := 0) ddX9_stepIn_19 rfl ?_
  refine E_iadd (pc := 20) ddX9_stepIn_20 ?_
  obtain ⟨j1, ij1, lj1, k⟩ := k
  refine E_ialdN (pc := 21) (j := j1) ddX9_stepIn_21 ho.s1 ij1 lj1 (Nat.le_of_ble_eq_true rfl) ?_
  refine E_icmp_le (pc := 22) (tgt := 29) ddX9_stepIn_22 (by decide) (fun h => ?_) (fun h => ?_)
  · have k := k.1 h
    refine E_aload_n (pc := 29) (x := 308) ddX9_stepIn_29 rfl rfl ?_
    refine E_getR (pc := 30) (x := 309) ddX9_stepIn_30 ec_8 0 (Nat.le_of_ble_eq_true rfl) rfl w_3_182 ho.s0 ho.r0 (by decide) ?_
    refine E_iload_n (pc := 33) (x := x1) ddX9_stepIn_33 rfl rfl ?_
    refine E_iconst (pc := 34) (v := 0) ddX9_stepIn_34 rfl ?_
    refine E_iadd (pc := 35) ddX9_stepIn_35 ?_
    refine E_ialdN (pc := 36) (j := j1) ddX9_stepIn_36 ho.s1 ij1 lj1 (Nat.le_of_ble_eq_true rfl) ?_
    obtain ⟨I2, eI2⟩ : ∃ y : It, y = e_st I 309 j1 (I 309 j1) := ⟨_, rfl⟩
    have k := k I2 eI2
    refine E_iastN (pc := 37) (j := j1) ddX9_stepIn_37 ho.s1 (by decide) ij1 lj1 (Nat.le_of_ble_eq_true rfl) ?_
    rw [← eI2]
    refine E_iconst (pc := 38) (v := 0) ddX9_stepIn_38 rfl ?_
    refine E_istore_n (pc := 39) (ls' := [some (.ref 308), some (.int x1), some (.int y0), some (.int 0), none]) ddX9_stepIn_39 rfl (Nat.le_of_ble_eq_true rfl) rfl rfl ?_
    exact E.forget k ⟨rfl, ⟨rfl, ⟨rfl, trivial⟩⟩⟩
  · have k := k.2 h
    refine E_iload_n (pc := 25) (x := y0) ddX9_stepIn_25 rfl rfl ?_
    refine E_goto (pc := 26) (tgt := 37) ddX9_stepIn_26 (by decide) ?_
    obtain ⟨I2, eI2⟩ : ∃ y : It, y = e_st I 309 j1 y0 := ⟨_, rfl⟩
    have k := k I2 eI2
    refine E_iastN (pc := 37) (j := j1) ddX9_stepIn_37 ho.s1 (by decide) ij1 lj1 (Nat.le_of_ble_eq_true rfl) ?_
    rw [← eI2]
    refine E_iconst (pc := 38) (v := 0) ddX9_stepIn_38 rfl ?_
    refine E_istore_n (pc := 39) (ls' := [some (.ref 308), some (.int x1), some (.int y0), some (.int 0), none]) ddX9_stepIn_39 rfl (Nat.le_of_ble_eq_true rfl) rfl rfl ?_
    exact E.forget k ⟨rfl, ⟨rfl, ⟨rfl, trivial⟩⟩⟩
set_option maxRecDepth 100000 in
set_option maxHeartbeats 4000000 in
theorem B_X9_stepIn_40 {mc ms : Nat} {z : Zt} {I : It} {Q : Option Value → Zt → It → Prop} {x1 x3 : Int32} (ho : isO z)
    (k : ((40 ≤ x3) → E mX9_stepIn mc ms 81 [some (.ref 308), some (.int x1), none, some (.int x3), none] [] z I Q) ∧
    ((¬ 40 ≤ x3) → E mX9_waits 0 0 0 [some (.ref 308), some (.int x1), none, none, none] [] z I (fun r z' I' => E mX9_stepIn mc ms 51 [some (.ref 308), some (.int x1), none, some (.int x3), none] (r.toList ++ []) z' I' Q))) :
    E mX9_stepIn mc ms 40 [some (.ref 308), some (.int x1), none, some (.int x3), none] [] z I Q := by
  refine E_iload_n (pc := 40) (x := x3) ddX9_stepIn_40 rfl rfl ?_
  refine E_bipush (pc := 41) (v := 40) ddX9_stepIn_41 rfl ?_
  refine E_icmp_ge (pc := 43) (tgt := 81) ddX9_stepIn_43 (by decide) (fun h => ?_) (fun h => ?_)
  · have k := k.1 h
    exact k
  · have k := k.2 h
    refine E_aload_n (pc := 46) (x := 308) ddX9_stepIn_46 rfl rfl ?_
    refine E_iload_n (pc := 47) (x := x1) ddX9_stepIn_47 rfl rfl ?_
    exact E_callV (pc := 48) (As := [.int x1]) (st := []) (a := 308) ddX9_stepIn_48 hX9_waits ⟨(Nat.le_of_ble_eq_true rfl), (Nat.le_of_ble_eq_true rfl)⟩ w_4_88 (ci := 8) rfl rfl ho.s0 rfl rfl (Nat.le_of_ble_eq_true rfl) (e_cc rfl e_cn) (Nat.le_of_ble_eq_true rfl) k
set_option maxRecDepth 100000 in
set_option maxHeartbeats 4000000 in
theorem B_X9_stepIn_81 {mc ms : Nat} {z : Zt} {I : It} {Q : Option Value → Zt → It → Prop} {x1 x3 : Int32} (ho : isO z)
    (k : ((¬ x3 = 40) → Q none z I) ∧
    ((x3 = 40) → ∃ j1 : Nat, (x1 + 2) = nI j1 ∧ j1 < 6880 ∧ ∀ I2 : It, I2 = e_st I 309 j1 1 → ∃ j3 : Nat, (x1 + 3) = nI j3 ∧ j3 < 6880 ∧ ∀ I4 : It, I4 = e_st I2 309 j3 0 → E mX9_stepIn mc ms 108 [some (.ref 308), some (.int x1), none, none, some (.int 0)] [] z I4 Q)) :
    E mX9_stepIn mc ms 81 [some (.ref 308), some (.int x1), none, some (.int x3), none] [] z I Q := by
  refine E_iload_n (pc := 81) (x := x3) ddX9_stepIn_81 rfl rfl ?_
  refine E_bipush (pc := 82) (v := 40) ddX9_stepIn_82 rfl ?_
  refine E_icmp_ne (pc := 84) (tgt := 137) ddX9_stepIn_84 (by decide) (fun h => ?_) (fun h => ?_)
  · have k := k.1 h
    exact E_vret (pc := 137) ddX9_stepIn_137 rfl k
  · have k := k.2 h
    refine E_aload_n (pc := 87) (x := 308) ddX9_stepIn_87 rfl rfl ?_
    refine E_getR (pc := 88) (x := 309) ddX9_stepIn_88 ec_8 0 (Nat.le_of_ble_eq_true rfl) rfl w_3_182 ho.s0 ho.r0 (by decide) ?_
    refine E_iload_n (pc := 91) (x := x1) ddX9_stepIn_91 rfl rfl ?_
    refine E_iconst (pc := 92) (v := 2) ddX9_stepIn_92 rfl ?_
    refine E_iadd (pc := 93) ddX9_stepIn_93 ?_
    refine E_iconst (pc := 94) (v := 1) ddX9_stepIn_94 rfl ?_
    obtain ⟨j1, ij1, lj1, k⟩ := k
    obtain ⟨I2, eI2⟩ : ∃ y : It, y = e_st I 309 j1 1 := ⟨_, rfl⟩
    have k := k I2 eI2
    refine E_iastN (pc := 95) (j := j1) ddX9_stepIn_95 ho.s1 (by decide) ij1 lj1 (Nat.le_of_ble_eq_true rfl) ?_
    rw [← eI2]
    refine E_aload_n (pc := 96) (x := 308) ddX9_stepIn_96 rfl rfl ?_
    refine E_getR (pc := 97) (x := 309) ddX9_stepIn_97 ec_8 0 (Nat.le_of_ble_eq_true rfl) rfl w_3_182 ho.s0 ho.r0 (by decide) ?_
    refine E_iload_n (pc := 100) (x := x1) ddX9_stepIn_100 rfl rfl ?_
    refine E_iconst (pc := 101) (v := 3) ddX9_stepIn_101 rfl ?_
    refine E_iadd (pc := 102) ddX9_stepIn_102 ?_
    refine E_iconst (pc := 103) (v := 0) ddX9_stepIn_103 rfl ?_
    obtain ⟨j3, ij3, lj3, k⟩ := k
    obtain ⟨I4, eI4⟩ : ∃ y : It, y = e_st I2 309 j3 0 := ⟨_, rfl⟩
    have k := k I4 eI4
    refine E_iastN (pc := 104) (j := j3) ddX9_stepIn_104 ho.s1 (by decide) ij3 lj3 (Nat.le_of_ble_eq_true rfl) ?_
    rw [← eI4]
    refine E_iconst (pc := 105) (v := 0) ddX9_stepIn_105 rfl ?_
    refine E_istore (pc := 106) (ls' := [some (.ref 308), some (.int x1), none, some (.int x3), some (.int 0)]) ddX9_stepIn_106 (Nat.le_of_ble_eq_true rfl) rfl rfl ?_
    exact E.forget k ⟨rfl, ⟨rfl, ⟨rfl, trivial⟩⟩⟩
set_option maxRecDepth 100000 in
set_option maxHeartbeats 4000000 in
theorem B_X9_stepIn_51 {mc ms : Nat} {z : Zt} {I : It} {Q : Option Value → Zt → It → Prop} {x1 x3 y0 : Int32} (ho : isO z)
    (k : ∃ j1 : Nat, (x1 + 0) = nI j1 ∧ j1 < 6880 ∧ ((¬ y0 = (I 309 j1)) → E mX9_stepIn mc ms 81 [some (.ref 308), some (.int x1), none, some (.int x3), none] [] z I Q) ∧
    ((y0 = (I 309 j1)) → E mX9_cycle 0 0 0 [some (.ref 308), some (.int x1), none, none, none, none, none, none, none, none] [] z I (fun r z' I' => E mX9_stepIn mc ms 68 [some (.ref 308), some (.int x1), none, none, none] (r.toList ++ [.int x3]) z' I' Q))) :
    E mX9_stepIn mc ms 51 [some (.ref 308), some (.int x1), none, some (.int x3), none] [.int y0] z I Q := by
  refine E_aload_n (pc := 51) (x := 308) ddX9_stepIn_51 rfl rfl ?_
  refine E_getR (pc := 52) (x := 309) ddX9_stepIn_52 ec_8 0 (Nat.le_of_ble_eq_true rfl) rfl w_3_182 ho.s0 ho.r0 (by decide) ?_
  refine E_iload_n (pc := 55) (x := x1) ddX9_stepIn_55 rfl rfl ?_
  refine E_iconst (pc := 56) (v := 0) ddX9_stepIn_56 rfl ?_
  refine E_iadd (pc := 57) ddX9_stepIn_57 ?_
  obtain ⟨j1, ij1, lj1, k⟩ := k
  refine E_ialdN (pc := 58) (j := j1) ddX9_stepIn_58 ho.s1 ij1 lj1 (Nat.le_of_ble_eq_true rfl) ?_
  refine E_icmp_ne (pc := 59) (tgt := 81) ddX9_stepIn_59 (by decide) (fun h => ?_) (fun h => ?_)
  · have k := k.1 h
    exact k
  · have k := k.2 h
    refine E_iload_n (pc := 62) (x := x3) ddX9_stepIn_62 rfl rfl ?_
    refine E_aload_n (pc := 63) (x := 308) ddX9_stepIn_63 rfl rfl ?_
    refine E_iload_n (pc := 64) (x := x1) ddX9_stepIn_64 rfl rfl ?_
    exact E_callV (pc := 65) (As := [.int x1]) (st := [.int x3]) (a := 308) ddX9_stepIn_65 hX9_cycle ⟨(Nat.le_of_ble_eq_true rfl), (Nat.le_of_ble_eq_true rfl)⟩ w_4_112 (ci := 8) rfl rfl ho.s0 rfl rfl (Nat.le_of_ble_eq_true rfl) (e_cc rfl e_cn) (Nat.le_of_ble_eq_true rfl) (E.mono k fun _ _ _ q => E.forget q ⟨rfl, ⟨rfl, trivial⟩⟩)
set_option maxRecDepth 100000 in
set_option maxHeartbeats 4000000 in
theorem B_X9_stepIn_108 {mc ms : Nat} {z : Zt} {I : It} {Q : Option Value → Zt → It → Prop} {x1 x4 : Int32} (ho : isO z)
    (k : (((I 308 2) ≤ x4) → Q none z I) ∧
    ((¬ (I 308 2) ≤ x4) → ∃ j1 : Nat, ((x1 + 184) + x4) = nI j1 ∧ j1 < 6880 ∧ ∀ I2 : It, I2 = e_st I 309 j1 0 → E mX9_stepIn mc ms 108 [some (.ref 308), some (.int x1), none, none, some (.int (x4 + 1))] [] z I2 Q)) :
    E mX9_stepIn mc ms 108 [some (.ref 308), some (.int x1), none, none, some (.int x4)] [] z I Q := by
  refine E_iload (pc := 108) (x := x4) ddX9_stepIn_108 rfl ?_
  refine E_aload_n (pc := 110) (x := 308) ddX9_stepIn_110 rfl rfl ?_
  refine E_getI (pc := 111) ddX9_stepIn_111 ec_8 2 (Nat.le_of_ble_eq_true rfl) rfl w_3_184 ho.s0 ?_
  refine E_icmp_ge (pc := 114) (tgt := 137) ddX9_stepIn_114 (by decide) (fun h => ?_) (fun h => ?_)
  · have k := k.1 h
    exact E_vret (pc := 137) ddX9_stepIn_137 rfl k
  · have k := k.2 h
    refine E_aload_n (pc := 117) (x := 308) ddX9_stepIn_117 rfl rfl ?_
    refine E_getR (pc := 118) (x := 309) ddX9_stepIn_118 ec_8 0 (Nat.le_of_ble_eq_true rfl) rfl w_3_182 ho.s0 ho.r0 (by decide) ?_
    refine E_iload_n (pc := 121) (x := x1) ddX9_stepIn_121 rfl rfl ?_
    refine E_sipush (pc := 122) (v := 184) ddX9_stepIn_122 rfl ?_
    refine E_iadd (pc := 125) ddX9_stepIn_125 ?_
    refine E_iload (pc := 126) (x := x4) ddX9_stepIn_126 rfl ?_
    refine E_iadd (pc := 128) ddX9_stepIn_128 ?_
    refine E_iconst (pc := 129) (v := 0) ddX9_stepIn_129 rfl ?_
    obtain ⟨j1, ij1, lj1, k⟩ := k
    obtain ⟨I2, eI2⟩ : ∃ y : It, y = e_st I 309 j1 0 := ⟨_, rfl⟩
    have k := k I2 eI2
    refine E_iastN (pc := 130) (j := j1) ddX9_stepIn_130 ho.s1 (by decide) ij1 lj1 (Nat.le_of_ble_eq_true rfl) ?_
    rw [← eI2]
    refine E_iinc (pc := 131) (v := (x4 + 1)) (ls' := [some (.ref 308), some (.int x1), none, none, some (.int (x4 + 1))]) ddX9_stepIn_131 rfl rfl (Nat.le_of_ble_eq_true rfl) rfl rfl ?_
    refine E_goto (pc := 134) (tgt := 108) ddX9_stepIn_134 (by decide) ?_
    exact k
set_option maxRecDepth 100000 in
set_option maxHeartbeats 4000000 in
theorem B_X9_stepIn_68 {mc ms : Nat} {z : Zt} {I : It} {Q : Option Value → Zt → It → Prop} {x1 y0 y1 : Int32} (ho : isO z)
    (k : ((y0 ≤ 0) → ∀ v1 : Int32, v1 = (y1 + 0) → E mX9_stepIn mc ms 40 [some (.ref 308), some (.int x1), none, some (.int v1), none] [] z I Q) ∧
    ((¬ y0 ≤ 0) → ∀ v1 : Int32, v1 = (y1 + 1) → E mX9_stepIn mc ms 40 [some (.ref 308), some (.int x1), none, some (.int v1), none] [] z I Q)) :
    E mX9_stepIn mc ms 68 [some (.ref 308), some (.int x1), none, none, none] [.int y0, .int y1] z I Q := by
  refine E_if_le (pc := 68) (tgt := 75) ddX9_stepIn_68 (by decide) (fun h => ?_) (fun h => ?_)
  · have k := k.1 h
    refine E_iconst (pc := 75) (v := 0) ddX9_stepIn_75 rfl ?_
    refine E_iadd (pc := 76) ddX9_stepIn_76 ?_
    obtain ⟨v1, ev1⟩ : ∃ y : Int32, y = (y1 + 0) := ⟨_, rfl⟩
    have k := k v1 ev1
    rw [← ev1]
    refine E_istore_n (pc := 77) (ls' := [some (.ref 308), some (.int x1), none, some (.int v1), none]) ddX9_stepIn_77 rfl (Nat.le_of_ble_eq_true rfl) rfl rfl ?_
    refine E_goto (pc := 78) (tgt := 40) ddX9_stepIn_78 (by decide) ?_
    exact k
  · have k := k.2 h
    refine E_iconst (pc := 71) (v := 1) ddX9_stepIn_71 rfl ?_
    refine E_goto (pc := 72) (tgt := 76) ddX9_stepIn_72 (by decide) ?_
    refine E_iadd (pc := 76) ddX9_stepIn_76 ?_
    obtain ⟨v1, ev1⟩ : ∃ y : Int32, y = (y1 + 1) := ⟨_, rfl⟩
    have k := k v1 ev1
    rw [← ev1]
    refine E_istore_n (pc := 77) (ls' := [some (.ref 308), some (.int x1), none, some (.int v1), none]) ddX9_stepIn_77 rfl (Nat.le_of_ble_eq_true rfl) rfl rfl ?_
    refine E_goto (pc := 78) (tgt := 40) ddX9_stepIn_78 (by decide) ?_
    exact k
/-! X9_feed, labels [] -/
set_option maxRecDepth 100000 in
set_option maxHeartbeats 4000000 in
theorem B_X9_feed_0 {mc ms : Nat} {z : Zt} {I : It} {Q : Option Value → Zt → It → Prop} {x1 : Int32} (ho : isO z)
    (k : ((x1 < 0) → Q (some (.int (-1000000002))) z I) ∧
    ((¬ x1 < 0) → ((255 < x1) → Q (some (.int (-1000000002))) z I) ∧
    ((¬ 255 < x1) → ((¬ (I 308 12) = 200) → ∃ j1 : Nat, (I 308 12) = nI j1 ∧ j1 < 200 ∧ ∀ I2 : It, I2 = e_st I 314 j1 x1 → ∀ I3 : It, I3 = e_st I2 308 12 ((I2 308 12) + 1) → Q (some (.int (I3 308 12))) z I3) ∧
    (((I 308 12) = 200) → Q (some (.int (-1000000004))) z I)))) :
    E mX9_feed mc ms 0 [some (.ref 308), some (.int x1)] [] z I Q := by
  refine E_iload_n (pc := 0) (x := x1) ddX9_feed_0 rfl rfl ?_
  refine E_iconst (pc := 1) (v := 0) ddX9_feed_1 rfl ?_
  refine E_sipush (pc := 2) (v := 255) ddX9_feed_2 rfl ?_
  refine E_callS (pc := 5) (As := [.int x1, .int 0, .int 255]) (st := []) ddX9_feed_5 hX9_in ⟨(Nat.le_of_ble_eq_true rfl), (Nat.le_of_ble_eq_true rfl)⟩ w_4_13 rfl rfl (Nat.le_of_ble_eq_true rfl) (e_cc rfl (e_cc rfl (e_cc rfl e_cn))) (Nat.le_of_ble_eq_true rfl) ?_
  refine (show E mX9_in 0 0 0 [some (.int x1), some (.int 0), some (.int 255)] [] z I _ from ?_)
  refine E_iload_n (pc := 0) (x := x1) ddX9_in_0 rfl rfl ?_
  refine E_iload_n (pc := 1) (x := 0) ddX9_in_1 rfl rfl ?_
  refine E_icmp_lt (pc := 2) (tgt := 14) ddX9_in_2 (by decide) (fun h => ?_) (fun h => ?_)
  · have k := k.1 h
    refine E_iconst (pc := 14) (v := 0) ddX9_in_14 rfl ?_
    refine E_zret (pc := 15) ddX9_in_15 rfl (by decide) ?_
    refine (show E mX9_feed mc ms 8 [some (.ref 308), some (.int x1)] [.int 0] z I Q from ?_)
    refine E_if_ne (pc := 8) (tgt := 14) ddX9_feed_8 (by decide) (fun h => absurd h (by decide)) (fun _ => ?_)
    refine E_ldc (pc := 11) (v := (-1000000002)) ddX9_feed_11 w_4_16 ?_
    exact E_iret (pc := 13) ddX9_feed_13 rfl k
  · have k := k.2 h
    refine E_iload_n (pc := 5) (x := x1) ddX9_in_5 rfl rfl ?_
    refine E_iload_n (pc := 6) (x := 255) ddX9_in_6 rfl rfl ?_
    refine E_icmp_gt (pc := 7) (tgt := 14) ddX9_in_7 (by decide) (fun h => ?_) (fun h => ?_)
    · have k := k.1 h
      refine E_iconst (pc := 14) (v := 0) ddX9_in_14 rfl ?_
      refine E_zret (pc := 15) ddX9_in_15 rfl (by decide) ?_
      refine (show E mX9_feed mc ms 8 [some (.ref 308), some (.int x1)] [.int 0] z I Q from ?_)
      refine E_if_ne (pc := 8) (tgt := 14) ddX9_feed_8 (by decide) (fun h => absurd h (by decide)) (fun _ => ?_)
      refine E_ldc (pc := 11) (v := (-1000000002)) ddX9_feed_11 w_4_16 ?_
      exact E_iret (pc := 13) ddX9_feed_13 rfl k
    · have k := k.2 h
      refine E_iconst (pc := 10) (v := 1) ddX9_in_10 rfl ?_
      refine E_goto (pc := 11) (tgt := 15) ddX9_in_11 (by decide) ?_
      refine E_zret (pc := 15) ddX9_in_15 rfl (by decide) ?_
      refine (show E mX9_feed mc ms 8 [some (.ref 308), some (.int x1)] [.int 1] z I Q from ?_)
      refine E_if_ne (pc := 8) (tgt := 14) ddX9_feed_8 (by decide) (fun _ => ?_) (fun h => absurd h (by decide))
      refine E_aload_n (pc := 14) (x := 308) ddX9_feed_14 rfl rfl ?_
      refine E_getI (pc := 15) ddX9_feed_15 ec_8 12 (Nat.le_of_ble_eq_true rfl) rfl w_3_194 ho.s0 ?_
      refine E_sipush (pc := 18) (v := 200) ddX9_feed_18 rfl ?_
      refine E_icmp_ne (pc := 21) (tgt := 27) ddX9_feed_21 (by decide) (fun h => ?_) (fun h => ?_)
      · have k := k.1 h
        refine E_aload_n (pc := 27) (x := 308) ddX9_feed_27 rfl rfl ?_
        refine E_getR (pc := 28) (x := 314) ddX9_feed_28 ec_8 11 (Nat.le_of_ble_eq_true rfl) rfl w_3_193 ho.s0 ho.r11 (by decide) ?_
        refine E_aload_n (pc := 31) (x := 308) ddX9_feed_31 rfl rfl ?_
        refine E_getI (pc := 32) ddX9_feed_32 ec_8 12 (Nat.le_of_ble_eq_true rfl) rfl w_3_194 ho.s0 ?_
        refine E_iload_n (pc := 35) (x := x1) ddX9_feed_35 rfl rfl ?_
        obtain ⟨j1, ij1, lj1, k⟩ := k
        obtain ⟨I2, eI2⟩ : ∃ y : It, y = e_st I 314 j1 x1 := ⟨_, rfl⟩
        have k := k I2 eI2
        refine E_iastN (pc := 36) (j := j1) ddX9_feed_36 ho.s6 (by decide) ij1 lj1 (Nat.le_of_ble_eq_true rfl) ?_
        rw [← eI2]
        refine E_aload_n (pc := 37) (x := 308) ddX9_feed_37 rfl rfl ?_
        refine E_dupr (pc := 38) ddX9_feed_38 ?_
        refine E_getI (pc := 39) ddX9_feed_39 ec_8 12 (Nat.le_of_ble_eq_true rfl) rfl w_3_194 ho.s0 ?_
        refine E_iconst (pc := 42) (v := 1) ddX9_feed_42 rfl ?_
        refine E_iadd (pc := 43) ddX9_feed_43 ?_
        obtain ⟨I3, eI3⟩ : ∃ y : It, y = e_st I2 308 12 ((I2 308 12) + 1) := ⟨_, rfl⟩
        have k := k I3 eI3
        refine E_putI (pc := 44) ddX9_feed_44 ec_8 12 (Nat.le_of_ble_eq_true rfl) rfl w_3_194 ho.s0 rfl rfl ?_
        rw [← eI3]
        refine E_aload_n (pc := 47) (x := 308) ddX9_feed_47 rfl rfl ?_
        refine E_getI (pc := 48) ddX9_feed_48 ec_8 12 (Nat.le_of_ble_eq_true rfl) rfl w_3_194 ho.s0 ?_
        exact E_iret (pc := 51) ddX9_feed_51 rfl k
      · have k := k.2 h
        refine E_ldc (pc := 24) (v := (-1000000004)) ddX9_feed_24 w_4_17 ?_
        exact E_iret (pc := 26) ddX9_feed_26 rfl k
/-! X9_here, labels [0] -/
set_option maxRecDepth 100000 in
set_option maxHeartbeats 4000000 in
theorem B_X9_here_0 {mc ms : Nat} {z : Zt} {I : It} {Q : Option Value → Zt → It → Prop} (ho : isO z)
    (k : (((I 308 12) ≤ (I 308 14)) → (((I 308 12) ≤ (I 308 14)) → Q (some (.int (-1))) z I) ∧
    ((¬ (I 308 12) ≤ (I 308 14)) → ∃ j1 : Nat, (I 308 14) = nI j1 ∧ j1 < 200 ∧ Q (some (.int (I 314 j1))) z I)) ∧
    ((¬ (I 308 12) ≤ (I 308 14)) → ∃ j1 : Nat, (I 308 14) = nI j1 ∧ j1 < 200 ∧ ((¬ (I 314 j1) = 32) → (((I 308 12) ≤ (I 308 14)) → Q (some (.int (-1))) z I) ∧
    ((¬ (I 308 12) ≤ (I 308 14)) → Q (some (.int (I 314 j1))) z I)) ∧
    (((I 314 j1) = 32) → ∀ I2 : It, I2 = e_st I 308 14 ((I 308 14) + 1) → E mX9_here mc ms 0 [some (.ref 308)] [] z I2 Q))) :
    E mX9_here mc ms 0 [some (.ref 308)] [] z I Q := by
  refine E_aload_n (pc := 0) (x := 308) ddX9_here_0 rfl rfl ?_
  refine E_getI (pc := 1) ddX9_here_1 ec_8 14 (Nat.le_of_ble_eq_true rfl) rfl w_3_196 ho.s0 ?_
  refine E_aload_n (pc := 4) (x := 308) ddX9_here_4 rfl rfl ?_
  refine E_getI (pc := 5) ddX9_here_5 ec_8 12 (Nat.le_of_ble_eq_true rfl) rfl w_3_194 ho.s0 ?_
  refine E_icmp_ge (pc := 8) (tgt := 38) ddX9_here_8 (by decide) (fun h => ?_) (fun h => ?_)
  · have k := k.1 h
    refine E_aload_n (pc := 38) (x := 308) ddX9_here_38 rfl rfl ?_
    refine E_getI (pc := 39) ddX9_here_39 ec_8 14 (Nat.le_of_ble_eq_true rfl) rfl w_3_196 ho.s0 ?_
    refine E_aload_n (pc := 42) (x := 308) ddX9_here_42 rfl rfl ?_
    refine E_getI (pc := 43) ddX9_here_43 ec_8 12 (Nat.le_of_ble_eq_true rfl) rfl w_3_194 ho.s0 ?_
    refine E_icmp_ge (pc := 46) (tgt := 61) ddX9_here_46 (by decide) (fun h => ?_) (fun h => ?_)
    · have k := k.1 h
      refine E_iconst (pc := 61) (v := (-1)) ddX9_here_61 rfl ?_
      exact E_iret (pc := 62) ddX9_here_62 rfl k
    · have k := k.2 h
      refine E_aload_n (pc := 49) (x := 308) ddX9_here_49 rfl rfl ?_
      refine E_getR (pc := 50) (x := 314) ddX9_here_50 ec_8 11 (Nat.le_of_ble_eq_true rfl) rfl w_3_193 ho.s0 ho.r11 (by decide) ?_
      refine E_aload_n (pc := 53) (x := 308) ddX9_here_53 rfl rfl ?_
      refine E_getI (pc := 54) ddX9_here_54 ec_8 14 (Nat.le_of_ble_eq_true rfl) rfl w_3_196 ho.s0 ?_
      obtain ⟨j1, ij1, lj1, k⟩ := k
      refine E_ialdN (pc := 57) (j := j1) ddX9_here_57 ho.s6 ij1 lj1 (Nat.le_of_ble_eq_true rfl) ?_
      refine E_goto (pc := 58) (tgt := 62) ddX9_here_58 (by decide) ?_
      exact E_iret (pc := 62) ddX9_here_62 rfl k
  · have k := k.2 h
    refine E_aload_n (pc := 11) (x := 308) ddX9_here_11 rfl rfl ?_
    refine E_getR (pc := 12) (x := 314) ddX9_here_12 ec_8 11 (Nat.le_of_ble_eq_true rfl) rfl w_3_193 ho.s0 ho.r11 (by decide) ?_
    refine E_aload_n (pc := 15) (x := 308) ddX9_here_15 rfl rfl ?_
    refine E_getI (pc := 16) ddX9_here_16 ec_8 14 (Nat.le_of_ble_eq_true rfl) rfl w_3_196 ho.s0 ?_
    obtain ⟨j1, ij1, lj1, k⟩ := k
    refine E_ialdN (pc := 19) (j := j1) ddX9_here_19 ho.s6 ij1 lj1 (Nat.le_of_ble_eq_true rfl) ?_
    refine E_bipush (pc := 20) (v := 32) ddX9_here_20 rfl ?_
    refine E_icmp_ne (pc := 22) (tgt := 38) ddX9_here_22 (by decide) (fun h => ?_) (fun h => ?_)
    · have k := k.1 h
      refine E_aload_n (pc := 38) (x := 308) ddX9_here_38 rfl rfl ?_
      refine E_getI (pc := 39) ddX9_here_39 ec_8 14 (Nat.le_of_ble_eq_true rfl) rfl w_3_196 ho.s0 ?_
      refine E_aload_n (pc := 42) (x := 308) ddX9_here_42 rfl rfl ?_
      refine E_getI (pc := 43) ddX9_here_43 ec_8 12 (Nat.le_of_ble_eq_true rfl) rfl w_3_194 ho.s0 ?_
      refine E_icmp_ge (pc := 46) (tgt := 61) ddX9_here_46 (by decide) (fun h => ?_) (fun h => ?_)
      · have k := k.1 h
        refine E_iconst (pc := 61) (v := (-1)) ddX9_here_61 rfl ?_
        exact E_iret (pc := 62) ddX9_here_62 rfl k
      · have k := k.2 h
        refine E_aload_n (pc := 49) (x := 308) ddX9_here_49 rfl rfl ?_
        refine E_getR (pc := 50) (x := 314) ddX9_here_50 ec_8 11 (Nat.le_of_ble_eq_true rfl) rfl w_3_193 ho.s0 ho.r11 (by decide) ?_
        refine E_aload_n (pc := 53) (x := 308) ddX9_here_53 rfl rfl ?_
        refine E_getI (pc := 54) ddX9_here_54 ec_8 14 (Nat.le_of_ble_eq_true rfl) rfl w_3_196 ho.s0 ?_
        refine E_ialdN (pc := 57) (j := j1) ddX9_here_57 ho.s6 ij1 lj1 (Nat.le_of_ble_eq_true rfl) ?_
        refine E_goto (pc := 58) (tgt := 62) ddX9_here_58 (by decide) ?_
        exact E_iret (pc := 62) ddX9_here_62 rfl k
    · have k := k.2 h
      refine E_aload_n (pc := 25) (x := 308) ddX9_here_25 rfl rfl ?_
      refine E_dupr (pc := 26) ddX9_here_26 ?_
      refine E_getI (pc := 27) ddX9_here_27 ec_8 14 (Nat.le_of_ble_eq_true rfl) rfl w_3_196 ho.s0 ?_
      refine E_iconst (pc := 30) (v := 1) ddX9_here_30 rfl ?_
      refine E_iadd (pc := 31) ddX9_here_31 ?_
      obtain ⟨I2, eI2⟩ : ∃ y : It, y = e_st I 308 14 ((I 308 14) + 1) := ⟨_, rfl⟩
      have k := k I2 eI2
      refine E_putI (pc := 32) ddX9_here_32 ec_8 14 (Nat.le_of_ble_eq_true rfl) rfl w_3_196 ho.s0 rfl rfl ?_
      rw [← eI2]
      refine E_goto (pc := 35) (tgt := 0) ddX9_here_35 (by decide) ?_
      exact k
/-! X9_number, labels [4, 45, 126] -/
set_option maxRecDepth 100000 in
set_option maxHeartbeats 4000000 in
theorem B_X9_number_0 {mc ms : Nat} {z : Zt} {I : It} {Q : Option Value → Zt → It → Prop} {x1 x2 : Int32} (ho : isO z)
    (k : E mX9_here 0 0 0 [some (.ref 308)] [] z I (fun r z' I' => E mX9_number mc ms 4 [some (.ref 308), some (.int x1), some (.int x2), none, none] (r.toList ++ []) z' I' Q)) :
    E mX9_number mc ms 0 [some (.ref 308), some (.int x1), some (.int x2), none, none] [] z I Q := by
  refine E_aload_n (pc := 0) (x := 308) ddX9_number_0 rfl rfl ?_
  exact E_callV (pc := 1) (As := []) (st := []) (a := 308) ddX9_number_1 hX9_here ⟨(Nat.le_of_ble_eq_true rfl), (Nat.le_of_ble_eq_true rfl)⟩ w_4_22 (ci := 8) rfl rfl ho.s0 rfl rfl (Nat.le_of_ble_eq_true rfl) e_cn (Nat.le_of_ble_eq_true rfl) k
set_option maxRecDepth 100000 in
set_option maxHeartbeats 4000000 in
theorem B_X9_number_4 {mc ms : Nat} {z : Zt} {I : It} {Q : Option Value → Zt → It → Prop} {x1 x2 y0 : Int32} (ho : isO z)
    (k : ((¬ (I 308 15) = 0) → ((¬ (I 308 15) = 0) → Q (some (.int x1)) z I) ∧
    (((I 308 15) = 0) → ∀ I1 : It, I1 = e_st I 308 15 1 → ∀ I2 : It, I2 = e_st I1 308 16 (I 308 14) → Q (some (.int x1)) z I2)) ∧
    (((I 308 15) = 0) → ((y0 < 48) → ((¬ (I 308 15) = 0) → Q (some (.int x1)) z I) ∧
    (((I 308 15) = 0) → ∀ I1 : It, I1 = e_st I 308 15 1 → ∀ I2 : It, I2 = e_st I1 308 16 (I 308 14) → Q (some (.int x1)) z I2)) ∧
    ((¬ y0 < 48) → ((57 < y0) → ((¬ (I 308 15) = 0) → Q (some (.int x1)) z I) ∧
    (((I 308 15) = 0) → ∀ I1 : It, I1 = e_st I 308 15 1 → ∀ I2 : It, I2 = e_st I1 308 16 (I 308 14) → Q (some (.int x1)) z I2)) ∧
    ((¬ 57 < y0) → ∀ I1 : It, I1 = e_st I 308 17 (I 308 14) → E mX9_number mc ms 45 [some (.ref 308), some (.int x1), some (.int x2), none, some (.int 0)] [] z I1 Q)))) :
    E mX9_number mc ms 4 [some (.ref 308), some (.int x1), some (.int x2), none, none] [.int y0] z I Q := by
  refine E_istore_n (pc := 4) (ls' := [some (.ref 308), some (.int x1), some (.int x2), some (.int y0), none]) ddX9_number_4 rfl (Nat.le_of_ble_eq_true rfl) rfl rfl ?_
  refine E_aload_n (pc := 5) (x := 308) ddX9_number_5 rfl rfl ?_
  refine E_getI (pc := 6) ddX9_number_6 ec_8 15 (Nat.le_of_ble_eq_true rfl) rfl w_3_197 ho.s0 ?_
  refine E_if_ne (pc := 9) (tgt := 23) ddX9_number_9 (by decide) (fun h => ?_) (fun h => ?_)
  · have k := k.1 h
    refine E_aload_n (pc := 23) (x := 308) ddX9_number_23 rfl rfl ?_
    refine E_iconst (pc := 24) (v := 1) ddX9_number_24 rfl ?_
    refine E_aload_n (pc := 25) (x := 308) ddX9_number_25 rfl rfl ?_
    refine E_getI (pc := 26) ddX9_number_26 ec_8 14 (Nat.le_of_ble_eq_true rfl) rfl w_3_196 ho.s0 ?_
    refine E_callV (pc := 29) (As := [.int 1, .int (I 308 14)]) (st := []) (a := 308) ddX9_number_29 hX9_fail ⟨(Nat.le_of_ble_eq_true rfl), (Nat.le_of_ble_eq_true rfl)⟩ w_4_34 (ci := 8) rfl rfl ho.s0 rfl rfl (Nat.le_of_ble_eq_true rfl) (e_cc rfl (e_cc rfl e_cn)) (Nat.le_of_ble_eq_true rfl) ?_
    refine (show E mX9_fail 0 0 0 [some (.ref 308), some (.int 1), some (.int (I 308 14))] [] z I _ from ?_)
    refine E_aload_n (pc := 0) (x := 308) ddX9_fail_0 rfl rfl ?_
    refine E_getI (pc := 1) ddX9_fail_1 ec_8 15 (Nat.le_of_ble_eq_true rfl) rfl w_3_197 ho.s0 ?_
    refine E_if_ne (pc := 4) (tgt := 17) ddX9_fail_4 (by decide) (fun h => ?_) (fun h => ?_)
    · have k := k.1 h
      refine E_vret (pc := 17) ddX9_fail_17 rfl ?_
      refine (show E mX9_number mc ms 32 [some (.ref 308), some (.int x1), some (.int x2), some (.int y0), none] [] z I Q from ?_)
      refine E_iload_n (pc := 32) (x := x1) ddX9_number_32 rfl rfl ?_
      exact E_iret (pc := 33) ddX9_number_33 rfl k
    · have k := k.2 h
      refine E_aload_n (pc := 7) (x := 308) ddX9_fail_7 rfl rfl ?_
      refine E_iload_n (pc := 8) (x := 1) ddX9_fail_8 rfl rfl ?_
      obtain ⟨I1, eI1⟩ : ∃ y : It, y = e_st I 308 15 1 := ⟨_, rfl⟩
      have k := k I1 eI1
      refine E_putI (pc := 9) ddX9_fail_9 ec_8 15 (Nat.le_of_ble_eq_true rfl) rfl w_3_197 ho.s0 rfl rfl ?_
      rw [← eI1]
      refine E_aload_n (pc := 12) (x := 308) ddX9_fail_12 rfl rfl ?_
      refine E_iload_n (pc := 13) (x := (I 308 14)) ddX9_fail_13 rfl rfl ?_
      obtain ⟨I2, eI2⟩ : ∃ y : It, y = e_st I1 308 16 (I 308 14) := ⟨_, rfl⟩
      have k := k I2 eI2
      refine E_putI (pc := 14) ddX9_fail_14 ec_8 16 (Nat.le_of_ble_eq_true rfl) rfl w_3_198 ho.s0 rfl rfl ?_
      rw [← eI2]
      refine E_vret (pc := 17) ddX9_fail_17 rfl ?_
      refine (show E mX9_number mc ms 32 [some (.ref 308), some (.int x1), some (.int x2), some (.int y0), none] [] z I2 Q from ?_)
      refine E_iload_n (pc := 32) (x := x1) ddX9_number_32 rfl rfl ?_
      exact E_iret (pc := 33) ddX9_number_33 rfl k
  · have k := k.2 h
    refine E_iload_n (pc := 12) (x := y0) ddX9_number_12 rfl rfl ?_
    refine E_bipush (pc := 13) (v := 48) ddX9_number_13 rfl ?_
    refine E_bipush (pc := 15) (v := 57) ddX9_number_15 rfl ?_
    refine E_callS (pc := 17) (As := [.int y0, .int 48, .int 57]) (st := []) ddX9_number_17 hX9_in ⟨(Nat.le_of_ble_eq_true rfl), (Nat.le_of_ble_eq_true rfl)⟩ w_4_13 rfl rfl (Nat.le_of_ble_eq_true rfl) (e_cc rfl (e_cc rfl (e_cc rfl e_cn))) (Nat.le_of_ble_eq_true rfl) ?_
    refine (show E mX9_in 0 0 0 [some (.int y0), some (.int 48), some (.int 57)] [] z I _ from ?_)
    refine E_iload_n (pc := 0) (x := y0) ddX9_in_0 rfl rfl ?_
    refine E_iload_n (pc := 1) (x := 48) ddX9_in_1 rfl rfl ?_
    refine E_icmp_lt (pc := 2) (tgt := 14) ddX9_in_2 (by decide) (fun h => ?_) (fun h => ?_)
    · have k := k.1 h
      refine E_iconst (pc := 14) (v := 0) ddX9_in_14 rfl ?_
      refine E_zret (pc := 15) ddX9_in_15 rfl (by decide) ?_
      refine (show E mX9_number mc ms 20 [some (.ref 308), some (.int x1), some (.int x2), some (.int y0), none] [.int 0] z I Q from ?_)
      refine E_if_ne (pc := 20) (tgt := 34) ddX9_number_20 (by decide) (fun h => absurd h (by decide)) (fun _ => ?_)
      refine E_aload_n (pc := 23) (x := 308) ddX9_number_23 rfl rfl ?_
      refine E_iconst (pc := 24) (v := 1) ddX9_number_24 rfl ?_
      refine E_aload_n (pc := 25) (x := 308) ddX9_number_25 rfl rfl ?_
      refine E_getI (pc := 26) ddX9_number_26 ec_8 14 (Nat.le_of_ble_eq_true rfl) rfl w_3_196 ho.s0 ?_
      refine E_callV (pc := 29) (As := [.int 1, .int (I 308 14)]) (st := []) (a := 308) ddX9_number_29 hX9_fail ⟨(Nat.le_of_ble_eq_true rfl), (Nat.le_of_ble_eq_true rfl)⟩ w_4_34 (ci := 8) rfl rfl ho.s0 rfl rfl (Nat.le_of_ble_eq_true rfl) (e_cc rfl (e_cc rfl e_cn)) (Nat.le_of_ble_eq_true rfl) ?_
      refine (show E mX9_fail 0 0 0 [some (.ref 308), some (.int 1), some (.int (I 308 14))] [] z I _ from ?_)
      refine E_aload_n (pc := 0) (x := 308) ddX9_fail_0 rfl rfl ?_
      refine E_getI (pc := 1) ddX9_fail_1 ec_8 15 (Nat.le_of_ble_eq_true rfl) rfl w_3_197 ho.s0 ?_
      refine E_if_ne (pc := 4) (tgt := 17) ddX9_fail_4 (by decide) (fun h => ?_) (fun h => ?_)
      · have k := k.1 h
        refine E_vret (pc := 17) ddX9_fail_17 rfl ?_
        refine (show E mX9_number mc ms 32 [some (.ref 308), some (.int x1), some (.int x2), some (.int y0), none] [] z I Q from ?_)
        refine E_iload_n (pc := 32) (x := x1) ddX9_number_32 rfl rfl ?_
        exact E_iret (pc := 33) ddX9_number_33 rfl k
      · have k := k.2 h
        refine E_aload_n (pc := 7) (x := 308) ddX9_fail_7 rfl rfl ?_
        refine E_iload_n (pc := 8) (x := 1) ddX9_fail_8 rfl rfl ?_
        obtain ⟨I1, eI1⟩ : ∃ y : It, y = e_st I 308 15 1 := ⟨_, rfl⟩
        have k := k I1 eI1
        refine E_putI (pc := 9) ddX9_fail_9 ec_8 15 (Nat.le_of_ble_eq_true rfl) rfl w_3_197 ho.s0 rfl rfl ?_
        rw [← eI1]
        refine E_aload_n (pc := 12) (x := 308) ddX9_fail_12 rfl rfl ?_
        refine E_iload_n (pc := 13) (x := (I 308 14)) ddX9_fail_13 rfl rfl ?_
        obtain ⟨I2, eI2⟩ : ∃ y : It, y = e_st I1 308 16 (I 308 14) := ⟨_, rfl⟩
        have k := k I2 eI2
        refine E_putI (pc := 14) ddX9_fail_14 ec_8 16 (Nat.le_of_ble_eq_true rfl) rfl w_3_198 ho.s0 rfl rfl ?_
        rw [← eI2]
        refine E_vret (pc := 17) ddX9_fail_17 rfl ?_
        refine (show E mX9_number mc ms 32 [some (.ref 308), some (.int x1), some (.int x2), some (.int y0), none] [] z I2 Q from ?_)
        refine E_iload_n (pc := 32) (x := x1) ddX9_number_32 rfl rfl ?_
        exact E_iret (pc := 33) ddX9_number_33 rfl k
    · have k := k.2 h
      refine E_iload_n (pc := 5) (x := y0) ddX9_in_5 rfl rfl ?_
      refine E_iload_n (pc := 6) (x := 57) ddX9_in_6 rfl rfl ?_
      refine E_icmp_gt (pc := 7) (tgt := 14) ddX9_in_7 (by decide) (fun h => ?_) (fun h => ?_)
      · have k := k.1 h
        refine E_iconst (pc := 14) (v := 0) ddX9_in_14 rfl ?_
        refine E_zret (pc := 15) ddX9_in_15 rfl (by decide) ?_
        refine (show E mX9_number mc ms 20 [some (.ref 308), some (.int x1), some (.int x2), some (.int y0), none] [.int 0] z I Q from ?_)
        refine E_if_ne (pc := 20) (tgt := 34) ddX9_number_20 (by decide) (fun h => absurd h (by decide)) (fun _ => ?_)
        refine E_aload_n (pc := 23) (x := 308) ddX9_number_23 rfl rfl ?_
        refine E_iconst (pc := 24) (v := 1) ddX9_number_24 rfl ?_
        refine E_aload_n (pc := 25) (x := 308) ddX9_number_25 rfl rfl ?_
        refine E_getI (pc := 26) ddX9_number_26 ec_8 14 (Nat.le_of_ble_eq_true rfl) rfl w_3_196 ho.s0 ?_
        refine E_callV (pc := 29) (As := [.int 1, .int (I 308 14)]) (st := []) (a := 308) ddX9_number_29 hX9_fail ⟨(Nat.le_of_ble_eq_true rfl), (Nat.le_of_ble_eq_true rfl)⟩ w_4_34 (ci := 8) rfl rfl ho.s0 rfl rfl (Nat.le_of_ble_eq_true rfl) (e_cc rfl (e_cc rfl e_cn)) (Nat.le_of_ble_eq_true rfl) ?_
        refine (show E mX9_fail 0 0 0 [some (.ref 308), some (.int 1), some (.int (I 308 14))] [] z I _ from ?_)
        refine E_aload_n (pc := 0) (x := 308) ddX9_fail_0 rfl rfl ?_
        refine E_getI (pc := 1) ddX9_fail_1 ec_8 15 (Nat.le_of_ble_eq_true rfl) rfl w_3_197 ho.s0 ?_
        refine E_if_ne (pc := 4) (tgt := 17) ddX9_fail_4 (by decide) (fun h => ?_) (fun h => ?_)
        · have k := k.1 h
          refine E_vret (pc := 17) ddX9_fail_17 rfl ?_
          refine (show E mX9_number mc ms 32 [some (.ref 308), some (.int x1), some (.int x2), some (.int y0), none] [] z I Q from ?_)
          refine E_iload_n (pc := 32) (x := x1) ddX9_number_32 rfl rfl ?_
          exact E_iret (pc := 33) ddX9_number_33 rfl k
        · have k := k.2 h
          refine E_aload_n (pc := 7) (x := 308) ddX9_fail_7 rfl rfl ?_
          refine E_iload_n (pc := 8) (x := 1) ddX9_fail_8 rfl rfl ?_
          obtain ⟨I1, eI1⟩ : ∃ y : It, y = e_st I 308 15 1 := ⟨_, rfl⟩
          have k := k I1 eI1
          refine E_putI (pc := 9) ddX9_fail_9 ec_8 15 (Nat.le_of_ble_eq_true rfl) rfl w_3_197 ho.s0 rfl rfl ?_
          rw [← eI1]
          refine E_aload_n (pc := 12) (x := 308) ddX9_fail_12 rfl rfl ?_
          refine E_iload_n (pc := 13) (x := (I 308 14)) ddX9_fail_13 rfl rfl ?_
          obtain ⟨I2, eI2⟩ : ∃ y : It, y = e_st I1 308 16 (I 308 14) := ⟨_, rfl⟩
          have k := k I2 eI2
          refine E_putI (pc := 14) ddX9_fail_14 ec_8 16 (Nat.le_of_ble_eq_true rfl) rfl w_3_198 ho.s0 rfl rfl ?_
          rw [← eI2]
          refine E_vret (pc := 17) ddX9_fail_17 rfl ?_
          refine (show E mX9_number mc ms 32 [some (.ref 308), some (.int x1), some (.int x2), some (.int y0), none] [] z I2 Q from ?_)
          refine E_iload_n (pc := 32) (x := x1) ddX9_number_32 rfl rfl ?_
          exact E_iret (pc := 33) ddX9_number_33 rfl k
      · have k := k.2 h
        refine E_iconst (pc := 10) (v := 1) ddX9_in_10 rfl ?_
        refine E_goto (pc := 11) (tgt := 15) ddX9_in_11 (by decide) ?_
        refine E_zret (pc := 15) ddX9_in_15 rfl (by decide) ?_
        refine (show E mX9_number mc ms 20 [some (.ref 308), some (.int x1), some (.int x2), some (.int y0), none] [.int 1] z I Q from ?_)
        refine E_if_ne (pc := 20) (tgt := 34) ddX9_number_20 (by decide) (fun _ => ?_) (fun h => absurd h (by decide))
        refine E_aload_n (pc := 34) (x := 308) ddX9_number_34 rfl rfl ?_
        refine E_aload_n (pc := 35) (x := 308) ddX9_number_35 rfl rfl ?_
        refine E_getI (pc := 36) ddX9_number_36 ec_8 14 (Nat.le_of_ble_eq_true rfl) rfl w_3_196 ho.s0 ?_
        obtain ⟨I1, eI1⟩ : ∃ y : It, y = e_st I 308 17 (I 308 14) := ⟨_, rfl⟩
        have k := k I1 eI1
        refine E_putI (pc := 39) ddX9_number_39 ec_8 17 (Nat.le_of_ble_eq_true rfl) rfl w_3_199 ho.s0 rfl rfl ?_
        rw [← eI1]
        refine E_iconst (pc := 42) (v := 0) ddX9_number_42 rfl ?_
        refine E_istore (pc := 43) (ls' := [some (.ref 308), some (.int x1), some (.int x2), some (.int y0), some (.int 0)]) ddX9_number_43 (Nat.le_of_ble_eq_true rfl) rfl rfl ?_
        exact E.forget k ⟨rfl, ⟨rfl, ⟨rfl, ⟨rfl, trivial⟩⟩⟩⟩
set_option maxRecDepth 100000 in
set_option maxHeartbeats 4000000 in
theorem B_X9_number_45 {mc ms : Nat} {z : Zt} {I : It} {Q : Option Value → Zt → It → Prop} {x1 x2 x4 : Int32} (ho : isO z)
    (k : (((I 308 12) ≤ (I 308 14)) → E mX9_number mc ms 126 [some (.ref 308), some (.int x1), some (.int x2), none, some (.int x4)] [] z I Q) ∧
    ((¬ (I 308 12) ≤ (I 308 14)) → ∃ j1 : Nat, (I 308 14) = nI j1 ∧ j1 < 200 ∧ (((I 314 j1) < 48) → E mX9_number mc ms 126 [some (.ref 308), some (.int x1), some (.int x2), none, some (.int x4)] [] z I Q) ∧
    ((¬ (I 314 j1) < 48) → ((57 < (I 314 j1)) → E mX9_number mc ms 126 [some (.ref 308), some (.int x1), some (.int x2), none, some (.int x4)] [] z I Q) ∧
    ((¬ 57 < (I 314 j1)) → ((2 ≤ ((I 308 14) - (I 308 17))) → ∀ I2 : It, I2 = e_st I 308 14 ((I 308 14) + 1) → E mX9_number mc ms 45 [some (.ref 308), some (.int x1), some (.int x2), none, some (.int x4)] [] z I2 Q) ∧
    ((¬ 2 ≤ ((I 308 14) - (I 308 17))) → ∀ v2 : Int32, v2 = (((10 * x4) + (I 314 j1)) - 48) → ∀ I3 : It, I3 = e_st I 308 14 ((I 308 14) + 1) → E mX9_number mc ms 45 [some (.ref 308), some (.int x1), some (.int x2), none, some (.int v2)] [] z I3 Q))))) :
    E mX9_number mc ms 45 [some (.ref 308), some (.int x1), some (.int x2), none, some (.int x4)] [] z I Q := by
  refine E_aload_n (pc := 45) (x := 308) ddX9_number_45 rfl rfl ?_
  refine E_getI (pc := 46) ddX9_number_46 ec_8 14 (Nat.le_of_ble_eq_true rfl) rfl w_3_196 ho.s0 ?_
  refine E_aload_n (pc := 49) (x := 308) ddX9_number_49 rfl rfl ?_
  refine E_getI (pc := 50) ddX9_number_50 ec_8 12 (Nat.le_of_ble_eq_true rfl) rfl w_3_194 ho.s0 ?_
  refine E_icmp_ge (pc := 53) (tgt := 126) ddX9_number_53 (by decide) (fun h => ?_) (fun h => ?_)
  · have k := k.1 h
    exact k
  · have k := k.2 h
    refine E_aload_n (pc := 56) (x := 308) ddX9_number_56 rfl rfl ?_
    refine E_getR (pc := 57) (x := 314) ddX9_number_57 ec_8 11 (Nat.le_of_ble_eq_true rfl) rfl w_3_193 ho.s0 ho.r11 (by decide) ?_
    refine E_aload_n (pc := 60) (x := 308) ddX9_number_60 rfl rfl ?_
    refine E_getI (pc := 61) ddX9_number_61 ec_8 14 (Nat.le_of_ble_eq_true rfl) rfl w_3_196 ho.s0 ?_
    obtain ⟨j1, ij1, lj1, k⟩ := k
    refine E_ialdN (pc := 64) (j := j1) ddX9_number_64 ho.s6 ij1 lj1 (Nat.le_of_ble_eq_true rfl) ?_
    refine E_bipush (pc := 65) (v := 48) ddX9_number_65 rfl ?_
    refine E_bipush (pc := 67) (v := 57) ddX9_number_67 rfl ?_
    refine E_callS (pc := 69) (As := [.int (I 314 j1), .int 48, .int 57]) (st := []) ddX9_number_69 hX9_in ⟨(Nat.le_of_ble_eq_true rfl), (Nat.le_of_ble_eq_true rfl)⟩ w_4_13 rfl rfl (Nat.le_of_ble_eq_true rfl) (e_cc rfl (e_cc rfl (e_cc rfl e_cn))) (Nat.le_of_ble_eq_true rfl) ?_
    refine (show E mX9_in 0 0 0 [some (.int (I 314 j1)), some (.int 48), some (.int 57)] [] z I _ from ?_)
    refine E_iload_n (pc := 0) (x := (I 314 j1)) ddX9_in_0 rfl rfl ?_
    refine E_iload_n (pc := 1) (x := 48) ddX9_in_1 rfl rfl ?_
    refine E_icmp_lt (pc := 2) (tgt := 14) ddX9_in_2 (by decide) (fun h => ?_) (fun h => ?_)
    · have k := k.1 h
      refine E_iconst (pc := 14) (v := 0) ddX9_in_14 rfl ?_
      refine E_zret (pc := 15) ddX9_in_15 rfl (by decide) ?_
      refine (show E mX9_number mc ms 72 [some (.ref 308), some (.int x1), some (.int x2), none, some (.int x4)] [.int 0] z I Q from ?_)
      refine E_if_eq (pc := 72) (tgt := 126) ddX9_number_72 (by decide) (fun _ => ?_) (fun h => absurd h (by decide))
      exact k
    · have k := k.2 h
      refine E_iload_n (pc := 5) (x := (I 314 j1)) ddX9_in_5 rfl rfl ?_
      refine E_iload_n (pc := 6) (x := 57) ddX9_in_6 rfl rfl ?_
      refine E_icmp_gt (pc := 7) (tgt := 14) ddX9_in_7 (by decide) (fun h => ?_) (fun h => ?_)
      · have k := k.1 h
        refine E_iconst (pc := 14) (v := 0) ddX9_in_14 rfl ?_
        refine E_zret (pc := 15) ddX9_in_15 rfl (by decide) ?_
        refine (show E mX9_number mc ms 72 [some (.ref 308), some (.int x1), some (.int x2), none, some (.int x4)] [.int 0] z I Q from ?_)
        refine E_if_eq (pc := 72) (tgt := 126) ddX9_number_72 (by decide) (fun _ => ?_) (fun h => absurd h (by decide))
        exact k
      · have k := k.2 h
        refine E_iconst (pc := 10) (v := 1) ddX9_in_10 rfl ?_
        refine E_goto (pc := 11) (tgt := 15) ddX9_in_11 (by decide) ?_
        refine E_zret (pc := 15) ddX9_in_15 rfl (by decide) ?_
        refine (show E mX9_number mc ms 72 [some (.ref 308), some (.int x1), some (.int x2), none, some (.int x4)] [.int 1] z I Q from ?_)
        refine E_if_eq (pc := 72) (tgt := 126) ddX9_number_72 (by decide) (fun h => absurd h (by decide)) (fun _ => ?_)
        refine E_aload_n (pc := 75) (x := 308) ddX9_number_75 rfl rfl ?_
        refine E_getI (pc := 76) ddX9_number_76 ec_8 14 (Nat.le_of_ble_eq_true rfl) rfl w_3_196 ho.s0 ?_
        refine E_aload_n (pc := 79) (x := 308) ddX9_number_79 rfl rfl ?_
        refine E_getI (pc := 80) ddX9_number_80 ec_8 17 (Nat.le_of_ble_eq_true rfl) rfl w_3_199 ho.s0 ?_
        refine E_isub (pc := 83) ddX9_number_83 ?_
        refine E_iconst (pc := 84) (v := 2) ddX9_number_84 rfl ?_
        refine E_icmp_ge (pc := 85) (tgt := 109) ddX9_number_85 (by decide) (fun h => ?_) (fun h => ?_)
        · have k := k.1 h
          refine E_iload (pc := 109) (x := x4) ddX9_number_109 rfl ?_
          refine E_istore (pc := 111) (ls' := [some (.ref 308), some (.int x1), some (.int x2), none, some (.int x4)]) ddX9_number_111 (Nat.le_of_ble_eq_true rfl) rfl rfl ?_
          refine E_aload_n (pc := 113) (x := 308) ddX9_number_113 rfl rfl ?_
          refine E_dupr (pc := 114) ddX9_number_114 ?_
          refine E_getI (pc := 115) ddX9_number_115 ec_8 14 (Nat.le_of_ble_eq_true rfl) rfl w_3_196 ho.s0 ?_
          refine E_iconst (pc := 118) (v := 1) ddX9_number_118 rfl ?_
          refine E_iadd (pc := 119) ddX9_number_119 ?_
          obtain ⟨I2, eI2⟩ : ∃ y : It, y = e_st I 308 14 ((I 308 14) + 1) := ⟨_, rfl⟩
          have k := k I2 eI2
          refine E_putI (pc := 120) ddX9_number_120 ec_8 14 (Nat.le_of_ble_eq_true rfl) rfl w_3_196 ho.s0 rfl rfl ?_
          rw [← eI2]
          refine E_goto (pc := 123) (tgt := 45) ddX9_number_123 (by decide) ?_
          exact k
        · have k := k.2 h
          refine E_bipush (pc := 88) (v := 10) ddX9_number_88 rfl ?_
          refine E_iload (pc := 90) (x := x4) ddX9_number_90 rfl ?_
          refine E_imul (pc := 92) ddX9_number_92 ?_
          refine E_aload_n (pc := 93) (x := 308) ddX9_number_93 rfl rfl ?_
          refine E_getR (pc := 94) (x := 314) ddX9_number_94 ec_8 11 (Nat.le_of_ble_eq_true rfl) rfl w_3_193 ho.s0 ho.r11 (by decide) ?_
          refine E_aload_n (pc := 97) (x := 308) ddX9_number_97 rfl rfl ?_
          refine E_getI (pc := 98) ddX9_number_98 ec_8 14 (Nat.le_of_ble_eq_true rfl) rfl w_3_196 ho.s0 ?_
          refine E_ialdN (pc := 101) (j := j1) ddX9_number_101 ho.s6 ij1 lj1 (Nat.le_of_ble_eq_true rfl) ?_
          refine E_iadd (pc := 102) ddX9_number_102 ?_
          refine E_bipush (pc := 103) (v := 48) ddX9_number_103 rfl ?_
          refine E_isub (pc := 105) ddX9_number_105 ?_
          refine E_goto (pc := 106) (tgt := 111) ddX9_number_106 (by decide) ?_
          obtain ⟨v2, ev2⟩ : ∃ y : Int32, y = (((10 * x4) + (I 314 j1)) - 48) := ⟨_, rfl⟩
          have k := k v2 ev2
          rw [← ev2]
          refine E_istore (pc := 111) (ls' := [some (.ref 308), some (.int x1), some (.int x2), none, some (.int v2)]) ddX9_number_111 (Nat.le_of_ble_eq_true rfl) rfl rfl ?_
          refine E_aload_n (pc := 113) (x := 308) ddX9_number_113 rfl rfl ?_
          refine E_dupr (pc := 114) ddX9_number_114 ?_
          refine E_getI (pc := 115) ddX9_number_115 ec_8 14 (Nat.le_of_ble_eq_true rfl) rfl w_3_196 ho.s0 ?_
          refine E_iconst (pc := 118) (v := 1) ddX9_number_118 rfl ?_
          refine E_iadd (pc := 119) ddX9_number_119 ?_
          obtain ⟨I3, eI3⟩ : ∃ y : It, y = e_st I 308 14 ((I 308 14) + 1) := ⟨_, rfl⟩
          have k := k I3 eI3
          refine E_putI (pc := 120) ddX9_number_120 ec_8 14 (Nat.le_of_ble_eq_true rfl) rfl w_3_196 ho.s0 rfl rfl ?_
          rw [← eI3]
          refine E_goto (pc := 123) (tgt := 45) ddX9_number_123 (by decide) ?_
          exact k
set_option maxRecDepth 100000 in
set_option maxHeartbeats 4000000 in
theorem B_X9_number_126 {mc ms : Nat} {z : Zt} {I : It} {Q : Option Value → Zt → It → Prop} {x1 x2 x4 : Int32} (ho : isO z)
    (k : ((2 < ((I 308 14) - (I 308 17))) → ((¬ (I 308 15) = 0) → Q (some (.int x1)) z I) ∧
    (((I 308 15) = 0) → ∀ I1 : It, I1 = e_st I 308 15 2 → ∀ I2 : It, I2 = e_st I1 308 16 (I 308 17) → Q (some (.int x1)) z I2)) ∧
    ((¬ 2 < ((I 308 14) - (I 308 17))) → ((x4 < x1) → ((¬ (I 308 15) = 0) → Q (some (.int x1)) z I) ∧
    (((I 308 15) = 0) → ∀ I1 : It, I1 = e_st I 308 15 2 → ∀ I2 : It, I2 = e_st I1 308 16 (I 308 17) → Q (some (.int x1)) z I2)) ∧
    ((¬ x4 < x1) → ((x2 < x4) → ((¬ (I 308 15) = 0) → Q (some (.int x1)) z I) ∧
    (((I 308 15) = 0) → ∀ I1 : It, I1 = e_st I 308 15 2 → ∀ I2 : It, I2 = e_st I1 308 16 (I 308 17) → Q (some (.int x1)) z I2)) ∧
    ((¬ x2 < x4) → Q (some (.int x4)) z I)))) :
    E mX9_number mc ms 126 [some (.ref 308), some (.int x1), some (.int x2), none, some (.int x4)] [] z I Q := by
  refine E_aload_n (pc := 126) (x := 308) ddX9_number_126 rfl rfl ?_
  refine E_getI (pc := 127) ddX9_number_127 ec_8 14 (Nat.le_of_ble_eq_true rfl) rfl w_3_196 ho.s0 ?_
  refine E_aload_n (pc := 130) (x := 308) ddX9_number_130 rfl rfl ?_
  refine E_getI (pc := 131) ddX9_number_131 ec_8 17 (Nat.le_of_ble_eq_true rfl) rfl w_3_199 ho.s0 ?_
  refine E_isub (pc := 134) ddX9_number_134 ?_
  refine E_iconst (pc := 135) (v := 2) ddX9_number_135 rfl ?_
  refine E_icmp_gt (pc := 136) (tgt := 149) ddX9_number_136 (by decide) (fun h => ?_) (fun h => ?_)
  · have k := k.1 h
    refine E_aload_n (pc := 149) (x := 308) ddX9_number_149 rfl rfl ?_
    refine E_iconst (pc := 150) (v := 2) ddX9_number_150 rfl ?_
    refine E_aload_n (pc := 151) (x := 308) ddX9_number_151 rfl rfl ?_
    refine E_getI (pc := 152) ddX9_number_152 ec_8 17 (Nat.le_of_ble_eq_true rfl) rfl w_3_199 ho.s0 ?_
    refine E_callV (pc := 155) (As := [.int 2, .int (I 308 17)]) (st := []) (a := 308) ddX9_number_155 hX9_fail ⟨(Nat.le_of_ble_eq_true rfl), (Nat.le_of_ble_eq_true rfl)⟩ w_4_34 (ci := 8) rfl rfl ho.s0 rfl rfl (Nat.le_of_ble_eq_true rfl) (e_cc rfl (e_cc rfl e_cn)) (Nat.le_of_ble_eq_true rfl) ?_
    refine (show E mX9_fail 0 0 0 [some (.ref 308), some (.int 2), some (.int (I 308 17))] [] z I _ from ?_)
    refine E_aload_n (pc := 0) (x := 308) ddX9_fail_0 rfl rfl ?_
    refine E_getI (pc := 1) ddX9_fail_1 ec_8 15 (Nat.le_of_ble_eq_true rfl) rfl w_3_197 ho.s0 ?_
    refine E_if_ne (pc := 4) (tgt := 17) ddX9_fail_4 (by decide) (fun h => ?_) (fun h => ?_)
    · have k := k.1 h
      refine E_vret (pc := 17) ddX9_fail_17 rfl ?_
      refine (show E mX9_number mc ms 158 [some (.ref 308), some (.int x1), some (.int x2), none, some (.int x4)] [] z I Q from ?_)
      refine E_iload_n (pc := 158) (x := x1) ddX9_number_158 rfl rfl ?_
      exact E_iret (pc := 159) ddX9_number_159 rfl k
    · have k := k.2 h
      refine E_aload_n (pc := 7) (x := 308) ddX9_fail_7 rfl rfl ?_
      refine E_iload_n (pc := 8) (x := 2) ddX9_fail_8 rfl rfl ?_
      obtain ⟨I1, eI1⟩ : ∃ y : It, y = e_st I 308 15 2 := ⟨_, rfl⟩
      have k := k I1 eI1
      refine E_putI (pc := 9) ddX9_fail_9 ec_8 15 (Nat.le_of_ble_eq_true rfl) rfl w_3_197 ho.s0 rfl rfl ?_
      rw [← eI1]
      refine E_aload_n (pc := 12) (x := 308) ddX9_fail_12 rfl rfl ?_
      refine E_iload_n (pc := 13) (x := (I 308 17)) ddX9_fail_13 rfl rfl ?_
      obtain ⟨I2, eI2⟩ : ∃ y : It, y = e_st I1 308 16 (I 308 17) := ⟨_, rfl⟩
      have k := k I2 eI2
      refine E_putI (pc := 14) ddX9_fail_14 ec_8 16 (Nat.le_of_ble_eq_true rfl) rfl w_3_198 ho.s0 rfl rfl ?_
      rw [← eI2]
      refine E_vret (pc := 17) ddX9_fail_17 rfl ?_
      refine (show E mX9_number mc ms 158 [some (.ref 308), some (.int x1), some (.int x2), none, some (.int x4)] [] z I2 Q from ?_)
      refine E_iload_n (pc := 158) (x := x1) ddX9_number_158 rfl rfl ?_
      exact E_iret (pc := 159) ddX9_number_159 rfl k
  · have k := k.2 h
    refine E_iload (pc := 139) (x := x4) ddX9_number_139 rfl ?_
    refine E_iload_n (pc := 141) (x := x1) ddX9_number_141 rfl rfl ?_
    refine E_iload_n (pc := 142) (x := x2) ddX9_number_142 rfl rfl ?_
    refine E_callS (pc := 143) (As := [.int x4, .int x1, .int x2]) (st := []) ddX9_number_143 hX9_in ⟨(Nat.le_of_ble_eq_true rfl), (Nat.le_of_ble_eq_true rfl)⟩ w_4_13 rfl rfl (Nat.le_of_ble_eq_true rfl) (e_cc rfl (e_cc rfl (e_cc rfl e_cn))) (Nat.le_of_ble_eq_true rfl) ?_
    refine (show E mX9_in 0 0 0 [some (.int x4), some (.int x1), some (.int x2)] [] z I _ from ?_)
    refine E_iload_n (pc := 0) (x := x4) ddX9_in_0 rfl rfl ?_
    refine E_iload_n (pc := 1) (x := x1) ddX9_in_1 rfl rfl ?_
    refine E_icmp_lt (pc := 2) (tgt := 14) ddX9_in_2 (by decide) (fun h => ?_) (fun h => ?_)
    · have k := k.1 h
      refine E_iconst (pc := 14) (v := 0) ddX9_in_14 rfl ?_
      refine E_zret (pc := 15) ddX9_in_15 rfl (by decide) ?_
      refine (show E mX9_number mc ms 146 [some (.ref 308), some (.int x1), some (.int x2), none, some (.int x4)] [.int 0] z I Q from ?_)
      refine E_if_ne (pc := 146) (tgt := 160) ddX9_number_146 (by decide) (fun h => absurd h (by decide)) (fun _ => ?_)
      refine E_aload_n (pc := 149) (x := 308) ddX9_number_149 rfl rfl ?_
      refine E_iconst (pc := 150) (v := 2) ddX9_number_150 rfl ?_
      refine E_aload_n (pc := 151) (x := 308) ddX9_number_151 rfl rfl ?_
      refine E_getI (pc := 152) ddX9_number_152 ec_8 17 (Nat.le_of_ble_eq_true rfl) rfl w_3_199 ho.s0 ?_
      refine E_callV (pc := 155) (As := [.int 2, .int (I 308 17)]) (st := []) (a := 308) ddX9_number_155 hX9_fail ⟨(Nat.le_of_ble_eq_true rfl), (Nat.le_of_ble_eq_true rfl)⟩ w_4_34 (ci := 8) rfl rfl ho.s0 rfl rfl (Nat.le_of_ble_eq_true rfl) (e_cc rfl (e_cc rfl e_cn)) (Nat.le_of_ble_eq_true rfl) ?_
      refine (show E mX9_fail 0 0 0 [some (.ref 308), some (.int 2), some (.int (I 308 17))] [] z I _ from ?_)
      refine E_aload_n (pc := 0) (x := 308) ddX9_fail_0 rfl rfl ?_
      refine E_getI (pc := 1) ddX9_fail_1 ec_8 15 (Nat.le_of_ble_eq_true rfl) rfl w_3_197 ho.s0 ?_
      refine E_if_ne (pc := 4) (tgt := 17) ddX9_fail_4 (by decide) (fun h => ?_) (fun h => ?_)
      · have k := k.1 h
        refine E_vret (pc := 17) ddX9_fail_17 rfl ?_
        refine (show E mX9_number mc ms 158 [some (.ref 308), some (.int x1), some (.int x2), none, some (.int x4)] [] z I Q from ?_)
        refine E_iload_n (pc := 158) (x := x1) ddX9_number_158 rfl rfl ?_
        exact E_iret (pc := 159) ddX9_number_159 rfl k
      · have k := k.2 h
        refine E_aload_n (pc := 7) (x := 308) ddX9_fail_7 rfl rfl ?_
        refine E_iload_n (pc := 8) (x := 2) ddX9_fail_8 rfl rfl ?_
        obtain ⟨I1, eI1⟩ : ∃ y : It, y = e_st I 308 15 2 := ⟨_, rfl⟩
        have k := k I1 eI1
        refine E_putI (pc := 9) ddX9_fail_9 ec_8 15 (Nat.le_of_ble_eq_true rfl) rfl w_3_197 ho.s0 rfl rfl ?_
        rw [← eI1]
        refine E_aload_n (pc := 12) (x := 308) ddX9_fail_12 rfl rfl ?_
        refine E_iload_n (pc := 13) (x := (I 308 17)) ddX9_fail_13 rfl rfl ?_
        obtain ⟨I2, eI2⟩ : ∃ y : It, y = e_st I1 308 16 (I 308 17) := ⟨_, rfl⟩
        have k := k I2 eI2
        refine E_putI (pc := 14) ddX9_fail_14 ec_8 16 (Nat.le_of_ble_eq_true rfl) rfl w_3_198 ho.s0 rfl rfl ?_
        rw [← eI2]
        refine E_vret (pc := 17) ddX9_fail_17 rfl ?_
        refine (show E mX9_number mc ms 158 [some (.ref 308), some (.int x1), some (.int x2), none, some (.int x4)] [] z I2 Q from ?_)
        refine E_iload_n (pc := 158) (x := x1) ddX9_number_158 rfl rfl ?_
        exact E_iret (pc := 159) ddX9_number_159 rfl k
    · have k := k.2 h
      refine E_iload_n (pc := 5) (x := x4) ddX9_in_5 rfl rfl ?_
      refine E_iload_n (pc := 6) (x := x2) ddX9_in_6 rfl rfl ?_
      refine E_icmp_gt (pc := 7) (tgt := 14) ddX9_in_7 (by decide) (fun h => ?_) (fun h => ?_)
      · have k := k.1 h
        refine E_iconst (pc := 14) (v := 0) ddX9_in_14 rfl ?_
        refine E_zret (pc := 15) ddX9_in_15 rfl (by decide) ?_
        refine (show E mX9_number mc ms 146 [some (.ref 308), some (.int x1), some (.int x2), none, some (.int x4)] [.int 0] z I Q from ?_)
        refine E_if_ne (pc := 146) (tgt := 160) ddX9_number_146 (by decide) (fun h => absurd h (by decide)) (fun _ => ?_)
        refine E_aload_n (pc := 149) (x := 308) ddX9_number_149 rfl rfl ?_
        refine E_iconst (pc := 150) (v := 2) ddX9_number_150 rfl ?_
        refine E_aload_n (pc := 151) (x := 308) ddX9_number_151 rfl rfl ?_
        refine E_getI (pc := 152) ddX9_number_152 ec_8 17 (Nat.le_of_ble_eq_true rfl) rfl w_3_199 ho.s0 ?_
        refine E_callV (pc := 155) (As := [.int 2, .int (I 308 17)]) (st := []) (a := 308) ddX9_number_155 hX9_fail ⟨(Nat.le_of_ble_eq_true rfl), (Nat.le_of_ble_eq_true rfl)⟩ w_4_34 (ci := 8) rfl rfl ho.s0 rfl rfl (Nat.le_of_ble_eq_true rfl) (e_cc rfl (e_cc rfl e_cn)) (Nat.le_of_ble_eq_true rfl) ?_
        refine (show E mX9_fail 0 0 0 [some (.ref 308), some (.int 2), some (.int (I 308 17))] [] z I _ from ?_)
        refine E_aload_n (pc := 0) (x := 308) ddX9_fail_0 rfl rfl ?_
        refine E_getI (pc := 1) ddX9_fail_1 ec_8 15 (Nat.le_of_ble_eq_true rfl) rfl w_3_197 ho.s0 ?_
        refine E_if_ne (pc := 4) (tgt := 17) ddX9_fail_4 (by decide) (fun h => ?_) (fun h => ?_)
        · have k := k.1 h
          refine E_vret (pc := 17) ddX9_fail_17 rfl ?_
          refine (show E mX9_number mc ms 158 [some (.ref 308), some (.int x1), some (.int x2), none, some (.int x4)] [] z I Q from ?_)
          refine E_iload_n (pc := 158) (x := x1) ddX9_number_158 rfl rfl ?_
          exact E_iret (pc := 159) ddX9_number_159 rfl k
        · have k := k.2 h
          refine E_aload_n (pc := 7) (x := 308) ddX9_fail_7 rfl rfl ?_
          refine E_iload_n (pc := 8) (x := 2) ddX9_fail_8 rfl rfl ?_
          obtain ⟨I1, eI1⟩ : ∃ y : It, y = e_st I 308 15 2 := ⟨_, rfl⟩
          have k := k I1 eI1
          refine E_putI (pc := 9) ddX9_fail_9 ec_8 15 (Nat.le_of_ble_eq_true rfl) rfl w_3_197 ho.s0 rfl rfl ?_
          rw [← eI1]
          refine E_aload_n (pc := 12) (x := 308) ddX9_fail_12 rfl rfl ?_
          refine E_iload_n (pc := 13) (x := (I 308 17)) ddX9_fail_13 rfl rfl ?_
          obtain ⟨I2, eI2⟩ : ∃ y : It, y = e_st I1 308 16 (I 308 17) := ⟨_, rfl⟩
          have k := k I2 eI2
          refine E_putI (pc := 14) ddX9_fail_14 ec_8 16 (Nat.le_of_ble_eq_true rfl) rfl w_3_198 ho.s0 rfl rfl ?_
          rw [← eI2]
          refine E_vret (pc := 17) ddX9_fail_17 rfl ?_
          refine (show E mX9_number mc ms 158 [some (.ref 308), some (.int x1), some (.int x2), none, some (.int x4)] [] z I2 Q from ?_)
          refine E_iload_n (pc := 158) (x := x1) ddX9_number_158 rfl rfl ?_
          exact E_iret (pc := 159) ddX9_number_159 rfl k
      · have k := k.2 h
        refine E_iconst (pc := 10) (v := 1) ddX9_in_10 rfl ?_
        refine E_goto (pc := 11) (tgt := 15) ddX9_in_11 (by decide) ?_
        refine E_zret (pc := 15) ddX9_in_15 rfl (by decide) ?_
        refine (show E mX9_number mc ms 146 [some (.ref 308), some (.int x1), some (.int x2), none, some (.int x4)] [.int 1] z I Q from ?_)
        refine E_if_ne (pc := 146) (tgt := 160) ddX9_number_146 (by decide) (fun _ => ?_) (fun h => absurd h (by decide))
        refine E_iload (pc := 160) (x := x4) ddX9_number_160 rfl ?_
        exact E_iret (pc := 162) ddX9_number_162 rfl k
/-! X9_readWire, labels [30] -/
set_option maxRecDepth 100000 in
set_option maxHeartbeats 4000000 in
theorem B_X9_readWire_0 {mc ms : Nat} {z : Zt} {I : It} {Q : Option Value → Zt → It → Prop} {x1 : Int32} (ho : isO z)
    (k : ((¬ (I 308 18) = 8) → E mX9_number 0 0 0 [some (.ref 308), some (.int 0), some (.int 3), none, none] [] z I (fun r z' I' => E mX9_readWire mc ms 30 [some (.ref 308), none] (r.toList ++ [.int (I 308 18), .ref 315]) z' I' Q)) ∧
    (((I 308 18) = 8) → ((¬ (I 308 15) = 0) → Q none z I) ∧
    (((I 308 15) = 0) → ∀ I1 : It, I1 = e_st I 308 15 3 → ∀ I2 : It, I2 = e_st I1 308 16 x1 → Q none z I2))) :
    E mX9_readWire mc ms 0 [some (.ref 308), some (.int x1)] [] z I Q := by
  refine E_aload_n (pc := 0) (x := 308) ddX9_readWire_0 rfl rfl ?_
  refine E_getI (pc := 1) ddX9_readWire_1 ec_8 18 (Nat.le_of_ble_eq_true rfl) rfl w_3_200 ho.s0 ?_
  refine E_bipush (pc := 4) (v := 8) ddX9_readWire_4 rfl ?_
  refine E_icmp_ne (pc := 6) (tgt := 16) ddX9_readWire_6 (by decide) (fun h => ?_) (fun h => ?_)
  · have k := k.1 h
    refine E_aload_n (pc := 16) (x := 308) ddX9_readWire_16 rfl rfl ?_
    refine E_getR (pc := 17) (x := 315) ddX9_readWire_17 ec_8 20 (Nat.le_of_ble_eq_true rfl) rfl w_3_202 ho.s0 ho.r20 (by decide) ?_
    refine E_aload_n (pc := 20) (x := 308) ddX9_readWire_20 rfl rfl ?_
    refine E_getI (pc := 21) ddX9_readWire_21 ec_8 18 (Nat.le_of_ble_eq_true rfl) rfl w_3_200 ho.s0 ?_
    refine E_aload_n (pc := 24) (x := 308) ddX9_readWire_24 rfl rfl ?_
    refine E_iconst (pc := 25) (v := 0) ddX9_readWire_25 rfl ?_
    refine E_iconst (pc := 26) (v := 3) ddX9_readWire_26 rfl ?_
    exact E_callV (pc := 27) (As := [.int 0, .int 3]) (st := [.int (I 308 18), .ref 315]) (a := 308) ddX9_readWire_27 hX9_number ⟨(Nat.le_of_ble_eq_true rfl), (Nat.le_of_ble_eq_true rfl)⟩ w_4_38 (ci := 8) rfl rfl ho.s0 rfl rfl (Nat.le_of_ble_eq_true rfl) (e_cc rfl (e_cc rfl e_cn)) (Nat.le_of_ble_eq_true rfl) (E.mono k fun _ _ _ q => E.forget q ⟨rfl, trivial⟩)
  · have k := k.2 h
    refine E_aload_n (pc := 9) (x := 308) ddX9_readWire_9 rfl rfl ?_
    refine E_iconst (pc := 10) (v := 3) ddX9_readWire_10 rfl ?_
    refine E_iload_n (pc := 11) (x := x1) ddX9_readWire_11 rfl rfl ?_
    refine E_callV (pc := 12) (As := [.int 3, .int x1]) (st := []) (a := 308) ddX9_readWire_12 hX9_fail ⟨(Nat.le_of_ble_eq_true rfl), (Nat.le_of_ble_eq_true rfl)⟩ w_4_34 (ci := 8) rfl rfl ho.s0 rfl rfl (Nat.le_of_ble_eq_true rfl) (e_cc rfl (e_cc rfl e_cn)) (Nat.le_of_ble_eq_true rfl) ?_
    refine (show E mX9_fail 0 0 0 [some (.ref 308), some (.int 3), some (.int x1)] [] z I _ from ?_)
    refine E_aload_n (pc := 0) (x := 308) ddX9_fail_0 rfl rfl ?_
    refine E_getI (pc := 1) ddX9_fail_1 ec_8 15 (Nat.le_of_ble_eq_true rfl) rfl w_3_197 ho.s0 ?_
    refine E_if_ne (pc := 4) (tgt := 17) ddX9_fail_4 (by decide) (fun h => ?_) (fun h => ?_)
    · have k := k.1 h
      refine E_vret (pc := 17) ddX9_fail_17 rfl ?_
      refine (show E mX9_readWire mc ms 15 [some (.ref 308), some (.int x1)] [] z I Q from ?_)
      exact E_vret (pc := 15) ddX9_readWire_15 rfl k
    · have k := k.2 h
      refine E_aload_n (pc := 7) (x := 308) ddX9_fail_7 rfl rfl ?_
      refine E_iload_n (pc := 8) (x := 3) ddX9_fail_8 rfl rfl ?_
      obtain ⟨I1, eI1⟩ : ∃ y : It, y = e_st I 308 15 3 := ⟨_, rfl⟩
      have k := k I1 eI1
      refine E_putI (pc := 9) ddX9_fail_9 ec_8 15 (Nat.le_of_ble_eq_true rfl) rfl w_3_197 ho.s0 rfl rfl ?_
      rw [← eI1]
      refine E_aload_n (pc := 12) (x := 308) ddX9_fail_12 rfl rfl ?_
      refine E_iload_n (pc := 13) (x := x1) ddX9_fail_13 rfl rfl ?_
      obtain ⟨I2, eI2⟩ : ∃ y : It, y = e_st I1 308 16 x1 := ⟨_, rfl⟩
      have k := k I2 eI2
      refine E_putI (pc := 14) ddX9_fail_14 ec_8 16 (Nat.le_of_ble_eq_true rfl) rfl w_3_198 ho.s0 rfl rfl ?_
      rw [← eI2]
      refine E_vret (pc := 17) ddX9_fail_17 rfl ?_
      refine (show E mX9_readWire mc ms 15 [some (.ref 308), some (.int x1)] [] z I2 Q from ?_)
      exact E_vret (pc := 15) ddX9_readWire_15 rfl k
set_option maxRecDepth 100000 in
set_option maxHeartbeats 4000000 in
theorem B_X9_readWire_30 {mc ms : Nat} {z : Zt} {I : It} {Q : Option Value → Zt → It → Prop} {y0 y1 : Int32} (ho : isO z)
    (k : ∃ j1 : Nat, y1 = nI j1 ∧ j1 < 8 ∧ ∀ I2 : It, I2 = e_st I 315 j1 y0 → ∀ I3 : It, I3 = e_st I2 308 18 ((I2 308 18) + 1) → Q none z I3) :
    E mX9_readWire mc ms 30 [some (.ref 308), none] [.int y0, .int y1, .ref 315] z I Q := by
  obtain ⟨j1, ij1, lj1, k⟩ := k
  obtain ⟨I2, eI2⟩ : ∃ y : It, y = e_st I 315 j1 y0 := ⟨_, rfl⟩
  have k := k I2 eI2
  refine E_iastN (pc := 30) (j := j1) ddX9_readWire_30 ho.s7 (by decide) ij1 lj1 (Nat.le_of_ble_eq_true rfl) ?_
  rw [← eI2]
  refine E_aload_n (pc := 31) (x := 308) ddX9_readWire_31 rfl rfl ?_
  refine E_dupr (pc := 32) ddX9_readWire_32 ?_
  refine E_getI (pc := 33) ddX9_readWire_33 ec_8 18 (Nat.le_of_ble_eq_true rfl) rfl w_3_200 ho.s0 ?_
  refine E_iconst (pc := 36) (v := 1) ddX9_readWire_36 rfl ?_
  refine E_iadd (pc := 37) ddX9_readWire_37 ?_
  obtain ⟨I3, eI3⟩ : ∃ y : It, y = e_st I2 308 18 ((I2 308 18) + 1) := ⟨_, rfl⟩
  have k := k I3 eI3
  refine E_putI (pc := 38) ddX9_readWire_38 ec_8 18 (Nat.le_of_ble_eq_true rfl) rfl w_3_200 ho.s0 rfl rfl ?_
  rw [← eI3]
  exact E_vret (pc := 41) ddX9_readWire_41 rfl k
/-! X9_readGate, labels [37, 56, 75, 94, 109, 164, 202] -/
set_option maxRecDepth 100000 in
set_option maxHeartbeats 4000000 in
theorem B_X9_readGate_0 {mc ms : Nat} {z : Zt} {I : It} {Q : Option Value → Zt → It → Prop} {x1 : Int32} (ho : isO z)
    (k : ((¬ (I 308 19) = 8) → ∀ v1 : Int32, v1 = (6 * (I 308 19)) → E mX9_number 0 0 0 [some (.ref 308), some (.int 0), some (.int 5), none, none] [] z I (fun r z' I' => E mX9_readGate mc ms 37 [some (.ref 308), none, some (.int v1), none] (r.toList ++ [.int (v1 + 0), .ref 316]) z' I' Q)) ∧
    (((I 308 19) = 8) → ((¬ (I 308 15) = 0) → Q none z I) ∧
    (((I 308 15) = 0) → ∀ I1 : It, I1 = e_st I 308 15 3 → ∀ I2 : It, I2 = e_st I1 308 16 x1 → Q none z I2))) :
    E mX9_readGate mc ms 0 [some (.ref 308), some (.int x1), none, none] [] z I Q := by
  refine E_aload_n (pc := 0) (x := 308) ddX9_readGate_0 rfl rfl ?_
  refine E_getI (pc := 1) ddX9_readGate_1 ec_8 19 (Nat.le_of_ble_eq_true rfl) rfl w_3_201 ho.s0 ?_
  refine E_bipush (pc := 4) (v := 8) ddX9_readGate_4 rfl ?_
  refine E_icmp_ne (pc := 6) (tgt := 16) ddX9_readGate_6 (by decide) (fun h => ?_) (fun h => ?_)
  · have k := k.1 h
    refine E_bipush (pc := 16) (v := 6) ddX9_readGate_16 rfl ?_
    refine E_aload_n (pc := 18) (x := 308) ddX9_readGate_18 rfl rfl ?_
    refine E_getI (pc := 19) ddX9_readGate_19 ec_8 19 (Nat.le_of_ble_eq_true rfl) rfl w_3_201 ho.s0 ?_
    refine E_imul (pc := 22) ddX9_readGate_22 ?_
    obtain ⟨v1, ev1⟩ : ∃ y : Int32, y = (6 * (I 308 19)) := ⟨_, rfl⟩
    have k := k v1 ev1
    rw [← ev1]
    refine E_istore_n (pc := 23) (ls' := [some (.ref 308), some (.int x1), some (.int v1), none]) ddX9_readGate_23 rfl (Nat.le_of_ble_eq_true rfl) rfl rfl ?_
    refine E_aload_n (pc := 24) (x := 308) ddX9_readGate_24 rfl rfl ?_
    refine E_getR (pc := 25) (x := 316) ddX9_readGate_25 ec_8 21 (Nat.le_of_ble_eq_true rfl) rfl w_3_203 ho.s0 ho.r21 (by decide) ?_
    refine E_iload_n (pc := 28) (x := v1) ddX9_readGate_28 rfl rfl ?_
    refine E_iconst (pc := 29) (v := 0) ddX9_readGate_29 rfl ?_
    refine E_iadd (pc := 30) ddX9_readGate_30 ?_
    refine E_aload_n (pc := 31) (x := 308) ddX9_readGate_31 rfl rfl ?_
    refine E_iconst (pc := 32) (v := 0) ddX9_readGate_32 rfl ?_
    refine E_iconst (pc := 33) (v := 5) ddX9_readGate_33 rfl ?_
    exact E_callV (pc := 34) (As := [.int 0, .int 5]) (st := [.int (v1 + 0), .ref 316]) (a := 308) ddX9_readGate_34 hX9_number ⟨(Nat.le_of_ble_eq_true rfl), (Nat.le_of_ble_eq_true rfl)⟩ w_4_38 (ci := 8) rfl rfl ho.s0 rfl rfl (Nat.le_of_ble_eq_true rfl) (e_cc rfl (e_cc rfl e_cn)) (Nat.le_of_ble_eq_true rfl) (E.mono k fun _ _ _ q => E.forget q ⟨rfl, ⟨rfl, trivial⟩⟩)
  · have k := k.2 h
    refine E_aload_n (pc := 9) (x := 308) ddX9_readGate_9 rfl rfl ?_
    refine E_iconst (pc := 10) (v := 3) ddX9_readGate_10 rfl ?_
    refine E_iload_n (pc := 11) (x := x1) ddX9_readGate_11 rfl rfl ?_
    refine E_callV (pc := 12) (As := [.int 3, .int x1]) (st := []) (a := 308) ddX9_readGate_12 hX9_fail ⟨(Nat.le_of_ble_eq_true rfl), (Nat.le_of_ble_eq_true rfl)⟩ w_4_34 (ci := 8) rfl rfl ho.s0 rfl rfl (Nat.le_of_ble_eq_true rfl) (e_cc rfl (e_cc rfl e_cn)) (Nat.le_of_ble_eq_true rfl) ?_
    refine (show E mX9_fail 0 0 0 [some (.ref 308), some (.int 3), some (.int x1)] [] z I _ from ?_)
    refine E_aload_n (pc := 0) (x := 308) ddX9_fail_0 rfl rfl ?_
    refine E_getI (pc := 1) ddX9_fail_1 ec_8 15 (Nat.le_of_ble_eq_true rfl) rfl w_3_197 ho.s0 ?_
    refine E_if_ne (pc := 4) (tgt := 17) ddX9_fail_4 (by decide) (fun h => ?_) (fun h => ?_)
    · have k := k.1 h
      refine E_vret (pc := 17) ddX9_fail_17 rfl ?_
      refine (show E mX9_readGate mc ms 15 [some (.ref 308), some (.int x1), none, none] [] z I Q from ?_)
      exact E_vret (pc := 15) ddX9_readGate_15 rfl k
    · have k := k.2 h
      refine E_aload_n (pc := 7) (x := 308) ddX9_fail_7 rfl rfl ?_
      refine E_iload_n (pc := 8) (x := 3) ddX9_fail_8 rfl rfl ?_
      obtain ⟨I1, eI1⟩ : ∃ y : It, y = e_st I 308 15 3 := ⟨_, rfl⟩
      have k := k I1 eI1
      refine E_putI (pc := 9) ddX9_fail_9 ec_8 15 (Nat.le_of_ble_eq_true rfl) rfl w_3_197 ho.s0 rfl rfl ?_
      rw [← eI1]
      refine E_aload_n (pc := 12) (x := 308) ddX9_fail_12 rfl rfl ?_
      refine E_iload_n (pc := 13) (x := x1) ddX9_fail_13 rfl rfl ?_
      obtain ⟨I2, eI2⟩ : ∃ y : It, y = e_st I1 308 16 x1 := ⟨_, rfl⟩
      have k := k I2 eI2
      refine E_putI (pc := 14) ddX9_fail_14 ec_8 16 (Nat.le_of_ble_eq_true rfl) rfl w_3_198 ho.s0 rfl rfl ?_
      rw [← eI2]
      refine E_vret (pc := 17) ddX9_fail_17 rfl ?_
      refine (show E mX9_readGate mc ms 15 [some (.ref 308), some (.int x1), none, none] [] z I2 Q from ?_)
      exact E_vret (pc := 15) ddX9_readGate_15 rfl k
set_option maxRecDepth 100000 in
set_option maxHeartbeats 4000000 in
theorem B_X9_readGate_37 {mc ms : Nat} {z : Zt} {I : It} {Q : Option Value → Zt → It → Prop} {x2 y0 y1 : Int32} (ho : isO z)
    (k : ∃ j1 : Nat, y1 = nI j1 ∧ j1 < 48 ∧ ∀ I2 : It, I2 = e_st I 316 j1 y0 → E mX9_number 0 0 0 [some (.ref 308), some (.int 0), some (.int ((I2 308 18) - 1)), none, none] [] z I2 (fun r z' I' => E mX9_readGate mc ms 56 [some (.ref 308), none, some (.int x2), none] (r.toList ++ [.int (x2 + 1), .ref 316]) z' I' Q)) :
    E mX9_readGate mc ms 37 [some (.ref 308), none, some (.int x2), none] [.int y0, .int y1, .ref 316] z I Q := by
  obtain ⟨j1, ij1, lj1, k⟩ := k
  obtain ⟨I2, eI2⟩ : ∃ y : It, y = e_st I 316 j1 y0 := ⟨_, rfl⟩
  have k := k I2 eI2
  refine E_iastN (pc := 37) (j := j1) ddX9_readGate_37 ho.s8 (by decide) ij1 lj1 (Nat.le_of_ble_eq_true rfl) ?_
  rw [← eI2]
  refine E_aload_n (pc := 38) (x := 308) ddX9_readGate_38 rfl rfl ?_
  refine E_getR (pc := 39) (x := 316) ddX9_readGate_39 ec_8 21 (Nat.le_of_ble_eq_true rfl) rfl w_3_203 ho.s0 ho.r21 (by decide) ?_
  refine E_iload_n (pc := 42) (x := x2) ddX9_readGate_42 rfl rfl ?_
  refine E_iconst (pc := 43) (v := 1) ddX9_readGate_43 rfl ?_
  refine E_iadd (pc := 44) ddX9_readGate_44 ?_
  refine E_aload_n (pc := 45) (x := 308) ddX9_readGate_45 rfl rfl ?_
  refine E_iconst (pc := 46) (v := 0) ddX9_readGate_46 rfl ?_
  refine E_aload_n (pc := 47) (x := 308) ddX9_readGate_47 rfl rfl ?_
  refine E_getI (pc := 48) ddX9_readGate_48 ec_8 18 (Nat.le_of_ble_eq_true rfl) rfl w_3_200 ho.s0 ?_
  refine E_iconst (pc := 51) (v := 1) ddX9_readGate_51 rfl ?_
  refine E_isub (pc := 52) ddX9_readGate_52 ?_
  exact E_callV (pc := 53) (As := [.int 0, .int ((I2 308 18) - 1)]) (st := [.int (x2 + 1), .ref 316]) (a := 308) ddX9_readGate_53 hX9_number ⟨(Nat.le_of_ble_eq_true rfl), (Nat.le_of_ble_eq_true rfl)⟩ w_4_38 (ci := 8) rfl rfl ho.s0 rfl rfl (Nat.le_of_ble_eq_true rfl) (e_cc rfl (e_cc rfl e_cn)) (Nat.le_of_ble_eq_true rfl) k
set_option maxRecDepth 100000 in
set_option maxHeartbeats 4000000 in
theorem B_X9_readGate_56 {mc ms : Nat} {z : Zt} {I : It} {Q : Option Value → Zt → It → Prop} {x2 y0 y1 : Int32} (ho : isO z)
    (k : ∃ j1 : Nat, y1 = nI j1 ∧ j1 < 48 ∧ ∀ I2 : It, I2 = e_st I 316 j1 y0 → E mX9_number 0 0 0 [some (.ref 308), some (.int 0), some (.int ((I2 308 18) - 1)), none, none] [] z I2 (fun r z' I' => E mX9_readGate mc ms 75 [some (.ref 308), none, some (.int x2), none] (r.toList ++ [.int (x2 + 2), .ref 316]) z' I' Q)) :
    E mX9_readGate mc ms 56 [some (.ref 308), none, some (.int x2), none] [.int y0, .int y1, .ref 316] z I Q := by
  obtain ⟨j1, ij1, lj1, k⟩ := k
  obtain ⟨I2, eI2⟩ : ∃ y : It, y = e_st I 316 j1 y0 := ⟨_, rfl⟩
  have k := k I2 eI2
  refine E_iastN (pc := 56) (j := j1) ddX9_readGate_56 ho.s8 (by decide) ij1 lj1 (Nat.le_of_ble_eq_true rfl) ?_
  rw [← eI2]
  refine E_aload_n (pc := 57) (x := 308) ddX9_readGate_57 rfl rfl ?_
  refine E_getR (pc := 58) (x := 316) ddX9_readGate_58 ec_8 21 (Nat.le_of_ble_eq_true rfl) rfl w_3_203 ho.s0 ho.r21 (by decide) ?_
  refine E_iload_n (pc := 61) (x := x2) ddX9_readGate_61 rfl rfl ?_
  refine E_iconst (pc := 62) (v := 2) ddX9_readGate_62 rfl ?_
  refine E_iadd (pc := 63) ddX9_readGate_63 ?_
  refine E_aload_n (pc := 64) (x := 308) ddX9_readGate_64 rfl rfl ?_
  refine E_iconst (pc := 65) (v := 0) ddX9_readGate_65 rfl ?_
  refine E_aload_n (pc := 66) (x := 308) ddX9_readGate_66 rfl rfl ?_
  refine E_getI (pc := 67) ddX9_readGate_67 ec_8 18 (Nat.le_of_ble_eq_true rfl) rfl w_3_200 ho.s0 ?_
  refine E_iconst (pc := 70) (v := 1) ddX9_readGate_70 rfl ?_
  refine E_isub (pc := 71) ddX9_readGate_71 ?_
  exact E_callV (pc := 72) (As := [.int 0, .int ((I2 308 18) - 1)]) (st := [.int (x2 + 2), .ref 316]) (a := 308) ddX9_readGate_72 hX9_number ⟨(Nat.le_of_ble_eq_true rfl), (Nat.le_of_ble_eq_true rfl)⟩ w_4_38 (ci := 8) rfl rfl ho.s0 rfl rfl (Nat.le_of_ble_eq_true rfl) (e_cc rfl (e_cc rfl e_cn)) (Nat.le_of_ble_eq_true rfl) k
set_option maxRecDepth 100000 in
set_option maxHeartbeats 4000000 in
theorem B_X9_readGate_75 {mc ms : Nat} {z : Zt} {I : It} {Q : Option Value → Zt → It → Prop} {x2 y0 y1 : Int32} (ho : isO z)
    (k : ∃ j1 : Nat, y1 = nI j1 ∧ j1 < 48 ∧ ∀ I2 : It, I2 = e_st I 316 j1 y0 → E mX9_number 0 0 0 [some (.ref 308), some (.int 0), some (.int ((I2 308 18) - 1)), none, none] [] z I2 (fun r z' I' => E mX9_readGate mc ms 94 [some (.ref 308), none, some (.int x2), none] (r.toList ++ [.int (x2 + 3), .ref 316]) z' I' Q)) :
    E mX9_readGate mc ms 75 [some (.ref 308), none, some (.int x2), none] [.int y0, .int y1, .ref 316] z I Q := by
  obtain ⟨j1, ij1, lj1, k⟩ := k
  obtain ⟨I2, eI2⟩ : ∃ y : It, y = e_st I 316 j1 y0 := ⟨_, rfl⟩
  have k := k I2 eI2
  refine E_iastN (pc := 75) (j := j1) ddX9_readGate_75 ho.s8 (by decide) ij1 lj1 (Nat.le_of_ble_eq_true rfl) ?_
  rw [← eI2]
  refine E_aload_n (pc := 76) (x := 308) ddX9_readGate_76 rfl rfl ?_
  refine E_getR (pc := 77) (x := 316) ddX9_readGate_77 ec_8 21 (Nat.le_of_ble_eq_true rfl) rfl w_3_203 ho.s0 ho.r21 (by decide) ?_
  refine E_iload_n (pc := 80) (x := x2) ddX9_readGate_80 rfl rfl ?_
  refine E_iconst (pc := 81) (v := 3) ddX9_readGate_81 rfl ?_
  refine E_iadd (pc := 82) ddX9_readGate_82 ?_
  refine E_aload_n (pc := 83) (x := 308) ddX9_readGate_83 rfl rfl ?_
  refine E_iconst (pc := 84) (v := 0) ddX9_readGate_84 rfl ?_
  refine E_aload_n (pc := 85) (x := 308) ddX9_readGate_85 rfl rfl ?_
  refine E_getI (pc := 86) ddX9_readGate_86 ec_8 18 (Nat.le_of_ble_eq_true rfl) rfl w_3_200 ho.s0 ?_
  refine E_iconst (pc := 89) (v := 1) ddX9_readGate_89 rfl ?_
  refine E_isub (pc := 90) ddX9_readGate_90 ?_
  exact E_callV (pc := 91) (As := [.int 0, .int ((I2 308 18) - 1)]) (st := [.int (x2 + 3), .ref 316]) (a := 308) ddX9_readGate_91 hX9_number ⟨(Nat.le_of_ble_eq_true rfl), (Nat.le_of_ble_eq_true rfl)⟩ w_4_38 (ci := 8) rfl rfl ho.s0 rfl rfl (Nat.le_of_ble_eq_true rfl) (e_cc rfl (e_cc rfl e_cn)) (Nat.le_of_ble_eq_true rfl) k
set_option maxRecDepth 100000 in
set_option maxHeartbeats 4000000 in
theorem B_X9_readGate_94 {mc ms : Nat} {z : Zt} {I : It} {Q : Option Value → Zt → It → Prop} {x2 y0 y1 : Int32} (ho : isO z)
    (k : ∃ j1 : Nat, y1 = nI j1 ∧ j1 < 48 ∧ ∀ I2 : It, I2 = e_st I 316 j1 y0 → E mX9_number 0 0 0 [some (.ref 308), some (.int 0), some (.int 20), none, none] [] z I2 (fun r z' I' => E mX9_readGate mc ms 109 [some (.ref 308), none, some (.int x2), none] (r.toList ++ [.int (x2 + 4), .ref 316]) z' I' Q)) :
    E mX9_readGate mc ms 94 [some (.ref 308), none, some (.int x2), none] [.int y0, .int y1, .ref 316] z I Q := by
  obtain ⟨j1, ij1, lj1, k⟩ := k
  obtain ⟨I2, eI2⟩ : ∃ y : It, y = e_st I 316 j1 y0 := ⟨_, rfl⟩
  have k := k I2 eI2
  refine E_iastN (pc := 94) (j := j1) ddX9_readGate_94 ho.s8 (by decide) ij1 lj1 (Nat.le_of_ble_eq_true rfl) ?_
  rw [← eI2]
  refine E_aload_n (pc := 95) (x := 308) ddX9_readGate_95 rfl rfl ?_
  refine E_getR (pc := 96) (x := 316) ddX9_readGate_96 ec_8 21 (Nat.le_of_ble_eq_true rfl) rfl w_3_203 ho.s0 ho.r21 (by decide) ?_
  refine E_iload_n (pc := 99) (x := x2) ddX9_readGate_99 rfl rfl ?_
  refine E_iconst (pc := 100) (v := 4) ddX9_readGate_100 rfl ?_
  refine E_iadd (pc := 101) ddX9_readGate_101 ?_
  refine E_aload_n (pc := 102) (x := 308) ddX9_readGate_102 rfl rfl ?_
  refine E_iconst (pc := 103) (v := 0) ddX9_readGate_103 rfl ?_
  refine E_bipush (pc := 104) (v := 20) ddX9_readGate_104 rfl ?_
  exact E_callV (pc := 106) (As := [.int 0, .int 20]) (st := [.int (x2 + 4), .ref 316]) (a := 308) ddX9_readGate_106 hX9_number ⟨(Nat.le_of_ble_eq_true rfl), (Nat.le_of_ble_eq_true rfl)⟩ w_4_38 (ci := 8) rfl rfl ho.s0 rfl rfl (Nat.le_of_ble_eq_true rfl) (e_cc rfl (e_cc rfl e_cn)) (Nat.le_of_ble_eq_true rfl) k
set_option maxRecDepth 100000 in
set_option maxHeartbeats 4000000 in
theorem B_X9_readGate_109 {mc ms : Nat} {z : Zt} {I : It} {Q : Option Value → Zt → It → Prop} {x2 y0 y1 : Int32} (ho : isO z)
    (k : ∃ j1 : Nat, y1 = nI j1 ∧ j1 < 48 ∧ ∀ I2 : It, I2 = e_st I 316 j1 y0 → ∃ j3 : Nat, (x2 + 1) = nI j3 ∧ j3 < 48 ∧ ∃ j4 : Nat, (x2 + 3) = nI j4 ∧ j4 < 48 ∧ (((I2 316 j3) = (I2 316 j4)) → E mX9_readGate mc ms 164 [some (.ref 308), none, some (.int x2), none] [.int 1] z I2 Q) ∧
    ((¬ (I2 316 j3) = (I2 316 j4)) → ∃ j5 : Nat, (x2 + 0) = nI j5 ∧ j5 < 48 ∧ (((I2 316 j5) = 0) → E mX9_readGate mc ms 164 [some (.ref 308), none, some (.int x2), none] [.int 0] z I2 Q) ∧
    ((¬ (I2 316 j5) = 0) → ∃ j6 : Nat, (x2 + 2) = nI j6 ∧ j6 < 48 ∧ ((¬ (I2 316 j6) = (I2 316 j4)) → E mX9_readGate mc ms 164 [some (.ref 308), none, some (.int x2), none] [.int 0] z I2 Q) ∧
    (((I2 316 j6) = (I2 316 j4)) → E mX9_readGate mc ms 164 [some (.ref 308), none, some (.int x2), none] [.int 1] z I2 Q)))) :
    E mX9_readGate mc ms 109 [some (.ref 308), none, some (.int x2), none] [.int y0, .int y1, .ref 316] z I Q := by
  obtain ⟨j1, ij1, lj1, k⟩ := k
  obtain ⟨I2, eI2⟩ : ∃ y : It, y = e_st I 316 j1 y0 := ⟨_, rfl⟩
  have k := k I2 eI2
  refine E_iastN (pc := 109) (j := j1) ddX9_readGate_109 ho.s8 (by decide) ij1 lj1 (Nat.le_of_ble_eq_true rfl) ?_
  rw [← eI2]
  refine E_aload_n (pc := 110) (x := 308) ddX9_readGate_110 rfl rfl ?_
  refine E_getR (pc := 111) (x := 316) ddX9_readGate_111 ec_8 21 (Nat.le_of_ble_eq_true rfl) rfl w_3_203 ho.s0 ho.r21 (by decide) ?_
  refine E_iload_n (pc := 114) (x := x2) ddX9_readGate_114 rfl rfl ?_
  refine E_iconst (pc := 115) (v := 1) ddX9_readGate_115 rfl ?_
  refine E_iadd (pc := 116) ddX9_readGate_116 ?_
  obtain ⟨j3, ij3, lj3, k⟩ := k
  refine E_ialdN (pc := 117) (j := j3) ddX9_readGate_117 ho.s8 ij3 lj3 (Nat.le_of_ble_eq_true rfl) ?_
  refine E_aload_n (pc := 118) (x := 308) ddX9_readGate_118 rfl rfl ?_
  refine E_getR (pc := 119) (x := 316) ddX9_readGate_119 ec_8 21 (Nat.le_of_ble_eq_true rfl) rfl w_3_203 ho.s0 ho.r21 (by decide) ?_
  refine E_iload_n (pc := 122) (x := x2) ddX9_readGate_122 rfl rfl ?_
  refine E_iconst (pc := 123) (v := 3) ddX9_readGate_123 rfl ?_
  refine E_iadd (pc := 124) ddX9_readGate_124 ?_
  obtain ⟨j4, ij4, lj4, k⟩ := k
  refine E_ialdN (pc := 125) (j := j4) ddX9_readGate_125 ho.s8 ij4 lj4 (Nat.le_of_ble_eq_true rfl) ?_
  refine E_icmp_eq (pc := 126) (tgt := 159) ddX9_readGate_126 (by decide) (fun h => ?_) (fun h => ?_)
  · have k := k.1 h
    refine E_iconst (pc := 159) (v := 1) ddX9_readGate_159 rfl ?_
    refine E_goto (pc := 160) (tgt := 164) ddX9_readGate_160 (by decide) ?_
    exact k
  · have k := k.2 h
    refine E_aload_n (pc := 129) (x := 308) ddX9_readGate_129 rfl rfl ?_
    refine E_getR (pc := 130) (x := 316) ddX9_readGate_130 ec_8 21 (Nat.le_of_ble_eq_true rfl) rfl w_3_203 ho.s0 ho.r21 (by decide) ?_
    refine E_iload_n (pc := 133) (x := x2) ddX9_readGate_133 rfl rfl ?_
    refine E_iconst (pc := 134) (v := 0) ddX9_readGate_134 rfl ?_
    refine E_iadd (pc := 135) ddX9_readGate_135 ?_
    obtain ⟨j5, ij5, lj5, k⟩ := k
    refine E_ialdN (pc := 136) (j := j5) ddX9_readGate_136 ho.s8 ij5 lj5 (Nat.le_of_ble_eq_true rfl) ?_
    refine E_if_eq (pc := 137) (tgt := 163) ddX9_readGate_137 (by decide) (fun h => ?_) (fun h => ?_)
    · have k := k.1 h
      refine E_iconst (pc := 163) (v := 0) ddX9_readGate_163 rfl ?_
      exact k
    · have k := k.2 h
      refine E_aload_n (pc := 140) (x := 308) ddX9_readGate_140 rfl rfl ?_
      refine E_getR (pc := 141) (x := 316) ddX9_readGate_141 ec_8 21 (Nat.le_of_ble_eq_true rfl) rfl w_3_203 ho.s0 ho.r21 (by decide) ?_
      refine E_iload_n (pc := 144) (x := x2) ddX9_readGate_144 rfl rfl ?_
      refine E_iconst (pc := 145) (v := 2) ddX9_readGate_145 rfl ?_
      refine E_iadd (pc := 146) ddX9_readGate_146 ?_
      obtain ⟨j6, ij6, lj6, k⟩ := k
      refine E_ialdN (pc := 147) (j := j6) ddX9_readGate_147 ho.s8 ij6 lj6 (Nat.le_of_ble_eq_true rfl) ?_
      refine E_aload_n (pc := 148) (x := 308) ddX9_readGate_148 rfl rfl ?_
      refine E_getR (pc := 149) (x := 316) ddX9_readGate_149 ec_8 21 (Nat.le_of_ble_eq_true rfl) rfl w_3_203 ho.s0 ho.r21 (by decide) ?_
      refine E_iload_n (pc := 152) (x := x2) ddX9_readGate_152 rfl rfl ?_
      refine E_iconst (pc := 153) (v := 3) ddX9_readGate_153 rfl ?_
      refine E_iadd (pc := 154) ddX9_readGate_154 ?_
      refine E_ialdN (pc := 155) (j := j4) ddX9_readGate_155 ho.s8 ij4 lj4 (Nat.le_of_ble_eq_true rfl) ?_
      refine E_icmp_ne (pc := 156) (tgt := 163) ddX9_readGate_156 (by decide) (fun h => ?_) (fun h => ?_)
      · have k := k.1 h
        refine E_iconst (pc := 163) (v := 0) ddX9_readGate_163 rfl ?_
        exact k
      · have k := k.2 h
        refine E_iconst (pc := 159) (v := 1) ddX9_readGate_159 rfl ?_
        refine E_goto (pc := 160) (tgt := 164) ddX9_readGate_160 (by decide) ?_
        exact k
set_option maxRecDepth 100000 in
set_option maxHeartbeats 4000000 in
theorem B_X9_readGate_164 {mc ms : Nat} {z : Zt} {I : It} {Q : Option Value → Zt → It → Prop} {x2 y0 : Int32} (ho : isO z)
    (k : ((y0 = 0) → E mX9_number 0 0 0 [some (.ref 308), some (.int 0), some (.int 1), none, none] [] z I (fun r z' I' => E mX9_readGate mc ms 202 [some (.ref 308), none, none, none] (r.toList ++ [.int (x2 + 5), .ref 316]) z' I' Q)) ∧
    ((¬ y0 = 0) → ∃ j1 : Nat, (x2 + 4) = nI j1 ∧ j1 < 48 ∧ ((¬ (I 316 j1) = 0) → E mX9_number 0 0 0 [some (.ref 308), some (.int 0), some (.int 1), none, none] [] z I (fun r z' I' => E mX9_readGate mc ms 202 [some (.ref 308), none, none, none] (r.toList ++ [.int (x2 + 5), .ref 316]) z' I' Q)) ∧
    (((I 316 j1) = 0) → ((¬ (I 308 15) = 0) → E mX9_number 0 0 0 [some (.ref 308), some (.int 0), some (.int 1), none, none] [] z I (fun r z' I' => E mX9_readGate mc ms 202 [some (.ref 308), none, none, none] (r.toList ++ [.int (x2 + 5), .ref 316]) z' I' Q)) ∧
    (((I 308 15) = 0) → ∀ I2 : It, I2 = e_st I 308 15 4 → ∀ I3 : It, I3 = e_st I2 308 16 (I 308 17) → E mX9_number 0 0 0 [some (.ref 308), some (.int 0), some (.int 1), none, none] [] z I3 (fun r z' I' => E mX9_readGate mc ms 202 [some (.ref 308), none, none, none] (r.toList ++ [.int (x2 + 5), .ref 316]) z' I' Q))))) :
    E mX9_readGate mc ms 164 [some (.ref 308), none, some (.int x2), none] [.int y0] z I Q := by
  refine E_istore_n (pc := 164) (ls' := [some (.ref 308), none, some (.int x2), some (.int y0)]) ddX9_readGate_164 rfl (Nat.le_of_ble_eq_true rfl) rfl rfl ?_
  refine E_iload_n (pc := 165) (x := y0) ddX9_readGate_165 rfl rfl ?_
  refine E_if_eq (pc := 166) (tgt := 189) ddX9_readGate_166 (by decide) (fun h => ?_) (fun h => ?_)
  · have k := k.1 h
    refine E_aload_n (pc := 189) (x := 308) ddX9_readGate_189 rfl rfl ?_
    refine E_getR (pc := 190) (x := 316) ddX9_readGate_190 ec_8 21 (Nat.le_of_ble_eq_true rfl) rfl w_3_203 ho.s0 ho.r21 (by decide) ?_
    refine E_iload_n (pc := 193) (x := x2) ddX9_readGate_193 rfl rfl ?_
    refine E_iconst (pc := 194) (v := 5) ddX9_readGate_194 rfl ?_
    refine E_iadd (pc := 195) ddX9_readGate_195 ?_
    refine E_aload_n (pc := 196) (x := 308) ddX9_readGate_196 rfl rfl ?_
    refine E_iconst (pc := 197) (v := 0) ddX9_readGate_197 rfl ?_
    refine E_iconst (pc := 198) (v := 1) ddX9_readGate_198 rfl ?_
    exact E_callV (pc := 199) (As := [.int 0, .int 1]) (st := [.int (x2 + 5), .ref 316]) (a := 308) ddX9_readGate_199 hX9_number ⟨(Nat.le_of_ble_eq_true rfl), (Nat.le_of_ble_eq_true rfl)⟩ w_4_38 (ci := 8) rfl rfl ho.s0 rfl rfl (Nat.le_of_ble_eq_true rfl) (e_cc rfl (e_cc rfl e_cn)) (Nat.le_of_ble_eq_true rfl) (E.mono k fun _ _ _ q => E.forget q ⟨rfl, trivial⟩)
  · have k := k.2 h
    refine E_aload_n (pc := 169) (x := 308) ddX9_readGate_169 rfl rfl ?_
    refine E_getR (pc := 170) (x := 316) ddX9_readGate_170 ec_8 21 (Nat.le_of_ble_eq_true rfl) rfl w_3_203 ho.s0 ho.r21 (by decide) ?_
    refine E_iload_n (pc := 173) (x := x2) ddX9_readGate_173 rfl rfl ?_
    refine E_iconst (pc := 174) (v := 4) ddX9_readGate_174 rfl ?_
    refine E_iadd (pc := 175) ddX9_readGate_175 ?_
    obtain ⟨j1, ij1, lj1, k⟩ := k
    refine E_ialdN (pc := 176) (j := j1) ddX9_readGate_176 ho.s8 ij1 lj1 (Nat.le_of_ble_eq_true rfl) ?_
    refine E_if_ne (pc := 177) (tgt := 189) ddX9_readGate_177 (by decide) (fun h => ?_) (fun h => ?_)
    · have k := k.1 h
      refine E_aload_n (pc := 189) (x := 308) ddX9_readGate_189 rfl rfl ?_
      refine E_getR (pc := 190) (x := 316) ddX9_readGate_190 ec_8 21 (Nat.le_of_ble_eq_true rfl) rfl w_3_203 ho.s0 ho.r21 (by decide) ?_
      refine E_iload_n (pc := 193) (x := x2) ddX9_readGate_193 rfl rfl ?_
      refine E_iconst (pc := 194) (v := 5) ddX9_readGate_194 rfl ?_
      refine E_iadd (pc := 195) ddX9_readGate_195 ?_
      refine E_aload_n (pc := 196) (x := 308) ddX9_readGate_196 rfl rfl ?_
      refine E_iconst (pc := 197) (v := 0) ddX9_readGate_197 rfl ?_
      refine E_iconst (pc := 198) (v := 1) ddX9_readGate_198 rfl ?_
      exact E_callV (pc := 199) (As := [.int 0, .int 1]) (st := [.int (x2 + 5), .ref 316]) (a := 308) ddX9_readGate_199 hX9_number ⟨(Nat.le_of_ble_eq_true rfl), (Nat.le_of_ble_eq_true rfl)⟩ w_4_38 (ci := 8) rfl rfl ho.s0 rfl rfl (Nat.le_of_ble_eq_true rfl) (e_cc rfl (e_cc rfl e_cn)) (Nat.le_of_ble_eq_true rfl) (E.mono k fun _ _ _ q => E.forget q ⟨rfl, trivial⟩)
    · have k := k.2 h
      refine E_aload_n (pc := 180) (x := 308) ddX9_readGate_180 rfl rfl ?_
      refine E_iconst (pc := 181) (v := 4) ddX9_readGate_181 rfl ?_
      refine E_aload_n (pc := 182) (x := 308) ddX9_readGate_182 rfl rfl ?_
      refine E_getI (pc := 183) ddX9_readGate_183 ec_8 17 (Nat.le_of_ble_eq_true rfl) rfl w_3_199 ho.s0 ?_
      refine E_callV (pc := 186) (As := [.int 4, .int (I 308 17)]) (st := []) (a := 308) ddX9_readGate_186 hX9_fail ⟨(Nat.le_of_ble_eq_true rfl), (Nat.le_of_ble_eq_true rfl)⟩ w_4_34 (ci := 8) rfl rfl ho.s0 rfl rfl (Nat.le_of_ble_eq_true rfl) (e_cc rfl (e_cc rfl e_cn)) (Nat.le_of_ble_eq_true rfl) ?_
      refine (show E mX9_fail 0 0 0 [some (.ref 308), some (.int 4), some (.int (I 308 17))] [] z I _ from ?_)
      refine E_aload_n (pc := 0) (x := 308) ddX9_fail_0 rfl rfl ?_
      refine E_getI (pc := 1) ddX9_fail_1 ec_8 15 (Nat.le_of_ble_eq_true rfl) rfl w_3_197 ho.s0 ?_
      refine E_if_ne (pc := 4) (tgt := 17) ddX9_fail_4 (by decide) (fun h => ?_) (fun h => ?_)
      · have k := k.1 h
        refine E_vret (pc := 17) ddX9_fail_17 rfl ?_
        refine (show E mX9_readGate mc ms 189 [some (.ref 308), none, some (.int x2), some (.int y0)] [] z I Q from ?_)
        refine E_aload_n (pc := 189) (x := 308) ddX9_readGate_189 rfl rfl ?_
        refine E_getR (pc := 190) (x := 316) ddX9_readGate_190 ec_8 21 (Nat.le_of_ble_eq_true rfl) rfl w_3_203 ho.s0 ho.r21 (by decide) ?_
        refine E_iload_n (pc := 193) (x := x2) ddX9_readGate_193 rfl rfl ?_
        refine E_iconst (pc := 194) (v := 5) ddX9_readGate_194 rfl ?_
        refine E_iadd (pc := 195) ddX9_readGate_195 ?_
        refine E_aload_n (pc := 196) (x := 308) ddX9_readGate_196 rfl rfl ?_
        refine E_iconst (pc := 197) (v := 0) ddX9_readGate_197 rfl ?_
        refine E_iconst (pc := 198) (v := 1) ddX9_readGate_198 rfl ?_
        exact E_callV (pc := 199) (As := [.int 0, .int 1]) (st := [.int (x2 + 5), .ref 316]) (a := 308) ddX9_readGate_199 hX9_number ⟨(Nat.le_of_ble_eq_true rfl), (Nat.le_of_ble_eq_true rfl)⟩ w_4_38 (ci := 8) rfl rfl ho.s0 rfl rfl (Nat.le_of_ble_eq_true rfl) (e_cc rfl (e_cc rfl e_cn)) (Nat.le_of_ble_eq_true rfl) (E.mono k fun _ _ _ q => E.forget q ⟨rfl, trivial⟩)
      · have k := k.2 h
        refine E_aload_n (pc := 7) (x := 308) ddX9_fail_7 rfl rfl ?_
        refine E_iload_n (pc := 8) (x := 4) ddX9_fail_8 rfl rfl ?_
        obtain ⟨I2, eI2⟩ : ∃ y : It, y = e_st I 308 15 4 := ⟨_, rfl⟩
        have k := k I2 eI2
        refine E_putI (pc := 9) ddX9_fail_9 ec_8 15 (Nat.le_of_ble_eq_true rfl) rfl w_3_197 ho.s0 rfl rfl ?_
        rw [← eI2]
        refine E_aload_n (pc := 12) (x := 308) ddX9_fail_12 rfl rfl ?_
        refine E_iload_n (pc := 13) (x := (I 308 17)) ddX9_fail_13 rfl rfl ?_
        obtain ⟨I3, eI3⟩ : ∃ y : It, y = e_st I2 308 16 (I 308 17) := ⟨_, rfl⟩
        have k := k I3 eI3
        refine E_putI (pc := 14) ddX9_fail_14 ec_8 16 (Nat.le_of_ble_eq_true rfl) rfl w_3_198 ho.s0 rfl rfl ?_
        rw [← eI3]
        refine E_vret (pc := 17) ddX9_fail_17 rfl ?_
        refine (show E mX9_readGate mc ms 189 [some (.ref 308), none, some (.int x2), some (.int y0)] [] z I3 Q from ?_)
        refine E_aload_n (pc := 189) (x := 308) ddX9_readGate_189 rfl rfl ?_
        refine E_getR (pc := 190) (x := 316) ddX9_readGate_190 ec_8 21 (Nat.le_of_ble_eq_true rfl) rfl w_3_203 ho.s0 ho.r21 (by decide) ?_
        refine E_iload_n (pc := 193) (x := x2) ddX9_readGate_193 rfl rfl ?_
        refine E_iconst (pc := 194) (v := 5) ddX9_readGate_194 rfl ?_
        refine E_iadd (pc := 195) ddX9_readGate_195 ?_
        refine E_aload_n (pc := 196) (x := 308) ddX9_readGate_196 rfl rfl ?_
        refine E_iconst (pc := 197) (v := 0) ddX9_readGate_197 rfl ?_
        refine E_iconst (pc := 198) (v := 1) ddX9_readGate_198 rfl ?_
        exact E_callV (pc := 199) (As := [.int 0, .int 1]) (st := [.int (x2 + 5), .ref 316]) (a := 308) ddX9_readGate_199 hX9_number ⟨(Nat.le_of_ble_eq_true rfl), (Nat.le_of_ble_eq_true rfl)⟩ w_4_38 (ci := 8) rfl rfl ho.s0 rfl rfl (Nat.le_of_ble_eq_true rfl) (e_cc rfl (e_cc rfl e_cn)) (Nat.le_of_ble_eq_true rfl) (E.mono k fun _ _ _ q => E.forget q ⟨rfl, trivial⟩)
set_option maxRecDepth 100000 in
set_option maxHeartbeats 4000000 in
theorem B_X9_readGate_202 {mc ms : Nat} {z : Zt} {I : It} {Q : Option Value → Zt → It → Prop} {y0 y1 : Int32} (ho : isO z)
    (k : ∃ j1 : Nat, y1 = nI j1 ∧ j1 < 48 ∧ ∀ I2 : It, I2 = e_st I 316 j1 y0 → ∀ I3 : It, I3 = e_st I2 308 19 ((I2 308 19) + 1) → Q none z I3) :
    E mX9_readGate mc ms 202 [some (.ref 308), none, none, none] [.int y0, .int y1, .ref 316] z I Q := by
  obtain ⟨j1, ij1, lj1, k⟩ := k
  obtain ⟨I2, eI2⟩ : ∃ y : It, y = e_st I 316 j1 y0 := ⟨_, rfl⟩
  have k := k I2 eI2
  refine E_iastN (pc := 202) (j := j1) ddX9_readGate_202 ho.s8 (by decide) ij1 lj1 (Nat.le_of_ble_eq_true rfl) ?_
  rw [← eI2]
  refine E_aload_n (pc := 203) (x := 308) ddX9_readGate_203 rfl rfl ?_
  refine E_dupr (pc := 204) ddX9_readGate_204 ?_
  refine E_getI (pc := 205) ddX9_readGate_205 ec_8 19 (Nat.le_of_ble_eq_true rfl) rfl w_3_201 ho.s0 ?_
  refine E_iconst (pc := 208) (v := 1) ddX9_readGate_208 rfl ?_
  refine E_iadd (pc := 209) ddX9_readGate_209 ?_
  obtain ⟨I3, eI3⟩ : ∃ y : It, y = e_st I2 308 19 ((I2 308 19) + 1) := ⟨_, rfl⟩
  have k := k I3 eI3
  refine E_putI (pc := 210) ddX9_readGate_210 ec_8 19 (Nat.le_of_ble_eq_true rfl) rfl w_3_201 ho.s0 rfl rfl ?_
  rw [← eI3]
  exact E_vret (pc := 213) ddX9_readGate_213 rfl k
/-! X9_readClause, labels [4, 31, 45, 54, 65] -/
set_option maxRecDepth 100000 in
set_option maxHeartbeats 4000000 in
theorem B_X9_readClause_0 {mc ms : Nat} {z : Zt} {I : It} {Q : Option Value → Zt → It → Prop} (ho : isO z)
    (k : E mX9_here 0 0 0 [some (.ref 308)] [] z I (fun r z' I' => E mX9_readClause mc ms 4 [some (.ref 308), none, none] (r.toList ++ []) z' I' Q)) :
    E mX9_readClause mc ms 0 [some (.ref 308), none, none] [] z I Q := by
  refine E_aload_n (pc := 0) (x := 308) ddX9_readClause_0 rfl rfl ?_
  exact E_callV (pc := 1) (As := []) (st := []) (a := 308) ddX9_readClause_1 hX9_here ⟨(Nat.le_of_ble_eq_true rfl), (Nat.le_of_ble_eq_true rfl)⟩ w_4_22 (ci := 8) rfl rfl ho.s0 rfl rfl (Nat.le_of_ble_eq_true rfl) e_cn (Nat.le_of_ble_eq_true rfl) k
set_option maxRecDepth 100000 in
set_option maxHeartbeats 4000000 in
theorem B_X9_readClause_4 {mc ms : Nat} {z : Zt} {I : It} {Q : Option Value → Zt → It → Prop} {y0 : Int32} (ho : isO z)
    (k : ∀ v1 : Int32, v1 = (I 308 14) → ∀ I2 : It, I2 = e_st I 308 14 ((I 308 14) + 1) → ((¬ y0 = 119) → ((¬ y0 = 103) → ((¬ (I2 308 15) = 0) → E mX9_readClause mc ms 54 [some (.ref 308), none, none] [] z I2 Q) ∧
    (((I2 308 15) = 0) → ∀ I3 : It, I3 = e_st I2 308 15 1 → ∀ I4 : It, I4 = e_st I3 308 16 v1 → E mX9_readClause mc ms 54 [some (.ref 308), none, none] [] z I4 Q)) ∧
    ((y0 = 103) → E mX9_readGate 0 0 0 [some (.ref 308), some (.int v1), none, none] [] z I2 (fun r z' I' => E mX9_readClause mc ms 45 [some (.ref 308), none, none] (r.toList ++ []) z' I' Q))) ∧
    ((y0 = 119) → E mX9_readWire 0 0 0 [some (.ref 308), some (.int v1)] [] z I2 (fun r z' I' => E mX9_readClause mc ms 31 [some (.ref 308), none, none] (r.toList ++ []) z' I' Q))) :
    E mX9_readClause mc ms 4 [some (.ref 308), none, none] [.int y0] z I Q := by
  refine E_istore_n (pc := 4) (ls' := [some (.ref 308), some (.int y0), none]) ddX9_readClause_4 rfl (Nat.le_of_ble_eq_true rfl) rfl rfl ?_
  refine E_aload_n (pc := 5) (x := 308) ddX9_readClause_5 rfl rfl ?_
  refine E_getI (pc := 6) ddX9_readClause_6 ec_8 14 (Nat.le_of_ble_eq_true rfl) rfl w_3_196 ho.s0 ?_
  obtain ⟨v1, ev1⟩ : ∃ y : Int32, y = (I 308 14) := ⟨_, rfl⟩
  have k := k v1 ev1
  rw [← ev1]
  refine E_istore_n (pc := 9) (ls' := [some (.ref 308), some (.int y0), some (.int v1)]) ddX9_readClause_9 rfl (Nat.le_of_ble_eq_true rfl) rfl rfl ?_
  refine E_aload_n (pc := 10) (x := 308) ddX9_readClause_10 rfl rfl ?_
  refine E_dupr (pc := 11) ddX9_readClause_11 ?_
  refine E_getI (pc := 12) ddX9_readClause_12 ec_8 14 (Nat.le_of_ble_eq_true rfl) rfl w_3_196 ho.s0 ?_
  refine E_iconst (pc := 15) (v := 1) ddX9_readClause_15 rfl ?_
  refine E_iadd (pc := 16) ddX9_readClause_16 ?_
  obtain ⟨I2, eI2⟩ : ∃ y : It, y = e_st I 308 14 ((I 308 14) + 1) := ⟨_, rfl⟩
  have k := k I2 eI2
  refine E_putI (pc := 17) ddX9_readClause_17 ec_8 14 (Nat.le_of_ble_eq_true rfl) rfl w_3_196 ho.s0 rfl rfl ?_
  rw [← eI2]
  refine E_iload_n (pc := 20) (x := y0) ddX9_readClause_20 rfl rfl ?_
  refine E_bipush (pc := 21) (v := 119) ddX9_readClause_21 rfl ?_
  refine E_icmp_ne (pc := 23) (tgt := 34) ddX9_readClause_23 (by decide) (fun h => ?_) (fun h => ?_)
  · have k := k.1 h
    refine E_iload_n (pc := 34) (x := y0) ddX9_readClause_34 rfl rfl ?_
    refine E_bipush (pc := 35) (v := 103) ddX9_readClause_35 rfl ?_
    refine E_icmp_ne (pc := 37) (tgt := 48) ddX9_readClause_37 (by decide) (fun h => ?_) (fun h => ?_)
    · have k := k.1 h
      refine E_aload_n (pc := 48) (x := 308) ddX9_readClause_48 rfl rfl ?_
      refine E_iconst (pc := 49) (v := 1) ddX9_readClause_49 rfl ?_
      refine E_iload_n (pc := 50) (x := v1) ddX9_readClause_50 rfl rfl ?_
      refine E_callV (pc := 51) (As := [.int 1, .int v1]) (st := []) (a := 308) ddX9_readClause_51 hX9_fail ⟨(Nat.le_of_ble_eq_true rfl), (Nat.le_of_ble_eq_true rfl)⟩ w_4_34 (ci := 8) rfl rfl ho.s0 rfl rfl (Nat.le_of_ble_eq_true rfl) (e_cc rfl (e_cc rfl e_cn)) (Nat.le_of_ble_eq_true rfl) ?_
      refine (show E mX9_fail 0 0 0 [some (.ref 308), some (.int 1), some (.int v1)] [] z I2 _ from ?_)
      refine E_aload_n (pc := 0) (x := 308) ddX9_fail_0 rfl rfl ?_
      refine E_getI (pc := 1) ddX9_fail_1 ec_8 15 (Nat.le_of_ble_eq_true rfl) rfl w_3_197 ho.s0 ?_
      refine E_if_ne (pc := 4) (tgt := 17) ddX9_fail_4 (by decide) (fun h => ?_) (fun h => ?_)
      · have k := k.1 h
        refine E_vret (pc := 17) ddX9_fail_17 rfl ?_
        refine (show E mX9_readClause mc ms 54 [some (.ref 308), some (.int y0), some (.int v1)] [] z I2 Q from ?_)
        exact E.forget k ⟨rfl, trivial⟩
      · have k := k.2 h
        refine E_aload_n (pc := 7) (x := 308) ddX9_fail_7 rfl rfl ?_
        refine E_iload_n (pc := 8) (x := 1) ddX9_fail_8 rfl rfl ?_
        obtain ⟨I3, eI3⟩ : ∃ y : It, y = e_st I2 308 15 1 := ⟨_, rfl⟩
        have k := k I3 eI3
        refine E_putI (pc := 9) ddX9_fail_9 ec_8 15 (Nat.le_of_ble_eq_true rfl) rfl w_3_197 ho.s0 rfl rfl ?_
        rw [← eI3]
        refine E_aload_n (pc := 12) (x := 308) ddX9_fail_12 rfl rfl ?_
        refine E_iload_n (pc := 13) (x := v1) ddX9_fail_13 rfl rfl ?_
        obtain ⟨I4, eI4⟩ : ∃ y : It, y = e_st I3 308 16 v1 := ⟨_, rfl⟩
        have k := k I4 eI4
        refine E_putI (pc := 14) ddX9_fail_14 ec_8 16 (Nat.le_of_ble_eq_true rfl) rfl w_3_198 ho.s0 rfl rfl ?_
        rw [← eI4]
        refine E_vret (pc := 17) ddX9_fail_17 rfl ?_
        refine (show E mX9_readClause mc ms 54 [some (.ref 308), some (.int y0), some (.int v1)] [] z I4 Q from ?_)
        exact E.forget k ⟨rfl, trivial⟩
    · have k := k.2 h
      refine E_aload_n (pc := 40) (x := 308) ddX9_readClause_40 rfl rfl ?_
      refine E_iload_n (pc := 41) (x := v1) ddX9_readClause_41 rfl rfl ?_
      exact E_callV (pc := 42) (As := [.int v1]) (st := []) (a := 308) ddX9_readClause_42 hX9_readGate ⟨(Nat.le_of_ble_eq_true rfl), (Nat.le_of_ble_eq_true rfl)⟩ w_4_42 (ci := 8) rfl rfl ho.s0 rfl rfl (Nat.le_of_ble_eq_true rfl) (e_cc rfl e_cn) (Nat.le_of_ble_eq_true rfl) (E.mono k fun _ _ _ q => E.forget q ⟨rfl, trivial⟩)
  · have k := k.2 h
    refine E_aload_n (pc := 26) (x := 308) ddX9_readClause_26 rfl rfl ?_
    refine E_iload_n (pc := 27) (x := v1) ddX9_readClause_27 rfl rfl ?_
    exact E_callV (pc := 28) (As := [.int v1]) (st := []) (a := 308) ddX9_readClause_28 hX9_readWire ⟨(Nat.le_of_ble_eq_true rfl), (Nat.le_of_ble_eq_true rfl)⟩ w_4_30 (ci := 8) rfl rfl ho.s0 rfl rfl (Nat.le_of_ble_eq_true rfl) (e_cc rfl e_cn) (Nat.le_of_ble_eq_true rfl) (E.mono k fun _ _ _ q => E.forget q ⟨rfl, trivial⟩)
set_option maxRecDepth 100000 in
set_option maxHeartbeats 4000000 in
theorem B_X9_readClause_54 {mc ms : Nat} {z : Zt} {I : It} {Q : Option Value → Zt → It → Prop} (ho : isO z)
    (k : ((¬ (I 308 15) = 0) → ∀ I1 : It, I1 = e_st I 308 14 ((I 308 14) + 1) → Q none z I1) ∧
    (((I 308 15) = 0) → E mX9_here 0 0 0 [some (.ref 308)] [] z I (fun r z' I' => E mX9_readClause mc ms 65 [some (.ref 308), none, none] (r.toList ++ []) z' I' Q))) :
    E mX9_readClause mc ms 54 [some (.ref 308), none, none] [] z I Q := by
  refine E_aload_n (pc := 54) (x := 308) ddX9_readClause_54 rfl rfl ?_
  refine E_getI (pc := 55) ddX9_readClause_55 ec_8 15 (Nat.le_of_ble_eq_true rfl) rfl w_3_197 ho.s0 ?_
  refine E_if_ne (pc := 58) (tgt := 79) ddX9_readClause_58 (by decide) (fun h => ?_) (fun h => ?_)
  · have k := k.1 h
    refine E_aload_n (pc := 79) (x := 308) ddX9_readClause_79 rfl rfl ?_
    refine E_dupr (pc := 80) ddX9_readClause_80 ?_
    refine E_getI (pc := 81) ddX9_readClause_81 ec_8 14 (Nat.le_of_ble_eq_true rfl) rfl w_3_196 ho.s0 ?_
    refine E_iconst (pc := 84) (v := 1) ddX9_readClause_84 rfl ?_
    refine E_iadd (pc := 85) ddX9_readClause_85 ?_
    obtain ⟨I1, eI1⟩ : ∃ y : It, y = e_st I 308 14 ((I 308 14) + 1) := ⟨_, rfl⟩
    have k := k I1 eI1
    refine E_putI (pc := 86) ddX9_readClause_86 ec_8 14 (Nat.le_of_ble_eq_true rfl) rfl w_3_196 ho.s0 rfl rfl ?_
    rw [← eI1]
    exact E_vret (pc := 89) ddX9_readClause_89 rfl k
  · have k := k.2 h
    refine E_aload_n (pc := 61) (x := 308) ddX9_readClause_61 rfl rfl ?_
    exact E_callV (pc := 62) (As := []) (st := []) (a := 308) ddX9_readClause_62 hX9_here ⟨(Nat.le_of_ble_eq_true rfl), (Nat.le_of_ble_eq_true rfl)⟩ w_4_22 (ci := 8) rfl rfl ho.s0 rfl rfl (Nat.le_of_ble_eq_true rfl) e_cn (Nat.le_of_ble_eq_true rfl) k
set_option maxRecDepth 100000 in
set_option maxHeartbeats 4000000 in
theorem B_X9_readClause_45 {mc ms : Nat} {z : Zt} {I : It} {Q : Option Value → Zt → It → Prop} (ho : isO z)
    (k : E mX9_readClause mc ms 54 [some (.ref 308), none, none] [] z I Q) :
    E mX9_readClause mc ms 45 [some (.ref 308), none, none] [] z I Q := by
  refine E_goto (pc := 45) (tgt := 54) ddX9_readClause_45 (by decide) ?_
  exact k
set_option maxRecDepth 100000 in
set_option maxHeartbeats 4000000 in
theorem B_X9_readClause_31 {mc ms : Nat} {z : Zt} {I : It} {Q : Option Value → Zt → It → Prop} (ho : isO z)
    (k : E mX9_readClause mc ms 54 [some (.ref 308), none, none] [] z I Q) :
    E mX9_readClause mc ms 31 [some (.ref 308), none, none] [] z I Q := by
  refine E_goto (pc := 31) (tgt := 54) ddX9_readClause_31 (by decide) ?_
  exact k
set_option maxRecDepth 100000 in
set_option maxHeartbeats 4000000 in
theorem B_X9_readClause_65 {mc ms : Nat} {z : Zt} {I : It} {Q : Option Value → Zt → It → Prop} {y0 : Int32} (ho : isO z)
    (k : ((y0 = 59) → ∀ I1 : It, I1 = e_st I 308 14 ((I 308 14) + 1) → Q none z I1) ∧
    ((¬ y0 = 59) → ((¬ (I 308 15) = 0) → ∀ I1 : It, I1 = e_st I 308 14 ((I 308 14) + 1) → Q none z I1) ∧
    (((I 308 15) = 0) → ∀ I1 : It, I1 = e_st I 308 15 1 → ∀ I2 : It, I2 = e_st I1 308 16 (I 308 14) → ∀ I3 : It, I3 = e_st I2 308 14 ((I2 308 14) + 1) → Q none z I3))) :
    E mX9_readClause mc ms 65 [some (.ref 308), none, none] [.int y0] z I Q := by
  refine E_bipush (pc := 65) (v := 59) ddX9_readClause_65 rfl ?_
  refine E_icmp_eq (pc := 67) (tgt := 79) ddX9_readClause_67 (by decide) (fun h => ?_) (fun h => ?_)
  · have k := k.1 h
    refine E_aload_n (pc := 79) (x := 308) ddX9_readClause_79 rfl rfl ?_
    refine E_dupr (pc := 80) ddX9_readClause_80 ?_
    refine E_getI (pc := 81) ddX9_readClause_81 ec_8 14 (Nat.le_of_ble_eq_true rfl) rfl w_3_196 ho.s0 ?_
    refine E_iconst (pc := 84) (v := 1) ddX9_readClause_84 rfl ?_
    refine E_iadd (pc := 85) ddX9_readClause_85 ?_
    obtain ⟨I1, eI1⟩ : ∃ y : It, y = e_st I 308 14 ((I 308 14) + 1) := ⟨_, rfl⟩
    have k := k I1 eI1
    refine E_putI (pc := 86) ddX9_readClause_86 ec_8 14 (Nat.le_of_ble_eq_true rfl) rfl w_3_196 ho.s0 rfl rfl ?_
    rw [← eI1]
    exact E_vret (pc := 89) ddX9_readClause_89 rfl k
  · have k := k.2 h
    refine E_aload_n (pc := 70) (x := 308) ddX9_readClause_70 rfl rfl ?_
    refine E_iconst (pc := 71) (v := 1) ddX9_readClause_71 rfl ?_
    refine E_aload_n (pc := 72) (x := 308) ddX9_readClause_72 rfl rfl ?_
    refine E_getI (pc := 73) ddX9_readClause_73 ec_8 14 (Nat.le_of_ble_eq_true rfl) rfl w_3_196 ho.s0 ?_
    refine E_callV (pc := 76) (As := [.int 1, .int (I 308 14)]) (st := []) (a := 308) ddX9_readClause_76 hX9_fail ⟨(Nat.le_of_ble_eq_true rfl), (Nat.le_of_ble_eq_true rfl)⟩ w_4_34 (ci := 8) rfl rfl ho.s0 rfl rfl (Nat.le_of_ble_eq_true rfl) (e_cc rfl (e_cc rfl e_cn)) (Nat.le_of_ble_eq_true rfl) ?_
    refine (show E mX9_fail 0 0 0 [some (.ref 308), some (.int 1), some (.int (I 308 14))] [] z I _ from ?_)
    refine E_aload_n (pc := 0) (x := 308) ddX9_fail_0 rfl rfl ?_
    refine E_getI (pc := 1) ddX9_fail_1 ec_8 15 (Nat.le_of_ble_eq_true rfl) rfl w_3_197 ho.s0 ?_
    refine E_if_ne (pc := 4) (tgt := 17) ddX9_fail_4 (by decide) (fun h => ?_) (fun h => ?_)
    · have k := k.1 h
      refine E_vret (pc := 17) ddX9_fail_17 rfl ?_
      refine (show E mX9_readClause mc ms 79 [some (.ref 308), none, none] [] z I Q from ?_)
      refine E_aload_n (pc := 79) (x := 308) ddX9_readClause_79 rfl rfl ?_
      refine E_dupr (pc := 80) ddX9_readClause_80 ?_
      refine E_getI (pc := 81) ddX9_readClause_81 ec_8 14 (Nat.le_of_ble_eq_true rfl) rfl w_3_196 ho.s0 ?_
      refine E_iconst (pc := 84) (v := 1) ddX9_readClause_84 rfl ?_
      refine E_iadd (pc := 85) ddX9_readClause_85 ?_
      obtain ⟨I1, eI1⟩ : ∃ y : It, y = e_st I 308 14 ((I 308 14) + 1) := ⟨_, rfl⟩
      have k := k I1 eI1
      refine E_putI (pc := 86) ddX9_readClause_86 ec_8 14 (Nat.le_of_ble_eq_true rfl) rfl w_3_196 ho.s0 rfl rfl ?_
      rw [← eI1]
      exact E_vret (pc := 89) ddX9_readClause_89 rfl k
    · have k := k.2 h
      refine E_aload_n (pc := 7) (x := 308) ddX9_fail_7 rfl rfl ?_
      refine E_iload_n (pc := 8) (x := 1) ddX9_fail_8 rfl rfl ?_
      obtain ⟨I1, eI1⟩ : ∃ y : It, y = e_st I 308 15 1 := ⟨_, rfl⟩
      have k := k I1 eI1
      refine E_putI (pc := 9) ddX9_fail_9 ec_8 15 (Nat.le_of_ble_eq_true rfl) rfl w_3_197 ho.s0 rfl rfl ?_
      rw [← eI1]
      refine E_aload_n (pc := 12) (x := 308) ddX9_fail_12 rfl rfl ?_
      refine E_iload_n (pc := 13) (x := (I 308 14)) ddX9_fail_13 rfl rfl ?_
      obtain ⟨I2, eI2⟩ : ∃ y : It, y = e_st I1 308 16 (I 308 14) := ⟨_, rfl⟩
      have k := k I2 eI2
      refine E_putI (pc := 14) ddX9_fail_14 ec_8 16 (Nat.le_of_ble_eq_true rfl) rfl w_3_198 ho.s0 rfl rfl ?_
      rw [← eI2]
      refine E_vret (pc := 17) ddX9_fail_17 rfl ?_
      refine (show E mX9_readClause mc ms 79 [some (.ref 308), none, none] [] z I2 Q from ?_)
      refine E_aload_n (pc := 79) (x := 308) ddX9_readClause_79 rfl rfl ?_
      refine E_dupr (pc := 80) ddX9_readClause_80 ?_
      refine E_getI (pc := 81) ddX9_readClause_81 ec_8 14 (Nat.le_of_ble_eq_true rfl) rfl w_3_196 ho.s0 ?_
      refine E_iconst (pc := 84) (v := 1) ddX9_readClause_84 rfl ?_
      refine E_iadd (pc := 85) ddX9_readClause_85 ?_
      obtain ⟨I3, eI3⟩ : ∃ y : It, y = e_st I2 308 14 ((I2 308 14) + 1) := ⟨_, rfl⟩
      have k := k I3 eI3
      refine E_putI (pc := 86) ddX9_readClause_86 ec_8 14 (Nat.le_of_ble_eq_true rfl) rfl w_3_196 ho.s0 rfl rfl ?_
      rw [← eI3]
      exact E_vret (pc := 89) ddX9_readClause_89 rfl k
/-! X9_begin, labels [18, 40, 79, 110, 153] -/
set_option maxRecDepth 100000 in
set_option maxHeartbeats 4000000 in
theorem B_X9_begin_0 {mc ms : Nat} {z : Zt} {I : It} {Q : Option Value → Zt → It → Prop} (ho : isO z)
    (k : ∀ I1 : It, I1 = e_st I 308 1 (I 308 18) → ∀ I2 : It, I2 = e_st I1 308 2 (I1 308 19) → E mX9_begin mc ms 18 [some (.ref 308), some (.int 0)] [] z I2 Q) :
    E mX9_begin mc ms 0 [some (.ref 308), none] [] z I Q := by
  refine E_aload_n (pc := 0) (x := 308) ddX9_begin_0 rfl rfl ?_
  refine E_aload_n (pc := 1) (x := 308) ddX9_begin_1 rfl rfl ?_
  refine E_getI (pc := 2) ddX9_begin_2 ec_8 18 (Nat.le_of_ble_eq_true rfl) rfl w_3_200 ho.s0 ?_
  obtain ⟨I1, eI1⟩ : ∃ y : It, y = e_st I 308 1 (I 308 18) := ⟨_, rfl⟩
  have k := k I1 eI1
  refine E_putI (pc := 5) ddX9_begin_5 ec_8 1 (Nat.le_of_ble_eq_true rfl) rfl w_3_183 ho.s0 rfl rfl ?_
  rw [← eI1]
  refine E_aload_n (pc := 8) (x := 308) ddX9_begin_8 rfl rfl ?_
  refine E_aload_n (pc := 9) (x := 308) ddX9_begin_9 rfl rfl ?_
  refine E_getI (pc := 10) ddX9_begin_10 ec_8 19 (Nat.le_of_ble_eq_true rfl) rfl w_3_201 ho.s0 ?_
  obtain ⟨I2, eI2⟩ : ∃ y : It, y = e_st I1 308 2 (I1 308 19) := ⟨_, rfl⟩
  have k := k I2 eI2
  refine E_putI (pc := 13) ddX9_begin_13 ec_8 2 (Nat.le_of_ble_eq_true rfl) rfl w_3_184 ho.s0 rfl rfl ?_
  rw [← eI2]
  refine E_iconst (pc := 16) (v := 0) ddX9_begin_16 rfl ?_
  refine E_istore_n (pc := 17) (ls' := [some (.ref 308), some (.int 0)]) ddX9_begin_17 rfl (Nat.le_of_ble_eq_true rfl) rfl rfl ?_
  exact k
set_option maxRecDepth 100000 in
set_option maxHeartbeats 4000000 in
theorem B_X9_begin_18 {mc ms : Nat} {z : Zt} {I : It} {Q : Option Value → Zt → It → Prop} {x1 : Int32} (ho : isO z)
    (k : ((344 ≤ x1) → E mX9_begin mc ms 40 [some (.ref 308), some (.int 0)] [] z I Q) ∧
    ((¬ 344 ≤ x1) → ∃ j1 : Nat, x1 = nI j1 ∧ j1 < 6880 ∧ ∀ I2 : It, I2 = e_st I 309 j1 0 → E mX9_begin mc ms 18 [some (.ref 308), some (.int (x1 + 1))] [] z I2 Q)) :
    E mX9_begin mc ms 18 [some (.ref 308), some (.int x1)] [] z I Q := by
  refine E_iload_n (pc := 18) (x := x1) ddX9_begin_18 rfl rfl ?_
  refine E_sipush (pc := 19) (v := 344) ddX9_begin_19 rfl ?_
  refine E_icmp_ge (pc := 22) (tgt := 38) ddX9_begin_22 (by decide) (fun h => ?_) (fun h => ?_)
  · have k := k.1 h
    refine E_iconst (pc := 38) (v := 0) ddX9_begin_38 rfl ?_
    refine E_istore_n (pc := 39) (ls' := [some (.ref 308), some (.int 0)]) ddX9_begin_39 rfl (Nat.le_of_ble_eq_true rfl) rfl rfl ?_
    exact k
  · have k := k.2 h
    refine E_aload_n (pc := 25) (x := 308) ddX9_begin_25 rfl rfl ?_
    refine E_getR (pc := 26) (x := 309) ddX9_begin_26 ec_8 0 (Nat.le_of_ble_eq_true rfl) rfl w_3_182 ho.s0 ho.r0 (by decide) ?_
    refine E_iload_n (pc := 29) (x := x1) ddX9_begin_29 rfl rfl ?_
    refine E_iconst (pc := 30) (v := 0) ddX9_begin_30 rfl ?_
    obtain ⟨j1, ij1, lj1, k⟩ := k
    obtain ⟨I2, eI2⟩ : ∃ y : It, y = e_st I 309 j1 0 := ⟨_, rfl⟩
    have k := k I2 eI2
    refine E_iastN (pc := 31) (j := j1) ddX9_begin_31 ho.s1 (by decide) ij1 lj1 (Nat.le_of_ble_eq_true rfl) ?_
    rw [← eI2]
    refine E_iinc (pc := 32) (v := (x1 + 1)) (ls' := [some (.ref 308), some (.int (x1 + 1))]) ddX9_begin_32 rfl rfl (Nat.le_of_ble_eq_true rfl) rfl rfl ?_
    refine E_goto (pc := 35) (tgt := 18) ddX9_begin_35 (by decide) ?_
    exact k
set_option maxRecDepth 100000 in
set_option maxHeartbeats 4000000 in
theorem B_X9_begin_40 {mc ms : Nat} {z : Zt} {I : It} {Q : Option Value → Zt → It → Prop} {x1 : Int32} (ho : isO z)
    (k : ((8 ≤ x1) → E mX9_begin mc ms 79 [some (.ref 308), some (.int 0)] [] z I Q) ∧
    ((¬ 8 ≤ x1) → ∃ j1 : Nat, x1 = nI j1 ∧ j1 < 8 ∧ ∃ j2 : Nat, (8 + x1) = nI j2 ∧ j2 < 6880 ∧ ∀ I3 : It, I3 = e_st I 309 j2 (I 315 j1) → ∃ j4 : Nat, (24 + x1) = nI j4 ∧ j4 < 6880 ∧ ∀ I5 : It, I5 = e_st I3 309 j4 (-1) → E mX9_begin mc ms 40 [some (.ref 308), some (.int (x1 + 1))] [] z I5 Q)) :
    E mX9_begin mc ms 40 [some (.ref 308), some (.int x1)] [] z I Q := by
  refine E_iload_n (pc := 40) (x := x1) ddX9_begin_40 rfl rfl ?_
  refine E_bipush (pc := 41) (v := 8) ddX9_begin_41 rfl ?_
  refine E_icmp_ge (pc := 43) (tgt := 77) ddX9_begin_43 (by decide) (fun h => ?_) (fun h => ?_)
  · have k := k.1 h
    refine E_iconst (pc := 77) (v := 0) ddX9_begin_77 rfl ?_
    refine E_istore_n (pc := 78) (ls' := [some (.ref 308), some (.int 0)]) ddX9_begin_78 rfl (Nat.le_of_ble_eq_true rfl) rfl rfl ?_
    exact k
  · have k := k.2 h
    refine E_aload_n (pc := 46) (x := 308) ddX9_begin_46 rfl rfl ?_
    refine E_getR (pc := 47) (x := 309) ddX9_begin_47 ec_8 0 (Nat.le_of_ble_eq_true rfl) rfl w_3_182 ho.s0 ho.r0 (by decide) ?_
    refine E_bipush (pc := 50) (v := 8) ddX9_begin_50 rfl ?_
    refine E_iload_n (pc := 52) (x := x1) ddX9_begin_52 rfl rfl ?_
    refine E_iadd (pc := 53) ddX9_begin_53 ?_
    refine E_aload_n (pc := 54) (x := 308) ddX9_begin_54 rfl rfl ?_
    refine E_getR (pc := 55) (x := 315) ddX9_begin_55 ec_8 20 (Nat.le_of_ble_eq_true rfl) rfl w_3_202 ho.s0 ho.r20 (by decide) ?_
    refine E_iload_n (pc := 58) (x := x1) ddX9_begin_58 rfl rfl ?_
    obtain ⟨j1, ij1, lj1, k⟩ := k
    refine E_ialdN (pc := 59) (j := j1) ddX9_begin_59 ho.s7 ij1 lj1 (Nat.le_of_ble_eq_true rfl) ?_
    obtain ⟨j2, ij2, lj2, k⟩ := k
    obtain ⟨I3, eI3⟩ : ∃ y : It, y = e_st I 309 j2 (I 315 j1) := ⟨_, rfl⟩
    have k := k I3 eI3
    refine E_iastN (pc := 60) (j := j2) ddX9_begin_60 ho.s1 (by decide) ij2 lj2 (Nat.le_of_ble_eq_true rfl) ?_
    rw [← eI3]
    refine E_aload_n (pc := 61) (x := 308) ddX9_begin_61 rfl rfl ?_
    refine E_getR (pc := 62) (x := 309) ddX9_begin_62 ec_8 0 (Nat.le_of_ble_eq_true rfl) rfl w_3_182 ho.s0 ho.r0 (by decide) ?_
    refine E_bipush (pc := 65) (v := 24) ddX9_begin_65 rfl ?_
    refine E_iload_n (pc := 67) (x := x1) ddX9_begin_67 rfl rfl ?_
    refine E_iadd (pc := 68) ddX9_begin_68 ?_
    refine E_iconst (pc := 69) (v := (-1)) ddX9_begin_69 rfl ?_
    obtain ⟨j4, ij4, lj4, k⟩ := k
    obtain ⟨I5, eI5⟩ : ∃ y : It, y = e_st I3 309 j4 (-1) := ⟨_, rfl⟩
    have k := k I5 eI5
    refine E_iastN (pc := 70) (j := j4) ddX9_begin_70 ho.s1 (by decide) ij4 lj4 (Nat.le_of_ble_eq_true rfl) ?_
    rw [← eI5]
    refine E_iinc (pc := 71) (v := (x1 + 1)) (ls' := [some (.ref 308), some (.int (x1 + 1))]) ddX9_begin_71 rfl rfl (Nat.le_of_ble_eq_true rfl) rfl rfl ?_
    refine E_goto (pc := 74) (tgt := 40) ddX9_begin_74 (by decide) ?_
    exact k
set_option maxRecDepth 100000 in
set_option maxHeartbeats 4000000 in
theorem B_X9_begin_79 {mc ms : Nat} {z : Zt} {I : It} {Q : Option Value → Zt → It → Prop} {x1 : Int32} (ho : isO z)
    (k : (((6 * (I 308 2)) ≤ x1) → E mX9_begin mc ms 110 [some (.ref 308), some (.int 0)] [] z I Q) ∧
    ((¬ (6 * (I 308 2)) ≤ x1) → ∃ j1 : Nat, x1 = nI j1 ∧ j1 < 48 ∧ ∀ I2 : It, I2 = e_st I 310 j1 (I 316 j1) → E mX9_begin mc ms 79 [some (.ref 308), some (.int (x1 + 1))] [] z I2 Q)) :
    E mX9_begin mc ms 79 [some (.ref 308), some (.int x1)] [] z I Q := by
  refine E_iload_n (pc := 79) (x := x1) ddX9_begin_79 rfl rfl ?_
  refine E_bipush (pc := 80) (v := 6) ddX9_begin_80 rfl ?_
  refine E_aload_n (pc := 82) (x := 308) ddX9_begin_82 rfl rfl ?_
  refine E_getI (pc := 83) ddX9_begin_83 ec_8 2 (Nat.le_of_ble_eq_true rfl) rfl w_3_184 ho.s0 ?_
  refine E_imul (pc := 86) ddX9_begin_86 ?_
  refine E_icmp_ge (pc := 87) (tgt := 108) ddX9_begin_87 (by decide) (fun h => ?_) (fun h => ?_)
  · have k := k.1 h
    refine E_iconst (pc := 108) (v := 0) ddX9_begin_108 rfl ?_
    refine E_istore_n (pc := 109) (ls' := [some (.ref 308), some (.int 0)]) ddX9_begin_109 rfl (Nat.le_of_ble_eq_true rfl) rfl rfl ?_
    exact k
  · have k := k.2 h
    refine E_aload_n (pc := 90) (x := 308) ddX9_begin_90 rfl rfl ?_
    refine E_getR (pc := 91) (x := 310) ddX9_begin_91 ec_8 3 (Nat.le_of_ble_eq_true rfl) rfl w_3_185 ho.s0 ho.r3 (by decide) ?_
    refine E_iload_n (pc := 94) (x := x1) ddX9_begin_94 rfl rfl ?_
    refine E_aload_n (pc := 95) (x := 308) ddX9_begin_95 rfl rfl ?_
    refine E_getR (pc := 96) (x := 316) ddX9_begin_96 ec_8 21 (Nat.le_of_ble_eq_true rfl) rfl w_3_203 ho.s0 ho.r21 (by decide) ?_
    refine E_iload_n (pc := 99) (x := x1) ddX9_begin_99 rfl rfl ?_
    obtain ⟨j1, ij1, lj1, k⟩ := k
    refine E_ialdN (pc := 100) (j := j1) ddX9_begin_100 ho.s8 ij1 lj1 (Nat.le_of_ble_eq_true rfl) ?_
    obtain ⟨I2, eI2⟩ : ∃ y : It, y = e_st I 310 j1 (I 316 j1) := ⟨_, rfl⟩
    have k := k I2 eI2
    refine E_iastN (pc := 101) (j := j1) ddX9_begin_101 ho.s2 (by decide) ij1 lj1 (Nat.le_of_ble_eq_true rfl) ?_
    rw [← eI2]
    refine E_iinc (pc := 102) (v := (x1 + 1)) (ls' := [some (.ref 308), some (.int (x1 + 1))]) ddX9_begin_102 rfl rfl (Nat.le_of_ble_eq_true rfl) rfl rfl ?_
    refine E_goto (pc := 105) (tgt := 79) ddX9_begin_105 (by decide) ?_
    exact k
set_option maxRecDepth 100000 in
set_option maxHeartbeats 4000000 in
theorem B_X9_begin_110 {mc ms : Nat} {z : Zt} {I : It} {Q : Option Value → Zt → It → Prop} {x1 : Int32} (ho : isO z)
    (k : (((I 308 2) ≤ x1) → E mX9_tellAll 0 0 0 [some (.ref 308), some (.int 0), none] [] z I (fun r z' I' => E mX9_begin mc ms 153 [some (.ref 308), none] (r.toList ++ []) z' I' Q)) ∧
    ((¬ (I 308 2) ≤ x1) → ∃ j1 : Nat, ((6 * x1) + 3) = nI j1 ∧ j1 < 48 ∧ ∃ j2 : Nat, (8 + (I 310 j1)) = nI j2 ∧ j2 < 6880 ∧ ∃ j3 : Nat, (176 + x1) = nI j3 ∧ j3 < 6880 ∧ ∀ I4 : It, I4 = e_st I 309 j3 (I 309 j2) → E mX9_begin mc ms 110 [some (.ref 308), some (.int (x1 + 1))] [] z I4 Q)) :
    E mX9_begin mc ms 110 [some (.ref 308), some (.int x1)] [] z I Q := by
  refine E_iload_n (pc := 110) (x := x1) ddX9_begin_110 rfl rfl ?_
  refine E_aload_n (pc := 111) (x := 308) ddX9_begin_111 rfl rfl ?_
  refine E_getI (pc := 112) ddX9_begin_112 ec_8 2 (Nat.le_of_ble_eq_true rfl) rfl w_3_184 ho.s0 ?_
  refine E_icmp_ge (pc := 115) (tgt := 148) ddX9_begin_115 (by decide) (fun h => ?_) (fun h => ?_)
  · have k := k.1 h
    refine E_aload_n (pc := 148) (x := 308) ddX9_begin_148 rfl rfl ?_
    refine E_iconst (pc := 149) (v := 0) ddX9_begin_149 rfl ?_
    exact E_callV (pc := 150) (As := [.int 0]) (st := []) (a := 308) ddX9_begin_150 hX9_tellAll ⟨(Nat.le_of_ble_eq_true rfl), (Nat.le_of_ble_eq_true rfl)⟩ w_4_54 (ci := 8) rfl rfl ho.s0 rfl rfl (Nat.le_of_ble_eq_true rfl) (e_cc rfl e_cn) (Nat.le_of_ble_eq_true rfl) (E.mono k fun _ _ _ q => E.forget q ⟨rfl, trivial⟩)
  · have k := k.2 h
    refine E_aload_n (pc := 118) (x := 308) ddX9_begin_118 rfl rfl ?_
    refine E_getR (pc := 119) (x := 309) ddX9_begin_119 ec_8 0 (Nat.le_of_ble_eq_true rfl) rfl w_3_182 ho.s0 ho.r0 (by decide) ?_
    refine E_sipush (pc := 122) (v := 176) ddX9_begin_122 rfl ?_
    refine E_iload_n (pc := 125) (x := x1) ddX9_begin_125 rfl rfl ?_
    refine E_iadd (pc := 126) ddX9_begin_126 ?_
    refine E_aload_n (pc := 127) (x := 308) ddX9_begin_127 rfl rfl ?_
    refine E_getR (pc := 128) (x := 309) ddX9_begin_128 ec_8 0 (Nat.le_of_ble_eq_true rfl) rfl w_3_182 ho.s0 ho.r0 (by decide) ?_
    refine E_bipush (pc := 131) (v := 8) ddX9_begin_131 rfl ?_
    refine E_aload_n (pc := 133) (x := 308) ddX9_begin_133 rfl rfl ?_
    refine E_iload_n (pc := 134) (x := x1) ddX9_begin_134 rfl rfl ?_
    refine E_iconst (pc := 135) (v := 3) ddX9_begin_135 rfl ?_
    refine E_callV (pc := 136) (As := [.int x1, .int 3]) (st := [.int 8, .ref 309, .int (176 + x1), .ref 309]) (a := 308) ddX9_begin_136 hX9_of ⟨(Nat.le_of_ble_eq_true rfl), (Nat.le_of_ble_eq_true rfl)⟩ w_4_50 (ci := 8) rfl rfl ho.s0 rfl rfl (Nat.le_of_ble_eq_true rfl) (e_cc rfl (e_cc rfl e_cn)) (Nat.le_of_ble_eq_true rfl) ?_
    refine (show E mX9_of 0 0 0 [some (.ref 308), some (.int x1), some (.int 3)] [] z I _ from ?_)
    refine E_aload_n (pc := 0) (x := 308) ddX9_of_0 rfl rfl ?_
    refine E_getR (pc := 1) (x := 310) ddX9_of_1 ec_8 3 (Nat.le_of_ble_eq_true rfl) rfl w_3_185 ho.s0 ho.r3 (by decide) ?_
    refine E_bipush (pc := 4) (v := 6) ddX9_of_4 rfl ?_
    refine E_iload_n (pc := 6) (x := x1) ddX9_of_6 rfl rfl ?_
    refine E_imul (pc := 7) ddX9_of_7 ?_
    refine E_iload_n (pc := 8) (x := 3) ddX9_of_8 rfl rfl ?_
    refine E_iadd (pc := 9) ddX9_of_9 ?_
    obtain ⟨j1, ij1, lj1, k⟩ := k
    refine E_ialdN (pc := 10) (j := j1) ddX9_of_10 ho.s2 ij1 lj1 (Nat.le_of_ble_eq_true rfl) ?_
    refine E_iret (pc := 11) ddX9_of_11 rfl ?_
    refine (show E mX9_begin mc ms 139 [some (.ref 308), some (.int x1)] [.int (I 310 j1), .int 8, .ref 309, .int (176 + x1), .ref 309] z I Q from ?_)
    refine E_iadd (pc := 139) ddX9_begin_139 ?_
    obtain ⟨j2, ij2, lj2, k⟩ := k
    refine E_ialdN (pc := 140) (j := j2) ddX9_begin_140 ho.s1 ij2 lj2 (Nat.le_of_ble_eq_true rfl) ?_
    obtain ⟨j3, ij3, lj3, k⟩ := k
    obtain ⟨I4, eI4⟩ : ∃ y : It, y = e_st I 309 j3 (I 309 j2) := ⟨_, rfl⟩
    have k := k I4 eI4
    refine E_iastN (pc := 141) (j := j3) ddX9_begin_141 ho.s1 (by decide) ij3 lj3 (Nat.le_of_ble_eq_true rfl) ?_
    rw [← eI4]
    refine E_iinc (pc := 142) (v := (x1 + 1)) (ls' := [some (.ref 308), some (.int (x1 + 1))]) ddX9_begin_142 rfl rfl (Nat.le_of_ble_eq_true rfl) rfl rfl ?_
    refine E_goto (pc := 145) (tgt := 110) ddX9_begin_145 (by decide) ?_
    exact k
set_option maxRecDepth 100000 in
set_option maxHeartbeats 4000000 in
theorem B_X9_begin_153 {mc ms : Nat} {z : Zt} {I : It} {Q : Option Value → Zt → It → Prop} (ho : isO z)
    (k : ∀ I1 : It, I1 = e_st I 308 4 0 → ∀ I2 : It, I2 = e_st I1 308 5 0 → ∀ I3 : It, I3 = e_st I2 308 10 0 → Q none z I3) :
    E mX9_begin mc ms 153 [some (.ref 308), none] [] z I Q := by
  refine E_aload_n (pc := 153) (x := 308) ddX9_begin_153 rfl rfl ?_
  refine E_iconst (pc := 154) (v := 0) ddX9_begin_154 rfl ?_
  obtain ⟨I1, eI1⟩ : ∃ y : It, y = e_st I 308 4 0 := ⟨_, rfl⟩
  have k := k I1 eI1
  refine E_putI (pc := 155) ddX9_begin_155 ec_8 4 (Nat.le_of_ble_eq_true rfl) rfl w_3_186 ho.s0 rfl rfl ?_
  rw [← eI1]
  refine E_aload_n (pc := 158) (x := 308) ddX9_begin_158 rfl rfl ?_
  refine E_iconst (pc := 159) (v := 0) ddX9_begin_159 rfl ?_
  obtain ⟨I2, eI2⟩ : ∃ y : It, y = e_st I1 308 5 0 := ⟨_, rfl⟩
  have k := k I2 eI2
  refine E_putI (pc := 160) ddX9_begin_160 ec_8 5 (Nat.le_of_ble_eq_true rfl) rfl w_3_187 ho.s0 rfl rfl ?_
  rw [← eI2]
  refine E_aload_n (pc := 163) (x := 308) ddX9_begin_163 rfl rfl ?_
  refine E_iconst (pc := 164) (v := 0) ddX9_begin_164 rfl ?_
  obtain ⟨I3, eI3⟩ : ∃ y : It, y = e_st I2 308 10 0 := ⟨_, rfl⟩
  have k := k I3 eI3
  refine E_putI (pc := 165) ddX9_begin_165 ec_8 10 (Nat.le_of_ble_eq_true rfl) rfl w_3_192 ho.s0 rfl rfl ?_
  rw [← eI3]
  exact E_vret (pc := 168) ddX9_begin_168 rfl k
/-! X9_wires, labels [25, 36, 44, 47, 79] -/
set_option maxRecDepth 100000 in
set_option maxHeartbeats 4000000 in
theorem B_X9_wires_0 {mc ms : Nat} {z : Zt} {I : It} {Q : Option Value → Zt → It → Prop} (ho : isO z)
    (k : ∀ I1 : It, I1 = e_st I 308 14 0 → ∀ I2 : It, I2 = e_st I1 308 15 0 → ∀ I3 : It, I3 = e_st I2 308 18 0 → ∀ I4 : It, I4 = e_st I3 308 19 0 → ∀ I5 : It, I5 = e_st I4 308 13 (-1) → E mX9_wires mc ms 25 [some (.ref 308)] [] z I5 Q) :
    E mX9_wires mc ms 0 [some (.ref 308)] [] z I Q := by
  refine E_aload_n (pc := 0) (x := 308) ddX9_wires_0 rfl rfl ?_
  refine E_iconst (pc := 1) (v := 0) ddX9_wires_1 rfl ?_
  obtain ⟨I1, eI1⟩ : ∃ y : It, y = e_st I 308 14 0 := ⟨_, rfl⟩
  have k := k I1 eI1
  refine E_putI (pc := 2) ddX9_wires_2 ec_8 14 (Nat.le_of_ble_eq_true rfl) rfl w_3_196 ho.s0 rfl rfl ?_
  rw [← eI1]
  refine E_aload_n (pc := 5) (x := 308) ddX9_wires_5 rfl rfl ?_
  refine E_iconst (pc := 6) (v := 0) ddX9_wires_6 rfl ?_
  obtain ⟨I2, eI2⟩ : ∃ y : It, y = e_st I1 308 15 0 := ⟨_, rfl⟩
  have k := k I2 eI2
  refine E_putI (pc := 7) ddX9_wires_7 ec_8 15 (Nat.le_of_ble_eq_true rfl) rfl w_3_197 ho.s0 rfl rfl ?_
  rw [← eI2]
  refine E_aload_n (pc := 10) (x := 308) ddX9_wires_10 rfl rfl ?_
  refine E_iconst (pc := 11) (v := 0) ddX9_wires_11 rfl ?_
  obtain ⟨I3, eI3⟩ : ∃ y : It, y = e_st I2 308 18 0 := ⟨_, rfl⟩
  have k := k I3 eI3
  refine E_putI (pc := 12) ddX9_wires_12 ec_8 18 (Nat.le_of_ble_eq_true rfl) rfl w_3_200 ho.s0 rfl rfl ?_
  rw [← eI3]
  refine E_aload_n (pc := 15) (x := 308) ddX9_wires_15 rfl rfl ?_
  refine E_iconst (pc := 16) (v := 0) ddX9_wires_16 rfl ?_
  obtain ⟨I4, eI4⟩ : ∃ y : It, y = e_st I3 308 19 0 := ⟨_, rfl⟩
  have k := k I4 eI4
  refine E_putI (pc := 17) ddX9_wires_17 ec_8 19 (Nat.le_of_ble_eq_true rfl) rfl w_3_201 ho.s0 rfl rfl ?_
  rw [← eI4]
  refine E_aload_n (pc := 20) (x := 308) ddX9_wires_20 rfl rfl ?_
  refine E_iconst (pc := 21) (v := (-1)) ddX9_wires_21 rfl ?_
  obtain ⟨I5, eI5⟩ : ∃ y : It, y = e_st I4 308 13 (-1) := ⟨_, rfl⟩
  have k := k I5 eI5
  refine E_putI (pc := 22) ddX9_wires_22 ec_8 13 (Nat.le_of_ble_eq_true rfl) rfl w_3_195 ho.s0 rfl rfl ?_
  rw [← eI5]
  exact k
set_option maxRecDepth 100000 in
set_option maxHeartbeats 4000000 in
theorem B_X9_wires_25 {mc ms : Nat} {z : Zt} {I : It} {Q : Option Value → Zt → It → Prop} (ho : isO z)
    (k : ((¬ (I 308 15) = 0) → E mX9_wires mc ms 47 [some (.ref 308)] [] z I Q) ∧
    (((I 308 15) = 0) → E mX9_here 0 0 0 [some (.ref 308)] [] z I (fun r z' I' => E mX9_wires mc ms 36 [some (.ref 308)] (r.toList ++ []) z' I' Q))) :
    E mX9_wires mc ms 25 [some (.ref 308)] [] z I Q := by
  refine E_aload_n (pc := 25) (x := 308) ddX9_wires_25 rfl rfl ?_
  refine E_getI (pc := 26) ddX9_wires_26 ec_8 15 (Nat.le_of_ble_eq_true rfl) rfl w_3_197 ho.s0 ?_
  refine E_if_ne (pc := 29) (tgt := 47) ddX9_wires_29 (by decide) (fun h => ?_) (fun h => ?_)
  · have k := k.1 h
    exact k
  · have k := k.2 h
    refine E_aload_n (pc := 32) (x := 308) ddX9_wires_32 rfl rfl ?_
    exact E_callV (pc := 33) (As := []) (st := []) (a := 308) ddX9_wires_33 hX9_here ⟨(Nat.le_of_ble_eq_true rfl), (Nat.le_of_ble_eq_true rfl)⟩ w_4_22 (ci := 8) rfl rfl ho.s0 rfl rfl (Nat.le_of_ble_eq_true rfl) e_cn (Nat.le_of_ble_eq_true rfl) k
set_option maxRecDepth 100000 in
set_option maxHeartbeats 4000000 in
theorem B_X9_wires_47 {mc ms : Nat} {z : Zt} {I : It} {Q : Option Value → Zt → It → Prop} (ho : isO z)
    (k : ∀ I1 : It, I1 = e_st I 308 12 0 → (((I1 308 15) = 0) → E mX9_begin 0 0 0 [some (.ref 308), none] [] z I1 (fun r z' I' => E mX9_wires mc ms 79 [some (.ref 308)] (r.toList ++ []) z' I' Q)) ∧
    ((¬ (I1 308 15) = 0) → ∀ I2 : It, I2 = e_st I1 308 13 (I1 308 16) → Q (some (.int ((-10) - (I2 308 15)))) z I2)) :
    E mX9_wires mc ms 47 [some (.ref 308)] [] z I Q := by
  refine E_aload_n (pc := 47) (x := 308) ddX9_wires_47 rfl rfl ?_
  refine E_iconst (pc := 48) (v := 0) ddX9_wires_48 rfl ?_
  obtain ⟨I1, eI1⟩ : ∃ y : It, y = e_st I 308 12 0 := ⟨_, rfl⟩
  have k := k I1 eI1
  refine E_putI (pc := 49) ddX9_wires_49 ec_8 12 (Nat.le_of_ble_eq_true rfl) rfl w_3_194 ho.s0 rfl rfl ?_
  rw [← eI1]
  refine E_aload_n (pc := 52) (x := 308) ddX9_wires_52 rfl rfl ?_
  refine E_getI (pc := 53) ddX9_wires_53 ec_8 15 (Nat.le_of_ble_eq_true rfl) rfl w_3_197 ho.s0 ?_
  refine E_if_eq (pc := 56) (tgt := 75) ddX9_wires_56 (by decide) (fun h => ?_) (fun h => ?_)
  · have k := k.1 h
    refine E_aload_n (pc := 75) (x := 308) ddX9_wires_75 rfl rfl ?_
    exact E_callV (pc := 76) (As := []) (st := []) (a := 308) ddX9_wires_76 hX9_begin ⟨(Nat.le_of_ble_eq_true rfl), (Nat.le_of_ble_eq_true rfl)⟩ w_4_46 (ci := 8) rfl rfl ho.s0 rfl rfl (Nat.le_of_ble_eq_true rfl) e_cn (Nat.le_of_ble_eq_true rfl) k
  · have k := k.2 h
    refine E_aload_n (pc := 59) (x := 308) ddX9_wires_59 rfl rfl ?_
    refine E_aload_n (pc := 60) (x := 308) ddX9_wires_60 rfl rfl ?_
    refine E_getI (pc := 61) ddX9_wires_61 ec_8 16 (Nat.le_of_ble_eq_true rfl) rfl w_3_198 ho.s0 ?_
    obtain ⟨I2, eI2⟩ : ∃ y : It, y = e_st I1 308 13 (I1 308 16) := ⟨_, rfl⟩
    have k := k I2 eI2
    refine E_putI (pc := 64) ddX9_wires_64 ec_8 13 (Nat.le_of_ble_eq_true rfl) rfl w_3_195 ho.s0 rfl rfl ?_
    rw [← eI2]
    refine E_bipush (pc := 67) (v := (-10)) ddX9_wires_67 rfl ?_
    refine E_aload_n (pc := 69) (x := 308) ddX9_wires_69 rfl rfl ?_
    refine E_getI (pc := 70) ddX9_wires_70 ec_8 15 (Nat.le_of_ble_eq_true rfl) rfl w_3_197 ho.s0 ?_
    refine E_isub (pc := 73) ddX9_wires_73 ?_
    exact E_iret (pc := 74) ddX9_wires_74 rfl k
set_option maxRecDepth 100000 in
set_option maxHeartbeats 4000000 in
theorem B_X9_wires_36 {mc ms : Nat} {z : Zt} {I : It} {Q : Option Value → Zt → It → Prop} {y0 : Int32} (ho : isO z)
    (k : ((y0 = (-1)) → E mX9_wires mc ms 47 [some (.ref 308)] [] z I Q) ∧
    ((¬ y0 = (-1)) → E mX9_readClause 0 0 0 [some (.ref 308), none, none] [] z I (fun r z' I' => E mX9_wires mc ms 44 [some (.ref 308)] (r.toList ++ []) z' I' Q))) :
    E mX9_wires mc ms 36 [some (.ref 308)] [.int y0] z I Q := by
  refine E_iconst (pc := 36) (v := (-1)) ddX9_wires_36 rfl ?_
  refine E_icmp_eq (pc := 37) (tgt := 47) ddX9_wires_37 (by decide) (fun h => ?_) (fun h => ?_)
  · have k := k.1 h
    exact k
  · have k := k.2 h
    refine E_aload_n (pc := 40) (x := 308) ddX9_wires_40 rfl rfl ?_
    exact E_callV (pc := 41) (As := []) (st := []) (a := 308) ddX9_wires_41 hX9_readClause ⟨(Nat.le_of_ble_eq_true rfl), (Nat.le_of_ble_eq_true rfl)⟩ w_4_26 (ci := 8) rfl rfl ho.s0 rfl rfl (Nat.le_of_ble_eq_true rfl) e_cn (Nat.le_of_ble_eq_true rfl) k
set_option maxRecDepth 100000 in
set_option maxHeartbeats 4000000 in
theorem B_X9_wires_79 {mc ms : Nat} {z : Zt} {I : It} {Q : Option Value → Zt → It → Prop} (ho : isO z)
    (k : Q (some (.int (I 308 1))) z I) :
    E mX9_wires mc ms 79 [some (.ref 308)] [] z I Q := by
  refine E_aload_n (pc := 79) (x := 308) ddX9_wires_79 rfl rfl ?_
  refine E_getI (pc := 80) ddX9_wires_80 ec_8 1 (Nat.le_of_ble_eq_true rfl) rfl w_3_183 ho.s0 ?_
  exact E_iret (pc := 83) ddX9_wires_83 rfl k
set_option maxRecDepth 100000 in
set_option maxHeartbeats 4000000 in
theorem B_X9_wires_44 {mc ms : Nat} {z : Zt} {I : It} {Q : Option Value → Zt → It → Prop} (ho : isO z)
    (k : E mX9_wires mc ms 25 [some (.ref 308)] [] z I Q) :
    E mX9_wires mc ms 44 [some (.ref 308)] [] z I Q := by
  refine E_goto (pc := 44) (tgt := 25) ddX9_wires_44 (by decide) ?_
  exact k
/-! X9_fault, labels [] -/
set_option maxRecDepth 100000 in
set_option maxHeartbeats 4000000 in
theorem B_X9_fault_0 {mc ms : Nat} {z : Zt} {I : It} {Q : Option Value → Zt → It → Prop} (ho : isO z)
    (k : Q (some (.int (I 308 13))) z I) :
    E mX9_fault mc ms 0 [some (.ref 308)] [] z I Q := by
  refine E_aload_n (pc := 0) (x := 308) ddX9_fault_0 rfl rfl ?_
  refine E_getI (pc := 1) ddX9_fault_1 ec_8 13 (Nat.le_of_ble_eq_true rfl) rfl w_3_195 ho.s0 ?_
  exact E_iret (pc := 4) ddX9_fault_4 rfl k
/-! X9_isStill, labels [5] -/
set_option maxRecDepth 100000 in
set_option maxHeartbeats 4000000 in
theorem B_X9_isStill_0 {mc ms : Nat} {z : Zt} {I : It} {Q : Option Value → Zt → It → Prop} {x1 : Int32} (ho : isO z)
    (k : E mX9_waits 0 0 0 [some (.ref 308), some (.int x1), none, none, none] [] z I (fun r z' I' => E mX9_isStill mc ms 5 [none, none] (r.toList ++ []) z' I' Q)) :
    E mX9_isStill mc ms 0 [some (.ref 308), some (.int x1)] [] z I Q := by
  refine E_aload_n (pc := 0) (x := 308) ddX9_isStill_0 rfl rfl ?_
  refine E_iload_n (pc := 1) (x := x1) ddX9_isStill_1 rfl rfl ?_
  exact E_callV (pc := 2) (As := [.int x1]) (st := []) (a := 308) ddX9_isStill_2 hX9_waits ⟨(Nat.le_of_ble_eq_true rfl), (Nat.le_of_ble_eq_true rfl)⟩ w_4_88 (ci := 8) rfl rfl ho.s0 rfl rfl (Nat.le_of_ble_eq_true rfl) (e_cc rfl e_cn) (Nat.le_of_ble_eq_true rfl) (E.mono k fun _ _ _ q => E.forget q trivial)
set_option maxRecDepth 100000 in
set_option maxHeartbeats 4000000 in
theorem B_X9_isStill_5 {mc ms : Nat} {z : Zt} {I : It} {Q : Option Value → Zt → It → Prop} {y0 : Int32}
    (k : ((¬ y0 = (-1)) → Q (some (.int 0)) z I) ∧
    ((y0 = (-1)) → Q (some (.int 1)) z I)) :
    E mX9_isStill mc ms 5 [none, none] [.int y0] z I Q := by
  refine E_iconst (pc := 5) (v := (-1)) ddX9_isStill_5 rfl ?_
  refine E_icmp_ne (pc := 6) (tgt := 13) ddX9_isStill_6 (by decide) (fun h => ?_) (fun h => ?_)
  · have k := k.1 h
    refine E_iconst (pc := 13) (v := 0) ddX9_isStill_13 rfl ?_
    exact E_zret (pc := 14) ddX9_isStill_14 rfl (by decide) k
  · have k := k.2 h
    refine E_iconst (pc := 9) (v := 1) ddX9_isStill_9 rfl ?_
    refine E_goto (pc := 10) (tgt := 14) ddX9_isStill_10 (by decide) ?_
    exact E_zret (pc := 14) ddX9_isStill_14 rfl (by decide) k
/-! X9_holds, labels [4, 29] -/
set_option maxRecDepth 100000 in
set_option maxHeartbeats 4000000 in
theorem B_X9_holds_0 {mc ms : Nat} {z : Zt} {I : It} {Q : Option Value → Zt → It → Prop} (ho : isO z)
    (k : E mX9_holds mc ms 4 [some (.ref 308), some (.int 0), some (.int 0)] [] z I Q) :
    E mX9_holds mc ms 0 [some (.ref 308), none, none] [] z I Q := by
  refine E_iconst (pc := 0) (v := 0) ddX9_holds_0 rfl ?_
  refine E_istore_n (pc := 1) (ls' := [some (.ref 308), some (.int 0), none]) ddX9_holds_1 rfl (Nat.le_of_ble_eq_true rfl) rfl rfl ?_
  refine E_iconst (pc := 2) (v := 0) ddX9_holds_2 rfl ?_
  refine E_istore_n (pc := 3) (ls' := [some (.ref 308), some (.int 0), some (.int 0)]) ddX9_holds_3 rfl (Nat.le_of_ble_eq_true rfl) rfl rfl ?_
  exact k
set_option maxRecDepth 100000 in
set_option maxHeartbeats 4000000 in
theorem B_X9_holds_4 {mc ms : Nat} {z : Zt} {I : It} {Q : Option Value → Zt → It → Prop} {x1 x2 : Int32} (ho : isO z)
    (k : (((I 308 2) ≤ x2) → Q (some (.int x1)) z I) ∧
    ((¬ (I 308 2) ≤ x2) → ∃ j1 : Nat, (176 + x2) = nI j1 ∧ j1 < 6880 ∧ E mX9_comesOf 0 0 0 [some (.ref 308), some (.int 0), some (.int x2), none, none] [] z I (fun r z' I' => E mX9_holds mc ms 29 [some (.ref 308), none, some (.int x2)] (r.toList ++ [.int (I 309 j1), .int x1]) z' I' Q))) :
    E mX9_holds mc ms 4 [some (.ref 308), some (.int x1), some (.int x2)] [] z I Q := by
  refine E_iload_n (pc := 4) (x := x2) ddX9_holds_4 rfl rfl ?_
  refine E_aload_n (pc := 5) (x := 308) ddX9_holds_5 rfl rfl ?_
  refine E_getI (pc := 6) ddX9_holds_6 ec_8 2 (Nat.le_of_ble_eq_true rfl) rfl w_3_184 ho.s0 ?_
  refine E_icmp_ge (pc := 9) (tgt := 47) ddX9_holds_9 (by decide) (fun h => ?_) (fun h => ?_)
  · have k := k.1 h
    refine E_iload_n (pc := 47) (x := x1) ddX9_holds_47 rfl rfl ?_
    exact E_iret (pc := 48) ddX9_holds_48 rfl k
  · have k := k.2 h
    refine E_iload_n (pc := 12) (x := x1) ddX9_holds_12 rfl rfl ?_
    refine E_aload_n (pc := 13) (x := 308) ddX9_holds_13 rfl rfl ?_
    refine E_getR (pc := 14) (x := 309) ddX9_holds_14 ec_8 0 (Nat.le_of_ble_eq_true rfl) rfl w_3_182 ho.s0 ho.r0 (by decide) ?_
    refine E_sipush (pc := 17) (v := 176) ddX9_holds_17 rfl ?_
    refine E_iload_n (pc := 20) (x := x2) ddX9_holds_20 rfl rfl ?_
    refine E_iadd (pc := 21) ddX9_holds_21 ?_
    obtain ⟨j1, ij1, lj1, k⟩ := k
    refine E_ialdN (pc := 22) (j := j1) ddX9_holds_22 ho.s1 ij1 lj1 (Nat.le_of_ble_eq_true rfl) ?_
    refine E_aload_n (pc := 23) (x := 308) ddX9_holds_23 rfl rfl ?_
    refine E_iconst (pc := 24) (v := 0) ddX9_holds_24 rfl ?_
    refine E_iload_n (pc := 25) (x := x2) ddX9_holds_25 rfl rfl ?_
    exact E_callV (pc := 26) (As := [.int 0, .int x2]) (st := [.int (I 309 j1), .int x1]) (a := 308) ddX9_holds_26 hX9_comesOf ⟨(Nat.le_of_ble_eq_true rfl), (Nat.le_of_ble_eq_true rfl)⟩ w_4_62 (ci := 8) rfl rfl ho.s0 rfl rfl (Nat.le_of_ble_eq_true rfl) (e_cc rfl (e_cc rfl e_cn)) (Nat.le_of_ble_eq_true rfl) (E.mono k fun _ _ _ q => E.forget q ⟨rfl, ⟨rfl, trivial⟩⟩)
set_option maxRecDepth 100000 in
set_option maxHeartbeats 4000000 in
theorem B_X9_holds_29 {mc ms : Nat} {z : Zt} {I : It} {Q : Option Value → Zt → It → Prop} {x2 y0 y1 y2 : Int32} (ho : isO z)
    (k : ((¬ y1 = y0) → ∀ v1 : Int32, v1 = (y2 ||| 0) → E mX9_holds mc ms 4 [some (.ref 308), some (.int v1), some (.int (x2 + 1))] [] z I Q) ∧
    ((y1 = y0) → ∀ v1 : Int32, v1 = (y2 ||| (1 <<< (x2 &&& 31))) → E mX9_holds mc ms 4 [some (.ref 308), some (.int v1), some (.int (x2 + 1))] [] z I Q)) :
    E mX9_holds mc ms 29 [some (.ref 308), none, some (.int x2)] [.int y0, .int y1, .int y2] z I Q := by
  refine E_icmp_ne (pc := 29) (tgt := 38) ddX9_holds_29 (by decide) (fun h => ?_) (fun h => ?_)
  · have k := k.1 h
    refine E_iconst (pc := 38) (v := 0) ddX9_holds_38 rfl ?_
    refine E_ior (pc := 39) ddX9_holds_39 ?_
    obtain ⟨v1, ev1⟩ : ∃ y : Int32, y = (y2 ||| 0) := ⟨_, rfl⟩
    have k := k v1 ev1
    rw [← ev1]
    refine E_istore_n (pc := 40) (ls' := [some (.ref 308), some (.int v1), some (.int x2)]) ddX9_holds_40 rfl (Nat.le_of_ble_eq_true rfl) rfl rfl ?_
    refine E_iinc (pc := 41) (v := (x2 + 1)) (ls' := [some (.ref 308), some (.int v1), some (.int (x2 + 1))]) ddX9_holds_41 rfl rfl (Nat.le_of_ble_eq_true rfl) rfl rfl ?_
    refine E_goto (pc := 44) (tgt := 4) ddX9_holds_44 (by decide) ?_
    exact k
  · have k := k.2 h
    refine E_iconst (pc := 32) (v := 1) ddX9_holds_32 rfl ?_
    refine E_iload_n (pc := 33) (x := x2) ddX9_holds_33 rfl rfl ?_
    refine E_ishl (pc := 34) ddX9_holds_34 ?_
    refine E_goto (pc := 35) (tgt := 39) ddX9_holds_35 (by decide) ?_
    refine E_ior (pc := 39) ddX9_holds_39 ?_
    obtain ⟨v1, ev1⟩ : ∃ y : Int32, y = (y2 ||| (1 <<< (x2 &&& 31))) := ⟨_, rfl⟩
    have k := k v1 ev1
    rw [← ev1]
    refine E_istore_n (pc := 40) (ls' := [some (.ref 308), some (.int v1), some (.int x2)]) ddX9_holds_40 rfl (Nat.le_of_ble_eq_true rfl) rfl rfl ?_
    refine E_iinc (pc := 41) (v := (x2 + 1)) (ls' := [some (.ref 308), some (.int v1), some (.int (x2 + 1))]) ddX9_holds_41 rfl rfl (Nat.le_of_ble_eq_true rfl) rfl rfl ?_
    refine E_goto (pc := 44) (tgt := 4) ddX9_holds_44 (by decide) ?_
    exact k
/-! X9_flickers, labels [4] -/
set_option maxRecDepth 100000 in
set_option maxHeartbeats 4000000 in
theorem B_X9_flickers_0 {mc ms : Nat} {z : Zt} {I : It} {Q : Option Value → Zt → It → Prop} (ho : isO z)
    (k : E mX9_flickers mc ms 4 [some (.ref 308), some (.int 0), some (.int 0)] [] z I Q) :
    E mX9_flickers mc ms 0 [some (.ref 308), none, none] [] z I Q := by
  refine E_iconst (pc := 0) (v := 0) ddX9_flickers_0 rfl ?_
  refine E_istore_n (pc := 1) (ls' := [some (.ref 308), some (.int 0), none]) ddX9_flickers_1 rfl (Nat.le_of_ble_eq_true rfl) rfl rfl ?_
  refine E_iconst (pc := 2) (v := 0) ddX9_flickers_2 rfl ?_
  refine E_istore_n (pc := 3) (ls' := [some (.ref 308), some (.int 0), some (.int 0)]) ddX9_flickers_3 rfl (Nat.le_of_ble_eq_true rfl) rfl rfl ?_
  exact k
set_option maxRecDepth 100000 in
set_option maxHeartbeats 4000000 in
theorem B_X9_flickers_4 {mc ms : Nat} {z : Zt} {I : It} {Q : Option Value → Zt → It → Prop} {x1 x2 : Int32} (ho : isO z)
    (k : (((I 308 1) ≤ x2) → Q (some (.int x1)) z I) ∧
    ((¬ (I 308 1) ≤ x2) → ∃ j1 : Nat, (32 + x2) = nI j1 ∧ j1 < 6880 ∧ ∀ v2 : Int32, v2 = (x1 ||| ((I 309 j1) <<< (x2 &&& 31))) → E mX9_flickers mc ms 4 [some (.ref 308), some (.int v2), some (.int (x2 + 1))] [] z I Q)) :
    E mX9_flickers mc ms 4 [some (.ref 308), some (.int x1), some (.int x2)] [] z I Q := by
  refine E_iload_n (pc := 4) (x := x2) ddX9_flickers_4 rfl rfl ?_
  refine E_aload_n (pc := 5) (x := 308) ddX9_flickers_5 rfl rfl ?_
  refine E_getI (pc := 6) ddX9_flickers_6 ec_8 1 (Nat.le_of_ble_eq_true rfl) rfl w_3_183 ho.s0 ?_
  refine E_icmp_ge (pc := 9) (tgt := 32) ddX9_flickers_9 (by decide) (fun h => ?_) (fun h => ?_)
  · have k := k.1 h
    refine E_iload_n (pc := 32) (x := x1) ddX9_flickers_32 rfl rfl ?_
    exact E_iret (pc := 33) ddX9_flickers_33 rfl k
  · have k := k.2 h
    refine E_iload_n (pc := 12) (x := x1) ddX9_flickers_12 rfl rfl ?_
    refine E_aload_n (pc := 13) (x := 308) ddX9_flickers_13 rfl rfl ?_
    refine E_getR (pc := 14) (x := 309) ddX9_flickers_14 ec_8 0 (Nat.le_of_ble_eq_true rfl) rfl w_3_182 ho.s0 ho.r0 (by decide) ?_
    refine E_bipush (pc := 17) (v := 32) ddX9_flickers_17 rfl ?_
    refine E_iload_n (pc := 19) (x := x2) ddX9_flickers_19 rfl rfl ?_
    refine E_iadd (pc := 20) ddX9_flickers_20 ?_
    obtain ⟨j1, ij1, lj1, k⟩ := k
    refine E_ialdN (pc := 21) (j := j1) ddX9_flickers_21 ho.s1 ij1 lj1 (Nat.le_of_ble_eq_true rfl) ?_
    refine E_iload_n (pc := 22) (x := x2) ddX9_flickers_22 rfl rfl ?_
    refine E_ishl (pc := 23) ddX9_flickers_23 ?_
    refine E_ior (pc := 24) ddX9_flickers_24 ?_
    obtain ⟨v2, ev2⟩ : ∃ y : Int32, y = (x1 ||| ((I 309 j1) <<< (x2 &&& 31))) := ⟨_, rfl⟩
    have k := k v2 ev2
    rw [← ev2]
    refine E_istore_n (pc := 25) (ls' := [some (.ref 308), some (.int v2), some (.int x2)]) ddX9_flickers_25 rfl (Nat.le_of_ble_eq_true rfl) rfl rfl ?_
    refine E_iinc (pc := 26) (v := (x2 + 1)) (ls' := [some (.ref 308), some (.int v2), some (.int (x2 + 1))]) ddX9_flickers_26 rfl rfl (Nat.le_of_ble_eq_true rfl) rfl rfl ?_
    refine E_goto (pc := 29) (tgt := 4) ddX9_flickers_29 (by decide) ?_
    exact k
/-! X9_settles, labels [8, 10, 34, 46] -/
set_option maxRecDepth 100000 in
set_option maxHeartbeats 4000000 in
theorem B_X9_settles_0 {mc ms : Nat} {z : Zt} {I : It} {Q : Option Value → Zt → It → Prop} (ho : isO z)
    (k : E mX9_copyRow 0 0 0 [some (.ref 308), some (.int 0), some (.int 6536), none] [] z I (fun r z' I' => E mX9_settles mc ms 8 [some (.ref 308), none] (r.toList ++ []) z' I' Q)) :
    E mX9_settles mc ms 0 [some (.ref 308), none] [] z I Q := by
  refine E_aload_n (pc := 0) (x := 308) ddX9_settles_0 rfl rfl ?_
  refine E_iconst (pc := 1) (v := 0) ddX9_settles_1 rfl ?_
  refine E_sipush (pc := 2) (v := 6536) ddX9_settles_2 rfl ?_
  exact E_callV (pc := 5) (As := [.int 0, .int 6536]) (st := []) (a := 308) ddX9_settles_5 hX9_copyRow ⟨(Nat.le_of_ble_eq_true rfl), (Nat.le_of_ble_eq_true rfl)⟩ w_4_104 (ci := 8) rfl rfl ho.s0 rfl rfl (Nat.le_of_ble_eq_true rfl) (e_cc rfl (e_cc rfl e_cn)) (Nat.le_of_ble_eq_true rfl) k
set_option maxRecDepth 100000 in
set_option maxHeartbeats 4000000 in
theorem B_X9_settles_8 {mc ms : Nat} {z : Zt} {I : It} {Q : Option Value → Zt → It → Prop} (ho : isO z)
    (k : E mX9_settles mc ms 10 [some (.ref 308), some (.int 0)] [] z I Q) :
    E mX9_settles mc ms 8 [some (.ref 308), none] [] z I Q := by
  refine E_iconst (pc := 8) (v := 0) ddX9_settles_8 rfl ?_
  refine E_istore_n (pc := 9) (ls' := [some (.ref 308), some (.int 0)]) ddX9_settles_9 rfl (Nat.le_of_ble_eq_true rfl) rfl rfl ?_
  exact k
set_option maxRecDepth 100000 in
set_option maxHeartbeats 4000000 in
theorem B_X9_settles_10 {mc ms : Nat} {z : Zt} {I : It} {Q : Option Value → Zt → It → Prop} {x1 : Int32} (ho : isO z)
    (k : ((100 < x1) → Q (some (.int (-1))) z I) ∧
    ((¬ 100 < x1) → ((¬ (I 309 6538) = 0) → Q (some (.int (-1))) z I) ∧
    (((I 309 6538) = 0) → E mX9_isStill 0 0 0 [some (.ref 308), some (.int 6536)] [] z I (fun r z' I' => E mX9_settles mc ms 34 [some (.ref 308), some (.int x1)] (r.toList ++ []) z' I' Q)))) :
    E mX9_settles mc ms 10 [some (.ref 308), some (.int x1)] [] z I Q := by
  refine E_iload_n (pc := 10) (x := x1) ddX9_settles_10 rfl rfl ?_
  refine E_bipush (pc := 11) (v := 100) ddX9_settles_11 rfl ?_
  refine E_icmp_gt (pc := 13) (tgt := 52) ddX9_settles_13 (by decide) (fun h => ?_) (fun h => ?_)
  · have k := k.1 h
    refine E_iconst (pc := 52) (v := (-1)) ddX9_settles_52 rfl ?_
    exact E_iret (pc := 53) ddX9_settles_53 rfl k
  · have k := k.2 h
    refine E_aload_n (pc := 16) (x := 308) ddX9_settles_16 rfl rfl ?_
    refine E_getR (pc := 17) (x := 309) ddX9_settles_17 ec_8 0 (Nat.le_of_ble_eq_true rfl) rfl w_3_182 ho.s0 ho.r0 (by decide) ?_
    refine E_sipush (pc := 20) (v := 6538) ddX9_settles_20 rfl ?_
    refine E_ialdN (pc := 23) (j := 6538) ddX9_settles_23 ho.s1 rfl (Nat.le_of_ble_eq_true rfl) (Nat.le_of_ble_eq_true rfl) ?_
    refine E_if_ne (pc := 24) (tgt := 52) ddX9_settles_24 (by decide) (fun h => ?_) (fun h => ?_)
    · have k := k.1 h
      refine E_iconst (pc := 52) (v := (-1)) ddX9_settles_52 rfl ?_
      exact E_iret (pc := 53) ddX9_settles_53 rfl k
    · have k := k.2 h
      refine E_aload_n (pc := 27) (x := 308) ddX9_settles_27 rfl rfl ?_
      refine E_sipush (pc := 28) (v := 6536) ddX9_settles_28 rfl ?_
      exact E_callV (pc := 31) (As := [.int 6536]) (st := []) (a := 308) ddX9_settles_31 hX9_isStill ⟨(Nat.le_of_ble_eq_true rfl), (Nat.le_of_ble_eq_true rfl)⟩ w_4_84 (ci := 8) rfl rfl ho.s0 rfl rfl (Nat.le_of_ble_eq_true rfl) (e_cc rfl e_cn) (Nat.le_of_ble_eq_true rfl) k
set_option maxRecDepth 100000 in
set_option maxHeartbeats 4000000 in
theorem B_X9_settles_34 {mc ms : Nat} {z : Zt} {I : It} {Q : Option Value → Zt → It → Prop} {x1 y0 : Int32} (ho : isO z)
    (k : ((y0 = 0) → E mX9_stepIn 0 0 0 [some (.ref 308), some (.int 6536), none, none, none] [] z I (fun r z' I' => E mX9_settles mc ms 46 [some (.ref 308), some (.int x1)] (r.toList ++ []) z' I' Q)) ∧
    ((¬ y0 = 0) → Q (some (.int x1)) z I)) :
    E mX9_settles mc ms 34 [some (.ref 308), some (.int x1)] [.int y0] z I Q := by
  refine E_if_eq (pc := 34) (tgt := 39) ddX9_settles_34 (by decide) (fun h => ?_) (fun h => ?_)
  · have k := k.1 h
    refine E_aload_n (pc := 39) (x := 308) ddX9_settles_39 rfl rfl ?_
    refine E_sipush (pc := 40) (v := 6536) ddX9_settles_40 rfl ?_
    exact E_callV (pc := 43) (As := [.int 6536]) (st := []) (a := 308) ddX9_settles_43 hX9_stepIn ⟨(Nat.le_of_ble_eq_true rfl), (Nat.le_of_ble_eq_true rfl)⟩ w_4_108 (ci := 8) rfl rfl ho.s0 rfl rfl (Nat.le_of_ble_eq_true rfl) (e_cc rfl e_cn) (Nat.le_of_ble_eq_true rfl) k
  · have k := k.2 h
    refine E_iload_n (pc := 37) (x := x1) ddX9_settles_37 rfl rfl ?_
    exact E_iret (pc := 38) ddX9_settles_38 rfl k
set_option maxRecDepth 100000 in
set_option maxHeartbeats 4000000 in
theorem B_X9_settles_46 {mc ms : Nat} {z : Zt} {I : It} {Q : Option Value → Zt → It → Prop} {x1 : Int32} (ho : isO z)
    (k : E mX9_settles mc ms 10 [some (.ref 308), some (.int (x1 + 1))] [] z I Q) :
    E mX9_settles mc ms 46 [some (.ref 308), some (.int x1)] [] z I Q := by
  refine E_iinc (pc := 46) (v := (x1 + 1)) (ls' := [some (.ref 308), some (.int (x1 + 1))]) ddX9_settles_46 rfl rfl (Nat.le_of_ble_eq_true rfl) rfl rfl ?_
  refine E_goto (pc := 49) (tgt := 10) ddX9_settles_49 (by decide) ?_
  exact k
/-! X9_wrongEntry, labels [2] -/
set_option maxRecDepth 100000 in
set_option maxHeartbeats 4000000 in
theorem B_X9_wrongEntry_0 {mc ms : Nat} {z : Zt} {I : It} {Q : Option Value → Zt → It → Prop} (ho : isO z)
    (k : E mX9_wrongEntry mc ms 2 [some (.ref 308), some (.int 0)] [] z I Q) :
    E mX9_wrongEntry mc ms 0 [some (.ref 308), none] [] z I Q := by
  refine E_iconst (pc := 0) (v := 0) ddX9_wrongEntry_0 rfl ?_
  refine E_istore_n (pc := 1) (ls' := [some (.ref 308), some (.int 0)]) ddX9_wrongEntry_1 rfl (Nat.le_of_ble_eq_true rfl) rfl rfl ?_
  exact k
set_option maxRecDepth 100000 in
set_option maxHeartbeats 4000000 in
theorem B_X9_wrongEntry_2 {mc ms : Nat} {z : Zt} {I : It} {Q : Option Value → Zt → It → Prop} {x1 : Int32} (ho : isO z)
    (k : (((I 308 10) ≤ x1) → Q (some (.int (-1))) z I) ∧
    ((¬ (I 308 10) ≤ x1) → ∃ j1 : Nat, x1 = nI j1 ∧ j1 < 20 ∧ (((I 312 j1) < 0) → Q (some (.int x1)) z I) ∧
    ((¬ (I 312 j1) < 0) → ((((I 308 1) - 1) < (I 312 j1)) → Q (some (.int x1)) z I) ∧
    ((¬ ((I 308 1) - 1) < (I 312 j1)) → ∃ j2 : Nat, (8 + (I 312 j1)) = nI j2 ∧ j2 < 6880 ∧ (((I 309 j2) = (I 313 j1)) → E mX9_wrongEntry mc ms 2 [some (.ref 308), some (.int (x1 + 1))] [] z I Q) ∧
    ((¬ (I 309 j2) = (I 313 j1)) → Q (some (.int x1)) z I))))) :
    E mX9_wrongEntry mc ms 2 [some (.ref 308), some (.int x1)] [] z I Q := by
  refine E_iload_n (pc := 2) (x := x1) ddX9_wrongEntry_2 rfl rfl ?_
  refine E_aload_n (pc := 3) (x := 308) ddX9_wrongEntry_3 rfl rfl ?_
  refine E_getI (pc := 4) ddX9_wrongEntry_4 ec_8 10 (Nat.le_of_ble_eq_true rfl) rfl w_3_192 ho.s0 ?_
  refine E_icmp_ge (pc := 7) (tgt := 54) ddX9_wrongEntry_7 (by decide) (fun h => ?_) (fun h => ?_)
  · have k := k.1 h
    refine E_iconst (pc := 54) (v := (-1)) ddX9_wrongEntry_54 rfl ?_
    exact E_iret (pc := 55) ddX9_wrongEntry_55 rfl k
  · have k := k.2 h
    refine E_aload_n (pc := 10) (x := 308) ddX9_wrongEntry_10 rfl rfl ?_
    refine E_aload_n (pc := 11) (x := 308) ddX9_wrongEntry_11 rfl rfl ?_
    refine E_getR (pc := 12) (x := 312) ddX9_wrongEntry_12 ec_8 8 (Nat.le_of_ble_eq_true rfl) rfl w_3_190 ho.s0 ho.r8 (by decide) ?_
    refine E_iload_n (pc := 15) (x := x1) ddX9_wrongEntry_15 rfl rfl ?_
    obtain ⟨j1, ij1, lj1, k⟩ := k
    refine E_ialdN (pc := 16) (j := j1) ddX9_wrongEntry_16 ho.s4 ij1 lj1 (Nat.le_of_ble_eq_true rfl) ?_
    refine E_callV (pc := 17) (As := [.int (I 312 j1)]) (st := []) (a := 308) ddX9_wrongEntry_17 hX9_isWire ⟨(Nat.le_of_ble_eq_true rfl), (Nat.le_of_ble_eq_true rfl)⟩ w_4_147 (ci := 8) rfl rfl ho.s0 rfl rfl (Nat.le_of_ble_eq_true rfl) (e_cc rfl e_cn) (Nat.le_of_ble_eq_true rfl) ?_
    refine (show E mX9_isWire 0 0 0 [some (.ref 308), some (.int (I 312 j1))] [] z I _ from ?_)
    refine E_iload_n (pc := 0) (x := (I 312 j1)) ddX9_isWire_0 rfl rfl ?_
    refine E_iconst (pc := 1) (v := 0) ddX9_isWire_1 rfl ?_
    refine E_aload_n (pc := 2) (x := 308) ddX9_isWire_2 rfl rfl ?_
    refine E_getI (pc := 3) ddX9_isWire_3 ec_8 1 (Nat.le_of_ble_eq_true rfl) rfl w_3_183 ho.s0 ?_
    refine E_iconst (pc := 6) (v := 1) ddX9_isWire_6 rfl ?_
    refine E_isub (pc := 7) ddX9_isWire_7 ?_
    refine E_callS (pc := 8) (As := [.int (I 312 j1), .int 0, .int ((I 308 1) - 1)]) (st := []) ddX9_isWire_8 hX9_in ⟨(Nat.le_of_ble_eq_true rfl), (Nat.le_of_ble_eq_true rfl)⟩ w_4_13 rfl rfl (Nat.le_of_ble_eq_true rfl) (e_cc rfl (e_cc rfl (e_cc rfl e_cn))) (Nat.le_of_ble_eq_true rfl) ?_
    refine (show E mX9_in 0 0 0 [some (.int (I 312 j1)), some (.int 0), some (.int ((I 308 1) - 1))] [] z I _ from ?_)
    refine E_iload_n (pc := 0) (x := (I 312 j1)) ddX9_in_0 rfl rfl ?_
    refine E_iload_n (pc := 1) (x := 0) ddX9_in_1 rfl rfl ?_
    refine E_icmp_lt (pc := 2) (tgt := 14) ddX9_in_2 (by decide) (fun h => ?_) (fun h => ?_)
    · have k := k.1 h
      refine E_iconst (pc := 14) (v := 0) ddX9_in_14 rfl ?_
      refine E_zret (pc := 15) ddX9_in_15 rfl (by decide) ?_
      refine (show E mX9_isWire 0 0 11 [some (.ref 308), some (.int (I 312 j1))] [.int 0] z I _ from ?_)
      refine E_zret (pc := 11) ddX9_isWire_11 rfl (by decide) ?_
      refine (show E mX9_wrongEntry mc ms 20 [some (.ref 308), some (.int x1)] [.int 0] z I Q from ?_)
      refine E_if_eq (pc := 20) (tgt := 46) ddX9_wrongEntry_20 (by decide) (fun _ => ?_) (fun h => absurd h (by decide))
      refine E_iload_n (pc := 46) (x := x1) ddX9_wrongEntry_46 rfl rfl ?_
      exact E_iret (pc := 47) ddX9_wrongEntry_47 rfl k
    · have k := k.2 h
      refine E_iload_n (pc := 5) (x := (I 312 j1)) ddX9_in_5 rfl rfl ?_
      refine E_iload_n (pc := 6) (x := ((I 308 1) - 1)) ddX9_in_6 rfl rfl ?_
      refine E_icmp_gt (pc := 7) (tgt := 14) ddX9_in_7 (by decide) (fun h => ?_) (fun h => ?_)
      · have k := k.1 h
        refine E_iconst (pc := 14) (v := 0) ddX9_in_14 rfl ?_
        refine E_zret (pc := 15) ddX9_in_15 rfl (by decide) ?_
        refine (show E mX9_isWire 0 0 11 [some (.ref 308), some (.int (I 312 j1))] [.int 0] z I _ from ?_)
        refine E_zret (pc := 11) ddX9_isWire_11 rfl (by decide) ?_
        refine (show E mX9_wrongEntry mc ms 20 [some (.ref 308), some (.int x1)] [.int 0] z I Q from ?_)
        refine E_if_eq (pc := 20) (tgt := 46) ddX9_wrongEntry_20 (by decide) (fun _ => ?_) (fun h => absurd h (by decide))
        refine E_iload_n (pc := 46) (x := x1) ddX9_wrongEntry_46 rfl rfl ?_
        exact E_iret (pc := 47) ddX9_wrongEntry_47 rfl k
      · have k := k.2 h
        refine E_iconst (pc := 10) (v := 1) ddX9_in_10 rfl ?_
        refine E_goto (pc := 11) (tgt := 15) ddX9_in_11 (by decide) ?_
        refine E_zret (pc := 15) ddX9_in_15 rfl (by decide) ?_
        refine (show E mX9_isWire 0 0 11 [some (.ref 308), some (.int (I 312 j1))] [.int 1] z I _ from ?_)
        refine E_zret (pc := 11) ddX9_isWire_11 rfl (by decide) ?_
        refine (show E mX9_wrongEntry mc ms 20 [some (.ref 308), some (.int x1)] [.int 1] z I Q from ?_)
        refine E_if_eq (pc := 20) (tgt := 46) ddX9_wrongEntry_20 (by decide) (fun h => absurd h (by decide)) (fun _ => ?_)
        refine E_aload_n (pc := 23) (x := 308) ddX9_wrongEntry_23 rfl rfl ?_
        refine E_getR (pc := 24) (x := 309) ddX9_wrongEntry_24 ec_8 0 (Nat.le_of_ble_eq_true rfl) rfl w_3_182 ho.s0 ho.r0 (by decide) ?_
        refine E_bipush (pc := 27) (v := 8) ddX9_wrongEntry_27 rfl ?_
        refine E_aload_n (pc := 29) (x := 308) ddX9_wrongEntry_29 rfl rfl ?_
        refine E_getR (pc := 30) (x := 312) ddX9_wrongEntry_30 ec_8 8 (Nat.le_of_ble_eq_true rfl) rfl w_3_190 ho.s0 ho.r8 (by decide) ?_
        refine E_iload_n (pc := 33) (x := x1) ddX9_wrongEntry_33 rfl rfl ?_
        refine E_ialdN (pc := 34) (j := j1) ddX9_wrongEntry_34 ho.s4 ij1 lj1 (Nat.le_of_ble_eq_true rfl) ?_
        refine E_iadd (pc := 35) ddX9_wrongEntry_35 ?_
        obtain ⟨j2, ij2, lj2, k⟩ := k
        refine E_ialdN (pc := 36) (j := j2) ddX9_wrongEntry_36 ho.s1 ij2 lj2 (Nat.le_of_ble_eq_true rfl) ?_
        refine E_aload_n (pc := 37) (x := 308) ddX9_wrongEntry_37 rfl rfl ?_
        refine E_getR (pc := 38) (x := 313) ddX9_wrongEntry_38 ec_8 9 (Nat.le_of_ble_eq_true rfl) rfl w_3_191 ho.s0 ho.r9 (by decide) ?_
        refine E_iload_n (pc := 41) (x := x1) ddX9_wrongEntry_41 rfl rfl ?_
        refine E_ialdN (pc := 42) (j := j1) ddX9_wrongEntry_42 ho.s5 ij1 lj1 (Nat.le_of_ble_eq_true rfl) ?_
        refine E_icmp_eq (pc := 43) (tgt := 48) ddX9_wrongEntry_43 (by decide) (fun h => ?_) (fun h => ?_)
        · have k := k.1 h
          refine E_iinc (pc := 48) (v := (x1 + 1)) (ls' := [some (.ref 308), some (.int (x1 + 1))]) ddX9_wrongEntry_48 rfl rfl (Nat.le_of_ble_eq_true rfl) rfl rfl ?_
          refine E_goto (pc := 51) (tgt := 2) ddX9_wrongEntry_51 (by decide) ?_
          exact k
        · have k := k.2 h
          refine E_iload_n (pc := 46) (x := x1) ddX9_wrongEntry_46 rfl rfl ?_
          exact E_iret (pc := 47) ddX9_wrongEntry_47 rfl k
/-! X9_told, labels [113, 126, 131, 136, 153] -/
set_option maxRecDepth 100000 in
set_option maxHeartbeats 4000000 in
theorem B_X9_told_0 {mc ms : Nat} {z : Zt} {I : It} {Q : Option Value → Zt → It → Prop} {x1 : Int32} (ho : isO z)
    (k : (x1 = 0 → Q (some (.int (I 308 1))) z I) ∧
    (x1 = 1 → Q (some (.int (I 308 2))) z I) ∧
    (x1 = 2 → Q (some (.int (I 308 12))) z I) ∧
    (x1 = 3 → Q (some (.int (I 309 0))) z I) ∧
    (x1 = 4 → Q (some (.int (I 309 1))) z I) ∧
    (x1 = 5 → Q (some (.int (I 309 2))) z I) ∧
    (x1 = 6 → E mX9_isStill 0 0 0 [some (.ref 308), some (.int 0)] [] z I (fun r z' I' => E mX9_told mc ms 113 [none, none] (r.toList ++ []) z' I' Q)) ∧
    (x1 = 7 → E mX9_holds 0 0 0 [some (.ref 308), none, none] [] z I (fun r z' I' => E mX9_told mc ms 126 [none, none] (r.toList ++ []) z' I' Q)) ∧
    (x1 = 8 → E mX9_flickers 0 0 0 [some (.ref 308), none, none] [] z I (fun r z' I' => E mX9_told mc ms 131 [none, none] (r.toList ++ []) z' I' Q)) ∧
    (x1 = 9 → E mX9_settles 0 0 0 [some (.ref 308), none] [] z I (fun r z' I' => E mX9_told mc ms 136 [none, none] (r.toList ++ []) z' I' Q)) ∧
    (x1 = 10 → Q (some (.int (I 309 3))) z I) ∧
    (x1 = 11 → Q (some (.int (I 308 10))) z I) ∧
    (x1 = 12 → E mX9_wrongEntry 0 0 0 [some (.ref 308), none] [] z I (fun r z' I' => E mX9_told mc ms 153 [none, none] (r.toList ++ []) z' I' Q)) ∧
    (x1 = 13 → Q (some (.int (I 308 4))) z I) ∧
    (¬ x1 = 0 → ¬ x1 = 1 → ¬ x1 = 2 → ¬ x1 = 3 → ¬ x1 = 4 → ¬ x1 = 5 → ¬ x1 = 6 → ¬ x1 = 7 → ¬ x1 = 8 → ¬ x1 = 9 → ¬ x1 = 10 → ¬ x1 = 11 → ¬ x1 = 12 → ¬ x1 = 13 → Q (some (.int (-1000000002))) z I)) :
    E mX9_told mc ms 0 [some (.ref 308), some (.int x1)] [] z I Q := by
  refine E_iload_n (pc := 0) (x := x1) ddX9_told_0 rfl rfl ?_
  by_cases h0 : x1 = 0
  · have k := k.1 h0
    refine E_tswIn (pc := 1) (v := 0) (tgt := 72) ddX9_told_1 (by rw [h0]; rfl) (by decide) (by decide) rfl (by decide) ?_
    refine E_aload_n (pc := 72) (x := 308) ddX9_told_72 rfl rfl ?_
    refine E_getI (pc := 73) ddX9_told_73 ec_8 1 (Nat.le_of_ble_eq_true rfl) rfl w_3_183 ho.s0 ?_
    exact E_iret (pc := 76) ddX9_told_76 rfl k
  by_cases h1 : x1 = 1
  · have k := k.2.1 h1
    refine E_tswIn (pc := 1) (v := 1) (tgt := 77) ddX9_told_1 (by rw [h1]; rfl) (by decide) (by decide) rfl (by decide) ?_
    refine E_aload_n (pc := 77) (x := 308) ddX9_told_77 rfl rfl ?_
    refine E_getI (pc := 78) ddX9_told_78 ec_8 2 (Nat.le_of_ble_eq_true rfl) rfl w_3_184 ho.s0 ?_
    exact E_iret (pc := 81) ddX9_told_81 rfl k
  by_cases h2 : x1 = 2
  · have k := k.2.2.1 h2
    refine E_tswIn (pc := 1) (v := 2) (tgt := 82) ddX9_told_1 (by rw [h2]; rfl) (by decide) (by decide) rfl (by decide) ?_
    refine E_aload_n (pc := 82) (x := 308) ddX9_told_82 rfl rfl ?_
    refine E_getI (pc := 83) ddX9_told_83 ec_8 12 (Nat.le_of_ble_eq_true rfl) rfl w_3_194 ho.s0 ?_
    exact E_iret (pc := 86) ddX9_told_86 rfl k
  by_cases h3 : x1 = 3
  · have k := k.2.2.2.1 h3
    refine E_tswIn (pc := 1) (v := 3) (tgt := 87) ddX9_told_1 (by rw [h3]; rfl) (by decide) (by decide) rfl (by decide) ?_
    refine E_aload_n (pc := 87) (x := 308) ddX9_told_87 rfl rfl ?_
    refine E_getR (pc := 88) (x := 309) ddX9_told_88 ec_8 0 (Nat.le_of_ble_eq_true rfl) rfl w_3_182 ho.s0 ho.r0 (by decide) ?_
    refine E_iconst (pc := 91) (v := 0) ddX9_told_91 rfl ?_
    refine E_ialdN (pc := 92) (j := 0) ddX9_told_92 ho.s1 rfl (Nat.le_of_ble_eq_true rfl) (Nat.le_of_ble_eq_true rfl) ?_
    exact E_iret (pc := 93) ddX9_told_93 rfl k
  by_cases h4 : x1 = 4
  · have k := k.2.2.2.2.1 h4
    refine E_tswIn (pc := 1) (v := 4) (tgt := 94) ddX9_told_1 (by rw [h4]; rfl) (by decide) (by decide) rfl (by decide) ?_
    refine E_aload_n (pc := 94) (x := 308) ddX9_told_94 rfl rfl ?_
    refine E_getR (pc := 95) (x := 309) ddX9_told_95 ec_8 0 (Nat.le_of_ble_eq_true rfl) rfl w_3_182 ho.s0 ho.r0 (by decide) ?_
    refine E_iconst (pc := 98) (v := 1) ddX9_told_98 rfl ?_
    refine E_ialdN (pc := 99) (j := 1) ddX9_told_99 ho.s1 rfl (Nat.le_of_ble_eq_true rfl) (Nat.le_of_ble_eq_true rfl) ?_
    exact E_iret (pc := 100) ddX9_told_100 rfl k
  by_cases h5 : x1 = 5
  · have k := k.2.2.2.2.2.1 h5
    refine E_tswIn (pc := 1) (v := 5) (tgt := 101) ddX9_told_1 (by rw [h5]; rfl) (by decide) (by decide) rfl (by decide) ?_
    refine E_aload_n (pc := 101) (x := 308) ddX9_told_101 rfl rfl ?_
    refine E_getR (pc := 102) (x := 309) ddX9_told_102 ec_8 0 (Nat.le_of_ble_eq_true rfl) rfl w_3_182 ho.s0 ho.r0 (by decide) ?_
    refine E_iconst (pc := 105) (v := 2) ddX9_told_105 rfl ?_
    refine E_ialdN (pc := 106) (j := 2) ddX9_told_106 ho.s1 rfl (Nat.le_of_ble_eq_true rfl) (Nat.le_of_ble_eq_true rfl) ?_
    exact E_iret (pc := 107) ddX9_told_107 rfl k
  by_cases h6 : x1 = 6
  · have k := k.2.2.2.2.2.2.1 h6
    refine E_tswIn (pc := 1) (v := 6) (tgt := 108) ddX9_told_1 (by rw [h6]; rfl) (by decide) (by decide) rfl (by decide) ?_
    refine E_aload_n (pc := 108) (x := 308) ddX9_told_108 rfl rfl ?_
    refine E_iconst (pc := 109) (v := 0) ddX9_told_109 rfl ?_
    exact E_callV (pc := 110) (As := [.int 0]) (st := []) (a := 308) ddX9_told_110 hX9_isStill ⟨(Nat.le_of_ble_eq_true rfl), (Nat.le_of_ble_eq_true rfl)⟩ w_4_84 (ci := 8) rfl rfl ho.s0 rfl rfl (Nat.le_of_ble_eq_true rfl) (e_cc rfl e_cn) (Nat.le_of_ble_eq_true rfl) (E.mono k fun _ _ _ q => E.forget q trivial)
  by_cases h7 : x1 = 7
  · have k := k.2.2.2.2.2.2.2.1 h7
    refine E_tswIn (pc := 1) (v := 7) (tgt := 122) ddX9_told_1 (by rw [h7]; rfl) (by decide) (by decide) rfl (by decide) ?_
    refine E_aload_n (pc := 122) (x := 308) ddX9_told_122 rfl rfl ?_
    exact E_callV (pc := 123) (As := []) (st := []) (a := 308) ddX9_told_123 hX9_holds ⟨(Nat.le_of_ble_eq_true rfl), (Nat.le_of_ble_eq_true rfl)⟩ w_4_92 (ci := 8) rfl rfl ho.s0 rfl rfl (Nat.le_of_ble_eq_true rfl) e_cn (Nat.le_of_ble_eq_true rfl) (E.mono k fun _ _ _ q => E.forget q trivial)
  by_cases h8 : x1 = 8
  · have k := k.2.2.2.2.2.2.2.2.1 h8
    refine E_tswIn (pc := 1) (v := 8) (tgt := 127) ddX9_told_1 (by rw [h8]; rfl) (by decide) (by decide) rfl (by decide) ?_
    refine E_aload_n (pc := 127) (x := 308) ddX9_told_127 rfl rfl ?_
    exact E_callV (pc := 128) (As := []) (st := []) (a := 308) ddX9_told_128 hX9_flickers ⟨(Nat.le_of_ble_eq_true rfl), (Nat.le_of_ble_eq_true rfl)⟩ w_4_96 (ci := 8) rfl rfl ho.s0 rfl rfl (Nat.le_of_ble_eq_true rfl) e_cn (Nat.le_of_ble_eq_true rfl) (E.mono k fun _ _ _ q => E.forget q trivial)
  by_cases h9 : x1 = 9
  · have k := k.2.2.2.2.2.2.2.2.2.1 h9
    refine E_tswIn (pc := 1) (v := 9) (tgt := 132) ddX9_told_1 (by rw [h9]; rfl) (by decide) (by decide) rfl (by decide) ?_
    refine E_aload_n (pc := 132) (x := 308) ddX9_told_132 rfl rfl ?_
    exact E_callV (pc := 133) (As := []) (st := []) (a := 308) ddX9_told_133 hX9_settles ⟨(Nat.le_of_ble_eq_true rfl), (Nat.le_of_ble_eq_true rfl)⟩ w_4_100 (ci := 8) rfl rfl ho.s0 rfl rfl (Nat.le_of_ble_eq_true rfl) e_cn (Nat.le_of_ble_eq_true rfl) (E.mono k fun _ _ _ q => E.forget q trivial)
  by_cases h10 : x1 = 10
  · have k := k.2.2.2.2.2.2.2.2.2.2.1 h10
    refine E_tswIn (pc := 1) (v := 10) (tgt := 137) ddX9_told_1 (by rw [h10]; rfl) (by decide) (by decide) rfl (by decide) ?_
    refine E_aload_n (pc := 137) (x := 308) ddX9_told_137 rfl rfl ?_
    refine E_getR (pc := 138) (x := 309) ddX9_told_138 ec_8 0 (Nat.le_of_ble_eq_true rfl) rfl w_3_182 ho.s0 ho.r0 (by decide) ?_
    refine E_iconst (pc := 141) (v := 3) ddX9_told_141 rfl ?_
    refine E_ialdN (pc := 142) (j := 3) ddX9_told_142 ho.s1 rfl (Nat.le_of_ble_eq_true rfl) (Nat.le_of_ble_eq_true rfl) ?_
    exact E_iret (pc := 143) ddX9_told_143 rfl k
  by_cases h11 : x1 = 11
  · have k := k.2.2.2.2.2.2.2.2.2.2.2.1 h11
    refine E_tswIn (pc := 1) (v := 11) (tgt := 144) ddX9_told_1 (by rw [h11]; rfl) (by decide) (by decide) rfl (by decide) ?_
    refine E_aload_n (pc := 144) (x := 308) ddX9_told_144 rfl rfl ?_
    refine E_getI (pc := 145) ddX9_told_145 ec_8 10 (Nat.le_of_ble_eq_true rfl) rfl w_3_192 ho.s0 ?_
    exact E_iret (pc := 148) ddX9_told_148 rfl k
  by_cases h12 : x1 = 12
  · have k := k.2.2.2.2.2.2.2.2.2.2.2.2.1 h12
    refine E_tswIn (pc := 1) (v := 12) (tgt := 149) ddX9_told_1 (by rw [h12]; rfl) (by decide) (by decide) rfl (by decide) ?_
    refine E_aload_n (pc := 149) (x := 308) ddX9_told_149 rfl rfl ?_
    exact E_callV (pc := 150) (As := []) (st := []) (a := 308) ddX9_told_150 hX9_wrongEntry ⟨(Nat.le_of_ble_eq_true rfl), (Nat.le_of_ble_eq_true rfl)⟩ w_4_143 (ci := 8) rfl rfl ho.s0 rfl rfl (Nat.le_of_ble_eq_true rfl) e_cn (Nat.le_of_ble_eq_true rfl) (E.mono k fun _ _ _ q => E.forget q trivial)
  by_cases h13 : x1 = 13
  · have k := k.2.2.2.2.2.2.2.2.2.2.2.2.2.1 h13
    refine E_tswIn (pc := 1) (v := 13) (tgt := 154) ddX9_told_1 (by rw [h13]; rfl) (by decide) (by decide) rfl (by decide) ?_
    refine E_aload_n (pc := 154) (x := 308) ddX9_told_154 rfl rfl ?_
    refine E_getI (pc := 155) ddX9_told_155 ec_8 4 (Nat.le_of_ble_eq_true rfl) rfl w_3_186 ho.s0 ?_
    exact E_iret (pc := 158) ddX9_told_158 rfl k
  have k := k.2.2.2.2.2.2.2.2.2.2.2.2.2.2 h0 h1 h2 h3 h4 h5 h6 h7 h8 h9 h10 h11 h12 h13
  have q0 := lv_neT h0 (a := 0) rfl
  have q1 := lv_neT h1 (a := 1) rfl
  have q2 := lv_neT h2 (a := 2) rfl
  have q3 := lv_neT h3 (a := 3) rfl
  have q4 := lv_neT h4 (a := 4) rfl
  have q5 := lv_neT h5 (a := 5) rfl
  have q6 := lv_neT h6 (a := 6) rfl
  have q7 := lv_neT h7 (a := 7) rfl
  have q8 := lv_neT h8 (a := 8) rfl
  have q9 := lv_neT h9 (a := 9) rfl
  have q10 := lv_neT h10 (a := 10) rfl
  have q11 := lv_neT h11 (a := 11) rfl
  have q12 := lv_neT h12 (a := 12) rfl
  have q13 := lv_neT h13 (a := 13) rfl
  refine E_tswOut (pc := 1) (tgt := 159) ddX9_told_1 (by omega) (by decide) ?_
  refine E_ldc (pc := 159) (v := (-1000000002)) ddX9_told_159 w_4_16 ?_
  exact E_iret (pc := 161) ddX9_told_161 rfl k
set_option maxRecDepth 100000 in
set_option maxHeartbeats 4000000 in
theorem B_X9_told_113 {mc ms : Nat} {z : Zt} {I : It} {Q : Option Value → Zt → It → Prop} {y0 : Int32}
    (k : ((y0 = 0) → Q (some (.int 0)) z I) ∧
    ((¬ y0 = 0) → Q (some (.int 1)) z I)) :
    E mX9_told mc ms 113 [none, none] [.int y0] z I Q := by
  refine E_if_eq (pc := 113) (tgt := 120) ddX9_told_113 (by decide) (fun h => ?_) (fun h => ?_)
  · have k := k.1 h
    refine E_iconst (pc := 120) (v := 0) ddX9_told_120 rfl ?_
    exact E_iret (pc := 121) ddX9_told_121 rfl k
  · have k := k.2 h
    refine E_iconst (pc := 116) (v := 1) ddX9_told_116 rfl ?_
    refine E_goto (pc := 117) (tgt := 121) ddX9_told_117 (by decide) ?_
    exact E_iret (pc := 121) ddX9_told_121 rfl k
set_option maxRecDepth 100000 in
set_option maxHeartbeats 4000000 in
theorem B_X9_told_126 {mc ms : Nat} {z : Zt} {I : It} {Q : Option Value → Zt → It → Prop} {y0 : Int32}
    (k : Q (some (.int y0)) z I) :
    E mX9_told mc ms 126 [none, none] [.int y0] z I Q := by
  exact E_iret (pc := 126) ddX9_told_126 rfl k
set_option maxRecDepth 100000 in
set_option maxHeartbeats 4000000 in
theorem B_X9_told_131 {mc ms : Nat} {z : Zt} {I : It} {Q : Option Value → Zt → It → Prop} {y0 : Int32}
    (k : Q (some (.int y0)) z I) :
    E mX9_told mc ms 131 [none, none] [.int y0] z I Q := by
  exact E_iret (pc := 131) ddX9_told_131 rfl k
set_option maxRecDepth 100000 in
set_option maxHeartbeats 4000000 in
theorem B_X9_told_136 {mc ms : Nat} {z : Zt} {I : It} {Q : Option Value → Zt → It → Prop} {y0 : Int32}
    (k : Q (some (.int y0)) z I) :
    E mX9_told mc ms 136 [none, none] [.int y0] z I Q := by
  exact E_iret (pc := 136) ddX9_told_136 rfl k
set_option maxRecDepth 100000 in
set_option maxHeartbeats 4000000 in
theorem B_X9_told_153 {mc ms : Nat} {z : Zt} {I : It} {Q : Option Value → Zt → It → Prop} {y0 : Int32}
    (k : Q (some (.int y0)) z I) :
    E mX9_told mc ms 153 [none, none] [.int y0] z I Q := by
  exact E_iret (pc := 153) ddX9_told_153 rfl k
/-! X9_lookersAt, labels [4, 19] -/
set_option maxRecDepth 100000 in
set_option maxHeartbeats 4000000 in
theorem B_X9_lookersAt_0 {mc ms : Nat} {z : Zt} {I : It} {Q : Option Value → Zt → It → Prop} {x1 : Int32} (ho : isO z)
    (k : E mX9_lookersAt mc ms 4 [some (.ref 308), some (.int x1), some (.int 0), some (.int 0)] [] z I Q) :
    E mX9_lookersAt mc ms 0 [some (.ref 308), some (.int x1), none, none] [] z I Q := by
  refine E_iconst (pc := 0) (v := 0) ddX9_lookersAt_0 rfl ?_
  refine E_istore_n (pc := 1) (ls' := [some (.ref 308), some (.int x1), some (.int 0), none]) ddX9_lookersAt_1 rfl (Nat.le_of_ble_eq_true rfl) rfl rfl ?_
  refine E_iconst (pc := 2) (v := 0) ddX9_lookersAt_2 rfl ?_
  refine E_istore_n (pc := 3) (ls' := [some (.ref 308), some (.int x1), some (.int 0), some (.int 0)]) ddX9_lookersAt_3 rfl (Nat.le_of_ble_eq_true rfl) rfl rfl ?_
  exact k
set_option maxRecDepth 100000 in
set_option maxHeartbeats 4000000 in
theorem B_X9_lookersAt_4 {mc ms : Nat} {z : Zt} {I : It} {Q : Option Value → Zt → It → Prop} {x1 x2 x3 : Int32} (ho : isO z)
    (k : (((I 308 2) ≤ x3) → Q (some (.int x2)) z I) ∧
    ((¬ (I 308 2) ≤ x3) → E mX9_looksAt 0 0 0 [some (.ref 308), some (.int x3), some (.int x1)] [] z I (fun r z' I' => E mX9_lookersAt mc ms 19 [some (.ref 308), some (.int x1), none, some (.int x3)] (r.toList ++ [.int x2]) z' I' Q))) :
    E mX9_lookersAt mc ms 4 [some (.ref 308), some (.int x1), some (.int x2), some (.int x3)] [] z I Q := by
  refine E_iload_n (pc := 4) (x := x3) ddX9_lookersAt_4 rfl rfl ?_
  refine E_aload_n (pc := 5) (x := 308) ddX9_lookersAt_5 rfl rfl ?_
  refine E_getI (pc := 6) ddX9_lookersAt_6 ec_8 2 (Nat.le_of_ble_eq_true rfl) rfl w_3_184 ho.s0 ?_
  refine E_icmp_ge (pc := 9) (tgt := 35) ddX9_lookersAt_9 (by decide) (fun h => ?_) (fun h => ?_)
  · have k := k.1 h
    refine E_iload_n (pc := 35) (x := x2) ddX9_lookersAt_35 rfl rfl ?_
    exact E_iret (pc := 36) ddX9_lookersAt_36 rfl k
  · have k := k.2 h
    refine E_iload_n (pc := 12) (x := x2) ddX9_lookersAt_12 rfl rfl ?_
    refine E_aload_n (pc := 13) (x := 308) ddX9_lookersAt_13 rfl rfl ?_
    refine E_iload_n (pc := 14) (x := x3) ddX9_lookersAt_14 rfl rfl ?_
    refine E_iload_n (pc := 15) (x := x1) ddX9_lookersAt_15 rfl rfl ?_
    exact E_callV (pc := 16) (As := [.int x3, .int x1]) (st := [.int x2]) (a := 308) ddX9_lookersAt_16 hX9_looksAt ⟨(Nat.le_of_ble_eq_true rfl), (Nat.le_of_ble_eq_true rfl)⟩ w_4_139 (ci := 8) rfl rfl ho.s0 rfl rfl (Nat.le_of_ble_eq_true rfl) (e_cc rfl (e_cc rfl e_cn)) (Nat.le_of_ble_eq_true rfl) (E.mono k fun _ _ _ q => E.forget q ⟨rfl, ⟨rfl, ⟨rfl, trivial⟩⟩⟩)
set_option maxRecDepth 100000 in
set_option maxHeartbeats 4000000 in
theorem B_X9_lookersAt_19 {mc ms : Nat} {z : Zt} {I : It} {Q : Option Value → Zt → It → Prop} {x1 x3 y0 y1 : Int32} (ho : isO z)
    (k : ((y0 = 0) → ∀ v1 : Int32, v1 = (y1 + 0) → E mX9_lookersAt mc ms 4 [some (.ref 308), some (.int x1), some (.int v1), some (.int (x3 + 1))] [] z I Q) ∧
    ((¬ y0 = 0) → ∀ v1 : Int32, v1 = (y1 + 1) → E mX9_lookersAt mc ms 4 [some (.ref 308), some (.int x1), some (.int v1), some (.int (x3 + 1))] [] z I Q)) :
    E mX9_lookersAt mc ms 19 [some (.ref 308), some (.int x1), none, some (.int x3)] [.int y0, .int y1] z I Q := by
  refine E_if_eq (pc := 19) (tgt := 26) ddX9_lookersAt_19 (by decide) (fun h => ?_) (fun h => ?_)
  · have k := k.1 h
    refine E_iconst (pc := 26) (v := 0) ddX9_lookersAt_26 rfl ?_
    refine E_iadd (pc := 27) ddX9_lookersAt_27 ?_
    obtain ⟨v1, ev1⟩ : ∃ y : Int32, y = (y1 + 0) := ⟨_, rfl⟩
    have k := k v1 ev1
    rw [← ev1]
    refine E_istore_n (pc := 28) (ls' := [some (.ref 308), some (.int x1), some (.int v1), some (.int x3)]) ddX9_lookersAt_28 rfl (Nat.le_of_ble_eq_true rfl) rfl rfl ?_
    refine E_iinc (pc := 29) (v := (x3 + 1)) (ls' := [some (.ref 308), some (.int x1), some (.int v1), some (.int (x3 + 1))]) ddX9_lookersAt_29 rfl rfl (Nat.le_of_ble_eq_true rfl) rfl rfl ?_
    refine E_goto (pc := 32) (tgt := 4) ddX9_lookersAt_32 (by decide) ?_
    exact k
  · have k := k.2 h
    refine E_iconst (pc := 22) (v := 1) ddX9_lookersAt_22 rfl ?_
    refine E_goto (pc := 23) (tgt := 27) ddX9_lookersAt_23 (by decide) ?_
    refine E_iadd (pc := 27) ddX9_lookersAt_27 ?_
    obtain ⟨v1, ev1⟩ : ∃ y : Int32, y = (y1 + 1) := ⟨_, rfl⟩
    have k := k v1 ev1
    rw [← ev1]
    refine E_istore_n (pc := 28) (ls' := [some (.ref 308), some (.int x1), some (.int v1), some (.int x3)]) ddX9_lookersAt_28 rfl (Nat.le_of_ble_eq_true rfl) rfl rfl ?_
    refine E_iinc (pc := 29) (v := (x3 + 1)) (ls' := [some (.ref 308), some (.int x1), some (.int v1), some (.int (x3 + 1))]) ddX9_lookersAt_29 rfl rfl (Nat.le_of_ble_eq_true rfl) rfl rfl ?_
    refine E_goto (pc := 32) (tgt := 4) ddX9_lookersAt_32 (by decide) ?_
    exact k
/-! X9_wire, labels [63, 89] -/
set_option maxRecDepth 100000 in
set_option maxHeartbeats 4000000 in
theorem B_X9_wire_0 {mc ms : Nat} {z : Zt} {I : It} {Q : Option Value → Zt → It → Prop} {x1 x2 : Int32} (ho : isO z)
    (k : ((x1 < 0) → Q (some (.int (-1000000001))) z I) ∧
    ((¬ x1 < 0) → ((((I 308 1) - 1) < x1) → Q (some (.int (-1000000001))) z I) ∧
    ((¬ ((I 308 1) - 1) < x1) → (x2 = 0 → ∃ j1 : Nat, (8 + x1) = nI j1 ∧ j1 < 6880 ∧ Q (some (.int (I 309 j1))) z I) ∧
    (x2 = 1 → E mX9_driversOf 0 0 0 [some (.ref 308), some (.int x1), none, none] [] z I (fun r z' I' => E mX9_wire mc ms 63 [none, none, none] (r.toList ++ []) z' I' Q)) ∧
    (x2 = 2 → ∃ j1 : Nat, (16 + x1) = nI j1 ∧ j1 < 6880 ∧ Q (some (.int (I 309 j1))) z I) ∧
    (x2 = 3 → ∃ j1 : Nat, (24 + x1) = nI j1 ∧ j1 < 6880 ∧ Q (some (.int (I 309 j1))) z I) ∧
    (x2 = 4 → E mX9_lookersAt 0 0 0 [some (.ref 308), some (.int x1), none, none] [] z I (fun r z' I' => E mX9_wire mc ms 89 [none, none, none] (r.toList ++ []) z' I' Q)) ∧
    (¬ x2 = 0 → ¬ x2 = 1 → ¬ x2 = 2 → ¬ x2 = 3 → ¬ x2 = 4 → Q (some (.int (-1000000002))) z I)))) :
    E mX9_wire mc ms 0 [some (.ref 308), some (.int x1), some (.int x2)] [] z I Q := by
  refine E_aload_n (pc := 0) (x := 308) ddX9_wire_0 rfl rfl ?_
  refine E_iload_n (pc := 1) (x := x1) ddX9_wire_1 rfl rfl ?_
  refine E_callV (pc := 2) (As := [.int x1]) (st := []) (a := 308) ddX9_wire_2 hX9_isWire ⟨(Nat.le_of_ble_eq_true rfl), (Nat.le_of_ble_eq_true rfl)⟩ w_4_147 (ci := 8) rfl rfl ho.s0 rfl rfl (Nat.le_of_ble_eq_true rfl) (e_cc rfl e_cn) (Nat.le_of_ble_eq_true rfl) ?_
  refine (show E mX9_isWire 0 0 0 [some (.ref 308), some (.int x1)] [] z I _ from ?_)
  refine E_iload_n (pc := 0) (x := x1) ddX9_isWire_0 rfl rfl ?_
  refine E_iconst (pc := 1) (v := 0) ddX9_isWire_1 rfl ?_
  refine E_aload_n (pc := 2) (x := 308) ddX9_isWire_2 rfl rfl ?_
  refine E_getI (pc := 3) ddX9_isWire_3 ec_8 1 (Nat.le_of_ble_eq_true rfl) rfl w_3_183 ho.s0 ?_
  refine E_iconst (pc := 6) (v := 1) ddX9_isWire_6 rfl ?_
  refine E_isub (pc := 7) ddX9_isWire_7 ?_
  refine E_callS (pc := 8) (As := [.int x1, .int 0, .int ((I 308 1) - 1)]) (st := []) ddX9_isWire_8 hX9_in ⟨(Nat.le_of_ble_eq_true rfl), (Nat.le_of_ble_eq_true rfl)⟩ w_4_13 rfl rfl (Nat.le_of_ble_eq_true rfl) (e_cc rfl (e_cc rfl (e_cc rfl e_cn))) (Nat.le_of_ble_eq_true rfl) ?_
  refine (show E mX9_in 0 0 0 [some (.int x1), some (.int 0), some (.int ((I 308 1) - 1))] [] z I _ from ?_)
  refine E_iload_n (pc := 0) (x := x1) ddX9_in_0 rfl rfl ?_
  refine E_iload_n (pc := 1) (x := 0) ddX9_in_1 rfl rfl ?_
  refine E_icmp_lt (pc := 2) (tgt := 14) ddX9_in_2 (by decide) (fun h => ?_) (fun h => ?_)
  · have k := k.1 h
    refine E_iconst (pc := 14) (v := 0) ddX9_in_14 rfl ?_
    refine E_zret (pc := 15) ddX9_in_15 rfl (by decide) ?_
    refine (show E mX9_isWire 0 0 11 [some (.ref 308), some (.int x1)] [.int 0] z I _ from ?_)
    refine E_zret (pc := 11) ddX9_isWire_11 rfl (by decide) ?_
    refine (show E mX9_wire mc ms 5 [some (.ref 308), some (.int x1), some (.int x2)] [.int 0] z I Q from ?_)
    refine E_if_ne (pc := 5) (tgt := 11) ddX9_wire_5 (by decide) (fun h => absurd h (by decide)) (fun _ => ?_)
    refine E_ldc (pc := 8) (v := (-1000000001)) ddX9_wire_8 w_4_155 ?_
    exact E_iret (pc := 10) ddX9_wire_10 rfl k
  · have k := k.2 h
    refine E_iload_n (pc := 5) (x := x1) ddX9_in_5 rfl rfl ?_
    refine E_iload_n (pc := 6) (x := ((I 308 1) - 1)) ddX9_in_6 rfl rfl ?_
    refine E_icmp_gt (pc := 7) (tgt := 14) ddX9_in_7 (by decide) (fun h => ?_) (fun h => ?_)
    · have k := k.1 h
      refine E_iconst (pc := 14) (v := 0) ddX9_in_14 rfl ?_
      refine E_zret (pc := 15) ddX9_in_15 rfl (by decide) ?_
      refine (show E mX9_isWire 0 0 11 [some (.ref 308), some (.int x1)] [.int 0] z I _ from ?_)
      refine E_zret (pc := 11) ddX9_isWire_11 rfl (by decide) ?_
      refine (show E mX9_wire mc ms 5 [some (.ref 308), some (.int x1), some (.int x2)] [.int 0] z I Q from ?_)
      refine E_if_ne (pc := 5) (tgt := 11) ddX9_wire_5 (by decide) (fun h => absurd h (by decide)) (fun _ => ?_)
      refine E_ldc (pc := 8) (v := (-1000000001)) ddX9_wire_8 w_4_155 ?_
      exact E_iret (pc := 10) ddX9_wire_10 rfl k
    · have k := k.2 h
      refine E_iconst (pc := 10) (v := 1) ddX9_in_10 rfl ?_
      refine E_goto (pc := 11) (tgt := 15) ddX9_in_11 (by decide) ?_
      refine E_zret (pc := 15) ddX9_in_15 rfl (by decide) ?_
      refine (show E mX9_isWire 0 0 11 [some (.ref 308), some (.int x1)] [.int 1] z I _ from ?_)
      refine E_zret (pc := 11) ddX9_isWire_11 rfl (by decide) ?_
      refine (show E mX9_wire mc ms 5 [some (.ref 308), some (.int x1), some (.int x2)] [.int 1] z I Q from ?_)
      refine E_if_ne (pc := 5) (tgt := 11) ddX9_wire_5 (by decide) (fun _ => ?_) (fun h => absurd h (by decide))
      refine E_iload_n (pc := 11) (x := x2) ddX9_wire_11 rfl rfl ?_
      by_cases h0 : x2 = 0
      · have k := k.1 h0
        refine E_tswIn (pc := 12) (v := 0) (tgt := 48) ddX9_wire_12 (by rw [h0]; rfl) (by decide) (by decide) rfl (by decide) ?_
        refine E_aload_n (pc := 48) (x := 308) ddX9_wire_48 rfl rfl ?_
        refine E_getR (pc := 49) (x := 309) ddX9_wire_49 ec_8 0 (Nat.le_of_ble_eq_true rfl) rfl w_3_182 ho.s0 ho.r0 (by decide) ?_
        refine E_bipush (pc := 52) (v := 8) ddX9_wire_52 rfl ?_
        refine E_iload_n (pc := 54) (x := x1) ddX9_wire_54 rfl rfl ?_
        refine E_iadd (pc := 55) ddX9_wire_55 ?_
        obtain ⟨j1, ij1, lj1, k⟩ := k
        refine E_ialdN (pc := 56) (j := j1) ddX9_wire_56 ho.s1 ij1 lj1 (Nat.le_of_ble_eq_true rfl) ?_
        exact E_iret (pc := 57) ddX9_wire_57 rfl k
      by_cases h1 : x2 = 1
      · have k := k.2.1 h1
        refine E_tswIn (pc := 12) (v := 1) (tgt := 58) ddX9_wire_12 (by rw [h1]; rfl) (by decide) (by decide) rfl (by decide) ?_
        refine E_aload_n (pc := 58) (x := 308) ddX9_wire_58 rfl rfl ?_
        refine E_iload_n (pc := 59) (x := x1) ddX9_wire_59 rfl rfl ?_
        exact E_callV (pc := 60) (As := [.int x1]) (st := []) (a := 308) ddX9_wire_60 hX9_driversOf ⟨(Nat.le_of_ble_eq_true rfl), (Nat.le_of_ble_eq_true rfl)⟩ w_4_124 (ci := 8) rfl rfl ho.s0 rfl rfl (Nat.le_of_ble_eq_true rfl) (e_cc rfl e_cn) (Nat.le_of_ble_eq_true rfl) (E.mono k fun _ _ _ q => E.forget q trivial)
      by_cases h2 : x2 = 2
      · have k := k.2.2.1 h2
        refine E_tswIn (pc := 12) (v := 2) (tgt := 64) ddX9_wire_12 (by rw [h2]; rfl) (by decide) (by decide) rfl (by decide) ?_
        refine E_aload_n (pc := 64) (x := 308) ddX9_wire_64 rfl rfl ?_
        refine E_getR (pc := 65) (x := 309) ddX9_wire_65 ec_8 0 (Nat.le_of_ble_eq_true rfl) rfl w_3_182 ho.s0 ho.r0 (by decide) ?_
        refine E_bipush (pc := 68) (v := 16) ddX9_wire_68 rfl ?_
        refine E_iload_n (pc := 70) (x := x1) ddX9_wire_70 rfl rfl ?_
        refine E_iadd (pc := 71) ddX9_wire_71 ?_
        obtain ⟨j1, ij1, lj1, k⟩ := k
        refine E_ialdN (pc := 72) (j := j1) ddX9_wire_72 ho.s1 ij1 lj1 (Nat.le_of_ble_eq_true rfl) ?_
        exact E_iret (pc := 73) ddX9_wire_73 rfl k
      by_cases h3 : x2 = 3
      · have k := k.2.2.2.1 h3
        refine E_tswIn (pc := 12) (v := 3) (tgt := 74) ddX9_wire_12 (by rw [h3]; rfl) (by decide) (by decide) rfl (by decide) ?_
        refine E_aload_n (pc := 74) (x := 308) ddX9_wire_74 rfl rfl ?_
        refine E_getR (pc := 75) (x := 309) ddX9_wire_75 ec_8 0 (Nat.le_of_ble_eq_true rfl) rfl w_3_182 ho.s0 ho.r0 (by decide) ?_
        refine E_bipush (pc := 78) (v := 24) ddX9_wire_78 rfl ?_
        refine E_iload_n (pc := 80) (x := x1) ddX9_wire_80 rfl rfl ?_
        refine E_iadd (pc := 81) ddX9_wire_81 ?_
        obtain ⟨j1, ij1, lj1, k⟩ := k
        refine E_ialdN (pc := 82) (j := j1) ddX9_wire_82 ho.s1 ij1 lj1 (Nat.le_of_ble_eq_true rfl) ?_
        exact E_iret (pc := 83) ddX9_wire_83 rfl k
      by_cases h4 : x2 = 4
      · have k := k.2.2.2.2.1 h4
        refine E_tswIn (pc := 12) (v := 4) (tgt := 84) ddX9_wire_12 (by rw [h4]; rfl) (by decide) (by decide) rfl (by decide) ?_
        refine E_aload_n (pc := 84) (x := 308) ddX9_wire_84 rfl rfl ?_
        refine E_iload_n (pc := 85) (x := x1) ddX9_wire_85 rfl rfl ?_
        exact E_callV (pc := 86) (As := [.int x1]) (st := []) (a := 308) ddX9_wire_86 hX9_lookersAt ⟨(Nat.le_of_ble_eq_true rfl), (Nat.le_of_ble_eq_true rfl)⟩ w_4_156 (ci := 8) rfl rfl ho.s0 rfl rfl (Nat.le_of_ble_eq_true rfl) (e_cc rfl e_cn) (Nat.le_of_ble_eq_true rfl) (E.mono k fun _ _ _ q => E.forget q trivial)
      have k := k.2.2.2.2.2 h0 h1 h2 h3 h4
      have q0 := lv_neT h0 (a := 0) rfl
      have q1 := lv_neT h1 (a := 1) rfl
      have q2 := lv_neT h2 (a := 2) rfl
      have q3 := lv_neT h3 (a := 3) rfl
      have q4 := lv_neT h4 (a := 4) rfl
      refine E_tswOut (pc := 12) (tgt := 90) ddX9_wire_12 (by omega) (by decide) ?_
      refine E_ldc (pc := 90) (v := (-1000000002)) ddX9_wire_90 w_4_16 ?_
      exact E_iret (pc := 92) ddX9_wire_92 rfl k
set_option maxRecDepth 100000 in
set_option maxHeartbeats 4000000 in
theorem B_X9_wire_63 {mc ms : Nat} {z : Zt} {I : It} {Q : Option Value → Zt → It → Prop} {y0 : Int32}
    (k : Q (some (.int y0)) z I) :
    E mX9_wire mc ms 63 [none, none, none] [.int y0] z I Q := by
  exact E_iret (pc := 63) ddX9_wire_63 rfl k
set_option maxRecDepth 100000 in
set_option maxHeartbeats 4000000 in
theorem B_X9_wire_89 {mc ms : Nat} {z : Zt} {I : It} {Q : Option Value → Zt → It → Prop} {y0 : Int32}
    (k : Q (some (.int y0)) z I) :
    E mX9_wire mc ms 89 [none, none, none] [.int y0] z I Q := by
  exact E_iret (pc := 89) ddX9_wire_89 rfl k
/-! X9_wave, labels [] -/
set_option maxRecDepth 100000 in
set_option maxHeartbeats 4000000 in
theorem B_X9_wave_0 {mc ms : Nat} {z : Zt} {I : It} {Q : Option Value → Zt → It → Prop} {x1 x2 x3 : Int32} (ho : isO z)
    (k : ((x1 < 0) → Q (some (.int (-1000000001))) z I) ∧
    ((¬ x1 < 0) → ((((I 308 1) - 1) < x1) → Q (some (.int (-1000000001))) z I) ∧
    ((¬ ((I 308 1) - 1) < x1) → ((x3 < 0) → Q (some (.int (-1000000002))) z I) ∧
    ((¬ x3 < 0) → ((1 < x3) → Q (some (.int (-1000000002))) z I) ∧
    ((¬ 1 < x3) → ∃ j1 : Nat, (40 + x1) = nI j1 ∧ j1 < 6880 ∧ ((x2 < 0) → Q (some (.int (-1))) z I) ∧
    ((¬ x2 < 0) → ((((I 309 j1) - 1) < x2) → Q (some (.int (-1))) z I) ∧
    ((¬ ((I 309 j1) - 1) < x2) → ((¬ x3 = 0) → ∃ j2 : Nat, ((112 + (8 * x1)) + x2) = nI j2 ∧ j2 < 6880 ∧ Q (some (.int (I 309 j2))) z I) ∧
    ((x3 = 0) → ∃ j2 : Nat, ((48 + (8 * x1)) + x2) = nI j2 ∧ j2 < 6880 ∧ Q (some (.int (I 309 j2))) z I)))))))) :
    E mX9_wave mc ms 0 [some (.ref 308), some (.int x1), some (.int x2), some (.int x3)] [] z I Q := by
  refine E_aload_n (pc := 0) (x := 308) ddX9_wave_0 rfl rfl ?_
  refine E_iload_n (pc := 1) (x := x1) ddX9_wave_1 rfl rfl ?_
  refine E_callV (pc := 2) (As := [.int x1]) (st := []) (a := 308) ddX9_wave_2 hX9_isWire ⟨(Nat.le_of_ble_eq_true rfl), (Nat.le_of_ble_eq_true rfl)⟩ w_4_147 (ci := 8) rfl rfl ho.s0 rfl rfl (Nat.le_of_ble_eq_true rfl) (e_cc rfl e_cn) (Nat.le_of_ble_eq_true rfl) ?_
  refine (show E mX9_isWire 0 0 0 [some (.ref 308), some (.int x1)] [] z I _ from ?_)
  refine E_iload_n (pc := 0) (x := x1) ddX9_isWire_0 rfl rfl ?_
  refine E_iconst (pc := 1) (v := 0) ddX9_isWire_1 rfl ?_
  refine E_aload_n (pc := 2) (x := 308) ddX9_isWire_2 rfl rfl ?_
  refine E_getI (pc := 3) ddX9_isWire_3 ec_8 1 (Nat.le_of_ble_eq_true rfl) rfl w_3_183 ho.s0 ?_
  refine E_iconst (pc := 6) (v := 1) ddX9_isWire_6 rfl ?_
  refine E_isub (pc := 7) ddX9_isWire_7 ?_
  refine E_callS (pc := 8) (As := [.int x1, .int 0, .int ((I 308 1) - 1)]) (st := []) ddX9_isWire_8 hX9_in ⟨(Nat.le_of_ble_eq_true rfl), (Nat.le_of_ble_eq_true rfl)⟩ w_4_13 rfl rfl (Nat.le_of_ble_eq_true rfl) (e_cc rfl (e_cc rfl (e_cc rfl e_cn))) (Nat.le_of_ble_eq_true rfl) ?_
  refine (show E mX9_in 0 0 0 [some (.int x1), some (.int 0), some (.int ((I 308 1) - 1))] [] z I _ from ?_)
  refine E_iload_n (pc := 0) (x := x1) ddX9_in_0 rfl rfl ?_
  refine E_iload_n (pc := 1) (x := 0) ddX9_in_1 rfl rfl ?_
  refine E_icmp_lt (pc := 2) (tgt := 14) ddX9_in_2 (by decide) (fun h => ?_) (fun h => ?_)
  · have k := k.1 h
    refine E_iconst (pc := 14) (v := 0) ddX9_in_14 rfl ?_
    refine E_zret (pc := 15) ddX9_in_15 rfl (by decide) ?_
    refine (show E mX9_isWire 0 0 11 [some (.ref 308), some (.int x1)] [.int 0] z I _ from ?_)
    refine E_zret (pc := 11) ddX9_isWire_11 rfl (by decide) ?_
    refine (show E mX9_wave mc ms 5 [some (.ref 308), some (.int x1), some (.int x2), some (.int x3)] [.int 0] z I Q from ?_)
    refine E_if_ne (pc := 5) (tgt := 11) ddX9_wave_5 (by decide) (fun h => absurd h (by decide)) (fun _ => ?_)
    refine E_ldc (pc := 8) (v := (-1000000001)) ddX9_wave_8 w_4_155 ?_
    exact E_iret (pc := 10) ddX9_wave_10 rfl k
  · have k := k.2 h
    refine E_iload_n (pc := 5) (x := x1) ddX9_in_5 rfl rfl ?_
    refine E_iload_n (pc := 6) (x := ((I 308 1) - 1)) ddX9_in_6 rfl rfl ?_
    refine E_icmp_gt (pc := 7) (tgt := 14) ddX9_in_7 (by decide) (fun h => ?_) (fun h => ?_)
    · have k := k.1 h
      refine E_iconst (pc := 14) (v := 0) ddX9_in_14 rfl ?_
      refine E_zret (pc := 15) ddX9_in_15 rfl (by decide) ?_
      refine (show E mX9_isWire 0 0 11 [some (.ref 308), some (.int x1)] [.int 0] z I _ from ?_)
      refine E_zret (pc := 11) ddX9_isWire_11 rfl (by decide) ?_
      refine (show E mX9_wave mc ms 5 [some (.ref 308), some (.int x1), some (.int x2), some (.int x3)] [.int 0] z I Q from ?_)
      refine E_if_ne (pc := 5) (tgt := 11) ddX9_wave_5 (by decide) (fun h => absurd h (by decide)) (fun _ => ?_)
      refine E_ldc (pc := 8) (v := (-1000000001)) ddX9_wave_8 w_4_155 ?_
      exact E_iret (pc := 10) ddX9_wave_10 rfl k
    · have k := k.2 h
      refine E_iconst (pc := 10) (v := 1) ddX9_in_10 rfl ?_
      refine E_goto (pc := 11) (tgt := 15) ddX9_in_11 (by decide) ?_
      refine E_zret (pc := 15) ddX9_in_15 rfl (by decide) ?_
      refine (show E mX9_isWire 0 0 11 [some (.ref 308), some (.int x1)] [.int 1] z I _ from ?_)
      refine E_zret (pc := 11) ddX9_isWire_11 rfl (by decide) ?_
      refine (show E mX9_wave mc ms 5 [some (.ref 308), some (.int x1), some (.int x2), some (.int x3)] [.int 1] z I Q from ?_)
      refine E_if_ne (pc := 5) (tgt := 11) ddX9_wave_5 (by decide) (fun _ => ?_) (fun h => absurd h (by decide))
      refine E_iload_n (pc := 11) (x := x3) ddX9_wave_11 rfl rfl ?_
      refine E_iconst (pc := 12) (v := 0) ddX9_wave_12 rfl ?_
      refine E_iconst (pc := 13) (v := 1) ddX9_wave_13 rfl ?_
      refine E_callS (pc := 14) (As := [.int x3, .int 0, .int 1]) (st := []) ddX9_wave_14 hX9_in ⟨(Nat.le_of_ble_eq_true rfl), (Nat.le_of_ble_eq_true rfl)⟩ w_4_13 rfl rfl (Nat.le_of_ble_eq_true rfl) (e_cc rfl (e_cc rfl (e_cc rfl e_cn))) (Nat.le_of_ble_eq_true rfl) ?_
      refine (show E mX9_in 0 0 0 [some (.int x3), some (.int 0), some (.int 1)] [] z I _ from ?_)
      refine E_iload_n (pc := 0) (x := x3) ddX9_in_0 rfl rfl ?_
      refine E_iload_n (pc := 1) (x := 0) ddX9_in_1 rfl rfl ?_
      refine E_icmp_lt (pc := 2) (tgt := 14) ddX9_in_2 (by decide) (fun h => ?_) (fun h => ?_)
      · have k := k.1 h
        refine E_iconst (pc := 14) (v := 0) ddX9_in_14 rfl ?_
        refine E_zret (pc := 15) ddX9_in_15 rfl (by decide) ?_
        refine (show E mX9_wave mc ms 17 [some (.ref 308), some (.int x1), some (.int x2), some (.int x3)] [.int 0] z I Q from ?_)
        refine E_if_ne (pc := 17) (tgt := 23) ddX9_wave_17 (by decide) (fun h => absurd h (by decide)) (fun _ => ?_)
        refine E_ldc (pc := 20) (v := (-1000000002)) ddX9_wave_20 w_4_16 ?_
        exact E_iret (pc := 22) ddX9_wave_22 rfl k
      · have k := k.2 h
        refine E_iload_n (pc := 5) (x := x3) ddX9_in_5 rfl rfl ?_
        refine E_iload_n (pc := 6) (x := 1) ddX9_in_6 rfl rfl ?_
        refine E_icmp_gt (pc := 7) (tgt := 14) ddX9_in_7 (by decide) (fun h => ?_) (fun h => ?_)
        · have k := k.1 h
          refine E_iconst (pc := 14) (v := 0) ddX9_in_14 rfl ?_
          refine E_zret (pc := 15) ddX9_in_15 rfl (by decide) ?_
          refine (show E mX9_wave mc ms 17 [some (.ref 308), some (.int x1), some (.int x2), some (.int x3)] [.int 0] z I Q from ?_)
          refine E_if_ne (pc := 17) (tgt := 23) ddX9_wave_17 (by decide) (fun h => absurd h (by decide)) (fun _ => ?_)
          refine E_ldc (pc := 20) (v := (-1000000002)) ddX9_wave_20 w_4_16 ?_
          exact E_iret (pc := 22) ddX9_wave_22 rfl k
        · have k := k.2 h
          refine E_iconst (pc := 10) (v := 1) ddX9_in_10 rfl ?_
          refine E_goto (pc := 11) (tgt := 15) ddX9_in_11 (by decide) ?_
          refine E_zret (pc := 15) ddX9_in_15 rfl (by decide) ?_
          refine (show E mX9_wave mc ms 17 [some (.ref 308), some (.int x1), some (.int x2), some (.int x3)] [.int 1] z I Q from ?_)
          refine E_if_ne (pc := 17) (tgt := 23) ddX9_wave_17 (by decide) (fun _ => ?_) (fun h => absurd h (by decide))
          refine E_iload_n (pc := 23) (x := x2) ddX9_wave_23 rfl rfl ?_
          refine E_iconst (pc := 24) (v := 0) ddX9_wave_24 rfl ?_
          refine E_aload_n (pc := 25) (x := 308) ddX9_wave_25 rfl rfl ?_
          refine E_getR (pc := 26) (x := 309) ddX9_wave_26 ec_8 0 (Nat.le_of_ble_eq_true rfl) rfl w_3_182 ho.s0 ho.r0 (by decide) ?_
          refine E_bipush (pc := 29) (v := 40) ddX9_wave_29 rfl ?_
          refine E_iload_n (pc := 31) (x := x1) ddX9_wave_31 rfl rfl ?_
          refine E_iadd (pc := 32) ddX9_wave_32 ?_
          obtain ⟨j1, ij1, lj1, k⟩ := k
          refine E_ialdN (pc := 33) (j := j1) ddX9_wave_33 ho.s1 ij1 lj1 (Nat.le_of_ble_eq_true rfl) ?_
          refine E_iconst (pc := 34) (v := 1) ddX9_wave_34 rfl ?_
          refine E_isub (pc := 35) ddX9_wave_35 ?_
          refine E_callS (pc := 36) (As := [.int x2, .int 0, .int ((I 309 j1) - 1)]) (st := []) ddX9_wave_36 hX9_in ⟨(Nat.le_of_ble_eq_true rfl), (Nat.le_of_ble_eq_true rfl)⟩ w_4_13 rfl rfl (Nat.le_of_ble_eq_true rfl) (e_cc rfl (e_cc rfl (e_cc rfl e_cn))) (Nat.le_of_ble_eq_true rfl) ?_
          refine (show E mX9_in 0 0 0 [some (.int x2), some (.int 0), some (.int ((I 309 j1) - 1))] [] z I _ from ?_)
          refine E_iload_n (pc := 0) (x := x2) ddX9_in_0 rfl rfl ?_
          refine E_iload_n (pc := 1) (x := 0) ddX9_in_1 rfl rfl ?_
          refine E_icmp_lt (pc := 2) (tgt := 14) ddX9_in_2 (by decide) (fun h => ?_) (fun h => ?_)
          · have k := k.1 h
            refine E_iconst (pc := 14) (v := 0) ddX9_in_14 rfl ?_
            refine E_zret (pc := 15) ddX9_in_15 rfl (by decide) ?_
            refine (show E mX9_wave mc ms 39 [some (.ref 308), some (.int x1), some (.int x2), some (.int x3)] [.int 0] z I Q from ?_)
            refine E_if_ne (pc := 39) (tgt := 44) ddX9_wave_39 (by decide) (fun h => absurd h (by decide)) (fun _ => ?_)
            refine E_iconst (pc := 42) (v := (-1)) ddX9_wave_42 rfl ?_
            exact E_iret (pc := 43) ddX9_wave_43 rfl k
          · have k := k.2 h
            refine E_iload_n (pc := 5) (x := x2) ddX9_in_5 rfl rfl ?_
            refine E_iload_n (pc := 6) (x := ((I 309 j1) - 1)) ddX9_in_6 rfl rfl ?_
            refine E_icmp_gt (pc := 7) (tgt := 14) ddX9_in_7 (by decide) (fun h => ?_) (fun h => ?_)
            · have k := k.1 h
              refine E_iconst (pc := 14) (v := 0) ddX9_in_14 rfl ?_
              refine E_zret (pc := 15) ddX9_in_15 rfl (by decide) ?_
              refine (show E mX9_wave mc ms 39 [some (.ref 308), some (.int x1), some (.int x2), some (.int x3)] [.int 0] z I Q from ?_)
              refine E_if_ne (pc := 39) (tgt := 44) ddX9_wave_39 (by decide) (fun h => absurd h (by decide)) (fun _ => ?_)
              refine E_iconst (pc := 42) (v := (-1)) ddX9_wave_42 rfl ?_
              exact E_iret (pc := 43) ddX9_wave_43 rfl k
            · have k := k.2 h
              refine E_iconst (pc := 10) (v := 1) ddX9_in_10 rfl ?_
              refine E_goto (pc := 11) (tgt := 15) ddX9_in_11 (by decide) ?_
              refine E_zret (pc := 15) ddX9_in_15 rfl (by decide) ?_
              refine (show E mX9_wave mc ms 39 [some (.ref 308), some (.int x1), some (.int x2), some (.int x3)] [.int 1] z I Q from ?_)
              refine E_if_ne (pc := 39) (tgt := 44) ddX9_wave_39 (by decide) (fun _ => ?_) (fun h => absurd h (by decide))
              refine E_aload_n (pc := 44) (x := 308) ddX9_wave_44 rfl rfl ?_
              refine E_getR (pc := 45) (x := 309) ddX9_wave_45 ec_8 0 (Nat.le_of_ble_eq_true rfl) rfl w_3_182 ho.s0 ho.r0 (by decide) ?_
              refine E_iload_n (pc := 48) (x := x3) ddX9_wave_48 rfl rfl ?_
              refine E_if_ne (pc := 49) (tgt := 57) ddX9_wave_49 (by decide) (fun h => ?_) (fun h => ?_)
              · have k := k.1 h
                refine E_bipush (pc := 57) (v := 112) ddX9_wave_57 rfl ?_
                refine E_bipush (pc := 59) (v := 8) ddX9_wave_59 rfl ?_
                refine E_iload_n (pc := 61) (x := x1) ddX9_wave_61 rfl rfl ?_
                refine E_imul (pc := 62) ddX9_wave_62 ?_
                refine E_iadd (pc := 63) ddX9_wave_63 ?_
                refine E_iload_n (pc := 64) (x := x2) ddX9_wave_64 rfl rfl ?_
                refine E_iadd (pc := 65) ddX9_wave_65 ?_
                obtain ⟨j2, ij2, lj2, k⟩ := k
                refine E_ialdN (pc := 66) (j := j2) ddX9_wave_66 ho.s1 ij2 lj2 (Nat.le_of_ble_eq_true rfl) ?_
                exact E_iret (pc := 67) ddX9_wave_67 rfl k
              · have k := k.2 h
                refine E_bipush (pc := 52) (v := 48) ddX9_wave_52 rfl ?_
                refine E_goto (pc := 54) (tgt := 59) ddX9_wave_54 (by decide) ?_
                refine E_bipush (pc := 59) (v := 8) ddX9_wave_59 rfl ?_
                refine E_iload_n (pc := 61) (x := x1) ddX9_wave_61 rfl rfl ?_
                refine E_imul (pc := 62) ddX9_wave_62 ?_
                refine E_iadd (pc := 63) ddX9_wave_63 ?_
                refine E_iload_n (pc := 64) (x := x2) ddX9_wave_64 rfl rfl ?_
                refine E_iadd (pc := 65) ddX9_wave_65 ?_
                obtain ⟨j2, ij2, lj2, k⟩ := k
                refine E_ialdN (pc := 66) (j := j2) ddX9_wave_66 ho.s1 ij2 lj2 (Nat.le_of_ble_eq_true rfl) ?_
                exact E_iret (pc := 67) ddX9_wave_67 rfl k
/-! X9_gate, labels [92, 116] -/
set_option maxRecDepth 100000 in
set_option maxHeartbeats 4000000 in
theorem B_X9_gate_0 {mc ms : Nat} {z : Zt} {I : It} {Q : Option Value → Zt → It → Prop} {x1 x2 : Int32} (ho : isO z)
    (k : ((x1 < 0) → Q (some (.int (-1000000001))) z I) ∧
    ((¬ x1 < 0) → ((((I 308 2) - 1) < x1) → Q (some (.int (-1000000001))) z I) ∧
    ((¬ ((I 308 2) - 1) < x1) → (x2 = 0 → ∃ j1 : Nat, ((6 * x1) + x2) = nI j1 ∧ j1 < 48 ∧ Q (some (.int (I 310 j1))) z I) ∧
    (x2 = 1 → ∃ j1 : Nat, ((6 * x1) + x2) = nI j1 ∧ j1 < 48 ∧ Q (some (.int (I 310 j1))) z I) ∧
    (x2 = 2 → ∃ j1 : Nat, ((6 * x1) + x2) = nI j1 ∧ j1 < 48 ∧ Q (some (.int (I 310 j1))) z I) ∧
    (x2 = 3 → ∃ j1 : Nat, ((6 * x1) + x2) = nI j1 ∧ j1 < 48 ∧ Q (some (.int (I 310 j1))) z I) ∧
    (x2 = 4 → ∃ j1 : Nat, ((6 * x1) + x2) = nI j1 ∧ j1 < 48 ∧ Q (some (.int (I 310 j1))) z I) ∧
    (x2 = 5 → ∃ j1 : Nat, ((6 * x1) + x2) = nI j1 ∧ j1 < 48 ∧ Q (some (.int (I 310 j1))) z I) ∧
    (x2 = 6 → ∃ j1 : Nat, (176 + x1) = nI j1 ∧ j1 < 6880 ∧ Q (some (.int (I 309 j1))) z I) ∧
    (x2 = 7 → E mX9_comesOf 0 0 0 [some (.ref 308), some (.int 0), some (.int x1), none, none] [] z I (fun r z' I' => E mX9_gate mc ms 92 [none, none, none] (r.toList ++ []) z' I' Q)) ∧
    (x2 = 8 → ∃ j1 : Nat, (184 + x1) = nI j1 ∧ j1 < 6880 ∧ Q (some (.int (I 309 j1))) z I) ∧
    (x2 = 9 → ∃ j1 : Nat, ((6 * x1) + 3) = nI j1 ∧ j1 < 48 ∧ E mX9_drivenTo 0 0 0 [some (.ref 308), some (.int 0), some (.int (I 310 j1)), some (.int x1), none, none] [] z I (fun r z' I' => E mX9_gate mc ms 116 [none, none, none] (r.toList ++ []) z' I' Q)) ∧
    (¬ x2 = 0 → ¬ x2 = 1 → ¬ x2 = 2 → ¬ x2 = 3 → ¬ x2 = 4 → ¬ x2 = 5 → ¬ x2 = 6 → ¬ x2 = 7 → ¬ x2 = 8 → ¬ x2 = 9 → Q (some (.int (-1000000002))) z I)))) :
    E mX9_gate mc ms 0 [some (.ref 308), some (.int x1), some (.int x2)] [] z I Q := by
  refine E_aload_n (pc := 0) (x := 308) ddX9_gate_0 rfl rfl ?_
  refine E_iload_n (pc := 1) (x := x1) ddX9_gate_1 rfl rfl ?_
  refine E_callV (pc := 2) (As := [.int x1]) (st := []) (a := 308) ddX9_gate_2 hX9_isGate ⟨(Nat.le_of_ble_eq_true rfl), (Nat.le_of_ble_eq_true rfl)⟩ w_4_168 (ci := 8) rfl rfl ho.s0 rfl rfl (Nat.le_of_ble_eq_true rfl) (e_cc rfl e_cn) (Nat.le_of_ble_eq_true rfl) ?_
  refine (show E mX9_isGate 0 0 0 [some (.ref 308), some (.int x1)] [] z I _ from ?_)
  refine E_iload_n (pc := 0) (x := x1) ddX9_isGate_0 rfl rfl ?_
  refine E_iconst (pc := 1) (v := 0) ddX9_isGate_1 rfl ?_
  refine E_aload_n (pc := 2) (x := 308) ddX9_isGate_2 rfl rfl ?_
  refine E_getI (pc := 3) ddX9_isGate_3 ec_8 2 (Nat.le_of_ble_eq_true rfl) rfl w_3_184 ho.s0 ?_
  refine E_iconst (pc := 6) (v := 1) ddX9_isGate_6 rfl ?_
  refine E_isub (pc := 7) ddX9_isGate_7 ?_
  refine E_callS (pc := 8) (As := [.int x1, .int 0, .int ((I 308 2) - 1)]) (st := []) ddX9_isGate_8 hX9_in ⟨(Nat.le_of_ble_eq_true rfl), (Nat.le_of_ble_eq_true rfl)⟩ w_4_13 rfl rfl (Nat.le_of_ble_eq_true rfl) (e_cc rfl (e_cc rfl (e_cc rfl e_cn))) (Nat.le_of_ble_eq_true rfl) ?_
  refine (show E mX9_in 0 0 0 [some (.int x1), some (.int 0), some (.int ((I 308 2) - 1))] [] z I _ from ?_)
  refine E_iload_n (pc := 0) (x := x1) ddX9_in_0 rfl rfl ?_
  refine E_iload_n (pc := 1) (x := 0) ddX9_in_1 rfl rfl ?_
  refine E_icmp_lt (pc := 2) (tgt := 14) ddX9_in_2 (by decide) (fun h => ?_) (fun h => ?_)
  · have k := k.1 h
    refine E_iconst (pc := 14) (v := 0) ddX9_in_14 rfl ?_
    refine E_zret (pc := 15) ddX9_in_15 rfl (by decide) ?_
    refine (show E mX9_isGate 0 0 11 [some (.ref 308), some (.int x1)] [.int 0] z I _ from ?_)
    refine E_zret (pc := 11) ddX9_isGate_11 rfl (by decide) ?_
    refine (show E mX9_gate mc ms 5 [some (.ref 308), some (.int x1), some (.int x2)] [.int 0] z I Q from ?_)
    refine E_if_ne (pc := 5) (tgt := 11) ddX9_gate_5 (by decide) (fun h => absurd h (by decide)) (fun _ => ?_)
    refine E_ldc (pc := 8) (v := (-1000000001)) ddX9_gate_8 w_4_155 ?_
    exact E_iret (pc := 10) ddX9_gate_10 rfl k
  · have k := k.2 h
    refine E_iload_n (pc := 5) (x := x1) ddX9_in_5 rfl rfl ?_
    refine E_iload_n (pc := 6) (x := ((I 308 2) - 1)) ddX9_in_6 rfl rfl ?_
    refine E_icmp_gt (pc := 7) (tgt := 14) ddX9_in_7 (by decide) (fun h => ?_) (fun h => ?_)
    · have k := k.1 h
      refine E_iconst (pc := 14) (v := 0) ddX9_in_14 rfl ?_
      refine E_zret (pc := 15) ddX9_in_15 rfl (by decide) ?_
      refine (show E mX9_isGate 0 0 11 [some (.ref 308), some (.int x1)] [.int 0] z I _ from ?_)
      refine E_zret (pc := 11) ddX9_isGate_11 rfl (by decide) ?_
      refine (show E mX9_gate mc ms 5 [some (.ref 308), some (.int x1), some (.int x2)] [.int 0] z I Q from ?_)
      refine E_if_ne (pc := 5) (tgt := 11) ddX9_gate_5 (by decide) (fun h => absurd h (by decide)) (fun _ => ?_)
      refine E_ldc (pc := 8) (v := (-1000000001)) ddX9_gate_8 w_4_155 ?_
      exact E_iret (pc := 10) ddX9_gate_10 rfl k
    · have k := k.2 h
      refine E_iconst (pc := 10) (v := 1) ddX9_in_10 rfl ?_
      refine E_goto (pc := 11) (tgt := 15) ddX9_in_11 (by decide) ?_
      refine E_zret (pc := 15) ddX9_in_15 rfl (by decide) ?_
      refine (show E mX9_isGate 0 0 11 [some (.ref 308), some (.int x1)] [.int 1] z I _ from ?_)
      refine E_zret (pc := 11) ddX9_isGate_11 rfl (by decide) ?_
      refine (show E mX9_gate mc ms 5 [some (.ref 308), some (.int x1), some (.int x2)] [.int 1] z I Q from ?_)
      refine E_if_ne (pc := 5) (tgt := 11) ddX9_gate_5 (by decide) (fun _ => ?_) (fun h => absurd h (by decide))
      refine E_iload_n (pc := 11) (x := x2) ddX9_gate_11 rfl rfl ?_
      by_cases h0 : x2 = 0
      · have k := k.1 h0
        refine E_tswIn (pc := 12) (v := 0) (tgt := 68) ddX9_gate_12 (by rw [h0]; rfl) (by decide) (by decide) rfl (by decide) ?_
        refine E_aload_n (pc := 68) (x := 308) ddX9_gate_68 rfl rfl ?_
        refine E_iload_n (pc := 69) (x := x1) ddX9_gate_69 rfl rfl ?_
        refine E_iload_n (pc := 70) (x := x2) ddX9_gate_70 rfl rfl ?_
        refine E_callV (pc := 71) (As := [.int x1, .int x2]) (st := []) (a := 308) ddX9_gate_71 hX9_of ⟨(Nat.le_of_ble_eq_true rfl), (Nat.le_of_ble_eq_true rfl)⟩ w_4_50 (ci := 8) rfl rfl ho.s0 rfl rfl (Nat.le_of_ble_eq_true rfl) (e_cc rfl (e_cc rfl e_cn)) (Nat.le_of_ble_eq_true rfl) ?_
        refine (show E mX9_of 0 0 0 [some (.ref 308), some (.int x1), some (.int x2)] [] z I _ from ?_)
        refine E_aload_n (pc := 0) (x := 308) ddX9_of_0 rfl rfl ?_
        refine E_getR (pc := 1) (x := 310) ddX9_of_1 ec_8 3 (Nat.le_of_ble_eq_true rfl) rfl w_3_185 ho.s0 ho.r3 (by decide) ?_
        refine E_bipush (pc := 4) (v := 6) ddX9_of_4 rfl ?_
        refine E_iload_n (pc := 6) (x := x1) ddX9_of_6 rfl rfl ?_
        refine E_imul (pc := 7) ddX9_of_7 ?_
        refine E_iload_n (pc := 8) (x := x2) ddX9_of_8 rfl rfl ?_
        refine E_iadd (pc := 9) ddX9_of_9 ?_
        obtain ⟨j1, ij1, lj1, k⟩ := k
        refine E_ialdN (pc := 10) (j := j1) ddX9_of_10 ho.s2 ij1 lj1 (Nat.le_of_ble_eq_true rfl) ?_
        refine E_iret (pc := 11) ddX9_of_11 rfl ?_
        refine (show E mX9_gate mc ms 74 [some (.ref 308), some (.int x1), some (.int x2)] [.int (I 310 j1)] z I Q from ?_)
        exact E_iret (pc := 74) ddX9_gate_74 rfl k
      by_cases h1 : x2 = 1
      · have k := k.2.1 h1
        refine E_tswIn (pc := 12) (v := 1) (tgt := 68) ddX9_gate_12 (by rw [h1]; rfl) (by decide) (by decide) rfl (by decide) ?_
        refine E_aload_n (pc := 68) (x := 308) ddX9_gate_68 rfl rfl ?_
        refine E_iload_n (pc := 69) (x := x1) ddX9_gate_69 rfl rfl ?_
        refine E_iload_n (pc := 70) (x := x2) ddX9_gate_70 rfl rfl ?_
        refine E_callV (pc := 71) (As := [.int x1, .int x2]) (st := []) (a := 308) ddX9_gate_71 hX9_of ⟨(Nat.le_of_ble_eq_true rfl), (Nat.le_of_ble_eq_true rfl)⟩ w_4_50 (ci := 8) rfl rfl ho.s0 rfl rfl (Nat.le_of_ble_eq_true rfl) (e_cc rfl (e_cc rfl e_cn)) (Nat.le_of_ble_eq_true rfl) ?_
        refine (show E mX9_of 0 0 0 [some (.ref 308), some (.int x1), some (.int x2)] [] z I _ from ?_)
        refine E_aload_n (pc := 0) (x := 308) ddX9_of_0 rfl rfl ?_
        refine E_getR (pc := 1) (x := 310) ddX9_of_1 ec_8 3 (Nat.le_of_ble_eq_true rfl) rfl w_3_185 ho.s0 ho.r3 (by decide) ?_
        refine E_bipush (pc := 4) (v := 6) ddX9_of_4 rfl ?_
        refine E_iload_n (pc := 6) (x := x1) ddX9_of_6 rfl rfl ?_
        refine E_imul (pc := 7) ddX9_of_7 ?_
        refine E_iload_n (pc := 8) (x := x2) ddX9_of_8 rfl rfl ?_
        refine E_iadd (pc := 9) ddX9_of_9 ?_
        obtain ⟨j1, ij1, lj1, k⟩ := k
        refine E_ialdN (pc := 10) (j := j1) ddX9_of_10 ho.s2 ij1 lj1 (Nat.le_of_ble_eq_true rfl) ?_
        refine E_iret (pc := 11) ddX9_of_11 rfl ?_
        refine (show E mX9_gate mc ms 74 [some (.ref 308), some (.int x1), some (.int x2)] [.int (I 310 j1)] z I Q from ?_)
        exact E_iret (pc := 74) ddX9_gate_74 rfl k
      by_cases h2 : x2 = 2
      · have k := k.2.2.1 h2
        refine E_tswIn (pc := 12) (v := 2) (tgt := 68) ddX9_gate_12 (by rw [h2]; rfl) (by decide) (by decide) rfl (by decide) ?_
        refine E_aload_n (pc := 68) (x := 308) ddX9_gate_68 rfl rfl ?_
        refine E_iload_n (pc := 69) (x := x1) ddX9_gate_69 rfl rfl ?_
        refine E_iload_n (pc := 70) (x := x2) ddX9_gate_70 rfl rfl ?_
        refine E_callV (pc := 71) (As := [.int x1, .int x2]) (st := []) (a := 308) ddX9_gate_71 hX9_of ⟨(Nat.le_of_ble_eq_true rfl), (Nat.le_of_ble_eq_true rfl)⟩ w_4_50 (ci := 8) rfl rfl ho.s0 rfl rfl (Nat.le_of_ble_eq_true rfl) (e_cc rfl (e_cc rfl e_cn)) (Nat.le_of_ble_eq_true rfl) ?_
        refine (show E mX9_of 0 0 0 [some (.ref 308), some (.int x1), some (.int x2)] [] z I _ from ?_)
        refine E_aload_n (pc := 0) (x := 308) ddX9_of_0 rfl rfl ?_
        refine E_getR (pc := 1) (x := 310) ddX9_of_1 ec_8 3 (Nat.le_of_ble_eq_true rfl) rfl w_3_185 ho.s0 ho.r3 (by decide) ?_
        refine E_bipush (pc := 4) (v := 6) ddX9_of_4 rfl ?_
        refine E_iload_n (pc := 6) (x := x1) ddX9_of_6 rfl rfl ?_
        refine E_imul (pc := 7) ddX9_of_7 ?_
        refine E_iload_n (pc := 8) (x := x2) ddX9_of_8 rfl rfl ?_
        refine E_iadd (pc := 9) ddX9_of_9 ?_
        obtain ⟨j1, ij1, lj1, k⟩ := k
        refine E_ialdN (pc := 10) (j := j1) ddX9_of_10 ho.s2 ij1 lj1 (Nat.le_of_ble_eq_true rfl) ?_
        refine E_iret (pc := 11) ddX9_of_11 rfl ?_
        refine (show E mX9_gate mc ms 74 [some (.ref 308), some (.int x1), some (.int x2)] [.int (I 310 j1)] z I Q from ?_)
        exact E_iret (pc := 74) ddX9_gate_74 rfl k
      by_cases h3 : x2 = 3
      · have k := k.2.2.2.1 h3
        refine E_tswIn (pc := 12) (v := 3) (tgt := 68) ddX9_gate_12 (by rw [h3]; rfl) (by decide) (by decide) rfl (by decide) ?_
        refine E_aload_n (pc := 68) (x := 308) ddX9_gate_68 rfl rfl ?_
        refine E_iload_n (pc := 69) (x := x1) ddX9_gate_69 rfl rfl ?_
        refine E_iload_n (pc := 70) (x := x2) ddX9_gate_70 rfl rfl ?_
        refine E_callV (pc := 71) (As := [.int x1, .int x2]) (st := []) (a := 308) ddX9_gate_71 hX9_of ⟨(Nat.le_of_ble_eq_true rfl), (Nat.le_of_ble_eq_true rfl)⟩ w_4_50 (ci := 8) rfl rfl ho.s0 rfl rfl (Nat.le_of_ble_eq_true rfl) (e_cc rfl (e_cc rfl e_cn)) (Nat.le_of_ble_eq_true rfl) ?_
        refine (show E mX9_of 0 0 0 [some (.ref 308), some (.int x1), some (.int x2)] [] z I _ from ?_)
        refine E_aload_n (pc := 0) (x := 308) ddX9_of_0 rfl rfl ?_
        refine E_getR (pc := 1) (x := 310) ddX9_of_1 ec_8 3 (Nat.le_of_ble_eq_true rfl) rfl w_3_185 ho.s0 ho.r3 (by decide) ?_
        refine E_bipush (pc := 4) (v := 6) ddX9_of_4 rfl ?_
        refine E_iload_n (pc := 6) (x := x1) ddX9_of_6 rfl rfl ?_
        refine E_imul (pc := 7) ddX9_of_7 ?_
        refine E_iload_n (pc := 8) (x := x2) ddX9_of_8 rfl rfl ?_
        refine E_iadd (pc := 9) ddX9_of_9 ?_
        obtain ⟨j1, ij1, lj1, k⟩ := k
        refine E_ialdN (pc := 10) (j := j1) ddX9_of_10 ho.s2 ij1 lj1 (Nat.le_of_ble_eq_true rfl) ?_
        refine E_iret (pc := 11) ddX9_of_11 rfl ?_
        refine (show E mX9_gate mc ms 74 [some (.ref 308), some (.int x1), some (.int x2)] [.int (I 310 j1)] z I Q from ?_)
        exact E_iret (pc := 74) ddX9_gate_74 rfl k
      by_cases h4 : x2 = 4
      · have k := k.2.2.2.2.1 h4
        refine E_tswIn (pc := 12) (v := 4) (tgt := 68) ddX9_gate_12 (by rw [h4]; rfl) (by decide) (by decide) rfl (by decide) ?_
        refine E_aload_n (pc := 68) (x := 308) ddX9_gate_68 rfl rfl ?_
        refine E_iload_n (pc := 69) (x := x1) ddX9_gate_69 rfl rfl ?_
        refine E_iload_n (pc := 70) (x := x2) ddX9_gate_70 rfl rfl ?_
        refine E_callV (pc := 71) (As := [.int x1, .int x2]) (st := []) (a := 308) ddX9_gate_71 hX9_of ⟨(Nat.le_of_ble_eq_true rfl), (Nat.le_of_ble_eq_true rfl)⟩ w_4_50 (ci := 8) rfl rfl ho.s0 rfl rfl (Nat.le_of_ble_eq_true rfl) (e_cc rfl (e_cc rfl e_cn)) (Nat.le_of_ble_eq_true rfl) ?_
        refine (show E mX9_of 0 0 0 [some (.ref 308), some (.int x1), some (.int x2)] [] z I _ from ?_)
        refine E_aload_n (pc := 0) (x := 308) ddX9_of_0 rfl rfl ?_
        refine E_getR (pc := 1) (x := 310) ddX9_of_1 ec_8 3 (Nat.le_of_ble_eq_true rfl) rfl w_3_185 ho.s0 ho.r3 (by decide) ?_
        refine E_bipush (pc := 4) (v := 6) ddX9_of_4 rfl ?_
        refine E_iload_n (pc := 6) (x := x1) ddX9_of_6 rfl rfl ?_
        refine E_imul (pc := 7) ddX9_of_7 ?_
        refine E_iload_n (pc := 8) (x := x2) ddX9_of_8 rfl rfl ?_
        refine E_iadd (pc := 9) ddX9_of_9 ?_
        obtain ⟨j1, ij1, lj1, k⟩ := k
        refine E_ialdN (pc := 10) (j := j1) ddX9_of_10 ho.s2 ij1 lj1 (Nat.le_of_ble_eq_true rfl) ?_
        refine E_iret (pc := 11) ddX9_of_11 rfl ?_
        refine (show E mX9_gate mc ms 74 [some (.ref 308), some (.int x1), some (.int x2)] [.int (I 310 j1)] z I Q from ?_)
        exact E_iret (pc := 74) ddX9_gate_74 rfl k
      by_cases h5 : x2 = 5
      · have k := k.2.2.2.2.2.1 h5
        refine E_tswIn (pc := 12) (v := 5) (tgt := 68) ddX9_gate_12 (by rw [h5]; rfl) (by decide) (by decide) rfl (by decide) ?_
        refine E_aload_n (pc := 68) (x := 308) ddX9_gate_68 rfl rfl ?_
        refine E_iload_n (pc := 69) (x := x1) ddX9_gate_69 rfl rfl ?_
        refine E_iload_n (pc := 70) (x := x2) ddX9_gate_70 rfl rfl ?_
        refine E_callV (pc := 71) (As := [.int x1, .int x2]) (st := []) (a := 308) ddX9_gate_71 hX9_of ⟨(Nat.le_of_ble_eq_true rfl), (Nat.le_of_ble_eq_true rfl)⟩ w_4_50 (ci := 8) rfl rfl ho.s0 rfl rfl (Nat.le_of_ble_eq_true rfl) (e_cc rfl (e_cc rfl e_cn)) (Nat.le_of_ble_eq_true rfl) ?_
        refine (show E mX9_of 0 0 0 [some (.ref 308), some (.int x1), some (.int x2)] [] z I _ from ?_)
        refine E_aload_n (pc := 0) (x := 308) ddX9_of_0 rfl rfl ?_
        refine E_getR (pc := 1) (x := 310) ddX9_of_1 ec_8 3 (Nat.le_of_ble_eq_true rfl) rfl w_3_185 ho.s0 ho.r3 (by decide) ?_
        refine E_bipush (pc := 4) (v := 6) ddX9_of_4 rfl ?_
        refine E_iload_n (pc := 6) (x := x1) ddX9_of_6 rfl rfl ?_
        refine E_imul (pc := 7) ddX9_of_7 ?_
        refine E_iload_n (pc := 8) (x := x2) ddX9_of_8 rfl rfl ?_
        refine E_iadd (pc := 9) ddX9_of_9 ?_
        obtain ⟨j1, ij1, lj1, k⟩ := k
        refine E_ialdN (pc := 10) (j := j1) ddX9_of_10 ho.s2 ij1 lj1 (Nat.le_of_ble_eq_true rfl) ?_
        refine E_iret (pc := 11) ddX9_of_11 rfl ?_
        refine (show E mX9_gate mc ms 74 [some (.ref 308), some (.int x1), some (.int x2)] [.int (I 310 j1)] z I Q from ?_)
        exact E_iret (pc := 74) ddX9_gate_74 rfl k
      by_cases h6 : x2 = 6
      · have k := k.2.2.2.2.2.2.1 h6
        refine E_tswIn (pc := 12) (v := 6) (tgt := 75) ddX9_gate_12 (by rw [h6]; rfl) (by decide) (by decide) rfl (by decide) ?_
        refine E_aload_n (pc := 75) (x := 308) ddX9_gate_75 rfl rfl ?_
        refine E_getR (pc := 76) (x := 309) ddX9_gate_76 ec_8 0 (Nat.le_of_ble_eq_true rfl) rfl w_3_182 ho.s0 ho.r0 (by decide) ?_
        refine E_sipush (pc := 79) (v := 176) ddX9_gate_79 rfl ?_
        refine E_iload_n (pc := 82) (x := x1) ddX9_gate_82 rfl rfl ?_
        refine E_iadd (pc := 83) ddX9_gate_83 ?_
        obtain ⟨j1, ij1, lj1, k⟩ := k
        refine E_ialdN (pc := 84) (j := j1) ddX9_gate_84 ho.s1 ij1 lj1 (Nat.le_of_ble_eq_true rfl) ?_
        exact E_iret (pc := 85) ddX9_gate_85 rfl k
      by_cases h7 : x2 = 7
      · have k := k.2.2.2.2.2.2.2.1 h7
        refine E_tswIn (pc := 12) (v := 7) (tgt := 86) ddX9_gate_12 (by rw [h7]; rfl) (by decide) (by decide) rfl (by decide) ?_
        refine E_aload_n (pc := 86) (x := 308) ddX9_gate_86 rfl rfl ?_
        refine E_iconst (pc := 87) (v := 0) ddX9_gate_87 rfl ?_
        refine E_iload_n (pc := 88) (x := x1) ddX9_gate_88 rfl rfl ?_
        exact E_callV (pc := 89) (As := [.int 0, .int x1]) (st := []) (a := 308) ddX9_gate_89 hX9_comesOf ⟨(Nat.le_of_ble_eq_true rfl), (Nat.le_of_ble_eq_true rfl)⟩ w_4_62 (ci := 8) rfl rfl ho.s0 rfl rfl (Nat.le_of_ble_eq_true rfl) (e_cc rfl (e_cc rfl e_cn)) (Nat.le_of_ble_eq_true rfl) (E.mono k fun _ _ _ q => E.forget q trivial)
      by_cases h8 : x2 = 8
      · have k := k.2.2.2.2.2.2.2.2.1 h8
        refine E_tswIn (pc := 12) (v := 8) (tgt := 93) ddX9_gate_12 (by rw [h8]; rfl) (by decide) (by decide) rfl (by decide) ?_
        refine E_aload_n (pc := 93) (x := 308) ddX9_gate_93 rfl rfl ?_
        refine E_getR (pc := 94) (x := 309) ddX9_gate_94 ec_8 0 (Nat.le_of_ble_eq_true rfl) rfl w_3_182 ho.s0 ho.r0 (by decide) ?_
        refine E_sipush (pc := 97) (v := 184) ddX9_gate_97 rfl ?_
        refine E_iload_n (pc := 100) (x := x1) ddX9_gate_100 rfl rfl ?_
        refine E_iadd (pc := 101) ddX9_gate_101 ?_
        obtain ⟨j1, ij1, lj1, k⟩ := k
        refine E_ialdN (pc := 102) (j := j1) ddX9_gate_102 ho.s1 ij1 lj1 (Nat.le_of_ble_eq_true rfl) ?_
        exact E_iret (pc := 103) ddX9_gate_103 rfl k
      by_cases h9 : x2 = 9
      · have k := k.2.2.2.2.2.2.2.2.2.1 h9
        refine E_tswIn (pc := 12) (v := 9) (tgt := 104) ddX9_gate_12 (by rw [h9]; rfl) (by decide) (by decide) rfl (by decide) ?_
        refine E_aload_n (pc := 104) (x := 308) ddX9_gate_104 rfl rfl ?_
        refine E_iconst (pc := 105) (v := 0) ddX9_gate_105 rfl ?_
        refine E_aload_n (pc := 106) (x := 308) ddX9_gate_106 rfl rfl ?_
        refine E_iload_n (pc := 107) (x := x1) ddX9_gate_107 rfl rfl ?_
        refine E_iconst (pc := 108) (v := 3) ddX9_gate_108 rfl ?_
        refine E_callV (pc := 109) (As := [.int x1, .int 3]) (st := [.int 0, .ref 308]) (a := 308) ddX9_gate_109 hX9_of ⟨(Nat.le_of_ble_eq_true rfl), (Nat.le_of_ble_eq_true rfl)⟩ w_4_50 (ci := 8) rfl rfl ho.s0 rfl rfl (Nat.le_of_ble_eq_true rfl) (e_cc rfl (e_cc rfl e_cn)) (Nat.le_of_ble_eq_true rfl) ?_
        refine (show E mX9_of 0 0 0 [some (.ref 308), some (.int x1), some (.int 3)] [] z I _ from ?_)
        refine E_aload_n (pc := 0) (x := 308) ddX9_of_0 rfl rfl ?_
        refine E_getR (pc := 1) (x := 310) ddX9_of_1 ec_8 3 (Nat.le_of_ble_eq_true rfl) rfl w_3_185 ho.s0 ho.r3 (by decide) ?_
        refine E_bipush (pc := 4) (v := 6) ddX9_of_4 rfl ?_
        refine E_iload_n (pc := 6) (x := x1) ddX9_of_6 rfl rfl ?_
        refine E_imul (pc := 7) ddX9_of_7 ?_
        refine E_iload_n (pc := 8) (x := 3) ddX9_of_8 rfl rfl ?_
        refine E_iadd (pc := 9) ddX9_of_9 ?_
        obtain ⟨j1, ij1, lj1, k⟩ := k
        refine E_ialdN (pc := 10) (j := j1) ddX9_of_10 ho.s2 ij1 lj1 (Nat.le_of_ble_eq_true rfl) ?_
        refine E_iret (pc := 11) ddX9_of_11 rfl ?_
        refine (show E mX9_gate mc ms 112 [some (.ref 308), some (.int x1), some (.int x2)] [.int (I 310 j1), .int 0, .ref 308] z I Q from ?_)
        refine E_iload_n (pc := 112) (x := x1) ddX9_gate_112 rfl rfl ?_
        exact E_callV (pc := 113) (As := [.int 0, .int (I 310 j1), .int x1]) (st := []) (a := 308) ddX9_gate_113 hX9_drivenTo ⟨(Nat.le_of_ble_eq_true rfl), (Nat.le_of_ble_eq_true rfl)⟩ w_4_128 (ci := 8) rfl rfl ho.s0 rfl rfl (Nat.le_of_ble_eq_true rfl) (e_cc rfl (e_cc rfl (e_cc rfl e_cn))) (Nat.le_of_ble_eq_true rfl) (E.mono k fun _ _ _ q => E.forget q trivial)
      have k := k.2.2.2.2.2.2.2.2.2.2 h0 h1 h2 h3 h4 h5 h6 h7 h8 h9
      have q0 := lv_neT h0 (a := 0) rfl
      have q1 := lv_neT h1 (a := 1) rfl
      have q2 := lv_neT h2 (a := 2) rfl
      have q3 := lv_neT h3 (a := 3) rfl
      have q4 := lv_neT h4 (a := 4) rfl
      have q5 := lv_neT h5 (a := 5) rfl
      have q6 := lv_neT h6 (a := 6) rfl
      have q7 := lv_neT h7 (a := 7) rfl
      have q8 := lv_neT h8 (a := 8) rfl
      have q9 := lv_neT h9 (a := 9) rfl
      refine E_tswOut (pc := 12) (tgt := 117) ddX9_gate_12 (by omega) (by decide) ?_
      refine E_ldc (pc := 117) (v := (-1000000002)) ddX9_gate_117 w_4_16 ?_
      exact E_iret (pc := 119) ddX9_gate_119 rfl k
set_option maxRecDepth 100000 in
set_option maxHeartbeats 4000000 in
theorem B_X9_gate_92 {mc ms : Nat} {z : Zt} {I : It} {Q : Option Value → Zt → It → Prop} {y0 : Int32}
    (k : Q (some (.int y0)) z I) :
    E mX9_gate mc ms 92 [none, none, none] [.int y0] z I Q := by
  exact E_iret (pc := 92) ddX9_gate_92 rfl k
set_option maxRecDepth 100000 in
set_option maxHeartbeats 4000000 in
theorem B_X9_gate_116 {mc ms : Nat} {z : Zt} {I : It} {Q : Option Value → Zt → It → Prop} {y0 : Int32}
    (k : Q (some (.int y0)) z I) :
    E mX9_gate mc ms 116 [none, none, none] [.int y0] z I Q := by
  exact E_iret (pc := 116) ddX9_gate_116 rfl k
/-! X9_queue, labels [] -/
set_option maxRecDepth 100000 in
set_option maxHeartbeats 4000000 in
theorem B_X9_queue_0 {mc ms : Nat} {z : Zt} {I : It} {Q : Option Value → Zt → It → Prop} {x1 x2 x3 : Int32} (ho : isO z)
    (k : ((x1 < 0) → Q (some (.int (-1000000001))) z I) ∧
    ((¬ x1 < 0) → ((((I 308 2) - 1) < x1) → Q (some (.int (-1000000001))) z I) ∧
    ((¬ ((I 308 2) - 1) < x1) → ((x3 < 0) → Q (some (.int (-1000000002))) z I) ∧
    ((¬ x3 < 0) → ((1 < x3) → Q (some (.int (-1000000002))) z I) ∧
    ((¬ 1 < x3) → ∃ j1 : Nat, (184 + x1) = nI j1 ∧ j1 < 6880 ∧ ((x2 < 0) → Q (some (.int (-1))) z I) ∧
    ((¬ x2 < 0) → ((((I 309 j1) - 1) < x2) → Q (some (.int (-1))) z I) ∧
    ((¬ ((I 309 j1) - 1) < x2) → ((¬ x3 = 0) → ∃ j2 : Nat, ((256 + (8 * x1)) + x2) = nI j2 ∧ j2 < 6880 ∧ Q (some (.int (I 309 j2))) z I) ∧
    ((x3 = 0) → ∃ j2 : Nat, ((192 + (8 * x1)) + x2) = nI j2 ∧ j2 < 6880 ∧ Q (some (.int (I 309 j2))) z I)))))))) :
    E mX9_queue mc ms 0 [some (.ref 308), some (.int x1), some (.int x2), some (.int x3)] [] z I Q := by
  refine E_aload_n (pc := 0) (x := 308) ddX9_queue_0 rfl rfl ?_
  refine E_iload_n (pc := 1) (x := x1) ddX9_queue_1 rfl rfl ?_
  refine E_callV (pc := 2) (As := [.int x1]) (st := []) (a := 308) ddX9_queue_2 hX9_isGate ⟨(Nat.le_of_ble_eq_true rfl), (Nat.le_of_ble_eq_true rfl)⟩ w_4_168 (ci := 8) rfl rfl ho.s0 rfl rfl (Nat.le_of_ble_eq_true rfl) (e_cc rfl e_cn) (Nat.le_of_ble_eq_true rfl) ?_
  refine (show E mX9_isGate 0 0 0 [some (.ref 308), some (.int x1)] [] z I _ from ?_)
  refine E_iload_n (pc := 0) (x := x1) ddX9_isGate_0 rfl rfl ?_
  refine E_iconst (pc := 1) (v := 0) ddX9_isGate_1 rfl ?_
  refine E_aload_n (pc := 2) (x := 308) ddX9_isGate_2 rfl rfl ?_
  refine E_getI (pc := 3) ddX9_isGate_3 ec_8 2 (Nat.le_of_ble_eq_true rfl) rfl w_3_184 ho.s0 ?_
  refine E_iconst (pc := 6) (v := 1) ddX9_isGate_6 rfl ?_
  refine E_isub (pc := 7) ddX9_isGate_7 ?_
  refine E_callS (pc := 8) (As := [.int x1, .int 0, .int ((I 308 2) - 1)]) (st := []) ddX9_isGate_8 hX9_in ⟨(Nat.le_of_ble_eq_true rfl), (Nat.le_of_ble_eq_true rfl)⟩ w_4_13 rfl rfl (Nat.le_of_ble_eq_true rfl) (e_cc rfl (e_cc rfl (e_cc rfl e_cn))) (Nat.le_of_ble_eq_true rfl) ?_
  refine (show E mX9_in 0 0 0 [some (.int x1), some (.int 0), some (.int ((I 308 2) - 1))] [] z I _ from ?_)
  refine E_iload_n (pc := 0) (x := x1) ddX9_in_0 rfl rfl ?_
  refine E_iload_n (pc := 1) (x := 0) ddX9_in_1 rfl rfl ?_
  refine E_icmp_lt (pc := 2) (tgt := 14) ddX9_in_2 (by decide) (fun h => ?_) (fun h => ?_)
  · have k := k.1 h
    refine E_iconst (pc := 14) (v := 0) ddX9_in_14 rfl ?_
    refine E_zret (pc := 15) ddX9_in_15 rfl (by decide) ?_
    refine (show E mX9_isGate 0 0 11 [some (.ref 308), some (.int x1)] [.int 0] z I _ from ?_)
    refine E_zret (pc := 11) ddX9_isGate_11 rfl (by decide) ?_
    refine (show E mX9_queue mc ms 5 [some (.ref 308), some (.int x1), some (.int x2), some (.int x3)] [.int 0] z I Q from ?_)
    refine E_if_ne (pc := 5) (tgt := 11) ddX9_queue_5 (by decide) (fun h => absurd h (by decide)) (fun _ => ?_)
    refine E_ldc (pc := 8) (v := (-1000000001)) ddX9_queue_8 w_4_155 ?_
    exact E_iret (pc := 10) ddX9_queue_10 rfl k
  · have k := k.2 h
    refine E_iload_n (pc := 5) (x := x1) ddX9_in_5 rfl rfl ?_
    refine E_iload_n (pc := 6) (x := ((I 308 2) - 1)) ddX9_in_6 rfl rfl ?_
    refine E_icmp_gt (pc := 7) (tgt := 14) ddX9_in_7 (by decide) (fun h => ?_) (fun h => ?_)
    · have k := k.1 h
      refine E_iconst (pc := 14) (v := 0) ddX9_in_14 rfl ?_
      refine E_zret (pc := 15) ddX9_in_15 rfl (by decide) ?_
      refine (show E mX9_isGate 0 0 11 [some (.ref 308), some (.int x1)] [.int 0] z I _ from ?_)
      refine E_zret (pc := 11) ddX9_isGate_11 rfl (by decide) ?_
      refine (show E mX9_queue mc ms 5 [some (.ref 308), some (.int x1), some (.int x2), some (.int x3)] [.int 0] z I Q from ?_)
      refine E_if_ne (pc := 5) (tgt := 11) ddX9_queue_5 (by decide) (fun h => absurd h (by decide)) (fun _ => ?_)
      refine E_ldc (pc := 8) (v := (-1000000001)) ddX9_queue_8 w_4_155 ?_
      exact E_iret (pc := 10) ddX9_queue_10 rfl k
    · have k := k.2 h
      refine E_iconst (pc := 10) (v := 1) ddX9_in_10 rfl ?_
      refine E_goto (pc := 11) (tgt := 15) ddX9_in_11 (by decide) ?_
      refine E_zret (pc := 15) ddX9_in_15 rfl (by decide) ?_
      refine (show E mX9_isGate 0 0 11 [some (.ref 308), some (.int x1)] [.int 1] z I _ from ?_)
      refine E_zret (pc := 11) ddX9_isGate_11 rfl (by decide) ?_
      refine (show E mX9_queue mc ms 5 [some (.ref 308), some (.int x1), some (.int x2), some (.int x3)] [.int 1] z I Q from ?_)
      refine E_if_ne (pc := 5) (tgt := 11) ddX9_queue_5 (by decide) (fun _ => ?_) (fun h => absurd h (by decide))
      refine E_iload_n (pc := 11) (x := x3) ddX9_queue_11 rfl rfl ?_
      refine E_iconst (pc := 12) (v := 0) ddX9_queue_12 rfl ?_
      refine E_iconst (pc := 13) (v := 1) ddX9_queue_13 rfl ?_
      refine E_callS (pc := 14) (As := [.int x3, .int 0, .int 1]) (st := []) ddX9_queue_14 hX9_in ⟨(Nat.le_of_ble_eq_true rfl), (Nat.le_of_ble_eq_true rfl)⟩ w_4_13 rfl rfl (Nat.le_of_ble_eq_true rfl) (e_cc rfl (e_cc rfl (e_cc rfl e_cn))) (Nat.le_of_ble_eq_true rfl) ?_
      refine (show E mX9_in 0 0 0 [some (.int x3), some (.int 0), some (.int 1)] [] z I _ from ?_)
      refine E_iload_n (pc := 0) (x := x3) ddX9_in_0 rfl rfl ?_
      refine E_iload_n (pc := 1) (x := 0) ddX9_in_1 rfl rfl ?_
      refine E_icmp_lt (pc := 2) (tgt := 14) ddX9_in_2 (by decide) (fun h => ?_) (fun h => ?_)
      · have k := k.1 h
        refine E_iconst (pc := 14) (v := 0) ddX9_in_14 rfl ?_
        refine E_zret (pc := 15) ddX9_in_15 rfl (by decide) ?_
        refine (show E mX9_queue mc ms 17 [some (.ref 308), some (.int x1), some (.int x2), some (.int x3)] [.int 0] z I Q from ?_)
        refine E_if_ne (pc := 17) (tgt := 23) ddX9_queue_17 (by decide) (fun h => absurd h (by decide)) (fun _ => ?_)
        refine E_ldc (pc := 20) (v := (-1000000002)) ddX9_queue_20 w_4_16 ?_
        exact E_iret (pc := 22) ddX9_queue_22 rfl k
      · have k := k.2 h
        refine E_iload_n (pc := 5) (x := x3) ddX9_in_5 rfl rfl ?_
        refine E_iload_n (pc := 6) (x := 1) ddX9_in_6 rfl rfl ?_
        refine E_icmp_gt (pc := 7) (tgt := 14) ddX9_in_7 (by decide) (fun h => ?_) (fun h => ?_)
        · have k := k.1 h
          refine E_iconst (pc := 14) (v := 0) ddX9_in_14 rfl ?_
          refine E_zret (pc := 15) ddX9_in_15 rfl (by decide) ?_
          refine (show E mX9_queue mc ms 17 [some (.ref 308), some (.int x1), some (.int x2), some (.int x3)] [.int 0] z I Q from ?_)
          refine E_if_ne (pc := 17) (tgt := 23) ddX9_queue_17 (by decide) (fun h => absurd h (by decide)) (fun _ => ?_)
          refine E_ldc (pc := 20) (v := (-1000000002)) ddX9_queue_20 w_4_16 ?_
          exact E_iret (pc := 22) ddX9_queue_22 rfl k
        · have k := k.2 h
          refine E_iconst (pc := 10) (v := 1) ddX9_in_10 rfl ?_
          refine E_goto (pc := 11) (tgt := 15) ddX9_in_11 (by decide) ?_
          refine E_zret (pc := 15) ddX9_in_15 rfl (by decide) ?_
          refine (show E mX9_queue mc ms 17 [some (.ref 308), some (.int x1), some (.int x2), some (.int x3)] [.int 1] z I Q from ?_)
          refine E_if_ne (pc := 17) (tgt := 23) ddX9_queue_17 (by decide) (fun _ => ?_) (fun h => absurd h (by decide))
          refine E_iload_n (pc := 23) (x := x2) ddX9_queue_23 rfl rfl ?_
          refine E_iconst (pc := 24) (v := 0) ddX9_queue_24 rfl ?_
          refine E_aload_n (pc := 25) (x := 308) ddX9_queue_25 rfl rfl ?_
          refine E_getR (pc := 26) (x := 309) ddX9_queue_26 ec_8 0 (Nat.le_of_ble_eq_true rfl) rfl w_3_182 ho.s0 ho.r0 (by decide) ?_
          refine E_sipush (pc := 29) (v := 184) ddX9_queue_29 rfl ?_
          refine E_iload_n (pc := 32) (x := x1) ddX9_queue_32 rfl rfl ?_
          refine E_iadd (pc := 33) ddX9_queue_33 ?_
          obtain ⟨j1, ij1, lj1, k⟩ := k
          refine E_ialdN (pc := 34) (j := j1) ddX9_queue_34 ho.s1 ij1 lj1 (Nat.le_of_ble_eq_true rfl) ?_
          refine E_iconst (pc := 35) (v := 1) ddX9_queue_35 rfl ?_
          refine E_isub (pc := 36) ddX9_queue_36 ?_
          refine E_callS (pc := 37) (As := [.int x2, .int 0, .int ((I 309 j1) - 1)]) (st := []) ddX9_queue_37 hX9_in ⟨(Nat.le_of_ble_eq_true rfl), (Nat.le_of_ble_eq_true rfl)⟩ w_4_13 rfl rfl (Nat.le_of_ble_eq_true rfl) (e_cc rfl (e_cc rfl (e_cc rfl e_cn))) (Nat.le_of_ble_eq_true rfl) ?_
          refine (show E mX9_in 0 0 0 [some (.int x2), some (.int 0), some (.int ((I 309 j1) - 1))] [] z I _ from ?_)
          refine E_iload_n (pc := 0) (x := x2) ddX9_in_0 rfl rfl ?_
          refine E_iload_n (pc := 1) (x := 0) ddX9_in_1 rfl rfl ?_
          refine E_icmp_lt (pc := 2) (tgt := 14) ddX9_in_2 (by decide) (fun h => ?_) (fun h => ?_)
          · have k := k.1 h
            refine E_iconst (pc := 14) (v := 0) ddX9_in_14 rfl ?_
            refine E_zret (pc := 15) ddX9_in_15 rfl (by decide) ?_
            refine (show E mX9_queue mc ms 40 [some (.ref 308), some (.int x1), some (.int x2), some (.int x3)] [.int 0] z I Q from ?_)
            refine E_if_ne (pc := 40) (tgt := 45) ddX9_queue_40 (by decide) (fun h => absurd h (by decide)) (fun _ => ?_)
            refine E_iconst (pc := 43) (v := (-1)) ddX9_queue_43 rfl ?_
            exact E_iret (pc := 44) ddX9_queue_44 rfl k
          · have k := k.2 h
            refine E_iload_n (pc := 5) (x := x2) ddX9_in_5 rfl rfl ?_
            refine E_iload_n (pc := 6) (x := ((I 309 j1) - 1)) ddX9_in_6 rfl rfl ?_
            refine E_icmp_gt (pc := 7) (tgt := 14) ddX9_in_7 (by decide) (fun h => ?_) (fun h => ?_)
            · have k := k.1 h
              refine E_iconst (pc := 14) (v := 0) ddX9_in_14 rfl ?_
              refine E_zret (pc := 15) ddX9_in_15 rfl (by decide) ?_
              refine (show E mX9_queue mc ms 40 [some (.ref 308), some (.int x1), some (.int x2), some (.int x3)] [.int 0] z I Q from ?_)
              refine E_if_ne (pc := 40) (tgt := 45) ddX9_queue_40 (by decide) (fun h => absurd h (by decide)) (fun _ => ?_)
              refine E_iconst (pc := 43) (v := (-1)) ddX9_queue_43 rfl ?_
              exact E_iret (pc := 44) ddX9_queue_44 rfl k
            · have k := k.2 h
              refine E_iconst (pc := 10) (v := 1) ddX9_in_10 rfl ?_
              refine E_goto (pc := 11) (tgt := 15) ddX9_in_11 (by decide) ?_
              refine E_zret (pc := 15) ddX9_in_15 rfl (by decide) ?_
              refine (show E mX9_queue mc ms 40 [some (.ref 308), some (.int x1), some (.int x2), some (.int x3)] [.int 1] z I Q from ?_)
              refine E_if_ne (pc := 40) (tgt := 45) ddX9_queue_40 (by decide) (fun _ => ?_) (fun h => absurd h (by decide))
              refine E_aload_n (pc := 45) (x := 308) ddX9_queue_45 rfl rfl ?_
              refine E_getR (pc := 46) (x := 309) ddX9_queue_46 ec_8 0 (Nat.le_of_ble_eq_true rfl) rfl w_3_182 ho.s0 ho.r0 (by decide) ?_
              refine E_iload_n (pc := 49) (x := x3) ddX9_queue_49 rfl rfl ?_
              refine E_if_ne (pc := 50) (tgt := 59) ddX9_queue_50 (by decide) (fun h => ?_) (fun h => ?_)
              · have k := k.1 h
                refine E_sipush (pc := 59) (v := 256) ddX9_queue_59 rfl ?_
                refine E_bipush (pc := 62) (v := 8) ddX9_queue_62 rfl ?_
                refine E_iload_n (pc := 64) (x := x1) ddX9_queue_64 rfl rfl ?_
                refine E_imul (pc := 65) ddX9_queue_65 ?_
                refine E_iadd (pc := 66) ddX9_queue_66 ?_
                refine E_iload_n (pc := 67) (x := x2) ddX9_queue_67 rfl rfl ?_
                refine E_iadd (pc := 68) ddX9_queue_68 ?_
                obtain ⟨j2, ij2, lj2, k⟩ := k
                refine E_ialdN (pc := 69) (j := j2) ddX9_queue_69 ho.s1 ij2 lj2 (Nat.le_of_ble_eq_true rfl) ?_
                exact E_iret (pc := 70) ddX9_queue_70 rfl k
              · have k := k.2 h
                refine E_sipush (pc := 53) (v := 192) ddX9_queue_53 rfl ?_
                refine E_goto (pc := 56) (tgt := 62) ddX9_queue_56 (by decide) ?_
                refine E_bipush (pc := 62) (v := 8) ddX9_queue_62 rfl ?_
                refine E_iload_n (pc := 64) (x := x1) ddX9_queue_64 rfl rfl ?_
                refine E_imul (pc := 65) ddX9_queue_65 ?_
                refine E_iadd (pc := 66) ddX9_queue_66 ?_
                refine E_iload_n (pc := 67) (x := x2) ddX9_queue_67 rfl rfl ?_
                refine E_iadd (pc := 68) ddX9_queue_68 ?_
                obtain ⟨j2, ij2, lj2, k⟩ := k
                refine E_ialdN (pc := 69) (j := j2) ddX9_queue_69 ho.s1 ij2 lj2 (Nat.le_of_ble_eq_true rfl) ?_
                exact E_iret (pc := 70) ddX9_queue_70 rfl k
/-! X9_resolved, labels [] -/
set_option maxRecDepth 100000 in
set_option maxHeartbeats 4000000 in
theorem B_X9_resolved_0 {mc ms : Nat} {z : Zt} {I : It} {Q : Option Value → Zt → It → Prop} {x1 x2 : Int32} (ho : isO z)
    (k : ((x1 < 0) → Q (some (.int (-1000000001))) z I) ∧
    ((¬ x1 < 0) → ((3 < x1) → Q (some (.int (-1000000001))) z I) ∧
    ((¬ 3 < x1) → ((x2 < 0) → Q (some (.int (-1000000001))) z I) ∧
    ((¬ x2 < 0) → ((3 < x2) → Q (some (.int (-1000000001))) z I) ∧
    ((¬ 3 < x2) → Q (some (.int (f_X9_together x1 x2))) z I))))) :
    E mX9_resolved mc ms 0 [some (.ref 308), some (.int x1), some (.int x2)] [] z I Q := by
  refine E_iload_n (pc := 0) (x := x1) ddX9_resolved_0 rfl rfl ?_
  refine E_callS (pc := 1) (As := [.int x1]) (st := []) ddX9_resolved_1 hX9_isLevel ⟨(Nat.le_of_ble_eq_true rfl), (Nat.le_of_ble_eq_true rfl)⟩ w_4_180 rfl rfl (Nat.le_of_ble_eq_true rfl) (e_cc rfl e_cn) (Nat.le_of_ble_eq_true rfl) ?_
  refine (show E mX9_isLevel 0 0 0 [some (.int x1)] [] z I _ from ?_)
  refine E_iload_n (pc := 0) (x := x1) ddX9_isLevel_0 rfl rfl ?_
  refine E_iconst (pc := 1) (v := 0) ddX9_isLevel_1 rfl ?_
  refine E_iconst (pc := 2) (v := 3) ddX9_isLevel_2 rfl ?_
  refine E_callS (pc := 3) (As := [.int x1, .int 0, .int 3]) (st := []) ddX9_isLevel_3 hX9_in ⟨(Nat.le_of_ble_eq_true rfl), (Nat.le_of_ble_eq_true rfl)⟩ w_4_13 rfl rfl (Nat.le_of_ble_eq_true rfl) (e_cc rfl (e_cc rfl (e_cc rfl e_cn))) (Nat.le_of_ble_eq_true rfl) ?_
  refine (show E mX9_in 0 0 0 [some (.int x1), some (.int 0), some (.int 3)] [] z I _ from ?_)
  refine E_iload_n (pc := 0) (x := x1) ddX9_in_0 rfl rfl ?_
  refine E_iload_n (pc := 1) (x := 0) ddX9_in_1 rfl rfl ?_
  refine E_icmp_lt (pc := 2) (tgt := 14) ddX9_in_2 (by decide) (fun h => ?_) (fun h => ?_)
  · have k := k.1 h
    refine E_iconst (pc := 14) (v := 0) ddX9_in_14 rfl ?_
    refine E_zret (pc := 15) ddX9_in_15 rfl (by decide) ?_
    refine (show E mX9_isLevel 0 0 6 [some (.int x1)] [.int 0] z I _ from ?_)
    refine E_zret (pc := 6) ddX9_isLevel_6 rfl (by decide) ?_
    refine (show E mX9_resolved mc ms 4 [some (.ref 308), some (.int x1), some (.int x2)] [.int 0] z I Q from ?_)
    refine E_if_eq (pc := 4) (tgt := 22) ddX9_resolved_4 (by decide) (fun _ => ?_) (fun h => absurd h (by decide))
    refine E_ldc (pc := 22) (v := (-1000000001)) ddX9_resolved_22 w_4_155 ?_
    exact E_iret (pc := 24) ddX9_resolved_24 rfl k
  · have k := k.2 h
    refine E_iload_n (pc := 5) (x := x1) ddX9_in_5 rfl rfl ?_
    refine E_iload_n (pc := 6) (x := 3) ddX9_in_6 rfl rfl ?_
    refine E_icmp_gt (pc := 7) (tgt := 14) ddX9_in_7 (by decide) (fun h => ?_) (fun h => ?_)
    · have k := k.1 h
      refine E_iconst (pc := 14) (v := 0) ddX9_in_14 rfl ?_
      refine E_zret (pc := 15) ddX9_in_15 rfl (by decide) ?_
      refine (show E mX9_isLevel 0 0 6 [some (.int x1)] [.int 0] z I _ from ?_)
      refine E_zret (pc := 6) ddX9_isLevel_6 rfl (by decide) ?_
      refine (show E mX9_resolved mc ms 4 [some (.ref 308), some (.int x1), some (.int x2)] [.int 0] z I Q from ?_)
      refine E_if_eq (pc := 4) (tgt := 22) ddX9_resolved_4 (by decide) (fun _ => ?_) (fun h => absurd h (by decide))
      refine E_ldc (pc := 22) (v := (-1000000001)) ddX9_resolved_22 w_4_155 ?_
      exact E_iret (pc := 24) ddX9_resolved_24 rfl k
    · have k := k.2 h
      refine E_iconst (pc := 10) (v := 1) ddX9_in_10 rfl ?_
      refine E_goto (pc := 11) (tgt := 15) ddX9_in_11 (by decide) ?_
      refine E_zret (pc := 15) ddX9_in_15 rfl (by decide) ?_
      refine (show E mX9_isLevel 0 0 6 [some (.int x1)] [.int 1] z I _ from ?_)
      refine E_zret (pc := 6) ddX9_isLevel_6 rfl (by decide) ?_
      refine (show E mX9_resolved mc ms 4 [some (.ref 308), some (.int x1), some (.int x2)] [.int 1] z I Q from ?_)
      refine E_if_eq (pc := 4) (tgt := 22) ddX9_resolved_4 (by decide) (fun h => absurd h (by decide)) (fun _ => ?_)
      refine E_iload_n (pc := 7) (x := x2) ddX9_resolved_7 rfl rfl ?_
      refine E_callS (pc := 8) (As := [.int x2]) (st := []) ddX9_resolved_8 hX9_isLevel ⟨(Nat.le_of_ble_eq_true rfl), (Nat.le_of_ble_eq_true rfl)⟩ w_4_180 rfl rfl (Nat.le_of_ble_eq_true rfl) (e_cc rfl e_cn) (Nat.le_of_ble_eq_true rfl) ?_
      refine (show E mX9_isLevel 0 0 0 [some (.int x2)] [] z I _ from ?_)
      refine E_iload_n (pc := 0) (x := x2) ddX9_isLevel_0 rfl rfl ?_
      refine E_iconst (pc := 1) (v := 0) ddX9_isLevel_1 rfl ?_
      refine E_iconst (pc := 2) (v := 3) ddX9_isLevel_2 rfl ?_
      refine E_callS (pc := 3) (As := [.int x2, .int 0, .int 3]) (st := []) ddX9_isLevel_3 hX9_in ⟨(Nat.le_of_ble_eq_true rfl), (Nat.le_of_ble_eq_true rfl)⟩ w_4_13 rfl rfl (Nat.le_of_ble_eq_true rfl) (e_cc rfl (e_cc rfl (e_cc rfl e_cn))) (Nat.le_of_ble_eq_true rfl) ?_
      refine (show E mX9_in 0 0 0 [some (.int x2), some (.int 0), some (.int 3)] [] z I _ from ?_)
      refine E_iload_n (pc := 0) (x := x2) ddX9_in_0 rfl rfl ?_
      refine E_iload_n (pc := 1) (x := 0) ddX9_in_1 rfl rfl ?_
      refine E_icmp_lt (pc := 2) (tgt := 14) ddX9_in_2 (by decide) (fun h => ?_) (fun h => ?_)
      · have k := k.1 h
        refine E_iconst (pc := 14) (v := 0) ddX9_in_14 rfl ?_
        refine E_zret (pc := 15) ddX9_in_15 rfl (by decide) ?_
        refine (show E mX9_isLevel 0 0 6 [some (.int x2)] [.int 0] z I _ from ?_)
        refine E_zret (pc := 6) ddX9_isLevel_6 rfl (by decide) ?_
        refine (show E mX9_resolved mc ms 11 [some (.ref 308), some (.int x1), some (.int x2)] [.int 0] z I Q from ?_)
        refine E_if_eq (pc := 11) (tgt := 22) ddX9_resolved_11 (by decide) (fun _ => ?_) (fun h => absurd h (by decide))
        refine E_ldc (pc := 22) (v := (-1000000001)) ddX9_resolved_22 w_4_155 ?_
        exact E_iret (pc := 24) ddX9_resolved_24 rfl k
      · have k := k.2 h
        refine E_iload_n (pc := 5) (x := x2) ddX9_in_5 rfl rfl ?_
        refine E_iload_n (pc := 6) (x := 3) ddX9_in_6 rfl rfl ?_
        refine E_icmp_gt (pc := 7) (tgt := 14) ddX9_in_7 (by decide) (fun h => ?_) (fun h => ?_)
        · have k := k.1 h
          refine E_iconst (pc := 14) (v := 0) ddX9_in_14 rfl ?_
          refine E_zret (pc := 15) ddX9_in_15 rfl (by decide) ?_
          refine (show E mX9_isLevel 0 0 6 [some (.int x2)] [.int 0] z I _ from ?_)
          refine E_zret (pc := 6) ddX9_isLevel_6 rfl (by decide) ?_
          refine (show E mX9_resolved mc ms 11 [some (.ref 308), some (.int x1), some (.int x2)] [.int 0] z I Q from ?_)
          refine E_if_eq (pc := 11) (tgt := 22) ddX9_resolved_11 (by decide) (fun _ => ?_) (fun h => absurd h (by decide))
          refine E_ldc (pc := 22) (v := (-1000000001)) ddX9_resolved_22 w_4_155 ?_
          exact E_iret (pc := 24) ddX9_resolved_24 rfl k
        · have k := k.2 h
          refine E_iconst (pc := 10) (v := 1) ddX9_in_10 rfl ?_
          refine E_goto (pc := 11) (tgt := 15) ddX9_in_11 (by decide) ?_
          refine E_zret (pc := 15) ddX9_in_15 rfl (by decide) ?_
          refine (show E mX9_isLevel 0 0 6 [some (.int x2)] [.int 1] z I _ from ?_)
          refine E_zret (pc := 6) ddX9_isLevel_6 rfl (by decide) ?_
          refine (show E mX9_resolved mc ms 11 [some (.ref 308), some (.int x1), some (.int x2)] [.int 1] z I Q from ?_)
          refine E_if_eq (pc := 11) (tgt := 22) ddX9_resolved_11 (by decide) (fun h => absurd h (by decide)) (fun _ => ?_)
          refine E_iload_n (pc := 14) (x := x1) ddX9_resolved_14 rfl rfl ?_
          refine E_iload_n (pc := 15) (x := x2) ddX9_resolved_15 rfl rfl ?_
          refine E_callS (pc := 16) (As := [.int x1, .int x2]) (st := []) ddX9_resolved_16 hX9_together ⟨(Nat.le_of_ble_eq_true rfl), (Nat.le_of_ble_eq_true rfl)⟩ w_4_132 rfl rfl (Nat.le_of_ble_eq_true rfl) (e_cc rfl (e_cc rfl e_cn)) (Nat.le_of_ble_eq_true rfl) (C_X9_together ?_)
          refine (show E mX9_resolved mc ms 19 [some (.ref 308), some (.int x1), some (.int x2)] [.int (f_X9_together x1 x2)] z I Q from ?_)
          refine E_goto (pc := 19) (tgt := 24) ddX9_resolved_19 (by decide) ?_
          exact E_iret (pc := 24) ddX9_resolved_24 rfl k
/-! X9_comes, labels [] -/
set_option maxRecDepth 100000 in
set_option maxHeartbeats 4000000 in
theorem B_X9_comes_0 {mc ms : Nat} {z : Zt} {I : It} {Q : Option Value → Zt → It → Prop} {x1 x2 x3 : Int32} (ho : isO z)
    (k : ((x2 < 0) → Q (some (.int (-1000000001))) z I) ∧
    ((¬ x2 < 0) → ((3 < x2) → Q (some (.int (-1000000001))) z I) ∧
    ((¬ 3 < x2) → ((x3 < 0) → Q (some (.int (-1000000001))) z I) ∧
    ((¬ x3 < 0) → ((3 < x3) → Q (some (.int (-1000000001))) z I) ∧
    ((¬ 3 < x3) → ((x1 < 0) → Q (some (.int (-1000000002))) z I) ∧
    ((¬ x1 < 0) → ((4 < x1) → Q (some (.int (-1000000002))) z I) ∧
    ((¬ 4 < x1) → Q (some (.int (f_X9_made x1 x2 x3))) z I))))))) :
    E mX9_comes mc ms 0 [some (.ref 308), some (.int x1), some (.int x2), some (.int x3)] [] z I Q := by
  refine E_iload_n (pc := 0) (x := x2) ddX9_comes_0 rfl rfl ?_
  refine E_callS (pc := 1) (As := [.int x2]) (st := []) ddX9_comes_1 hX9_isLevel ⟨(Nat.le_of_ble_eq_true rfl), (Nat.le_of_ble_eq_true rfl)⟩ w_4_180 rfl rfl (Nat.le_of_ble_eq_true rfl) (e_cc rfl e_cn) (Nat.le_of_ble_eq_true rfl) ?_
  refine (show E mX9_isLevel 0 0 0 [some (.int x2)] [] z I _ from ?_)
  refine E_iload_n (pc := 0) (x := x2) ddX9_isLevel_0 rfl rfl ?_
  refine E_iconst (pc := 1) (v := 0) ddX9_isLevel_1 rfl ?_
  refine E_iconst (pc := 2) (v := 3) ddX9_isLevel_2 rfl ?_
  refine E_callS (pc := 3) (As := [.int x2, .int 0, .int 3]) (st := []) ddX9_isLevel_3 hX9_in ⟨(Nat.le_of_ble_eq_true rfl), (Nat.le_of_ble_eq_true rfl)⟩ w_4_13 rfl rfl (Nat.le_of_ble_eq_true rfl) (e_cc rfl (e_cc rfl (e_cc rfl e_cn))) (Nat.le_of_ble_eq_true rfl) ?_
  refine (show E mX9_in 0 0 0 [some (.int x2), some (.int 0), some (.int 3)] [] z I _ from ?_)
  refine E_iload_n (pc := 0) (x := x2) ddX9_in_0 rfl rfl ?_
  refine E_iload_n (pc := 1) (x := 0) ddX9_in_1 rfl rfl ?_
  refine E_icmp_lt (pc := 2) (tgt := 14) ddX9_in_2 (by decide) (fun h => ?_) (fun h => ?_)
  · have k := k.1 h
    refine E_iconst (pc := 14) (v := 0) ddX9_in_14 rfl ?_
    refine E_zret (pc := 15) ddX9_in_15 rfl (by decide) ?_
    refine (show E mX9_isLevel 0 0 6 [some (.int x2)] [.int 0] z I _ from ?_)
    refine E_zret (pc := 6) ddX9_isLevel_6 rfl (by decide) ?_
    refine (show E mX9_comes mc ms 4 [some (.ref 308), some (.int x1), some (.int x2), some (.int x3)] [.int 0] z I Q from ?_)
    refine E_if_eq (pc := 4) (tgt := 14) ddX9_comes_4 (by decide) (fun _ => ?_) (fun h => absurd h (by decide))
    refine E_ldc (pc := 14) (v := (-1000000001)) ddX9_comes_14 w_4_155 ?_
    exact E_iret (pc := 16) ddX9_comes_16 rfl k
  · have k := k.2 h
    refine E_iload_n (pc := 5) (x := x2) ddX9_in_5 rfl rfl ?_
    refine E_iload_n (pc := 6) (x := 3) ddX9_in_6 rfl rfl ?_
    refine E_icmp_gt (pc := 7) (tgt := 14) ddX9_in_7 (by decide) (fun h => ?_) (fun h => ?_)
    · have k := k.1 h
      refine E_iconst (pc := 14) (v := 0) ddX9_in_14 rfl ?_
      refine E_zret (pc := 15) ddX9_in_15 rfl (by decide) ?_
      refine (show E mX9_isLevel 0 0 6 [some (.int x2)] [.int 0] z I _ from ?_)
      refine E_zret (pc := 6) ddX9_isLevel_6 rfl (by decide) ?_
      refine (show E mX9_comes mc ms 4 [some (.ref 308), some (.int x1), some (.int x2), some (.int x3)] [.int 0] z I Q from ?_)
      refine E_if_eq (pc := 4) (tgt := 14) ddX9_comes_4 (by decide) (fun _ => ?_) (fun h => absurd h (by decide))
      refine E_ldc (pc := 14) (v := (-1000000001)) ddX9_comes_14 w_4_155 ?_
      exact E_iret (pc := 16) ddX9_comes_16 rfl k
    · have k := k.2 h
      refine E_iconst (pc := 10) (v := 1) ddX9_in_10 rfl ?_
      refine E_goto (pc := 11) (tgt := 15) ddX9_in_11 (by decide) ?_
      refine E_zret (pc := 15) ddX9_in_15 rfl (by decide) ?_
      refine (show E mX9_isLevel 0 0 6 [some (.int x2)] [.int 1] z I _ from ?_)
      refine E_zret (pc := 6) ddX9_isLevel_6 rfl (by decide) ?_
      refine (show E mX9_comes mc ms 4 [some (.ref 308), some (.int x1), some (.int x2), some (.int x3)] [.int 1] z I Q from ?_)
      refine E_if_eq (pc := 4) (tgt := 14) ddX9_comes_4 (by decide) (fun h => absurd h (by decide)) (fun _ => ?_)
      refine E_iload_n (pc := 7) (x := x3) ddX9_comes_7 rfl rfl ?_
      refine E_callS (pc := 8) (As := [.int x3]) (st := []) ddX9_comes_8 hX9_isLevel ⟨(Nat.le_of_ble_eq_true rfl), (Nat.le_of_ble_eq_true rfl)⟩ w_4_180 rfl rfl (Nat.le_of_ble_eq_true rfl) (e_cc rfl e_cn) (Nat.le_of_ble_eq_true rfl) ?_
      refine (show E mX9_isLevel 0 0 0 [some (.int x3)] [] z I _ from ?_)
      refine E_iload_n (pc := 0) (x := x3) ddX9_isLevel_0 rfl rfl ?_
      refine E_iconst (pc := 1) (v := 0) ddX9_isLevel_1 rfl ?_
      refine E_iconst (pc := 2) (v := 3) ddX9_isLevel_2 rfl ?_
      refine E_callS (pc := 3) (As := [.int x3, .int 0, .int 3]) (st := []) ddX9_isLevel_3 hX9_in ⟨(Nat.le_of_ble_eq_true rfl), (Nat.le_of_ble_eq_true rfl)⟩ w_4_13 rfl rfl (Nat.le_of_ble_eq_true rfl) (e_cc rfl (e_cc rfl (e_cc rfl e_cn))) (Nat.le_of_ble_eq_true rfl) ?_
      refine (show E mX9_in 0 0 0 [some (.int x3), some (.int 0), some (.int 3)] [] z I _ from ?_)
      refine E_iload_n (pc := 0) (x := x3) ddX9_in_0 rfl rfl ?_
      refine E_iload_n (pc := 1) (x := 0) ddX9_in_1 rfl rfl ?_
      refine E_icmp_lt (pc := 2) (tgt := 14) ddX9_in_2 (by decide) (fun h => ?_) (fun h => ?_)
      · have k := k.1 h
        refine E_iconst (pc := 14) (v := 0) ddX9_in_14 rfl ?_
        refine E_zret (pc := 15) ddX9_in_15 rfl (by decide) ?_
        refine (show E mX9_isLevel 0 0 6 [some (.int x3)] [.int 0] z I _ from ?_)
        refine E_zret (pc := 6) ddX9_isLevel_6 rfl (by decide) ?_
        refine (show E mX9_comes mc ms 11 [some (.ref 308), some (.int x1), some (.int x2), some (.int x3)] [.int 0] z I Q from ?_)
        refine E_if_ne (pc := 11) (tgt := 17) ddX9_comes_11 (by decide) (fun h => absurd h (by decide)) (fun _ => ?_)
        refine E_ldc (pc := 14) (v := (-1000000001)) ddX9_comes_14 w_4_155 ?_
        exact E_iret (pc := 16) ddX9_comes_16 rfl k
      · have k := k.2 h
        refine E_iload_n (pc := 5) (x := x3) ddX9_in_5 rfl rfl ?_
        refine E_iload_n (pc := 6) (x := 3) ddX9_in_6 rfl rfl ?_
        refine E_icmp_gt (pc := 7) (tgt := 14) ddX9_in_7 (by decide) (fun h => ?_) (fun h => ?_)
        · have k := k.1 h
          refine E_iconst (pc := 14) (v := 0) ddX9_in_14 rfl ?_
          refine E_zret (pc := 15) ddX9_in_15 rfl (by decide) ?_
          refine (show E mX9_isLevel 0 0 6 [some (.int x3)] [.int 0] z I _ from ?_)
          refine E_zret (pc := 6) ddX9_isLevel_6 rfl (by decide) ?_
          refine (show E mX9_comes mc ms 11 [some (.ref 308), some (.int x1), some (.int x2), some (.int x3)] [.int 0] z I Q from ?_)
          refine E_if_ne (pc := 11) (tgt := 17) ddX9_comes_11 (by decide) (fun h => absurd h (by decide)) (fun _ => ?_)
          refine E_ldc (pc := 14) (v := (-1000000001)) ddX9_comes_14 w_4_155 ?_
          exact E_iret (pc := 16) ddX9_comes_16 rfl k
        · have k := k.2 h
          refine E_iconst (pc := 10) (v := 1) ddX9_in_10 rfl ?_
          refine E_goto (pc := 11) (tgt := 15) ddX9_in_11 (by decide) ?_
          refine E_zret (pc := 15) ddX9_in_15 rfl (by decide) ?_
          refine (show E mX9_isLevel 0 0 6 [some (.int x3)] [.int 1] z I _ from ?_)
          refine E_zret (pc := 6) ddX9_isLevel_6 rfl (by decide) ?_
          refine (show E mX9_comes mc ms 11 [some (.ref 308), some (.int x1), some (.int x2), some (.int x3)] [.int 1] z I Q from ?_)
          refine E_if_ne (pc := 11) (tgt := 17) ddX9_comes_11 (by decide) (fun _ => ?_) (fun h => absurd h (by decide))
          refine E_iload_n (pc := 17) (x := x1) ddX9_comes_17 rfl rfl ?_
          refine E_iconst (pc := 18) (v := 0) ddX9_comes_18 rfl ?_
          refine E_iconst (pc := 19) (v := 4) ddX9_comes_19 rfl ?_
          refine E_callS (pc := 20) (As := [.int x1, .int 0, .int 4]) (st := []) ddX9_comes_20 hX9_in ⟨(Nat.le_of_ble_eq_true rfl), (Nat.le_of_ble_eq_true rfl)⟩ w_4_13 rfl rfl (Nat.le_of_ble_eq_true rfl) (e_cc rfl (e_cc rfl (e_cc rfl e_cn))) (Nat.le_of_ble_eq_true rfl) ?_
          refine (show E mX9_in 0 0 0 [some (.int x1), some (.int 0), some (.int 4)] [] z I _ from ?_)
          refine E_iload_n (pc := 0) (x := x1) ddX9_in_0 rfl rfl ?_
          refine E_iload_n (pc := 1) (x := 0) ddX9_in_1 rfl rfl ?_
          refine E_icmp_lt (pc := 2) (tgt := 14) ddX9_in_2 (by decide) (fun h => ?_) (fun h => ?_)
          · have k := k.1 h
            refine E_iconst (pc := 14) (v := 0) ddX9_in_14 rfl ?_
            refine E_zret (pc := 15) ddX9_in_15 rfl (by decide) ?_
            refine (show E mX9_comes mc ms 23 [some (.ref 308), some (.int x1), some (.int x2), some (.int x3)] [.int 0] z I Q from ?_)
            refine E_if_eq (pc := 23) (tgt := 35) ddX9_comes_23 (by decide) (fun _ => ?_) (fun h => absurd h (by decide))
            refine E_ldc (pc := 35) (v := (-1000000002)) ddX9_comes_35 w_4_16 ?_
            exact E_iret (pc := 37) ddX9_comes_37 rfl k
          · have k := k.2 h
            refine E_iload_n (pc := 5) (x := x1) ddX9_in_5 rfl rfl ?_
            refine E_iload_n (pc := 6) (x := 4) ddX9_in_6 rfl rfl ?_
            refine E_icmp_gt (pc := 7) (tgt := 14) ddX9_in_7 (by decide) (fun h => ?_) (fun h => ?_)
            · have k := k.1 h
              refine E_iconst (pc := 14) (v := 0) ddX9_in_14 rfl ?_
              refine E_zret (pc := 15) ddX9_in_15 rfl (by decide) ?_
              refine (show E mX9_comes mc ms 23 [some (.ref 308), some (.int x1), some (.int x2), some (.int x3)] [.int 0] z I Q from ?_)
              refine E_if_eq (pc := 23) (tgt := 35) ddX9_comes_23 (by decide) (fun _ => ?_) (fun h => absurd h (by decide))
              refine E_ldc (pc := 35) (v := (-1000000002)) ddX9_comes_35 w_4_16 ?_
              exact E_iret (pc := 37) ddX9_comes_37 rfl k
            · have k := k.2 h
              refine E_iconst (pc := 10) (v := 1) ddX9_in_10 rfl ?_
              refine E_goto (pc := 11) (tgt := 15) ddX9_in_11 (by decide) ?_
              refine E_zret (pc := 15) ddX9_in_15 rfl (by decide) ?_
              refine (show E mX9_comes mc ms 23 [some (.ref 308), some (.int x1), some (.int x2), some (.int x3)] [.int 1] z I Q from ?_)
              refine E_if_eq (pc := 23) (tgt := 35) ddX9_comes_23 (by decide) (fun h => absurd h (by decide)) (fun _ => ?_)
              refine E_iload_n (pc := 26) (x := x1) ddX9_comes_26 rfl rfl ?_
              refine E_iload_n (pc := 27) (x := x2) ddX9_comes_27 rfl rfl ?_
              refine E_iload_n (pc := 28) (x := x3) ddX9_comes_28 rfl rfl ?_
              refine E_callS (pc := 29) (As := [.int x1, .int x2, .int x3]) (st := []) ddX9_comes_29 hX9_made ⟨(Nat.le_of_ble_eq_true rfl), (Nat.le_of_ble_eq_true rfl)⟩ w_4_69 rfl rfl (Nat.le_of_ble_eq_true rfl) (e_cc rfl (e_cc rfl (e_cc rfl e_cn))) (Nat.le_of_ble_eq_true rfl) (C_X9_made ?_)
              refine (show E mX9_comes mc ms 32 [some (.ref 308), some (.int x1), some (.int x2), some (.int x3)] [.int (f_X9_made x1 x2 x3)] z I Q from ?_)
              refine E_goto (pc := 32) (tgt := 37) ddX9_comes_32 (by decide) ?_
              exact E_iret (pc := 37) ddX9_comes_37 rfl k
/-! X9_remember, labels [11, 33, 64] -/
set_option maxRecDepth 100000 in
set_option maxHeartbeats 4000000 in
theorem B_X9_remember_0 {mc ms : Nat} {z : Zt} {I : It} {Q : Option Value → Zt → It → Prop} (ho : isO z)
    (k : ((¬ (I 308 4) = 16) → E mX9_copyRow 0 0 0 [some (.ref 308), some (.int 0), some (.int (344 * ((I 308 4) + 1))), none] [] z I (fun r z' I' => E mX9_remember mc ms 64 [some (.ref 308), none] (r.toList ++ []) z' I' Q)) ∧
    (((I 308 4) = 16) → E mX9_remember mc ms 11 [some (.ref 308), some (.int 1)] [] z I Q)) :
    E mX9_remember mc ms 0 [some (.ref 308), none] [] z I Q := by
  refine E_aload_n (pc := 0) (x := 308) ddX9_remember_0 rfl rfl ?_
  refine E_getI (pc := 1) ddX9_remember_1 ec_8 4 (Nat.le_of_ble_eq_true rfl) rfl w_3_186 ho.s0 ?_
  refine E_bipush (pc := 4) (v := 16) ddX9_remember_4 rfl ?_
  refine E_icmp_ne (pc := 6) (tgt := 49) ddX9_remember_6 (by decide) (fun h => ?_) (fun h => ?_)
  · have k := k.1 h
    refine E_aload_n (pc := 49) (x := 308) ddX9_remember_49 rfl rfl ?_
    refine E_iconst (pc := 50) (v := 0) ddX9_remember_50 rfl ?_
    refine E_sipush (pc := 51) (v := 344) ddX9_remember_51 rfl ?_
    refine E_aload_n (pc := 54) (x := 308) ddX9_remember_54 rfl rfl ?_
    refine E_getI (pc := 55) ddX9_remember_55 ec_8 4 (Nat.le_of_ble_eq_true rfl) rfl w_3_186 ho.s0 ?_
    refine E_iconst (pc := 58) (v := 1) ddX9_remember_58 rfl ?_
    refine E_iadd (pc := 59) ddX9_remember_59 ?_
    refine E_imul (pc := 60) ddX9_remember_60 ?_
    exact E_callV (pc := 61) (As := [.int 0, .int (344 * ((I 308 4) + 1))]) (st := []) (a := 308) ddX9_remember_61 hX9_copyRow ⟨(Nat.le_of_ble_eq_true rfl), (Nat.le_of_ble_eq_true rfl)⟩ w_4_104 (ci := 8) rfl rfl ho.s0 rfl rfl (Nat.le_of_ble_eq_true rfl) (e_cc rfl (e_cc rfl e_cn)) (Nat.le_of_ble_eq_true rfl) k
  · have k := k.2 h
    refine E_iconst (pc := 9) (v := 1) ddX9_remember_9 rfl ?_
    refine E_istore_n (pc := 10) (ls' := [some (.ref 308), some (.int 1)]) ddX9_remember_10 rfl (Nat.le_of_ble_eq_true rfl) rfl rfl ?_
    exact k
set_option maxRecDepth 100000 in
set_option maxHeartbeats 4000000 in
theorem B_X9_remember_64 {mc ms : Nat} {z : Zt} {I : It} {Q : Option Value → Zt → It → Prop} (ho : isO z)
    (k : ∀ I1 : It, I1 = e_st I 308 4 ((I 308 4) + 1) → Q none z I1) :
    E mX9_remember mc ms 64 [some (.ref 308), none] [] z I Q := by
  refine E_aload_n (pc := 64) (x := 308) ddX9_remember_64 rfl rfl ?_
  refine E_dupr (pc := 65) ddX9_remember_65 ?_
  refine E_getI (pc := 66) ddX9_remember_66 ec_8 4 (Nat.le_of_ble_eq_true rfl) rfl w_3_186 ho.s0 ?_
  refine E_iconst (pc := 69) (v := 1) ddX9_remember_69 rfl ?_
  refine E_iadd (pc := 70) ddX9_remember_70 ?_
  obtain ⟨I1, eI1⟩ : ∃ y : It, y = e_st I 308 4 ((I 308 4) + 1) := ⟨_, rfl⟩
  have k := k I1 eI1
  refine E_putI (pc := 71) ddX9_remember_71 ec_8 4 (Nat.le_of_ble_eq_true rfl) rfl w_3_186 ho.s0 rfl rfl ?_
  rw [← eI1]
  exact E_vret (pc := 74) ddX9_remember_74 rfl k
set_option maxRecDepth 100000 in
set_option maxHeartbeats 4000000 in
theorem B_X9_remember_11 {mc ms : Nat} {z : Zt} {I : It} {Q : Option Value → Zt → It → Prop} {x1 : Int32} (ho : isO z)
    (k : ((16 ≤ x1) → ∀ I1 : It, I1 = e_st I 308 4 ((I 308 4) - 1) → E mX9_copyRow 0 0 0 [some (.ref 308), some (.int 0), some (.int (344 * ((I1 308 4) + 1))), none] [] z I1 (fun r z' I' => E mX9_remember mc ms 64 [some (.ref 308), none] (r.toList ++ []) z' I' Q)) ∧
    ((¬ 16 ≤ x1) → E mX9_copyRow 0 0 0 [some (.ref 308), some (.int (344 * (x1 + 1))), some (.int (344 * x1)), none] [] z I (fun r z' I' => E mX9_remember mc ms 33 [some (.ref 308), some (.int x1)] (r.toList ++ []) z' I' Q))) :
    E mX9_remember mc ms 11 [some (.ref 308), some (.int x1)] [] z I Q := by
  refine E_iload_n (pc := 11) (x := x1) ddX9_remember_11 rfl rfl ?_
  refine E_bipush (pc := 12) (v := 16) ddX9_remember_12 rfl ?_
  refine E_icmp_ge (pc := 14) (tgt := 39) ddX9_remember_14 (by decide) (fun h => ?_) (fun h => ?_)
  · have k := k.1 h
    refine E_aload_n (pc := 39) (x := 308) ddX9_remember_39 rfl rfl ?_
    refine E_dupr (pc := 40) ddX9_remember_40 ?_
    refine E_getI (pc := 41) ddX9_remember_41 ec_8 4 (Nat.le_of_ble_eq_true rfl) rfl w_3_186 ho.s0 ?_
    refine E_iconst (pc := 44) (v := 1) ddX9_remember_44 rfl ?_
    refine E_isub (pc := 45) ddX9_remember_45 ?_
    obtain ⟨I1, eI1⟩ : ∃ y : It, y = e_st I 308 4 ((I 308 4) - 1) := ⟨_, rfl⟩
    have k := k I1 eI1
    refine E_putI (pc := 46) ddX9_remember_46 ec_8 4 (Nat.le_of_ble_eq_true rfl) rfl w_3_186 ho.s0 rfl rfl ?_
    rw [← eI1]
    refine E_aload_n (pc := 49) (x := 308) ddX9_remember_49 rfl rfl ?_
    refine E_iconst (pc := 50) (v := 0) ddX9_remember_50 rfl ?_
    refine E_sipush (pc := 51) (v := 344) ddX9_remember_51 rfl ?_
    refine E_aload_n (pc := 54) (x := 308) ddX9_remember_54 rfl rfl ?_
    refine E_getI (pc := 55) ddX9_remember_55 ec_8 4 (Nat.le_of_ble_eq_true rfl) rfl w_3_186 ho.s0 ?_
    refine E_iconst (pc := 58) (v := 1) ddX9_remember_58 rfl ?_
    refine E_iadd (pc := 59) ddX9_remember_59 ?_
    refine E_imul (pc := 60) ddX9_remember_60 ?_
    exact E_callV (pc := 61) (As := [.int 0, .int (344 * ((I1 308 4) + 1))]) (st := []) (a := 308) ddX9_remember_61 hX9_copyRow ⟨(Nat.le_of_ble_eq_true rfl), (Nat.le_of_ble_eq_true rfl)⟩ w_4_104 (ci := 8) rfl rfl ho.s0 rfl rfl (Nat.le_of_ble_eq_true rfl) (e_cc rfl (e_cc rfl e_cn)) (Nat.le_of_ble_eq_true rfl) (E.mono k fun _ _ _ q => E.forget q ⟨rfl, trivial⟩)
  · have k := k.2 h
    refine E_aload_n (pc := 17) (x := 308) ddX9_remember_17 rfl rfl ?_
    refine E_sipush (pc := 18) (v := 344) ddX9_remember_18 rfl ?_
    refine E_iload_n (pc := 21) (x := x1) ddX9_remember_21 rfl rfl ?_
    refine E_iconst (pc := 22) (v := 1) ddX9_remember_22 rfl ?_
    refine E_iadd (pc := 23) ddX9_remember_23 ?_
    refine E_imul (pc := 24) ddX9_remember_24 ?_
    refine E_sipush (pc := 25) (v := 344) ddX9_remember_25 rfl ?_
    refine E_iload_n (pc := 28) (x := x1) ddX9_remember_28 rfl rfl ?_
    refine E_imul (pc := 29) ddX9_remember_29 ?_
    exact E_callV (pc := 30) (As := [.int (344 * (x1 + 1)), .int (344 * x1)]) (st := []) (a := 308) ddX9_remember_30 hX9_copyRow ⟨(Nat.le_of_ble_eq_true rfl), (Nat.le_of_ble_eq_true rfl)⟩ w_4_104 (ci := 8) rfl rfl ho.s0 rfl rfl (Nat.le_of_ble_eq_true rfl) (e_cc rfl (e_cc rfl e_cn)) (Nat.le_of_ble_eq_true rfl) k
set_option maxRecDepth 100000 in
set_option maxHeartbeats 4000000 in
theorem B_X9_remember_33 {mc ms : Nat} {z : Zt} {I : It} {Q : Option Value → Zt → It → Prop} {x1 : Int32} (ho : isO z)
    (k : E mX9_remember mc ms 11 [some (.ref 308), some (.int (x1 + 1))] [] z I Q) :
    E mX9_remember mc ms 33 [some (.ref 308), some (.int x1)] [] z I Q := by
  refine E_iinc (pc := 33) (v := (x1 + 1)) (ls' := [some (.ref 308), some (.int (x1 + 1))]) ddX9_remember_33 rfl rfl (Nat.le_of_ble_eq_true rfl) rfl rfl ?_
  refine E_goto (pc := 36) (tgt := 11) ddX9_remember_36 (by decide) ?_
  exact k
/-! X9_step, labels [5, 25, 30] -/
set_option maxRecDepth 100000 in
set_option maxHeartbeats 4000000 in
theorem B_X9_step_0 {mc ms : Nat} {z : Zt} {I : It} {Q : Option Value → Zt → It → Prop} (ho : isO z)
    (k : E mX9_isStill 0 0 0 [some (.ref 308), some (.int 0)] [] z I (fun r z' I' => E mX9_step mc ms 5 [some (.ref 308)] (r.toList ++ []) z' I' Q)) :
    E mX9_step mc ms 0 [some (.ref 308)] [] z I Q := by
  refine E_aload_n (pc := 0) (x := 308) ddX9_step_0 rfl rfl ?_
  refine E_iconst (pc := 1) (v := 0) ddX9_step_1 rfl ?_
  exact E_callV (pc := 2) (As := [.int 0]) (st := []) (a := 308) ddX9_step_2 hX9_isStill ⟨(Nat.le_of_ble_eq_true rfl), (Nat.le_of_ble_eq_true rfl)⟩ w_4_84 (ci := 8) rfl rfl ho.s0 rfl rfl (Nat.le_of_ble_eq_true rfl) (e_cc rfl e_cn) (Nat.le_of_ble_eq_true rfl) k
set_option maxRecDepth 100000 in
set_option maxHeartbeats 4000000 in
theorem B_X9_step_5 {mc ms : Nat} {z : Zt} {I : It} {Q : Option Value → Zt → It → Prop} {y0 : Int32} (ho : isO z)
    (k : ((¬ y0 = 0) → Q (some (.int (-1000000003))) z I) ∧
    ((y0 = 0) → ((¬ (I 309 2) = 1) → E mX9_remember 0 0 0 [some (.ref 308), none] [] z I (fun r z' I' => E mX9_step mc ms 25 [some (.ref 308)] (r.toList ++ []) z' I' Q)) ∧
    (((I 309 2) = 1) → Q (some (.int (-1000000003))) z I))) :
    E mX9_step mc ms 5 [some (.ref 308)] [.int y0] z I Q := by
  refine E_if_ne (pc := 5) (tgt := 18) ddX9_step_5 (by decide) (fun h => ?_) (fun h => ?_)
  · have k := k.1 h
    refine E_ldc (pc := 18) (v := (-1000000003)) ddX9_step_18 w_4_191 ?_
    exact E_iret (pc := 20) ddX9_step_20 rfl k
  · have k := k.2 h
    refine E_aload_n (pc := 8) (x := 308) ddX9_step_8 rfl rfl ?_
    refine E_getR (pc := 9) (x := 309) ddX9_step_9 ec_8 0 (Nat.le_of_ble_eq_true rfl) rfl w_3_182 ho.s0 ho.r0 (by decide) ?_
    refine E_iconst (pc := 12) (v := 2) ddX9_step_12 rfl ?_
    refine E_ialdN (pc := 13) (j := 2) ddX9_step_13 ho.s1 rfl (Nat.le_of_ble_eq_true rfl) (Nat.le_of_ble_eq_true rfl) ?_
    refine E_iconst (pc := 14) (v := 1) ddX9_step_14 rfl ?_
    refine E_icmp_ne (pc := 15) (tgt := 21) ddX9_step_15 (by decide) (fun h => ?_) (fun h => ?_)
    · have k := k.1 h
      refine E_aload_n (pc := 21) (x := 308) ddX9_step_21 rfl rfl ?_
      exact E_callV (pc := 22) (As := []) (st := []) (a := 308) ddX9_step_22 hX9_remember ⟨(Nat.le_of_ble_eq_true rfl), (Nat.le_of_ble_eq_true rfl)⟩ w_4_192 (ci := 8) rfl rfl ho.s0 rfl rfl (Nat.le_of_ble_eq_true rfl) e_cn (Nat.le_of_ble_eq_true rfl) k
    · have k := k.2 h
      refine E_ldc (pc := 18) (v := (-1000000003)) ddX9_step_18 w_4_191 ?_
      exact E_iret (pc := 20) ddX9_step_20 rfl k
set_option maxRecDepth 100000 in
set_option maxHeartbeats 4000000 in
theorem B_X9_step_25 {mc ms : Nat} {z : Zt} {I : It} {Q : Option Value → Zt → It → Prop} (ho : isO z)
    (k : E mX9_stepIn 0 0 0 [some (.ref 308), some (.int 0), none, none, none] [] z I (fun r z' I' => E mX9_step mc ms 30 [some (.ref 308)] (r.toList ++ []) z' I' Q)) :
    E mX9_step mc ms 25 [some (.ref 308)] [] z I Q := by
  refine E_aload_n (pc := 25) (x := 308) ddX9_step_25 rfl rfl ?_
  refine E_iconst (pc := 26) (v := 0) ddX9_step_26 rfl ?_
  exact E_callV (pc := 27) (As := [.int 0]) (st := []) (a := 308) ddX9_step_27 hX9_stepIn ⟨(Nat.le_of_ble_eq_true rfl), (Nat.le_of_ble_eq_true rfl)⟩ w_4_108 (ci := 8) rfl rfl ho.s0 rfl rfl (Nat.le_of_ble_eq_true rfl) (e_cc rfl e_cn) (Nat.le_of_ble_eq_true rfl) k
set_option maxRecDepth 100000 in
set_option maxHeartbeats 4000000 in
theorem B_X9_step_30 {mc ms : Nat} {z : Zt} {I : It} {Q : Option Value → Zt → It → Prop} (ho : isO z)
    (k : Q (some (.int (I 309 0))) z I) :
    E mX9_step mc ms 30 [some (.ref 308)] [] z I Q := by
  refine E_aload_n (pc := 30) (x := 308) ddX9_step_30 rfl rfl ?_
  refine E_getR (pc := 31) (x := 309) ddX9_step_31 ec_8 0 (Nat.le_of_ble_eq_true rfl) rfl w_3_182 ho.s0 ho.r0 (by decide) ?_
  refine E_iconst (pc := 34) (v := 0) ddX9_step_34 rfl ?_
  refine E_ialdN (pc := 35) (j := 0) ddX9_step_35 ho.s1 rfl (Nat.le_of_ble_eq_true rfl) (Nat.le_of_ble_eq_true rfl) ?_
  exact E_iret (pc := 36) ddX9_step_36 rfl k
/-! X9_run, labels [31, 42, 47, 55, 64, 70] -/
set_option maxRecDepth 100000 in
set_option maxHeartbeats 4000000 in
theorem B_X9_run_0 {mc ms : Nat} {z : Zt} {I : It} {Q : Option Value → Zt → It → Prop} {x1 : Int32} (ho : isO z)
    (k : ((x1 < 1) → Q (some (.int (-1000000002))) z I) ∧
    ((¬ x1 < 1) → ((200 < x1) → Q (some (.int (-1000000002))) z I) ∧
    ((¬ 200 < x1) → ((¬ (I 309 2) = 1) → E mX9_remember 0 0 0 [some (.ref 308), none] [] z I (fun r z' I' => E mX9_run mc ms 31 [some (.ref 308), some (.int x1), none, none] (r.toList ++ []) z' I' Q)) ∧
    (((I 309 2) = 1) → Q (some (.int (-1000000003))) z I)))) :
    E mX9_run mc ms 0 [some (.ref 308), some (.int x1), none, none] [] z I Q := by
  refine E_iload_n (pc := 0) (x := x1) ddX9_run_0 rfl rfl ?_
  refine E_iconst (pc := 1) (v := 1) ddX9_run_1 rfl ?_
  refine E_sipush (pc := 2) (v := 200) ddX9_run_2 rfl ?_
  refine E_callS (pc := 5) (As := [.int x1, .int 1, .int 200]) (st := []) ddX9_run_5 hX9_in ⟨(Nat.le_of_ble_eq_true rfl), (Nat.le_of_ble_eq_true rfl)⟩ w_4_13 rfl rfl (Nat.le_of_ble_eq_true rfl) (e_cc rfl (e_cc rfl (e_cc rfl e_cn))) (Nat.le_of_ble_eq_true rfl) ?_
  refine (show E mX9_in 0 0 0 [some (.int x1), some (.int 1), some (.int 200)] [] z I _ from ?_)
  refine E_iload_n (pc := 0) (x := x1) ddX9_in_0 rfl rfl ?_
  refine E_iload_n (pc := 1) (x := 1) ddX9_in_1 rfl rfl ?_
  refine E_icmp_lt (pc := 2) (tgt := 14) ddX9_in_2 (by decide) (fun h => ?_) (fun h => ?_)
  · have k := k.1 h
    refine E_iconst (pc := 14) (v := 0) ddX9_in_14 rfl ?_
    refine E_zret (pc := 15) ddX9_in_15 rfl (by decide) ?_
    refine (show E mX9_run mc ms 8 [some (.ref 308), some (.int x1), none, none] [.int 0] z I Q from ?_)
    refine E_if_ne (pc := 8) (tgt := 14) ddX9_run_8 (by decide) (fun h => absurd h (by decide)) (fun _ => ?_)
    refine E_ldc (pc := 11) (v := (-1000000002)) ddX9_run_11 w_4_16 ?_
    exact E_iret (pc := 13) ddX9_run_13 rfl k
  · have k := k.2 h
    refine E_iload_n (pc := 5) (x := x1) ddX9_in_5 rfl rfl ?_
    refine E_iload_n (pc := 6) (x := 200) ddX9_in_6 rfl rfl ?_
    refine E_icmp_gt (pc := 7) (tgt := 14) ddX9_in_7 (by decide) (fun h => ?_) (fun h => ?_)
    · have k := k.1 h
      refine E_iconst (pc := 14) (v := 0) ddX9_in_14 rfl ?_
      refine E_zret (pc := 15) ddX9_in_15 rfl (by decide) ?_
      refine (show E mX9_run mc ms 8 [some (.ref 308), some (.int x1), none, none] [.int 0] z I Q from ?_)
      refine E_if_ne (pc := 8) (tgt := 14) ddX9_run_8 (by decide) (fun h => absurd h (by decide)) (fun _ => ?_)
      refine E_ldc (pc := 11) (v := (-1000000002)) ddX9_run_11 w_4_16 ?_
      exact E_iret (pc := 13) ddX9_run_13 rfl k
    · have k := k.2 h
      refine E_iconst (pc := 10) (v := 1) ddX9_in_10 rfl ?_
      refine E_goto (pc := 11) (tgt := 15) ddX9_in_11 (by decide) ?_
      refine E_zret (pc := 15) ddX9_in_15 rfl (by decide) ?_
      refine (show E mX9_run mc ms 8 [some (.ref 308), some (.int x1), none, none] [.int 1] z I Q from ?_)
      refine E_if_ne (pc := 8) (tgt := 14) ddX9_run_8 (by decide) (fun _ => ?_) (fun h => absurd h (by decide))
      refine E_aload_n (pc := 14) (x := 308) ddX9_run_14 rfl rfl ?_
      refine E_getR (pc := 15) (x := 309) ddX9_run_15 ec_8 0 (Nat.le_of_ble_eq_true rfl) rfl w_3_182 ho.s0 ho.r0 (by decide) ?_
      refine E_iconst (pc := 18) (v := 2) ddX9_run_18 rfl ?_
      refine E_ialdN (pc := 19) (j := 2) ddX9_run_19 ho.s1 rfl (Nat.le_of_ble_eq_true rfl) (Nat.le_of_ble_eq_true rfl) ?_
      refine E_iconst (pc := 20) (v := 1) ddX9_run_20 rfl ?_
      refine E_icmp_ne (pc := 21) (tgt := 27) ddX9_run_21 (by decide) (fun h => ?_) (fun h => ?_)
      · have k := k.1 h
        refine E_aload_n (pc := 27) (x := 308) ddX9_run_27 rfl rfl ?_
        exact E_callV (pc := 28) (As := []) (st := []) (a := 308) ddX9_run_28 hX9_remember ⟨(Nat.le_of_ble_eq_true rfl), (Nat.le_of_ble_eq_true rfl)⟩ w_4_192 (ci := 8) rfl rfl ho.s0 rfl rfl (Nat.le_of_ble_eq_true rfl) e_cn (Nat.le_of_ble_eq_true rfl) k
      · have k := k.2 h
        refine E_ldc (pc := 24) (v := (-1000000003)) ddX9_run_24 w_4_191 ?_
        exact E_iret (pc := 26) ddX9_run_26 rfl k
set_option maxRecDepth 100000 in
set_option maxHeartbeats 4000000 in
theorem B_X9_run_31 {mc ms : Nat} {z : Zt} {I : It} {Q : Option Value → Zt → It → Prop} {x1 : Int32} (ho : isO z)
    (k : ∀ v1 : Int32, v1 = ((I 309 0) + x1) → E mX9_run mc ms 42 [some (.ref 308), none, some (.int v1), some (.int 0)] [] z I Q) :
    E mX9_run mc ms 31 [some (.ref 308), some (.int x1), none, none] [] z I Q := by
  refine E_aload_n (pc := 31) (x := 308) ddX9_run_31 rfl rfl ?_
  refine E_getR (pc := 32) (x := 309) ddX9_run_32 ec_8 0 (Nat.le_of_ble_eq_true rfl) rfl w_3_182 ho.s0 ho.r0 (by decide) ?_
  refine E_iconst (pc := 35) (v := 0) ddX9_run_35 rfl ?_
  refine E_ialdN (pc := 36) (j := 0) ddX9_run_36 ho.s1 rfl (Nat.le_of_ble_eq_true rfl) (Nat.le_of_ble_eq_true rfl) ?_
  refine E_iload_n (pc := 37) (x := x1) ddX9_run_37 rfl rfl ?_
  refine E_iadd (pc := 38) ddX9_run_38 ?_
  obtain ⟨v1, ev1⟩ : ∃ y : Int32, y = ((I 309 0) + x1) := ⟨_, rfl⟩
  have k := k v1 ev1
  rw [← ev1]
  refine E_istore_n (pc := 39) (ls' := [some (.ref 308), some (.int x1), some (.int v1), none]) ddX9_run_39 rfl (Nat.le_of_ble_eq_true rfl) rfl rfl ?_
  refine E_iconst (pc := 40) (v := 0) ddX9_run_40 rfl ?_
  refine E_istore_n (pc := 41) (ls' := [some (.ref 308), some (.int x1), some (.int v1), some (.int 0)]) ddX9_run_41 rfl (Nat.le_of_ble_eq_true rfl) rfl rfl ?_
  exact E.forget k ⟨rfl, ⟨rfl, ⟨rfl, trivial⟩⟩⟩
set_option maxRecDepth 100000 in
set_option maxHeartbeats 4000000 in
theorem B_X9_run_42 {mc ms : Nat} {z : Zt} {I : It} {Q : Option Value → Zt → It → Prop} {x2 x3 : Int32} (ho : isO z)
    (k : E mX9_isStill 0 0 0 [some (.ref 308), some (.int 0)] [] z I (fun r z' I' => E mX9_run mc ms 47 [some (.ref 308), none, some (.int x2), some (.int x3)] (r.toList ++ []) z' I' Q)) :
    E mX9_run mc ms 42 [some (.ref 308), none, some (.int x2), some (.int x3)] [] z I Q := by
  refine E_aload_n (pc := 42) (x := 308) ddX9_run_42 rfl rfl ?_
  refine E_iconst (pc := 43) (v := 0) ddX9_run_43 rfl ?_
  exact E_callV (pc := 44) (As := [.int 0]) (st := []) (a := 308) ddX9_run_44 hX9_isStill ⟨(Nat.le_of_ble_eq_true rfl), (Nat.le_of_ble_eq_true rfl)⟩ w_4_84 (ci := 8) rfl rfl ho.s0 rfl rfl (Nat.le_of_ble_eq_true rfl) (e_cc rfl e_cn) (Nat.le_of_ble_eq_true rfl) k
set_option maxRecDepth 100000 in
set_option maxHeartbeats 4000000 in
theorem B_X9_run_47 {mc ms : Nat} {z : Zt} {I : It} {Q : Option Value → Zt → It → Prop} {x2 x3 y0 : Int32} (ho : isO z)
    (k : ((¬ y0 = 0) → E mX9_run mc ms 70 [some (.ref 308), none, some (.int x2), some (.int x3)] [] z I Q) ∧
    ((y0 = 0) → E mX9_waits 0 0 0 [some (.ref 308), some (.int 0), none, none, none] [] z I (fun r z' I' => E mX9_run mc ms 55 [some (.ref 308), none, some (.int x2), some (.int x3)] (r.toList ++ []) z' I' Q))) :
    E mX9_run mc ms 47 [some (.ref 308), none, some (.int x2), some (.int x3)] [.int y0] z I Q := by
  refine E_if_ne (pc := 47) (tgt := 70) ddX9_run_47 (by decide) (fun h => ?_) (fun h => ?_)
  · have k := k.1 h
    exact k
  · have k := k.2 h
    refine E_aload_n (pc := 50) (x := 308) ddX9_run_50 rfl rfl ?_
    refine E_iconst (pc := 51) (v := 0) ddX9_run_51 rfl ?_
    exact E_callV (pc := 52) (As := [.int 0]) (st := []) (a := 308) ddX9_run_52 hX9_waits ⟨(Nat.le_of_ble_eq_true rfl), (Nat.le_of_ble_eq_true rfl)⟩ w_4_88 (ci := 8) rfl rfl ho.s0 rfl rfl (Nat.le_of_ble_eq_true rfl) (e_cc rfl e_cn) (Nat.le_of_ble_eq_true rfl) k
set_option maxRecDepth 100000 in
set_option maxHeartbeats 4000000 in
theorem B_X9_run_70 {mc ms : Nat} {z : Zt} {I : It} {Q : Option Value → Zt → It → Prop} {x2 x3 : Int32} (ho : isO z)
    (k : ((¬ (I 309 2) = 1) → ∀ I1 : It, I1 = e_st I 309 0 x2 → Q (some (.int x3)) z I1) ∧
    (((I 309 2) = 1) → ∀ I1 : It, I1 = e_st I 309 0 (I 309 0) → Q (some (.int x3)) z I1)) :
    E mX9_run mc ms 70 [some (.ref 308), none, some (.int x2), some (.int x3)] [] z I Q := by
  refine E_aload_n (pc := 70) (x := 308) ddX9_run_70 rfl rfl ?_
  refine E_getR (pc := 71) (x := 309) ddX9_run_71 ec_8 0 (Nat.le_of_ble_eq_true rfl) rfl w_3_182 ho.s0 ho.r0 (by decide) ?_
  refine E_iconst (pc := 74) (v := 0) ddX9_run_74 rfl ?_
  refine E_aload_n (pc := 75) (x := 308) ddX9_run_75 rfl rfl ?_
  refine E_getR (pc := 76) (x := 309) ddX9_run_76 ec_8 0 (Nat.le_of_ble_eq_true rfl) rfl w_3_182 ho.s0 ho.r0 (by decide) ?_
  refine E_iconst (pc := 79) (v := 2) ddX9_run_79 rfl ?_
  refine E_ialdN (pc := 80) (j := 2) ddX9_run_80 ho.s1 rfl (Nat.le_of_ble_eq_true rfl) (Nat.le_of_ble_eq_true rfl) ?_
  refine E_iconst (pc := 81) (v := 1) ddX9_run_81 rfl ?_
  refine E_icmp_ne (pc := 82) (tgt := 94) ddX9_run_82 (by decide) (fun h => ?_) (fun h => ?_)
  · have k := k.1 h
    refine E_iload_n (pc := 94) (x := x2) ddX9_run_94 rfl rfl ?_
    obtain ⟨I1, eI1⟩ : ∃ y : It, y = e_st I 309 0 x2 := ⟨_, rfl⟩
    have k := k I1 eI1
    refine E_iastN (pc := 95) (j := 0) ddX9_run_95 ho.s1 (by decide) rfl (Nat.le_of_ble_eq_true rfl) (Nat.le_of_ble_eq_true rfl) ?_
    rw [← eI1]
    refine E_iload_n (pc := 96) (x := x3) ddX9_run_96 rfl rfl ?_
    exact E_iret (pc := 97) ddX9_run_97 rfl k
  · have k := k.2 h
    refine E_aload_n (pc := 85) (x := 308) ddX9_run_85 rfl rfl ?_
    refine E_getR (pc := 86) (x := 309) ddX9_run_86 ec_8 0 (Nat.le_of_ble_eq_true rfl) rfl w_3_182 ho.s0 ho.r0 (by decide) ?_
    refine E_iconst (pc := 89) (v := 0) ddX9_run_89 rfl ?_
    refine E_ialdN (pc := 90) (j := 0) ddX9_run_90 ho.s1 rfl (Nat.le_of_ble_eq_true rfl) (Nat.le_of_ble_eq_true rfl) ?_
    refine E_goto (pc := 91) (tgt := 95) ddX9_run_91 (by decide) ?_
    obtain ⟨I1, eI1⟩ : ∃ y : It, y = e_st I 309 0 (I 309 0) := ⟨_, rfl⟩
    have k := k I1 eI1
    refine E_iastN (pc := 95) (j := 0) ddX9_run_95 ho.s1 (by decide) rfl (Nat.le_of_ble_eq_true rfl) (Nat.le_of_ble_eq_true rfl) ?_
    rw [← eI1]
    refine E_iload_n (pc := 96) (x := x3) ddX9_run_96 rfl rfl ?_
    exact E_iret (pc := 97) ddX9_run_97 rfl k
set_option maxRecDepth 100000 in
set_option maxHeartbeats 4000000 in
theorem B_X9_run_55 {mc ms : Nat} {z : Zt} {I : It} {Q : Option Value → Zt → It → Prop} {x2 x3 y0 : Int32} (ho : isO z)
    (k : ((x2 < y0) → E mX9_run mc ms 70 [some (.ref 308), none, some (.int x2), some (.int x3)] [] z I Q) ∧
    ((¬ x2 < y0) → E mX9_stepIn 0 0 0 [some (.ref 308), some (.int 0), none, none, none] [] z I (fun r z' I' => E mX9_run mc ms 64 [some (.ref 308), none, some (.int x2), some (.int x3)] (r.toList ++ []) z' I' Q))) :
    E mX9_run mc ms 55 [some (.ref 308), none, some (.int x2), some (.int x3)] [.int y0] z I Q := by
  refine E_iload_n (pc := 55) (x := x2) ddX9_run_55 rfl rfl ?_
  refine E_icmp_gt (pc := 56) (tgt := 70) ddX9_run_56 (by decide) (fun h => ?_) (fun h => ?_)
  · have k := k.1 h
    exact k
  · have k := k.2 h
    refine E_aload_n (pc := 59) (x := 308) ddX9_run_59 rfl rfl ?_
    refine E_iconst (pc := 60) (v := 0) ddX9_run_60 rfl ?_
    exact E_callV (pc := 61) (As := [.int 0]) (st := []) (a := 308) ddX9_run_61 hX9_stepIn ⟨(Nat.le_of_ble_eq_true rfl), (Nat.le_of_ble_eq_true rfl)⟩ w_4_108 (ci := 8) rfl rfl ho.s0 rfl rfl (Nat.le_of_ble_eq_true rfl) (e_cc rfl e_cn) (Nat.le_of_ble_eq_true rfl) k
set_option maxRecDepth 100000 in
set_option maxHeartbeats 4000000 in
theorem B_X9_run_64 {mc ms : Nat} {z : Zt} {I : It} {Q : Option Value → Zt → It → Prop} {x2 x3 : Int32} (ho : isO z)
    (k : E mX9_run mc ms 42 [some (.ref 308), none, some (.int x2), some (.int (x3 + 1))] [] z I Q) :
    E mX9_run mc ms 64 [some (.ref 308), none, some (.int x2), some (.int x3)] [] z I Q := by
  refine E_iinc (pc := 64) (v := (x3 + 1)) (ls' := [some (.ref 308), none, some (.int x2), some (.int (x3 + 1))]) ddX9_run_64 rfl rfl (Nat.le_of_ble_eq_true rfl) rfl rfl ?_
  refine E_goto (pc := 67) (tgt := 42) ddX9_run_67 (by decide) ?_
  exact k
/-! X9_mayBeSet, labels [5] -/
set_option maxRecDepth 100000 in
set_option maxHeartbeats 4000000 in
theorem B_X9_mayBeSet_0 {mc ms : Nat} {z : Zt} {I : It} {Q : Option Value → Zt → It → Prop} {x1 : Int32} (ho : isO z)
    (k : E mX9_driversOf 0 0 0 [some (.ref 308), some (.int x1), none, none] [] z I (fun r z' I' => E mX9_mayBeSet mc ms 5 [some (.ref 308), none] (r.toList ++ []) z' I' Q)) :
    E mX9_mayBeSet mc ms 0 [some (.ref 308), some (.int x1)] [] z I Q := by
  refine E_aload_n (pc := 0) (x := 308) ddX9_mayBeSet_0 rfl rfl ?_
  refine E_iload_n (pc := 1) (x := x1) ddX9_mayBeSet_1 rfl rfl ?_
  exact E_callV (pc := 2) (As := [.int x1]) (st := []) (a := 308) ddX9_mayBeSet_2 hX9_driversOf ⟨(Nat.le_of_ble_eq_true rfl), (Nat.le_of_ble_eq_true rfl)⟩ w_4_124 (ci := 8) rfl rfl ho.s0 rfl rfl (Nat.le_of_ble_eq_true rfl) (e_cc rfl e_cn) (Nat.le_of_ble_eq_true rfl) (E.mono k fun _ _ _ q => E.forget q ⟨rfl, trivial⟩)
set_option maxRecDepth 100000 in
set_option maxHeartbeats 4000000 in
theorem B_X9_mayBeSet_5 {mc ms : Nat} {z : Zt} {I : It} {Q : Option Value → Zt → It → Prop} {y0 : Int32} (ho : isO z)
    (k : ((0 < y0) → Q (some (.int (-1000000003))) z I) ∧
    ((¬ 0 < y0) → ((¬ (I 309 2) = 1) → ((¬ (I 309 3) = 8) → Q (some (.int 1)) z I) ∧
    (((I 309 3) = 8) → Q (some (.int (-1000000004))) z I)) ∧
    (((I 309 2) = 1) → Q (some (.int (-1000000003))) z I))) :
    E mX9_mayBeSet mc ms 5 [some (.ref 308), none] [.int y0] z I Q := by
  refine E_if_gt (pc := 5) (tgt := 18) ddX9_mayBeSet_5 (by decide) (fun h => ?_) (fun h => ?_)
  · have k := k.1 h
    refine E_ldc (pc := 18) (v := (-1000000003)) ddX9_mayBeSet_18 w_4_191 ?_
    exact E_iret (pc := 20) ddX9_mayBeSet_20 rfl k
  · have k := k.2 h
    refine E_aload_n (pc := 8) (x := 308) ddX9_mayBeSet_8 rfl rfl ?_
    refine E_getR (pc := 9) (x := 309) ddX9_mayBeSet_9 ec_8 0 (Nat.le_of_ble_eq_true rfl) rfl w_3_182 ho.s0 ho.r0 (by decide) ?_
    refine E_iconst (pc := 12) (v := 2) ddX9_mayBeSet_12 rfl ?_
    refine E_ialdN (pc := 13) (j := 2) ddX9_mayBeSet_13 ho.s1 rfl (Nat.le_of_ble_eq_true rfl) (Nat.le_of_ble_eq_true rfl) ?_
    refine E_iconst (pc := 14) (v := 1) ddX9_mayBeSet_14 rfl ?_
    refine E_icmp_ne (pc := 15) (tgt := 21) ddX9_mayBeSet_15 (by decide) (fun h => ?_) (fun h => ?_)
    · have k := k.1 h
      refine E_aload_n (pc := 21) (x := 308) ddX9_mayBeSet_21 rfl rfl ?_
      refine E_getR (pc := 22) (x := 309) ddX9_mayBeSet_22 ec_8 0 (Nat.le_of_ble_eq_true rfl) rfl w_3_182 ho.s0 ho.r0 (by decide) ?_
      refine E_iconst (pc := 25) (v := 3) ddX9_mayBeSet_25 rfl ?_
      refine E_ialdN (pc := 26) (j := 3) ddX9_mayBeSet_26 ho.s1 rfl (Nat.le_of_ble_eq_true rfl) (Nat.le_of_ble_eq_true rfl) ?_
      refine E_bipush (pc := 27) (v := 8) ddX9_mayBeSet_27 rfl ?_
      refine E_icmp_ne (pc := 29) (tgt := 37) ddX9_mayBeSet_29 (by decide) (fun h => ?_) (fun h => ?_)
      · have k := k.1 h
        refine E_iconst (pc := 37) (v := 1) ddX9_mayBeSet_37 rfl ?_
        exact E_iret (pc := 38) ddX9_mayBeSet_38 rfl k
      · have k := k.2 h
        refine E_ldc (pc := 32) (v := (-1000000004)) ddX9_mayBeSet_32 w_4_17 ?_
        refine E_goto (pc := 34) (tgt := 38) ddX9_mayBeSet_34 (by decide) ?_
        exact E_iret (pc := 38) ddX9_mayBeSet_38 rfl k
    · have k := k.2 h
      refine E_ldc (pc := 18) (v := (-1000000003)) ddX9_mayBeSet_18 w_4_191 ?_
      exact E_iret (pc := 20) ddX9_mayBeSet_20 rfl k
/-! X9_layHand, labels [8, 108] -/
set_option maxRecDepth 100000 in
set_option maxHeartbeats 4000000 in
theorem B_X9_layHand_0 {mc ms : Nat} {z : Zt} {I : It} {Q : Option Value → Zt → It → Prop} {x1 x2 x3 : Int32} (ho : isO z)
    (k : ∀ v1 : Int32, v1 = (I 309 3) → E mX9_layHand mc ms 8 [some (.ref 308), some (.int x1), some (.int x2), some (.int x3), some (.int v1)] [] z I Q) :
    E mX9_layHand mc ms 0 [some (.ref 308), some (.int x1), some (.int x2), some (.int x3), none] [] z I Q := by
  refine E_aload_n (pc := 0) (x := 308) ddX9_layHand_0 rfl rfl ?_
  refine E_getR (pc := 1) (x := 309) ddX9_layHand_1 ec_8 0 (Nat.le_of_ble_eq_true rfl) rfl w_3_182 ho.s0 ho.r0 (by decide) ?_
  refine E_iconst (pc := 4) (v := 3) ddX9_layHand_4 rfl ?_
  refine E_ialdN (pc := 5) (j := 3) ddX9_layHand_5 ho.s1 rfl (Nat.le_of_ble_eq_true rfl) (Nat.le_of_ble_eq_true rfl) ?_
  obtain ⟨v1, ev1⟩ : ∃ y : Int32, y = (I 309 3) := ⟨_, rfl⟩
  have k := k v1 ev1
  rw [← ev1]
  refine E_istore (pc := 6) (ls' := [some (.ref 308), some (.int x1), some (.int x2), some (.int x3), some (.int v1)]) ddX9_layHand_6 (Nat.le_of_ble_eq_true rfl) rfl rfl ?_
  exact k
set_option maxRecDepth 100000 in
set_option maxHeartbeats 4000000 in
theorem B_X9_layHand_8 {mc ms : Nat} {z : Zt} {I : It} {Q : Option Value → Zt → It → Prop} {x1 x2 x3 x4 : Int32} (ho : isO z)
    (k : ((x4 ≤ 0) → E mX9_layHand mc ms 108 [some (.ref 308), some (.int x1), some (.int x2), some (.int x3), some (.int x4)] [] z I Q) ∧
    ((¬ x4 ≤ 0) → ∃ j1 : Nat, ((320 + x4) - 1) = nI j1 ∧ j1 < 6880 ∧ (((I 309 j1) ≤ x3) → E mX9_layHand mc ms 108 [some (.ref 308), some (.int x1), some (.int x2), some (.int x3), some (.int x4)] [] z I Q) ∧
    ((¬ (I 309 j1) ≤ x3) → ∃ j2 : Nat, (320 + x4) = nI j2 ∧ j2 < 6880 ∧ ∀ I3 : It, I3 = e_st I 309 j2 (I 309 j1) → ∃ j4 : Nat, ((328 + x4) - 1) = nI j4 ∧ j4 < 6880 ∧ ∃ j5 : Nat, (328 + x4) = nI j5 ∧ j5 < 6880 ∧ ∀ I6 : It, I6 = e_st I3 309 j5 (I3 309 j4) → ∃ j7 : Nat, ((336 + x4) - 1) = nI j7 ∧ j7 < 6880 ∧ ∃ j8 : Nat, (336 + x4) = nI j8 ∧ j8 < 6880 ∧ ∀ I9 : It, I9 = e_st I6 309 j8 (I6 309 j7) → E mX9_layHand mc ms 8 [some (.ref 308), some (.int x1), some (.int x2), some (.int x3), some (.int (x4 + (-1)))] [] z I9 Q))) :
    E mX9_layHand mc ms 8 [some (.ref 308), some (.int x1), some (.int x2), some (.int x3), some (.int x4)] [] z I Q := by
  refine E_iload (pc := 8) (x := x4) ddX9_layHand_8 rfl ?_
  refine E_if_le (pc := 10) (tgt := 108) ddX9_layHand_10 (by decide) (fun h => ?_) (fun h => ?_)
  · have k := k.1 h
    exact k
  · have k := k.2 h
    refine E_aload_n (pc := 13) (x := 308) ddX9_layHand_13 rfl rfl ?_
    refine E_getR (pc := 14) (x := 309) ddX9_layHand_14 ec_8 0 (Nat.le_of_ble_eq_true rfl) rfl w_3_182 ho.s0 ho.r0 (by decide) ?_
    refine E_sipush (pc := 17) (v := 320) ddX9_layHand_17 rfl ?_
    refine E_iload (pc := 20) (x := x4) ddX9_layHand_20 rfl ?_
    refine E_iadd (pc := 22) ddX9_layHand_22 ?_
    refine E_iconst (pc := 23) (v := 1) ddX9_layHand_23 rfl ?_
    refine E_isub (pc := 24) ddX9_layHand_24 ?_
    obtain ⟨j1, ij1, lj1, k⟩ := k
    refine E_ialdN (pc := 25) (j := j1) ddX9_layHand_25 ho.s1 ij1 lj1 (Nat.le_of_ble_eq_true rfl) ?_
    refine E_iload_n (pc := 26) (x := x3) ddX9_layHand_26 rfl rfl ?_
    refine E_icmp_le (pc := 27) (tgt := 108) ddX9_layHand_27 (by decide) (fun h => ?_) (fun h => ?_)
    · have k := k.1 h
      exact k
    · have k := k.2 h
      refine E_aload_n (pc := 30) (x := 308) ddX9_layHand_30 rfl rfl ?_
      refine E_getR (pc := 31) (x := 309) ddX9_layHand_31 ec_8 0 (Nat.le_of_ble_eq_true rfl) rfl w_3_182 ho.s0 ho.r0 (by decide) ?_
      refine E_sipush (pc := 34) (v := 320) ddX9_layHand_34 rfl ?_
      refine E_iload (pc := 37) (x := x4) ddX9_layHand_37 rfl ?_
      refine E_iadd (pc := 39) ddX9_layHand_39 ?_
      refine E_aload_n (pc := 40) (x := 308) ddX9_layHand_40 rfl rfl ?_
      refine E_getR (pc := 41) (x := 309) ddX9_layHand_41 ec_8 0 (Nat.le_of_ble_eq_true rfl) rfl w_3_182 ho.s0 ho.r0 (by decide) ?_
      refine E_sipush (pc := 44) (v := 320) ddX9_layHand_44 rfl ?_
      refine E_iload (pc := 47) (x := x4) ddX9_layHand_47 rfl ?_
      refine E_iadd (pc := 49) ddX9_layHand_49 ?_
      refine E_iconst (pc := 50) (v := 1) ddX9_layHand_50 rfl ?_
      refine E_isub (pc := 51) ddX9_layHand_51 ?_
      refine E_ialdN (pc := 52) (j := j1) ddX9_layHand_52 ho.s1 ij1 lj1 (Nat.le_of_ble_eq_true rfl) ?_
      obtain ⟨j2, ij2, lj2, k⟩ := k
      obtain ⟨I3, eI3⟩ : ∃ y : It, y = e_st I 309 j2 (I 309 j1) := ⟨_, rfl⟩
      have k := k I3 eI3
      refine E_iastN (pc := 53) (j := j2) ddX9_layHand_53 ho.s1 (by decide) ij2 lj2 (Nat.le_of_ble_eq_true rfl) ?_
      rw [← eI3]
      refine E_aload_n (pc := 54) (x := 308) ddX9_layHand_54 rfl rfl ?_
      refine E_getR (pc := 55) (x := 309) ddX9_layHand_55 ec_8 0 (Nat.le_of_ble_eq_true rfl) rfl w_3_182 ho.s0 ho.r0 (by decide) ?_
      refine E_sipush (pc := 58) (v := 328) ddX9_layHand_58 rfl ?_
      refine E_iload (pc := 61) (x := x4) ddX9_layHand_61 rfl ?_
      refine E_iadd (pc := 63) ddX9_layHand_63 ?_
      refine E_aload_n (pc := 64) (x := 308) ddX9_layHand_64 rfl rfl ?_
      refine E_getR (pc := 65) (x := 309) ddX9_layHand_65 ec_8 0 (Nat.le_of_ble_eq_true rfl) rfl w_3_182 ho.s0 ho.r0 (by decide) ?_
      refine E_sipush (pc := 68) (v := 328) ddX9_layHand_68 rfl ?_
      refine E_iload (pc := 71) (x := x4) ddX9_layHand_71 rfl ?_
      refine E_iadd (pc := 73) ddX9_layHand_73 ?_
      refine E_iconst (pc := 74) (v := 1) ddX9_layHand_74 rfl ?_
      refine E_isub (pc := 75) ddX9_layHand_75 ?_
      obtain ⟨j4, ij4, lj4, k⟩ := k
      refine E_ialdN (pc := 76) (j := j4) ddX9_layHand_76 ho.s1 ij4 lj4 (Nat.le_of_ble_eq_true rfl) ?_
      obtain ⟨j5, ij5, lj5, k⟩ := k
      obtain ⟨I6, eI6⟩ : ∃ y : It, y = e_st I3 309 j5 (I3 309 j4) := ⟨_, rfl⟩
      have k := k I6 eI6
      refine E_iastN (pc := 77) (j := j5) ddX9_layHand_77 ho.s1 (by decide) ij5 lj5 (Nat.le_of_ble_eq_true rfl) ?_
      rw [← eI6]
      refine E_aload_n (pc := 78) (x := 308) ddX9_layHand_78 rfl rfl ?_
      refine E_getR (pc := 79) (x := 309) ddX9_layHand_79 ec_8 0 (Nat.le_of_ble_eq_true rfl) rfl w_3_182 ho.s0 ho.r0 (by decide) ?_
      refine E_sipush (pc := 82) (v := 336) ddX9_layHand_82 rfl ?_
      refine E_iload (pc := 85) (x := x4) ddX9_layHand_85 rfl ?_
      refine E_iadd (pc := 87) ddX9_layHand_87 ?_
      refine E_aload_n (pc := 88) (x := 308) ddX9_layHand_88 rfl rfl ?_
      refine E_getR (pc := 89) (x := 309) ddX9_layHand_89 ec_8 0 (Nat.le_of_ble_eq_true rfl) rfl w_3_182 ho.s0 ho.r0 (by decide) ?_
      refine E_sipush (pc := 92) (v := 336) ddX9_layHand_92 rfl ?_
      refine E_iload (pc := 95) (x := x4) ddX9_layHand_95 rfl ?_
      refine E_iadd (pc := 97) ddX9_layHand_97 ?_
      refine E_iconst (pc := 98) (v := 1) ddX9_layHand_98 rfl ?_
      refine E_isub (pc := 99) ddX9_layHand_99 ?_
      obtain ⟨j7, ij7, lj7, k⟩ := k
      refine E_ialdN (pc := 100) (j := j7) ddX9_layHand_100 ho.s1 ij7 lj7 (Nat.le_of_ble_eq_true rfl) ?_
      obtain ⟨j8, ij8, lj8, k⟩ := k
      obtain ⟨I9, eI9⟩ : ∃ y : It, y = e_st I6 309 j8 (I6 309 j7) := ⟨_, rfl⟩
      have k := k I9 eI9
      refine E_iastN (pc := 101) (j := j8) ddX9_layHand_101 ho.s1 (by decide) ij8 lj8 (Nat.le_of_ble_eq_true rfl) ?_
      rw [← eI9]
      refine E_iinc (pc := 102) (v := (x4 + (-1))) (ls' := [some (.ref 308), some (.int x1), some (.int x2), some (.int x3), some (.int (x4 + (-1)))]) ddX9_layHand_102 rfl rfl (Nat.le_of_ble_eq_true rfl) rfl rfl ?_
      refine E_goto (pc := 105) (tgt := 8) ddX9_layHand_105 (by decide) ?_
      exact k
set_option maxRecDepth 100000 in
set_option maxHeartbeats 4000000 in
theorem B_X9_layHand_108 {mc ms : Nat} {z : Zt} {I : It} {Q : Option Value → Zt → It → Prop} {x1 x2 x3 x4 : Int32} (ho : isO z)
    (k : ∃ j1 : Nat, (320 + x4) = nI j1 ∧ j1 < 6880 ∧ ∀ I2 : It, I2 = e_st I 309 j1 x3 → ∃ j3 : Nat, (328 + x4) = nI j3 ∧ j3 < 6880 ∧ ∀ I4 : It, I4 = e_st I2 309 j3 x1 → ∃ j5 : Nat, (336 + x4) = nI j5 ∧ j5 < 6880 ∧ ∀ I6 : It, I6 = e_st I4 309 j5 x2 → ∀ I7 : It, I7 = e_st I6 309 3 ((I6 309 3) + 1) → Q none z I7) :
    E mX9_layHand mc ms 108 [some (.ref 308), some (.int x1), some (.int x2), some (.int x3), some (.int x4)] [] z I Q := by
  refine E_aload_n (pc := 108) (x := 308) ddX9_layHand_108 rfl rfl ?_
  refine E_getR (pc := 109) (x := 309) ddX9_layHand_109 ec_8 0 (Nat.le_of_ble_eq_true rfl) rfl w_3_182 ho.s0 ho.r0 (by decide) ?_
  refine E_sipush (pc := 112) (v := 320) ddX9_layHand_112 rfl ?_
  refine E_iload (pc := 115) (x := x4) ddX9_layHand_115 rfl ?_
  refine E_iadd (pc := 117) ddX9_layHand_117 ?_
  refine E_iload_n (pc := 118) (x := x3) ddX9_layHand_118 rfl rfl ?_
  obtain ⟨j1, ij1, lj1, k⟩ := k
  obtain ⟨I2, eI2⟩ : ∃ y : It, y = e_st I 309 j1 x3 := ⟨_, rfl⟩
  have k := k I2 eI2
  refine E_iastN (pc := 119) (j := j1) ddX9_layHand_119 ho.s1 (by decide) ij1 lj1 (Nat.le_of_ble_eq_true rfl) ?_
  rw [← eI2]
  refine E_aload_n (pc := 120) (x := 308) ddX9_layHand_120 rfl rfl ?_
  refine E_getR (pc := 121) (x := 309) ddX9_layHand_121 ec_8 0 (Nat.le_of_ble_eq_true rfl) rfl w_3_182 ho.s0 ho.r0 (by decide) ?_
  refine E_sipush (pc := 124) (v := 328) ddX9_layHand_124 rfl ?_
  refine E_iload (pc := 127) (x := x4) ddX9_layHand_127 rfl ?_
  refine E_iadd (pc := 129) ddX9_layHand_129 ?_
  refine E_iload_n (pc := 130) (x := x1) ddX9_layHand_130 rfl rfl ?_
  obtain ⟨j3, ij3, lj3, k⟩ := k
  obtain ⟨I4, eI4⟩ : ∃ y : It, y = e_st I2 309 j3 x1 := ⟨_, rfl⟩
  have k := k I4 eI4
  refine E_iastN (pc := 131) (j := j3) ddX9_layHand_131 ho.s1 (by decide) ij3 lj3 (Nat.le_of_ble_eq_true rfl) ?_
  rw [← eI4]
  refine E_aload_n (pc := 132) (x := 308) ddX9_layHand_132 rfl rfl ?_
  refine E_getR (pc := 133) (x := 309) ddX9_layHand_133 ec_8 0 (Nat.le_of_ble_eq_true rfl) rfl w_3_182 ho.s0 ho.r0 (by decide) ?_
  refine E_sipush (pc := 136) (v := 336) ddX9_layHand_136 rfl ?_
  refine E_iload (pc := 139) (x := x4) ddX9_layHand_139 rfl ?_
  refine E_iadd (pc := 141) ddX9_layHand_141 ?_
  refine E_iload_n (pc := 142) (x := x2) ddX9_layHand_142 rfl rfl ?_
  obtain ⟨j5, ij5, lj5, k⟩ := k
  obtain ⟨I6, eI6⟩ : ∃ y : It, y = e_st I4 309 j5 x2 := ⟨_, rfl⟩
  have k := k I6 eI6
  refine E_iastN (pc := 143) (j := j5) ddX9_layHand_143 ho.s1 (by decide) ij5 lj5 (Nat.le_of_ble_eq_true rfl) ?_
  rw [← eI6]
  refine E_aload_n (pc := 144) (x := 308) ddX9_layHand_144 rfl rfl ?_
  refine E_getR (pc := 145) (x := 309) ddX9_layHand_145 ec_8 0 (Nat.le_of_ble_eq_true rfl) rfl w_3_182 ho.s0 ho.r0 (by decide) ?_
  refine E_iconst (pc := 148) (v := 3) ddX9_layHand_148 rfl ?_
  refine E_dup2 (pc := 149) ddX9_layHand_149 ?_
  refine E_ialdN (pc := 150) (j := 3) ddX9_layHand_150 ho.s1 rfl (Nat.le_of_ble_eq_true rfl) (Nat.le_of_ble_eq_true rfl) ?_
  refine E_iconst (pc := 151) (v := 1) ddX9_layHand_151 rfl ?_
  refine E_iadd (pc := 152) ddX9_layHand_152 ?_
  obtain ⟨I7, eI7⟩ : ∃ y : It, y = e_st I6 309 3 ((I6 309 3) + 1) := ⟨_, rfl⟩
  have k := k I7 eI7
  refine E_iastN (pc := 153) (j := 3) ddX9_layHand_153 ho.s1 (by decide) rfl (Nat.le_of_ble_eq_true rfl) (Nat.le_of_ble_eq_true rfl) ?_
  rw [← eI7]
  exact E_vret (pc := 154) ddX9_layHand_154 rfl k
/-! X9_set, labels [36, 51, 65] -/
set_option maxRecDepth 100000 in
set_option maxHeartbeats 4000000 in
theorem B_X9_set_0 {mc ms : Nat} {z : Zt} {I : It} {Q : Option Value → Zt → It → Prop} {x1 x2 x3 : Int32} (ho : isO z)
    (k : ((x1 < 0) → Q (some (.int (-1000000001))) z I) ∧
    ((¬ x1 < 0) → ((((I 308 1) - 1) < x1) → Q (some (.int (-1000000001))) z I) ∧
    ((¬ ((I 308 1) - 1) < x1) → ((x2 < 0) → Q (some (.int (-1000000001))) z I) ∧
    ((¬ x2 < 0) → ((3 < x2) → Q (some (.int (-1000000001))) z I) ∧
    ((¬ 3 < x2) → ((x3 < 0) → Q (some (.int (-1000000002))) z I) ∧
    ((¬ x3 < 0) → ((20 < x3) → Q (some (.int (-1000000002))) z I) ∧
    ((¬ 20 < x3) → E mX9_mayBeSet 0 0 0 [some (.ref 308), some (.int x1)] [] z I (fun r z' I' => E mX9_set mc ms 36 [some (.ref 308), some (.int x1), some (.int x2), some (.int x3), none] (r.toList ++ []) z' I' Q)))))))) :
    E mX9_set mc ms 0 [some (.ref 308), some (.int x1), some (.int x2), some (.int x3), none] [] z I Q := by
  refine E_aload_n (pc := 0) (x := 308) ddX9_set_0 rfl rfl ?_
  refine E_iload_n (pc := 1) (x := x1) ddX9_set_1 rfl rfl ?_
  refine E_callV (pc := 2) (As := [.int x1]) (st := []) (a := 308) ddX9_set_2 hX9_isWire ⟨(Nat.le_of_ble_eq_true rfl), (Nat.le_of_ble_eq_true rfl)⟩ w_4_147 (ci := 8) rfl rfl ho.s0 rfl rfl (Nat.le_of_ble_eq_true rfl) (e_cc rfl e_cn) (Nat.le_of_ble_eq_true rfl) ?_
  refine (show E mX9_isWire 0 0 0 [some (.ref 308), some (.int x1)] [] z I _ from ?_)
  refine E_iload_n (pc := 0) (x := x1) ddX9_isWire_0 rfl rfl ?_
  refine E_iconst (pc := 1) (v := 0) ddX9_isWire_1 rfl ?_
  refine E_aload_n (pc := 2) (x := 308) ddX9_isWire_2 rfl rfl ?_
  refine E_getI (pc := 3) ddX9_isWire_3 ec_8 1 (Nat.le_of_ble_eq_true rfl) rfl w_3_183 ho.s0 ?_
  refine E_iconst (pc := 6) (v := 1) ddX9_isWire_6 rfl ?_
  refine E_isub (pc := 7) ddX9_isWire_7 ?_
  refine E_callS (pc := 8) (As := [.int x1, .int 0, .int ((I 308 1) - 1)]) (st := []) ddX9_isWire_8 hX9_in ⟨(Nat.le_of_ble_eq_true rfl), (Nat.le_of_ble_eq_true rfl)⟩ w_4_13 rfl rfl (Nat.le_of_ble_eq_true rfl) (e_cc rfl (e_cc rfl (e_cc rfl e_cn))) (Nat.le_of_ble_eq_true rfl) ?_
  refine (show E mX9_in 0 0 0 [some (.int x1), some (.int 0), some (.int ((I 308 1) - 1))] [] z I _ from ?_)
  refine E_iload_n (pc := 0) (x := x1) ddX9_in_0 rfl rfl ?_
  refine E_iload_n (pc := 1) (x := 0) ddX9_in_1 rfl rfl ?_
  refine E_icmp_lt (pc := 2) (tgt := 14) ddX9_in_2 (by decide) (fun h => ?_) (fun h => ?_)
  · have k := k.1 h
    refine E_iconst (pc := 14) (v := 0) ddX9_in_14 rfl ?_
    refine E_zret (pc := 15) ddX9_in_15 rfl (by decide) ?_
    refine (show E mX9_isWire 0 0 11 [some (.ref 308), some (.int x1)] [.int 0] z I _ from ?_)
    refine E_zret (pc := 11) ddX9_isWire_11 rfl (by decide) ?_
    refine (show E mX9_set mc ms 5 [some (.ref 308), some (.int x1), some (.int x2), some (.int x3), none] [.int 0] z I Q from ?_)
    refine E_if_eq (pc := 5) (tgt := 15) ddX9_set_5 (by decide) (fun _ => ?_) (fun h => absurd h (by decide))
    refine E_ldc (pc := 15) (v := (-1000000001)) ddX9_set_15 w_4_155 ?_
    exact E_iret (pc := 17) ddX9_set_17 rfl k
  · have k := k.2 h
    refine E_iload_n (pc := 5) (x := x1) ddX9_in_5 rfl rfl ?_
    refine E_iload_n (pc := 6) (x := ((I 308 1) - 1)) ddX9_in_6 rfl rfl ?_
    refine E_icmp_gt (pc := 7) (tgt := 14) ddX9_in_7 (by decide) (fun h => ?_) (fun h => ?_)
    · have k := k.1 h
      refine E_iconst (pc := 14) (v := 0) ddX9_in_14 rfl ?_
      refine E_zret (pc := 15) ddX9_in_15 rfl (by decide) ?_
      refine (show E mX9_isWire 0 0 11 [some (.ref 308), some (.int x1)] [.int 0] z I _ from ?_)
      refine E_zret (pc := 11) ddX9_isWire_11 rfl (by decide) ?_
      refine (show E mX9_set mc ms 5 [some (.ref 308), some (.int x1), some (.int x2), some (.int x3), none] [.int 0] z I Q from ?_)
      refine E_if_eq (pc := 5) (tgt := 15) ddX9_set_5 (by decide) (fun _ => ?_) (fun h => absurd h (by decide))
      refine E_ldc (pc := 15) (v := (-1000000001)) ddX9_set_15 w_4_155 ?_
      exact E_iret (pc := 17) ddX9_set_17 rfl k
    · have k := k.2 h
      refine E_iconst (pc := 10) (v := 1) ddX9_in_10 rfl ?_
      refine E_goto (pc := 11) (tgt := 15) ddX9_in_11 (by decide) ?_
      refine E_zret (pc := 15) ddX9_in_15 rfl (by decide) ?_
      refine (show E mX9_isWire 0 0 11 [some (.ref 308), some (.int x1)] [.int 1] z I _ from ?_)
      refine E_zret (pc := 11) ddX9_isWire_11 rfl (by decide) ?_
      refine (show E mX9_set mc ms 5 [some (.ref 308), some (.int x1), some (.int x2), some (.int x3), none] [.int 1] z I Q from ?_)
      refine E_if_eq (pc := 5) (tgt := 15) ddX9_set_5 (by decide) (fun h => absurd h (by decide)) (fun _ => ?_)
      refine E_iload_n (pc := 8) (x := x2) ddX9_set_8 rfl rfl ?_
      refine E_callS (pc := 9) (As := [.int x2]) (st := []) ddX9_set_9 hX9_isLevel ⟨(Nat.le_of_ble_eq_true rfl), (Nat.le_of_ble_eq_true rfl)⟩ w_4_180 rfl rfl (Nat.le_of_ble_eq_true rfl) (e_cc rfl e_cn) (Nat.le_of_ble_eq_true rfl) ?_
      refine (show E mX9_isLevel 0 0 0 [some (.int x2)] [] z I _ from ?_)
      refine E_iload_n (pc := 0) (x := x2) ddX9_isLevel_0 rfl rfl ?_
      refine E_iconst (pc := 1) (v := 0) ddX9_isLevel_1 rfl ?_
      refine E_iconst (pc := 2) (v := 3) ddX9_isLevel_2 rfl ?_
      refine E_callS (pc := 3) (As := [.int x2, .int 0, .int 3]) (st := []) ddX9_isLevel_3 hX9_in ⟨(Nat.le_of_ble_eq_true rfl), (Nat.le_of_ble_eq_true rfl)⟩ w_4_13 rfl rfl (Nat.le_of_ble_eq_true rfl) (e_cc rfl (e_cc rfl (e_cc rfl e_cn))) (Nat.le_of_ble_eq_true rfl) ?_
      refine (show E mX9_in 0 0 0 [some (.int x2), some (.int 0), some (.int 3)] [] z I _ from ?_)
      refine E_iload_n (pc := 0) (x := x2) ddX9_in_0 rfl rfl ?_
      refine E_iload_n (pc := 1) (x := 0) ddX9_in_1 rfl rfl ?_
      refine E_icmp_lt (pc := 2) (tgt := 14) ddX9_in_2 (by decide) (fun h => ?_) (fun h => ?_)
      · have k := k.1 h
        refine E_iconst (pc := 14) (v := 0) ddX9_in_14 rfl ?_
        refine E_zret (pc := 15) ddX9_in_15 rfl (by decide) ?_
        refine (show E mX9_isLevel 0 0 6 [some (.int x2)] [.int 0] z I _ from ?_)
        refine E_zret (pc := 6) ddX9_isLevel_6 rfl (by decide) ?_
        refine (show E mX9_set mc ms 12 [some (.ref 308), some (.int x1), some (.int x2), some (.int x3), none] [.int 0] z I Q from ?_)
        refine E_if_ne (pc := 12) (tgt := 18) ddX9_set_12 (by decide) (fun h => absurd h (by decide)) (fun _ => ?_)
        refine E_ldc (pc := 15) (v := (-1000000001)) ddX9_set_15 w_4_155 ?_
        exact E_iret (pc := 17) ddX9_set_17 rfl k
      · have k := k.2 h
        refine E_iload_n (pc := 5) (x := x2) ddX9_in_5 rfl rfl ?_
        refine E_iload_n (pc := 6) (x := 3) ddX9_in_6 rfl rfl ?_
        refine E_icmp_gt (pc := 7) (tgt := 14) ddX9_in_7 (by decide) (fun h => ?_) (fun h => ?_)
        · have k := k.1 h
          refine E_iconst (pc := 14) (v := 0) ddX9_in_14 rfl ?_
          refine E_zret (pc := 15) ddX9_in_15 rfl (by decide) ?_
          refine (show E mX9_isLevel 0 0 6 [some (.int x2)] [.int 0] z I _ from ?_)
          refine E_zret (pc := 6) ddX9_isLevel_6 rfl (by decide) ?_
          refine (show E mX9_set mc ms 12 [some (.ref 308), some (.int x1), some (.int x2), some (.int x3), none] [.int 0] z I Q from ?_)
          refine E_if_ne (pc := 12) (tgt := 18) ddX9_set_12 (by decide) (fun h => absurd h (by decide)) (fun _ => ?_)
          refine E_ldc (pc := 15) (v := (-1000000001)) ddX9_set_15 w_4_155 ?_
          exact E_iret (pc := 17) ddX9_set_17 rfl k
        · have k := k.2 h
          refine E_iconst (pc := 10) (v := 1) ddX9_in_10 rfl ?_
          refine E_goto (pc := 11) (tgt := 15) ddX9_in_11 (by decide) ?_
          refine E_zret (pc := 15) ddX9_in_15 rfl (by decide) ?_
          refine (show E mX9_isLevel 0 0 6 [some (.int x2)] [.int 1] z I _ from ?_)
          refine E_zret (pc := 6) ddX9_isLevel_6 rfl (by decide) ?_
          refine (show E mX9_set mc ms 12 [some (.ref 308), some (.int x1), some (.int x2), some (.int x3), none] [.int 1] z I Q from ?_)
          refine E_if_ne (pc := 12) (tgt := 18) ddX9_set_12 (by decide) (fun _ => ?_) (fun h => absurd h (by decide))
          refine E_iload_n (pc := 18) (x := x3) ddX9_set_18 rfl rfl ?_
          refine E_iconst (pc := 19) (v := 0) ddX9_set_19 rfl ?_
          refine E_bipush (pc := 20) (v := 20) ddX9_set_20 rfl ?_
          refine E_callS (pc := 22) (As := [.int x3, .int 0, .int 20]) (st := []) ddX9_set_22 hX9_in ⟨(Nat.le_of_ble_eq_true rfl), (Nat.le_of_ble_eq_true rfl)⟩ w_4_13 rfl rfl (Nat.le_of_ble_eq_true rfl) (e_cc rfl (e_cc rfl (e_cc rfl e_cn))) (Nat.le_of_ble_eq_true rfl) ?_
          refine (show E mX9_in 0 0 0 [some (.int x3), some (.int 0), some (.int 20)] [] z I _ from ?_)
          refine E_iload_n (pc := 0) (x := x3) ddX9_in_0 rfl rfl ?_
          refine E_iload_n (pc := 1) (x := 0) ddX9_in_1 rfl rfl ?_
          refine E_icmp_lt (pc := 2) (tgt := 14) ddX9_in_2 (by decide) (fun h => ?_) (fun h => ?_)
          · have k := k.1 h
            refine E_iconst (pc := 14) (v := 0) ddX9_in_14 rfl ?_
            refine E_zret (pc := 15) ddX9_in_15 rfl (by decide) ?_
            refine (show E mX9_set mc ms 25 [some (.ref 308), some (.int x1), some (.int x2), some (.int x3), none] [.int 0] z I Q from ?_)
            refine E_if_ne (pc := 25) (tgt := 31) ddX9_set_25 (by decide) (fun h => absurd h (by decide)) (fun _ => ?_)
            refine E_ldc (pc := 28) (v := (-1000000002)) ddX9_set_28 w_4_16 ?_
            exact E_iret (pc := 30) ddX9_set_30 rfl k
          · have k := k.2 h
            refine E_iload_n (pc := 5) (x := x3) ddX9_in_5 rfl rfl ?_
            refine E_iload_n (pc := 6) (x := 20) ddX9_in_6 rfl rfl ?_
            refine E_icmp_gt (pc := 7) (tgt := 14) ddX9_in_7 (by decide) (fun h => ?_) (fun h => ?_)
            · have k := k.1 h
              refine E_iconst (pc := 14) (v := 0) ddX9_in_14 rfl ?_
              refine E_zret (pc := 15) ddX9_in_15 rfl (by decide) ?_
              refine (show E mX9_set mc ms 25 [some (.ref 308), some (.int x1), some (.int x2), some (.int x3), none] [.int 0] z I Q from ?_)
              refine E_if_ne (pc := 25) (tgt := 31) ddX9_set_25 (by decide) (fun h => absurd h (by decide)) (fun _ => ?_)
              refine E_ldc (pc := 28) (v := (-1000000002)) ddX9_set_28 w_4_16 ?_
              exact E_iret (pc := 30) ddX9_set_30 rfl k
            · have k := k.2 h
              refine E_iconst (pc := 10) (v := 1) ddX9_in_10 rfl ?_
              refine E_goto (pc := 11) (tgt := 15) ddX9_in_11 (by decide) ?_
              refine E_zret (pc := 15) ddX9_in_15 rfl (by decide) ?_
              refine (show E mX9_set mc ms 25 [some (.ref 308), some (.int x1), some (.int x2), some (.int x3), none] [.int 1] z I Q from ?_)
              refine E_if_ne (pc := 25) (tgt := 31) ddX9_set_25 (by decide) (fun _ => ?_) (fun h => absurd h (by decide))
              refine E_aload_n (pc := 31) (x := 308) ddX9_set_31 rfl rfl ?_
              refine E_iload_n (pc := 32) (x := x1) ddX9_set_32 rfl rfl ?_
              exact E_callV (pc := 33) (As := [.int x1]) (st := []) (a := 308) ddX9_set_33 hX9_mayBeSet ⟨(Nat.le_of_ble_eq_true rfl), (Nat.le_of_ble_eq_true rfl)⟩ w_4_204 (ci := 8) rfl rfl ho.s0 rfl rfl (Nat.le_of_ble_eq_true rfl) (e_cc rfl e_cn) (Nat.le_of_ble_eq_true rfl) k
set_option maxRecDepth 100000 in
set_option maxHeartbeats 4000000 in
theorem B_X9_set_36 {mc ms : Nat} {z : Zt} {I : It} {Q : Option Value → Zt → It → Prop} {x1 x2 x3 y0 : Int32} (ho : isO z)
    (k : ((y0 = 1) → E mX9_remember 0 0 0 [some (.ref 308), none] [] z I (fun r z' I' => E mX9_set mc ms 51 [some (.ref 308), some (.int x1), some (.int x2), some (.int x3), none] (r.toList ++ []) z' I' Q)) ∧
    ((¬ y0 = 1) → Q (some (.int y0)) z I)) :
    E mX9_set mc ms 36 [some (.ref 308), some (.int x1), some (.int x2), some (.int x3), none] [.int y0] z I Q := by
  refine E_istore (pc := 36) (ls' := [some (.ref 308), some (.int x1), some (.int x2), some (.int x3), some (.int y0)]) ddX9_set_36 (Nat.le_of_ble_eq_true rfl) rfl rfl ?_
  refine E_iload (pc := 38) (x := y0) ddX9_set_38 rfl ?_
  refine E_iconst (pc := 40) (v := 1) ddX9_set_40 rfl ?_
  refine E_icmp_eq (pc := 41) (tgt := 47) ddX9_set_41 (by decide) (fun h => ?_) (fun h => ?_)
  · have k := k.1 h
    refine E_aload_n (pc := 47) (x := 308) ddX9_set_47 rfl rfl ?_
    exact E_callV (pc := 48) (As := []) (st := []) (a := 308) ddX9_set_48 hX9_remember ⟨(Nat.le_of_ble_eq_true rfl), (Nat.le_of_ble_eq_true rfl)⟩ w_4_192 (ci := 8) rfl rfl ho.s0 rfl rfl (Nat.le_of_ble_eq_true rfl) e_cn (Nat.le_of_ble_eq_true rfl) (E.mono k fun _ _ _ q => E.forget q ⟨rfl, ⟨rfl, ⟨rfl, ⟨rfl, trivial⟩⟩⟩⟩)
  · have k := k.2 h
    refine E_iload (pc := 44) (x := y0) ddX9_set_44 rfl ?_
    exact E_iret (pc := 46) ddX9_set_46 rfl k
set_option maxRecDepth 100000 in
set_option maxHeartbeats 4000000 in
theorem B_X9_set_51 {mc ms : Nat} {z : Zt} {I : It} {Q : Option Value → Zt → It → Prop} {x1 x2 x3 : Int32} (ho : isO z)
    (k : E mX9_layHand 0 0 0 [some (.ref 308), some (.int x1), some (.int x2), some (.int ((I 309 0) + x3)), none] [] z I (fun r z' I' => E mX9_set mc ms 65 [some (.ref 308), none, none, none, none] (r.toList ++ []) z' I' Q)) :
    E mX9_set mc ms 51 [some (.ref 308), some (.int x1), some (.int x2), some (.int x3), none] [] z I Q := by
  refine E_aload_n (pc := 51) (x := 308) ddX9_set_51 rfl rfl ?_
  refine E_iload_n (pc := 52) (x := x1) ddX9_set_52 rfl rfl ?_
  refine E_iload_n (pc := 53) (x := x2) ddX9_set_53 rfl rfl ?_
  refine E_aload_n (pc := 54) (x := 308) ddX9_set_54 rfl rfl ?_
  refine E_getR (pc := 55) (x := 309) ddX9_set_55 ec_8 0 (Nat.le_of_ble_eq_true rfl) rfl w_3_182 ho.s0 ho.r0 (by decide) ?_
  refine E_iconst (pc := 58) (v := 0) ddX9_set_58 rfl ?_
  refine E_ialdN (pc := 59) (j := 0) ddX9_set_59 ho.s1 rfl (Nat.le_of_ble_eq_true rfl) (Nat.le_of_ble_eq_true rfl) ?_
  refine E_iload_n (pc := 60) (x := x3) ddX9_set_60 rfl rfl ?_
  refine E_iadd (pc := 61) ddX9_set_61 ?_
  exact E_callV (pc := 62) (As := [.int x1, .int x2, .int ((I 309 0) + x3)]) (st := []) (a := 308) ddX9_set_62 hX9_layHand ⟨(Nat.le_of_ble_eq_true rfl), (Nat.le_of_ble_eq_true rfl)⟩ w_4_208 (ci := 8) rfl rfl ho.s0 rfl rfl (Nat.le_of_ble_eq_true rfl) (e_cc rfl (e_cc rfl (e_cc rfl e_cn))) (Nat.le_of_ble_eq_true rfl) (E.mono k fun _ _ _ q => E.forget q ⟨rfl, trivial⟩)
set_option maxRecDepth 100000 in
set_option maxHeartbeats 4000000 in
theorem B_X9_set_65 {mc ms : Nat} {z : Zt} {I : It} {Q : Option Value → Zt → It → Prop} (ho : isO z)
    (k : Q (some (.int (I 309 3))) z I) :
    E mX9_set mc ms 65 [some (.ref 308), none, none, none, none] [] z I Q := by
  refine E_aload_n (pc := 65) (x := 308) ddX9_set_65 rfl rfl ?_
  refine E_getR (pc := 66) (x := 309) ddX9_set_66 ec_8 0 (Nat.le_of_ble_eq_true rfl) rfl w_3_182 ho.s0 ho.r0 (by decide) ?_
  refine E_iconst (pc := 69) (v := 3) ddX9_set_69 rfl ?_
  refine E_ialdN (pc := 70) (j := 3) ddX9_set_70 ho.s1 rfl (Nat.le_of_ble_eq_true rfl) (Nat.le_of_ble_eq_true rfl) ?_
  exact E_iret (pc := 71) ddX9_set_71 rfl k
/-! X9_calm, labels [16, 28] -/
set_option maxRecDepth 100000 in
set_option maxHeartbeats 4000000 in
theorem B_X9_calm_0 {mc ms : Nat} {z : Zt} {I : It} {Q : Option Value → Zt → It → Prop} (ho : isO z)
    (k : ((¬ (I 309 2) = 0) → E mX9_remember 0 0 0 [some (.ref 308), none] [] z I (fun r z' I' => E mX9_calm mc ms 16 [some (.ref 308)] (r.toList ++ []) z' I' Q)) ∧
    (((I 309 2) = 0) → Q (some (.int (-1000000003))) z I)) :
    E mX9_calm mc ms 0 [some (.ref 308)] [] z I Q := by
  refine E_aload_n (pc := 0) (x := 308) ddX9_calm_0 rfl rfl ?_
  refine E_getR (pc := 1) (x := 309) ddX9_calm_1 ec_8 0 (Nat.le_of_ble_eq_true rfl) rfl w_3_182 ho.s0 ho.r0 (by decide) ?_
  refine E_iconst (pc := 4) (v := 2) ddX9_calm_4 rfl ?_
  refine E_ialdN (pc := 5) (j := 2) ddX9_calm_5 ho.s1 rfl (Nat.le_of_ble_eq_true rfl) (Nat.le_of_ble_eq_true rfl) ?_
  refine E_if_ne (pc := 6) (tgt := 12) ddX9_calm_6 (by decide) (fun h => ?_) (fun h => ?_)
  · have k := k.1 h
    refine E_aload_n (pc := 12) (x := 308) ddX9_calm_12 rfl rfl ?_
    exact E_callV (pc := 13) (As := []) (st := []) (a := 308) ddX9_calm_13 hX9_remember ⟨(Nat.le_of_ble_eq_true rfl), (Nat.le_of_ble_eq_true rfl)⟩ w_4_192 (ci := 8) rfl rfl ho.s0 rfl rfl (Nat.le_of_ble_eq_true rfl) e_cn (Nat.le_of_ble_eq_true rfl) k
  · have k := k.2 h
    refine E_ldc (pc := 9) (v := (-1000000003)) ddX9_calm_9 w_4_191 ?_
    exact E_iret (pc := 11) ddX9_calm_11 rfl k
set_option maxRecDepth 100000 in
set_option maxHeartbeats 4000000 in
theorem B_X9_calm_16 {mc ms : Nat} {z : Zt} {I : It} {Q : Option Value → Zt → It → Prop} (ho : isO z)
    (k : ∀ I1 : It, I1 = e_st I 309 2 0 → E mX9_tellAll 0 0 0 [some (.ref 308), some (.int 0), none] [] z I1 (fun r z' I' => E mX9_calm mc ms 28 [some (.ref 308)] (r.toList ++ []) z' I' Q)) :
    E mX9_calm mc ms 16 [some (.ref 308)] [] z I Q := by
  refine E_aload_n (pc := 16) (x := 308) ddX9_calm_16 rfl rfl ?_
  refine E_getR (pc := 17) (x := 309) ddX9_calm_17 ec_8 0 (Nat.le_of_ble_eq_true rfl) rfl w_3_182 ho.s0 ho.r0 (by decide) ?_
  refine E_iconst (pc := 20) (v := 2) ddX9_calm_20 rfl ?_
  refine E_iconst (pc := 21) (v := 0) ddX9_calm_21 rfl ?_
  obtain ⟨I1, eI1⟩ : ∃ y : It, y = e_st I 309 2 0 := ⟨_, rfl⟩
  have k := k I1 eI1
  refine E_iastN (pc := 22) (j := 2) ddX9_calm_22 ho.s1 (by decide) rfl (Nat.le_of_ble_eq_true rfl) (Nat.le_of_ble_eq_true rfl) ?_
  rw [← eI1]
  refine E_aload_n (pc := 23) (x := 308) ddX9_calm_23 rfl rfl ?_
  refine E_iconst (pc := 24) (v := 0) ddX9_calm_24 rfl ?_
  exact E_callV (pc := 25) (As := [.int 0]) (st := []) (a := 308) ddX9_calm_25 hX9_tellAll ⟨(Nat.le_of_ble_eq_true rfl), (Nat.le_of_ble_eq_true rfl)⟩ w_4_54 (ci := 8) rfl rfl ho.s0 rfl rfl (Nat.le_of_ble_eq_true rfl) (e_cc rfl e_cn) (Nat.le_of_ble_eq_true rfl) k
set_option maxRecDepth 100000 in
set_option maxHeartbeats 4000000 in
theorem B_X9_calm_28 {mc ms : Nat} {z : Zt} {I : It} {Q : Option Value → Zt → It → Prop} (ho : isO z)
    (k : Q (some (.int (I 309 0))) z I) :
    E mX9_calm mc ms 28 [some (.ref 308)] [] z I Q := by
  refine E_aload_n (pc := 28) (x := 308) ddX9_calm_28 rfl rfl ?_
  refine E_getR (pc := 29) (x := 309) ddX9_calm_29 ec_8 0 (Nat.le_of_ble_eq_true rfl) rfl w_3_182 ho.s0 ho.r0 (by decide) ?_
  refine E_iconst (pc := 32) (v := 0) ddX9_calm_32 rfl ?_
  refine E_ialdN (pc := 33) (j := 0) ddX9_calm_33 ho.s1 rfl (Nat.le_of_ble_eq_true rfl) (Nat.le_of_ble_eq_true rfl) ?_
  exact E_iret (pc := 34) ddX9_calm_34 rfl k
/-! X9_draw, labels [] -/
set_option maxRecDepth 100000 in
set_option maxHeartbeats 4000000 in
theorem B_X9_draw_0 {mc ms : Nat} {z : Zt} {I : It} {Q : Option Value → Zt → It → Prop} {x1 : Int32} (ho : isO z)
    (k : ∀ I1 : It, I1 = e_st I 308 6 (((((((I 308 6)).toInt64 * 1103515245) + 12345) - ((((I 308 6)).toInt64 * 1103515245) + 12345) / 2147483648 * 2147483648)).toInt32) → ¬ x1 = 0 ∧ Q (some (.int (((I1 308 6) / 65536) - ((I1 308 6) / 65536) / x1 * x1))) z I1) :
    E mX9_draw mc ms 0 [some (.ref 308), some (.int x1), none, none] [] z I Q := by
  refine E_aload_n (pc := 0) (x := 308) ddX9_draw_0 rfl rfl ?_
  refine E_getI (pc := 1) ddX9_draw_1 ec_8 6 (Nat.le_of_ble_eq_true rfl) rfl w_3_188 ho.s0 ?_
  refine E_i2l (pc := 4) ddX9_draw_4 ?_
  refine E_ldc2 (pc := 5) (v := 1103515245) ddX9_draw_5 w_4_228 ?_
  refine E_lmul (pc := 8) ddX9_draw_8 ?_
  refine E_ldc2 (pc := 9) (v := 12345) ddX9_draw_9 w_4_229 ?_
  refine E_ladd (pc := 12) ddX9_draw_12 ?_
  refine E_ldc2 (pc := 13) (v := 2147483648) ddX9_draw_13 w_4_230 ?_
  refine E_lrem (pc := 16) ddX9_draw_16 (by decide) ?_
  refine E_lstore_n (pc := 17) (ls' := [some (.ref 308), some (.int x1), some (.long (((((I 308 6)).toInt64 * 1103515245) + 12345) - ((((I 308 6)).toInt64 * 1103515245) + 12345) / 2147483648 * 2147483648)), none]) ddX9_draw_17 rfl (Nat.le_of_ble_eq_true rfl) rfl rfl ?_
  refine E_aload_n (pc := 18) (x := 308) ddX9_draw_18 rfl rfl ?_
  refine E_lload_n (pc := 19) (x := (((((I 308 6)).toInt64 * 1103515245) + 12345) - ((((I 308 6)).toInt64 * 1103515245) + 12345) / 2147483648 * 2147483648)) ddX9_draw_19 rfl rfl ?_
  refine E_l2i (pc := 20) ddX9_draw_20 ?_
  obtain ⟨I1, eI1⟩ : ∃ y : It, y = e_st I 308 6 (((((((I 308 6)).toInt64 * 1103515245) + 12345) - ((((I 308 6)).toInt64 * 1103515245) + 12345) / 2147483648 * 2147483648)).toInt32) := ⟨_, rfl⟩
  have k := k I1 eI1
  refine E_putI (pc := 21) ddX9_draw_21 ec_8 6 (Nat.le_of_ble_eq_true rfl) rfl w_3_188 ho.s0 rfl rfl ?_
  rw [← eI1]
  refine E_aload_n (pc := 24) (x := 308) ddX9_draw_24 rfl rfl ?_
  refine E_getI (pc := 25) ddX9_draw_25 ec_8 6 (Nat.le_of_ble_eq_true rfl) rfl w_3_188 ho.s0 ?_
  refine E_ldc (pc := 28) (v := 65536) ddX9_draw_28 w_4_231 ?_
  refine E_idiv (pc := 30) ddX9_draw_30 (by decide) ?_
  refine E_iload_n (pc := 31) (x := x1) ddX9_draw_31 rfl rfl ?_
  obtain ⟨kd, k⟩ := k
  refine E_irem (pc := 32) ddX9_draw_32 kd ?_
  exact E_iret (pc := 33) ddX9_draw_33 rfl k
/-! X9_time, labels [8, 14, 21, 27, 45, 50, 67] -/
set_option maxRecDepth 100000 in
set_option maxHeartbeats 4000000 in
theorem B_X9_time_0 {mc ms : Nat} {z : Zt} {I : It} {Q : Option Value → Zt → It → Prop} (ho : isO z)
    (k : E mX9_draw 0 0 0 [some (.ref 308), some (.int (I 308 1)), none, none] [] z I (fun r z' I' => E mX9_time mc ms 8 [some (.ref 308), none, none, none] (r.toList ++ []) z' I' Q)) :
    E mX9_time mc ms 0 [some (.ref 308), none, none, none] [] z I Q := by
  refine E_aload_n (pc := 0) (x := 308) ddX9_time_0 rfl rfl ?_
  refine E_aload_n (pc := 1) (x := 308) ddX9_time_1 rfl rfl ?_
  refine E_getI (pc := 2) ddX9_time_2 ec_8 1 (Nat.le_of_ble_eq_true rfl) rfl w_3_183 ho.s0 ?_
  exact E_callV (pc := 5) (As := [.int (I 308 1)]) (st := []) (a := 308) ddX9_time_5 hX9_draw ⟨(Nat.le_of_ble_eq_true rfl), (Nat.le_of_ble_eq_true rfl)⟩ w_4_224 (ci := 8) rfl rfl ho.s0 rfl rfl (Nat.le_of_ble_eq_true rfl) (e_cc rfl e_cn) (Nat.le_of_ble_eq_true rfl) k
set_option maxRecDepth 100000 in
set_option maxHeartbeats 4000000 in
theorem B_X9_time_8 {mc ms : Nat} {z : Zt} {I : It} {Q : Option Value → Zt → It → Prop} {y0 : Int32} (ho : isO z)
    (k : E mX9_draw 0 0 0 [some (.ref 308), some (.int 4), none, none] [] z I (fun r z' I' => E mX9_time mc ms 14 [some (.ref 308), some (.int y0), none, none] (r.toList ++ []) z' I' Q)) :
    E mX9_time mc ms 8 [some (.ref 308), none, none, none] [.int y0] z I Q := by
  refine E_istore_n (pc := 8) (ls' := [some (.ref 308), some (.int y0), none, none]) ddX9_time_8 rfl (Nat.le_of_ble_eq_true rfl) rfl rfl ?_
  refine E_aload_n (pc := 9) (x := 308) ddX9_time_9 rfl rfl ?_
  refine E_iconst (pc := 10) (v := 4) ddX9_time_10 rfl ?_
  exact E_callV (pc := 11) (As := [.int 4]) (st := []) (a := 308) ddX9_time_11 hX9_draw ⟨(Nat.le_of_ble_eq_true rfl), (Nat.le_of_ble_eq_true rfl)⟩ w_4_224 (ci := 8) rfl rfl ho.s0 rfl rfl (Nat.le_of_ble_eq_true rfl) (e_cc rfl e_cn) (Nat.le_of_ble_eq_true rfl) k
set_option maxRecDepth 100000 in
set_option maxHeartbeats 4000000 in
theorem B_X9_time_14 {mc ms : Nat} {z : Zt} {I : It} {Q : Option Value → Zt → It → Prop} {x1 y0 : Int32} (ho : isO z)
    (k : E mX9_draw 0 0 0 [some (.ref 308), some (.int 21), none, none] [] z I (fun r z' I' => E mX9_time mc ms 21 [some (.ref 308), some (.int x1), some (.int y0), none] (r.toList ++ []) z' I' Q)) :
    E mX9_time mc ms 14 [some (.ref 308), some (.int x1), none, none] [.int y0] z I Q := by
  refine E_istore_n (pc := 14) (ls' := [some (.ref 308), some (.int x1), some (.int y0), none]) ddX9_time_14 rfl (Nat.le_of_ble_eq_true rfl) rfl rfl ?_
  refine E_aload_n (pc := 15) (x := 308) ddX9_time_15 rfl rfl ?_
  refine E_bipush (pc := 16) (v := 21) ddX9_time_16 rfl ?_
  exact E_callV (pc := 18) (As := [.int 21]) (st := []) (a := 308) ddX9_time_18 hX9_draw ⟨(Nat.le_of_ble_eq_true rfl), (Nat.le_of_ble_eq_true rfl)⟩ w_4_224 (ci := 8) rfl rfl ho.s0 rfl rfl (Nat.le_of_ble_eq_true rfl) (e_cc rfl e_cn) (Nat.le_of_ble_eq_true rfl) k
set_option maxRecDepth 100000 in
set_option maxHeartbeats 4000000 in
theorem B_X9_time_21 {mc ms : Nat} {z : Zt} {I : It} {Q : Option Value → Zt → It → Prop} {x1 x2 y0 : Int32} (ho : isO z)
    (k : E mX9_mayBeSet 0 0 0 [some (.ref 308), some (.int x1)] [] z I (fun r z' I' => E mX9_time mc ms 27 [some (.ref 308), some (.int x1), some (.int x2), some (.int y0)] (r.toList ++ []) z' I' Q)) :
    E mX9_time mc ms 21 [some (.ref 308), some (.int x1), some (.int x2), none] [.int y0] z I Q := by
  refine E_istore_n (pc := 21) (ls' := [some (.ref 308), some (.int x1), some (.int x2), some (.int y0)]) ddX9_time_21 rfl (Nat.le_of_ble_eq_true rfl) rfl rfl ?_
  refine E_aload_n (pc := 22) (x := 308) ddX9_time_22 rfl rfl ?_
  refine E_iload_n (pc := 23) (x := x1) ddX9_time_23 rfl rfl ?_
  exact E_callV (pc := 24) (As := [.int x1]) (st := []) (a := 308) ddX9_time_24 hX9_mayBeSet ⟨(Nat.le_of_ble_eq_true rfl), (Nat.le_of_ble_eq_true rfl)⟩ w_4_204 (ci := 8) rfl rfl ho.s0 rfl rfl (Nat.le_of_ble_eq_true rfl) (e_cc rfl e_cn) (Nat.le_of_ble_eq_true rfl) k
set_option maxRecDepth 100000 in
set_option maxHeartbeats 4000000 in
theorem B_X9_time_27 {mc ms : Nat} {z : Zt} {I : It} {Q : Option Value → Zt → It → Prop} {x1 x2 x3 y0 : Int32} (ho : isO z)
    (k : ((¬ y0 = 1) → E mX9_isStill 0 0 0 [some (.ref 308), some (.int 0)] [] z I (fun r z' I' => E mX9_time mc ms 50 [some (.ref 308), none, none, none] (r.toList ++ []) z' I' Q)) ∧
    ((y0 = 1) → E mX9_layHand 0 0 0 [some (.ref 308), some (.int x1), some (.int x2), some (.int ((I 309 0) + x3)), none] [] z I (fun r z' I' => E mX9_time mc ms 45 [some (.ref 308), none, none, none] (r.toList ++ []) z' I' Q))) :
    E mX9_time mc ms 27 [some (.ref 308), some (.int x1), some (.int x2), some (.int x3)] [.int y0] z I Q := by
  refine E_iconst (pc := 27) (v := 1) ddX9_time_27 rfl ?_
  refine E_icmp_ne (pc := 28) (tgt := 45) ddX9_time_28 (by decide) (fun h => ?_) (fun h => ?_)
  · have k := k.1 h
    refine E_aload_n (pc := 45) (x := 308) ddX9_time_45 rfl rfl ?_
    refine E_iconst (pc := 46) (v := 0) ddX9_time_46 rfl ?_
    exact E_callV (pc := 47) (As := [.int 0]) (st := []) (a := 308) ddX9_time_47 hX9_isStill ⟨(Nat.le_of_ble_eq_true rfl), (Nat.le_of_ble_eq_true rfl)⟩ w_4_84 (ci := 8) rfl rfl ho.s0 rfl rfl (Nat.le_of_ble_eq_true rfl) (e_cc rfl e_cn) (Nat.le_of_ble_eq_true rfl) (E.mono k fun _ _ _ q => E.forget q ⟨rfl, trivial⟩)
  · have k := k.2 h
    refine E_aload_n (pc := 31) (x := 308) ddX9_time_31 rfl rfl ?_
    refine E_iload_n (pc := 32) (x := x1) ddX9_time_32 rfl rfl ?_
    refine E_iload_n (pc := 33) (x := x2) ddX9_time_33 rfl rfl ?_
    refine E_aload_n (pc := 34) (x := 308) ddX9_time_34 rfl rfl ?_
    refine E_getR (pc := 35) (x := 309) ddX9_time_35 ec_8 0 (Nat.le_of_ble_eq_true rfl) rfl w_3_182 ho.s0 ho.r0 (by decide) ?_
    refine E_iconst (pc := 38) (v := 0) ddX9_time_38 rfl ?_
    refine E_ialdN (pc := 39) (j := 0) ddX9_time_39 ho.s1 rfl (Nat.le_of_ble_eq_true rfl) (Nat.le_of_ble_eq_true rfl) ?_
    refine E_iload_n (pc := 40) (x := x3) ddX9_time_40 rfl rfl ?_
    refine E_iadd (pc := 41) ddX9_time_41 ?_
    exact E_callV (pc := 42) (As := [.int x1, .int x2, .int ((I 309 0) + x3)]) (st := []) (a := 308) ddX9_time_42 hX9_layHand ⟨(Nat.le_of_ble_eq_true rfl), (Nat.le_of_ble_eq_true rfl)⟩ w_4_208 (ci := 8) rfl rfl ho.s0 rfl rfl (Nat.le_of_ble_eq_true rfl) (e_cc rfl (e_cc rfl (e_cc rfl e_cn))) (Nat.le_of_ble_eq_true rfl) (E.mono k fun _ _ _ q => E.forget q ⟨rfl, trivial⟩)
set_option maxRecDepth 100000 in
set_option maxHeartbeats 4000000 in
theorem B_X9_time_50 {mc ms : Nat} {z : Zt} {I : It} {Q : Option Value → Zt → It → Prop} {y0 : Int32} (ho : isO z)
    (k : ((¬ y0 = 0) → Q none z I) ∧
    ((y0 = 0) → ((¬ (I 309 2) = 0) → Q none z I) ∧
    (((I 309 2) = 0) → E mX9_stepIn 0 0 0 [some (.ref 308), some (.int 0), none, none, none] [] z I (fun r z' I' => E mX9_time mc ms 67 [none, none, none, none] (r.toList ++ []) z' I' Q)))) :
    E mX9_time mc ms 50 [some (.ref 308), none, none, none] [.int y0] z I Q := by
  refine E_if_ne (pc := 50) (tgt := 67) ddX9_time_50 (by decide) (fun h => ?_) (fun h => ?_)
  · have k := k.1 h
    exact E_vret (pc := 67) ddX9_time_67 rfl k
  · have k := k.2 h
    refine E_aload_n (pc := 53) (x := 308) ddX9_time_53 rfl rfl ?_
    refine E_getR (pc := 54) (x := 309) ddX9_time_54 ec_8 0 (Nat.le_of_ble_eq_true rfl) rfl w_3_182 ho.s0 ho.r0 (by decide) ?_
    refine E_iconst (pc := 57) (v := 2) ddX9_time_57 rfl ?_
    refine E_ialdN (pc := 58) (j := 2) ddX9_time_58 ho.s1 rfl (Nat.le_of_ble_eq_true rfl) (Nat.le_of_ble_eq_true rfl) ?_
    refine E_if_ne (pc := 59) (tgt := 67) ddX9_time_59 (by decide) (fun h => ?_) (fun h => ?_)
    · have k := k.1 h
      exact E_vret (pc := 67) ddX9_time_67 rfl k
    · have k := k.2 h
      refine E_aload_n (pc := 62) (x := 308) ddX9_time_62 rfl rfl ?_
      refine E_iconst (pc := 63) (v := 0) ddX9_time_63 rfl ?_
      exact E_callV (pc := 64) (As := [.int 0]) (st := []) (a := 308) ddX9_time_64 hX9_stepIn ⟨(Nat.le_of_ble_eq_true rfl), (Nat.le_of_ble_eq_true rfl)⟩ w_4_108 (ci := 8) rfl rfl ho.s0 rfl rfl (Nat.le_of_ble_eq_true rfl) (e_cc rfl e_cn) (Nat.le_of_ble_eq_true rfl) (E.mono k fun _ _ _ q => E.forget q trivial)
set_option maxRecDepth 100000 in
set_option maxHeartbeats 4000000 in
theorem B_X9_time_45 {mc ms : Nat} {z : Zt} {I : It} {Q : Option Value → Zt → It → Prop} (ho : isO z)
    (k : E mX9_isStill 0 0 0 [some (.ref 308), some (.int 0)] [] z I (fun r z' I' => E mX9_time mc ms 50 [some (.ref 308), none, none, none] (r.toList ++ []) z' I' Q)) :
    E mX9_time mc ms 45 [some (.ref 308), none, none, none] [] z I Q := by
  refine E_aload_n (pc := 45) (x := 308) ddX9_time_45 rfl rfl ?_
  refine E_iconst (pc := 46) (v := 0) ddX9_time_46 rfl ?_
  exact E_callV (pc := 47) (As := [.int 0]) (st := []) (a := 308) ddX9_time_47 hX9_isStill ⟨(Nat.le_of_ble_eq_true rfl), (Nat.le_of_ble_eq_true rfl)⟩ w_4_84 (ci := 8) rfl rfl ho.s0 rfl rfl (Nat.le_of_ble_eq_true rfl) (e_cc rfl e_cn) (Nat.le_of_ble_eq_true rfl) k
set_option maxRecDepth 100000 in
set_option maxHeartbeats 4000000 in
theorem B_X9_time_67 {mc ms : Nat} {z : Zt} {I : It} {Q : Option Value → Zt → It → Prop}
    (k : Q none z I) :
    E mX9_time mc ms 67 [none, none, none, none] [] z I Q := by
  exact E_vret (pc := 67) ddX9_time_67 rfl k
/-! X9_drift, labels [15, 31, 35] -/
set_option maxRecDepth 100000 in
set_option maxHeartbeats 4000000 in
theorem B_X9_drift_0 {mc ms : Nat} {z : Zt} {I : It} {Q : Option Value → Zt → It → Prop} {x1 : Int32} (ho : isO z)
    (k : ((x1 < 1) → Q (some (.int (-1000000002))) z I) ∧
    ((¬ x1 < 1) → ((16 < x1) → Q (some (.int (-1000000002))) z I) ∧
    ((¬ 16 < x1) → E mX9_drift mc ms 15 [some (.ref 308), some (.int x1), some (.int 0)] [] z I Q))) :
    E mX9_drift mc ms 0 [some (.ref 308), some (.int x1), none] [] z I Q := by
  refine E_iload_n (pc := 0) (x := x1) ddX9_drift_0 rfl rfl ?_
  refine E_iconst (pc := 1) (v := 1) ddX9_drift_1 rfl ?_
  refine E_bipush (pc := 2) (v := 16) ddX9_drift_2 rfl ?_
  refine E_callS (pc := 4) (As := [.int x1, .int 1, .int 16]) (st := []) ddX9_drift_4 hX9_in ⟨(Nat.le_of_ble_eq_true rfl), (Nat.le_of_ble_eq_true rfl)⟩ w_4_13 rfl rfl (Nat.le_of_ble_eq_true rfl) (e_cc rfl (e_cc rfl (e_cc rfl e_cn))) (Nat.le_of_ble_eq_true rfl) ?_
  refine (show E mX9_in 0 0 0 [some (.int x1), some (.int 1), some (.int 16)] [] z I _ from ?_)
  refine E_iload_n (pc := 0) (x := x1) ddX9_in_0 rfl rfl ?_
  refine E_iload_n (pc := 1) (x := 1) ddX9_in_1 rfl rfl ?_
  refine E_icmp_lt (pc := 2) (tgt := 14) ddX9_in_2 (by decide) (fun h => ?_) (fun h => ?_)
  · have k := k.1 h
    refine E_iconst (pc := 14) (v := 0) ddX9_in_14 rfl ?_
    refine E_zret (pc := 15) ddX9_in_15 rfl (by decide) ?_
    refine (show E mX9_drift mc ms 7 [some (.ref 308), some (.int x1), none] [.int 0] z I Q from ?_)
    refine E_if_ne (pc := 7) (tgt := 13) ddX9_drift_7 (by decide) (fun h => absurd h (by decide)) (fun _ => ?_)
    refine E_ldc (pc := 10) (v := (-1000000002)) ddX9_drift_10 w_4_16 ?_
    exact E_iret (pc := 12) ddX9_drift_12 rfl k
  · have k := k.2 h
    refine E_iload_n (pc := 5) (x := x1) ddX9_in_5 rfl rfl ?_
    refine E_iload_n (pc := 6) (x := 16) ddX9_in_6 rfl rfl ?_
    refine E_icmp_gt (pc := 7) (tgt := 14) ddX9_in_7 (by decide) (fun h => ?_) (fun h => ?_)
    · have k := k.1 h
      refine E_iconst (pc := 14) (v := 0) ddX9_in_14 rfl ?_
      refine E_zret (pc := 15) ddX9_in_15 rfl (by decide) ?_
      refine (show E mX9_drift mc ms 7 [some (.ref 308), some (.int x1), none] [.int 0] z I Q from ?_)
      refine E_if_ne (pc := 7) (tgt := 13) ddX9_drift_7 (by decide) (fun h => absurd h (by decide)) (fun _ => ?_)
      refine E_ldc (pc := 10) (v := (-1000000002)) ddX9_drift_10 w_4_16 ?_
      exact E_iret (pc := 12) ddX9_drift_12 rfl k
    · have k := k.2 h
      refine E_iconst (pc := 10) (v := 1) ddX9_in_10 rfl ?_
      refine E_goto (pc := 11) (tgt := 15) ddX9_in_11 (by decide) ?_
      refine E_zret (pc := 15) ddX9_in_15 rfl (by decide) ?_
      refine (show E mX9_drift mc ms 7 [some (.ref 308), some (.int x1), none] [.int 1] z I Q from ?_)
      refine E_if_ne (pc := 7) (tgt := 13) ddX9_drift_7 (by decide) (fun _ => ?_) (fun h => absurd h (by decide))
      refine E_iconst (pc := 13) (v := 0) ddX9_drift_13 rfl ?_
      refine E_istore_n (pc := 14) (ls' := [some (.ref 308), some (.int x1), some (.int 0)]) ddX9_drift_14 rfl (Nat.le_of_ble_eq_true rfl) rfl rfl ?_
      exact k
set_option maxRecDepth 100000 in
set_option maxHeartbeats 4000000 in
theorem B_X9_drift_15 {mc ms : Nat} {z : Zt} {I : It} {Q : Option Value → Zt → It → Prop} {x1 x2 : Int32} (ho : isO z)
    (k : ((x1 ≤ x2) → Q (some (.int (I 309 0))) z I) ∧
    ((¬ x1 ≤ x2) → (((I 308 1) ≤ 0) → Q (some (.int (I 309 0))) z I) ∧
    ((¬ (I 308 1) ≤ 0) → E mX9_remember 0 0 0 [some (.ref 308), none] [] z I (fun r z' I' => E mX9_drift mc ms 31 [some (.ref 308), some (.int x1), some (.int x2)] (r.toList ++ []) z' I' Q)))) :
    E mX9_drift mc ms 15 [some (.ref 308), some (.int x1), some (.int x2)] [] z I Q := by
  refine E_iload_n (pc := 15) (x := x2) ddX9_drift_15 rfl rfl ?_
  refine E_iload_n (pc := 16) (x := x1) ddX9_drift_16 rfl rfl ?_
  refine E_icmp_ge (pc := 17) (tgt := 41) ddX9_drift_17 (by decide) (fun h => ?_) (fun h => ?_)
  · have k := k.1 h
    refine E_aload_n (pc := 41) (x := 308) ddX9_drift_41 rfl rfl ?_
    refine E_getR (pc := 42) (x := 309) ddX9_drift_42 ec_8 0 (Nat.le_of_ble_eq_true rfl) rfl w_3_182 ho.s0 ho.r0 (by decide) ?_
    refine E_iconst (pc := 45) (v := 0) ddX9_drift_45 rfl ?_
    refine E_ialdN (pc := 46) (j := 0) ddX9_drift_46 ho.s1 rfl (Nat.le_of_ble_eq_true rfl) (Nat.le_of_ble_eq_true rfl) ?_
    exact E_iret (pc := 47) ddX9_drift_47 rfl k
  · have k := k.2 h
    refine E_aload_n (pc := 20) (x := 308) ddX9_drift_20 rfl rfl ?_
    refine E_getI (pc := 21) ddX9_drift_21 ec_8 1 (Nat.le_of_ble_eq_true rfl) rfl w_3_183 ho.s0 ?_
    refine E_if_le (pc := 24) (tgt := 41) ddX9_drift_24 (by decide) (fun h => ?_) (fun h => ?_)
    · have k := k.1 h
      refine E_aload_n (pc := 41) (x := 308) ddX9_drift_41 rfl rfl ?_
      refine E_getR (pc := 42) (x := 309) ddX9_drift_42 ec_8 0 (Nat.le_of_ble_eq_true rfl) rfl w_3_182 ho.s0 ho.r0 (by decide) ?_
      refine E_iconst (pc := 45) (v := 0) ddX9_drift_45 rfl ?_
      refine E_ialdN (pc := 46) (j := 0) ddX9_drift_46 ho.s1 rfl (Nat.le_of_ble_eq_true rfl) (Nat.le_of_ble_eq_true rfl) ?_
      exact E_iret (pc := 47) ddX9_drift_47 rfl k
    · have k := k.2 h
      refine E_aload_n (pc := 27) (x := 308) ddX9_drift_27 rfl rfl ?_
      exact E_callV (pc := 28) (As := []) (st := []) (a := 308) ddX9_drift_28 hX9_remember ⟨(Nat.le_of_ble_eq_true rfl), (Nat.le_of_ble_eq_true rfl)⟩ w_4_192 (ci := 8) rfl rfl ho.s0 rfl rfl (Nat.le_of_ble_eq_true rfl) e_cn (Nat.le_of_ble_eq_true rfl) k
set_option maxRecDepth 100000 in
set_option maxHeartbeats 4000000 in
theorem B_X9_drift_31 {mc ms : Nat} {z : Zt} {I : It} {Q : Option Value → Zt → It → Prop} {x1 x2 : Int32} (ho : isO z)
    (k : E mX9_time 0 0 0 [some (.ref 308), none, none, none] [] z I (fun r z' I' => E mX9_drift mc ms 35 [some (.ref 308), some (.int x1), some (.int x2)] (r.toList ++ []) z' I' Q)) :
    E mX9_drift mc ms 31 [some (.ref 308), some (.int x1), some (.int x2)] [] z I Q := by
  refine E_aload_n (pc := 31) (x := 308) ddX9_drift_31 rfl rfl ?_
  exact E_callV (pc := 32) (As := []) (st := []) (a := 308) ddX9_drift_32 hX9_time ⟨(Nat.le_of_ble_eq_true rfl), (Nat.le_of_ble_eq_true rfl)⟩ w_4_220 (ci := 8) rfl rfl ho.s0 rfl rfl (Nat.le_of_ble_eq_true rfl) e_cn (Nat.le_of_ble_eq_true rfl) k
set_option maxRecDepth 100000 in
set_option maxHeartbeats 4000000 in
theorem B_X9_drift_35 {mc ms : Nat} {z : Zt} {I : It} {Q : Option Value → Zt → It → Prop} {x1 x2 : Int32} (ho : isO z)
    (k : E mX9_drift mc ms 15 [some (.ref 308), some (.int x1), some (.int (x2 + 1))] [] z I Q) :
    E mX9_drift mc ms 35 [some (.ref 308), some (.int x1), some (.int x2)] [] z I Q := by
  refine E_iinc (pc := 35) (v := (x2 + 1)) (ls' := [some (.ref 308), some (.int x1), some (.int (x2 + 1))]) ddX9_drift_35 rfl rfl (Nat.le_of_ble_eq_true rfl) rfl rfl ?_
  refine E_goto (pc := 38) (tgt := 15) ddX9_drift_38 (by decide) ?_
  exact k
/-! X9_undo, labels [49] -/
set_option maxRecDepth 100000 in
set_option maxHeartbeats 4000000 in
theorem B_X9_undo_0 {mc ms : Nat} {z : Zt} {I : It} {Q : Option Value → Zt → It → Prop} {x1 : Int32} (ho : isO z)
    (k : ((x1 < 1) → Q (some (.int (-1000000002))) z I) ∧
    ((¬ x1 < 1) → ((16 < x1) → Q (some (.int (-1000000002))) z I) ∧
    ((¬ 16 < x1) → ((x1 ≤ (I 308 4)) → ∀ I1 : It, I1 = e_st I 308 4 ((I 308 4) - x1) → E mX9_copyRow 0 0 0 [some (.ref 308), some (.int (344 * ((I1 308 4) + 1))), some (.int 0), none] [] z I1 (fun r z' I' => E mX9_undo mc ms 49 [some (.ref 308), none] (r.toList ++ []) z' I' Q)) ∧
    ((¬ x1 ≤ (I 308 4)) → Q (some (.int (-1000000003))) z I)))) :
    E mX9_undo mc ms 0 [some (.ref 308), some (.int x1)] [] z I Q := by
  refine E_iload_n (pc := 0) (x := x1) ddX9_undo_0 rfl rfl ?_
  refine E_iconst (pc := 1) (v := 1) ddX9_undo_1 rfl ?_
  refine E_bipush (pc := 2) (v := 16) ddX9_undo_2 rfl ?_
  refine E_callS (pc := 4) (As := [.int x1, .int 1, .int 16]) (st := []) ddX9_undo_4 hX9_in ⟨(Nat.le_of_ble_eq_true rfl), (Nat.le_of_ble_eq_true rfl)⟩ w_4_13 rfl rfl (Nat.le_of_ble_eq_true rfl) (e_cc rfl (e_cc rfl (e_cc rfl e_cn))) (Nat.le_of_ble_eq_true rfl) ?_
  refine (show E mX9_in 0 0 0 [some (.int x1), some (.int 1), some (.int 16)] [] z I _ from ?_)
  refine E_iload_n (pc := 0) (x := x1) ddX9_in_0 rfl rfl ?_
  refine E_iload_n (pc := 1) (x := 1) ddX9_in_1 rfl rfl ?_
  refine E_icmp_lt (pc := 2) (tgt := 14) ddX9_in_2 (by decide) (fun h => ?_) (fun h => ?_)
  · have k := k.1 h
    refine E_iconst (pc := 14) (v := 0) ddX9_in_14 rfl ?_
    refine E_zret (pc := 15) ddX9_in_15 rfl (by decide) ?_
    refine (show E mX9_undo mc ms 7 [some (.ref 308), some (.int x1)] [.int 0] z I Q from ?_)
    refine E_if_ne (pc := 7) (tgt := 13) ddX9_undo_7 (by decide) (fun h => absurd h (by decide)) (fun _ => ?_)
    refine E_ldc (pc := 10) (v := (-1000000002)) ddX9_undo_10 w_4_16 ?_
    exact E_iret (pc := 12) ddX9_undo_12 rfl k
  · have k := k.2 h
    refine E_iload_n (pc := 5) (x := x1) ddX9_in_5 rfl rfl ?_
    refine E_iload_n (pc := 6) (x := 16) ddX9_in_6 rfl rfl ?_
    refine E_icmp_gt (pc := 7) (tgt := 14) ddX9_in_7 (by decide) (fun h => ?_) (fun h => ?_)
    · have k := k.1 h
      refine E_iconst (pc := 14) (v := 0) ddX9_in_14 rfl ?_
      refine E_zret (pc := 15) ddX9_in_15 rfl (by decide) ?_
      refine (show E mX9_undo mc ms 7 [some (.ref 308), some (.int x1)] [.int 0] z I Q from ?_)
      refine E_if_ne (pc := 7) (tgt := 13) ddX9_undo_7 (by decide) (fun h => absurd h (by decide)) (fun _ => ?_)
      refine E_ldc (pc := 10) (v := (-1000000002)) ddX9_undo_10 w_4_16 ?_
      exact E_iret (pc := 12) ddX9_undo_12 rfl k
    · have k := k.2 h
      refine E_iconst (pc := 10) (v := 1) ddX9_in_10 rfl ?_
      refine E_goto (pc := 11) (tgt := 15) ddX9_in_11 (by decide) ?_
      refine E_zret (pc := 15) ddX9_in_15 rfl (by decide) ?_
      refine (show E mX9_undo mc ms 7 [some (.ref 308), some (.int x1)] [.int 1] z I Q from ?_)
      refine E_if_ne (pc := 7) (tgt := 13) ddX9_undo_7 (by decide) (fun _ => ?_) (fun h => absurd h (by decide))
      refine E_iload_n (pc := 13) (x := x1) ddX9_undo_13 rfl rfl ?_
      refine E_aload_n (pc := 14) (x := 308) ddX9_undo_14 rfl rfl ?_
      refine E_getI (pc := 15) ddX9_undo_15 ec_8 4 (Nat.le_of_ble_eq_true rfl) rfl w_3_186 ho.s0 ?_
      refine E_icmp_le (pc := 18) (tgt := 24) ddX9_undo_18 (by decide) (fun h => ?_) (fun h => ?_)
      · have k := k.1 h
        refine E_aload_n (pc := 24) (x := 308) ddX9_undo_24 rfl rfl ?_
        refine E_dupr (pc := 25) ddX9_undo_25 ?_
        refine E_getI (pc := 26) ddX9_undo_26 ec_8 4 (Nat.le_of_ble_eq_true rfl) rfl w_3_186 ho.s0 ?_
        refine E_iload_n (pc := 29) (x := x1) ddX9_undo_29 rfl rfl ?_
        refine E_isub (pc := 30) ddX9_undo_30 ?_
        obtain ⟨I1, eI1⟩ : ∃ y : It, y = e_st I 308 4 ((I 308 4) - x1) := ⟨_, rfl⟩
        have k := k I1 eI1
        refine E_putI (pc := 31) ddX9_undo_31 ec_8 4 (Nat.le_of_ble_eq_true rfl) rfl w_3_186 ho.s0 rfl rfl ?_
        rw [← eI1]
        refine E_aload_n (pc := 34) (x := 308) ddX9_undo_34 rfl rfl ?_
        refine E_sipush (pc := 35) (v := 344) ddX9_undo_35 rfl ?_
        refine E_aload_n (pc := 38) (x := 308) ddX9_undo_38 rfl rfl ?_
        refine E_getI (pc := 39) ddX9_undo_39 ec_8 4 (Nat.le_of_ble_eq_true rfl) rfl w_3_186 ho.s0 ?_
        refine E_iconst (pc := 42) (v := 1) ddX9_undo_42 rfl ?_
        refine E_iadd (pc := 43) ddX9_undo_43 ?_
        refine E_imul (pc := 44) ddX9_undo_44 ?_
        refine E_iconst (pc := 45) (v := 0) ddX9_undo_45 rfl ?_
        exact E_callV (pc := 46) (As := [.int (344 * ((I1 308 4) + 1)), .int 0]) (st := []) (a := 308) ddX9_undo_46 hX9_copyRow ⟨(Nat.le_of_ble_eq_true rfl), (Nat.le_of_ble_eq_true rfl)⟩ w_4_104 (ci := 8) rfl rfl ho.s0 rfl rfl (Nat.le_of_ble_eq_true rfl) (e_cc rfl (e_cc rfl e_cn)) (Nat.le_of_ble_eq_true rfl) (E.mono k fun _ _ _ q => E.forget q ⟨rfl, trivial⟩)
      · have k := k.2 h
        refine E_ldc (pc := 21) (v := (-1000000003)) ddX9_undo_21 w_4_191 ?_
        exact E_iret (pc := 23) ddX9_undo_23 rfl k
set_option maxRecDepth 100000 in
set_option maxHeartbeats 4000000 in
theorem B_X9_undo_49 {mc ms : Nat} {z : Zt} {I : It} {Q : Option Value → Zt → It → Prop} (ho : isO z)
    (k : Q (some (.int (I 309 0))) z I) :
    E mX9_undo mc ms 49 [some (.ref 308), none] [] z I Q := by
  refine E_aload_n (pc := 49) (x := 308) ddX9_undo_49 rfl rfl ?_
  refine E_getR (pc := 50) (x := 309) ddX9_undo_50 ec_8 0 (Nat.le_of_ble_eq_true rfl) rfl w_3_182 ho.s0 ho.r0 (by decide) ?_
  refine E_iconst (pc := 53) (v := 0) ddX9_undo_53 rfl ?_
  refine E_ialdN (pc := 54) (j := 0) ddX9_undo_54 ho.s1 rfl (Nat.le_of_ble_eq_true rfl) (Nat.le_of_ble_eq_true rfl) ?_
  exact E_iret (pc := 55) ddX9_undo_55 rfl k
/-! X9_write, labels [] -/
set_option maxRecDepth 100000 in
set_option maxHeartbeats 4000000 in
theorem B_X9_write_0 {mc ms : Nat} {z : Zt} {I : It} {Q : Option Value → Zt → It → Prop} {x1 x2 : Int32} (ho : isO z)
    (k : ((x1 < 0) → Q (some (.int (-1000000001))) z I) ∧
    ((¬ x1 < 0) → ((((I 308 1) - 1) < x1) → Q (some (.int (-1000000001))) z I) ∧
    ((¬ ((I 308 1) - 1) < x1) → ((x2 < 0) → Q (some (.int (-1000000001))) z I) ∧
    ((¬ x2 < 0) → ((3 < x2) → Q (some (.int (-1000000001))) z I) ∧
    ((¬ 3 < x2) → ((¬ (I 308 10) = 20) → ∃ j1 : Nat, (I 308 10) = nI j1 ∧ j1 < 20 ∧ ∀ I2 : It, I2 = e_st I 312 j1 x1 → ∃ j3 : Nat, (I2 308 10) = nI j3 ∧ j3 < 20 ∧ ∀ I4 : It, I4 = e_st I2 313 j3 x2 → ∀ I5 : It, I5 = e_st I4 308 10 ((I4 308 10) + 1) → Q (some (.int (I5 308 10))) z I5) ∧
    (((I 308 10) = 20) → Q (some (.int (-1000000004))) z I)))))) :
    E mX9_write mc ms 0 [some (.ref 308), some (.int x1), some (.int x2)] [] z I Q := by
  refine E_aload_n (pc := 0) (x := 308) ddX9_write_0 rfl rfl ?_
  refine E_iload_n (pc := 1) (x := x1) ddX9_write_1 rfl rfl ?_
  refine E_callV (pc := 2) (As := [.int x1]) (st := []) (a := 308) ddX9_write_2 hX9_isWire ⟨(Nat.le_of_ble_eq_true rfl), (Nat.le_of_ble_eq_true rfl)⟩ w_4_147 (ci := 8) rfl rfl ho.s0 rfl rfl (Nat.le_of_ble_eq_true rfl) (e_cc rfl e_cn) (Nat.le_of_ble_eq_true rfl) ?_
  refine (show E mX9_isWire 0 0 0 [some (.ref 308), some (.int x1)] [] z I _ from ?_)
  refine E_iload_n (pc := 0) (x := x1) ddX9_isWire_0 rfl rfl ?_
  refine E_iconst (pc := 1) (v := 0) ddX9_isWire_1 rfl ?_
  refine E_aload_n (pc := 2) (x := 308) ddX9_isWire_2 rfl rfl ?_
  refine E_getI (pc := 3) ddX9_isWire_3 ec_8 1 (Nat.le_of_ble_eq_true rfl) rfl w_3_183 ho.s0 ?_
  refine E_iconst (pc := 6) (v := 1) ddX9_isWire_6 rfl ?_
  refine E_isub (pc := 7) ddX9_isWire_7 ?_
  refine E_callS (pc := 8) (As := [.int x1, .int 0, .int ((I 308 1) - 1)]) (st := []) ddX9_isWire_8 hX9_in ⟨(Nat.le_of_ble_eq_true rfl), (Nat.le_of_ble_eq_true rfl)⟩ w_4_13 rfl rfl (Nat.le_of_ble_eq_true rfl) (e_cc rfl (e_cc rfl (e_cc rfl e_cn))) (Nat.le_of_ble_eq_true rfl) ?_
  refine (show E mX9_in 0 0 0 [some (.int x1), some (.int 0), some (.int ((I 308 1) - 1))] [] z I _ from ?_)
  refine E_iload_n (pc := 0) (x := x1) ddX9_in_0 rfl rfl ?_
  refine E_iload_n (pc := 1) (x := 0) ddX9_in_1 rfl rfl ?_
  refine E_icmp_lt (pc := 2) (tgt := 14) ddX9_in_2 (by decide) (fun h => ?_) (fun h => ?_)
  · have k := k.1 h
    refine E_iconst (pc := 14) (v := 0) ddX9_in_14 rfl ?_
    refine E_zret (pc := 15) ddX9_in_15 rfl (by decide) ?_
    refine (show E mX9_isWire 0 0 11 [some (.ref 308), some (.int x1)] [.int 0] z I _ from ?_)
    refine E_zret (pc := 11) ddX9_isWire_11 rfl (by decide) ?_
    refine (show E mX9_write mc ms 5 [some (.ref 308), some (.int x1), some (.int x2)] [.int 0] z I Q from ?_)
    refine E_if_eq (pc := 5) (tgt := 15) ddX9_write_5 (by decide) (fun _ => ?_) (fun h => absurd h (by decide))
    refine E_ldc (pc := 15) (v := (-1000000001)) ddX9_write_15 w_4_155 ?_
    exact E_iret (pc := 17) ddX9_write_17 rfl k
  · have k := k.2 h
    refine E_iload_n (pc := 5) (x := x1) ddX9_in_5 rfl rfl ?_
    refine E_iload_n (pc := 6) (x := ((I 308 1) - 1)) ddX9_in_6 rfl rfl ?_
    refine E_icmp_gt (pc := 7) (tgt := 14) ddX9_in_7 (by decide) (fun h => ?_) (fun h => ?_)
    · have k := k.1 h
      refine E_iconst (pc := 14) (v := 0) ddX9_in_14 rfl ?_
      refine E_zret (pc := 15) ddX9_in_15 rfl (by decide) ?_
      refine (show E mX9_isWire 0 0 11 [some (.ref 308), some (.int x1)] [.int 0] z I _ from ?_)
      refine E_zret (pc := 11) ddX9_isWire_11 rfl (by decide) ?_
      refine (show E mX9_write mc ms 5 [some (.ref 308), some (.int x1), some (.int x2)] [.int 0] z I Q from ?_)
      refine E_if_eq (pc := 5) (tgt := 15) ddX9_write_5 (by decide) (fun _ => ?_) (fun h => absurd h (by decide))
      refine E_ldc (pc := 15) (v := (-1000000001)) ddX9_write_15 w_4_155 ?_
      exact E_iret (pc := 17) ddX9_write_17 rfl k
    · have k := k.2 h
      refine E_iconst (pc := 10) (v := 1) ddX9_in_10 rfl ?_
      refine E_goto (pc := 11) (tgt := 15) ddX9_in_11 (by decide) ?_
      refine E_zret (pc := 15) ddX9_in_15 rfl (by decide) ?_
      refine (show E mX9_isWire 0 0 11 [some (.ref 308), some (.int x1)] [.int 1] z I _ from ?_)
      refine E_zret (pc := 11) ddX9_isWire_11 rfl (by decide) ?_
      refine (show E mX9_write mc ms 5 [some (.ref 308), some (.int x1), some (.int x2)] [.int 1] z I Q from ?_)
      refine E_if_eq (pc := 5) (tgt := 15) ddX9_write_5 (by decide) (fun h => absurd h (by decide)) (fun _ => ?_)
      refine E_iload_n (pc := 8) (x := x2) ddX9_write_8 rfl rfl ?_
      refine E_callS (pc := 9) (As := [.int x2]) (st := []) ddX9_write_9 hX9_isLevel ⟨(Nat.le_of_ble_eq_true rfl), (Nat.le_of_ble_eq_true rfl)⟩ w_4_180 rfl rfl (Nat.le_of_ble_eq_true rfl) (e_cc rfl e_cn) (Nat.le_of_ble_eq_true rfl) ?_
      refine (show E mX9_isLevel 0 0 0 [some (.int x2)] [] z I _ from ?_)
      refine E_iload_n (pc := 0) (x := x2) ddX9_isLevel_0 rfl rfl ?_
      refine E_iconst (pc := 1) (v := 0) ddX9_isLevel_1 rfl ?_
      refine E_iconst (pc := 2) (v := 3) ddX9_isLevel_2 rfl ?_
      refine E_callS (pc := 3) (As := [.int x2, .int 0, .int 3]) (st := []) ddX9_isLevel_3 hX9_in ⟨(Nat.le_of_ble_eq_true rfl), (Nat.le_of_ble_eq_true rfl)⟩ w_4_13 rfl rfl (Nat.le_of_ble_eq_true rfl) (e_cc rfl (e_cc rfl (e_cc rfl e_cn))) (Nat.le_of_ble_eq_true rfl) ?_
      refine (show E mX9_in 0 0 0 [some (.int x2), some (.int 0), some (.int 3)] [] z I _ from ?_)
      refine E_iload_n (pc := 0) (x := x2) ddX9_in_0 rfl rfl ?_
      refine E_iload_n (pc := 1) (x := 0) ddX9_in_1 rfl rfl ?_
      refine E_icmp_lt (pc := 2) (tgt := 14) ddX9_in_2 (by decide) (fun h => ?_) (fun h => ?_)
      · have k := k.1 h
        refine E_iconst (pc := 14) (v := 0) ddX9_in_14 rfl ?_
        refine E_zret (pc := 15) ddX9_in_15 rfl (by decide) ?_
        refine (show E mX9_isLevel 0 0 6 [some (.int x2)] [.int 0] z I _ from ?_)
        refine E_zret (pc := 6) ddX9_isLevel_6 rfl (by decide) ?_
        refine (show E mX9_write mc ms 12 [some (.ref 308), some (.int x1), some (.int x2)] [.int 0] z I Q from ?_)
        refine E_if_ne (pc := 12) (tgt := 18) ddX9_write_12 (by decide) (fun h => absurd h (by decide)) (fun _ => ?_)
        refine E_ldc (pc := 15) (v := (-1000000001)) ddX9_write_15 w_4_155 ?_
        exact E_iret (pc := 17) ddX9_write_17 rfl k
      · have k := k.2 h
        refine E_iload_n (pc := 5) (x := x2) ddX9_in_5 rfl rfl ?_
        refine E_iload_n (pc := 6) (x := 3) ddX9_in_6 rfl rfl ?_
        refine E_icmp_gt (pc := 7) (tgt := 14) ddX9_in_7 (by decide) (fun h => ?_) (fun h => ?_)
        · have k := k.1 h
          refine E_iconst (pc := 14) (v := 0) ddX9_in_14 rfl ?_
          refine E_zret (pc := 15) ddX9_in_15 rfl (by decide) ?_
          refine (show E mX9_isLevel 0 0 6 [some (.int x2)] [.int 0] z I _ from ?_)
          refine E_zret (pc := 6) ddX9_isLevel_6 rfl (by decide) ?_
          refine (show E mX9_write mc ms 12 [some (.ref 308), some (.int x1), some (.int x2)] [.int 0] z I Q from ?_)
          refine E_if_ne (pc := 12) (tgt := 18) ddX9_write_12 (by decide) (fun h => absurd h (by decide)) (fun _ => ?_)
          refine E_ldc (pc := 15) (v := (-1000000001)) ddX9_write_15 w_4_155 ?_
          exact E_iret (pc := 17) ddX9_write_17 rfl k
        · have k := k.2 h
          refine E_iconst (pc := 10) (v := 1) ddX9_in_10 rfl ?_
          refine E_goto (pc := 11) (tgt := 15) ddX9_in_11 (by decide) ?_
          refine E_zret (pc := 15) ddX9_in_15 rfl (by decide) ?_
          refine (show E mX9_isLevel 0 0 6 [some (.int x2)] [.int 1] z I _ from ?_)
          refine E_zret (pc := 6) ddX9_isLevel_6 rfl (by decide) ?_
          refine (show E mX9_write mc ms 12 [some (.ref 308), some (.int x1), some (.int x2)] [.int 1] z I Q from ?_)
          refine E_if_ne (pc := 12) (tgt := 18) ddX9_write_12 (by decide) (fun _ => ?_) (fun h => absurd h (by decide))
          refine E_aload_n (pc := 18) (x := 308) ddX9_write_18 rfl rfl ?_
          refine E_getI (pc := 19) ddX9_write_19 ec_8 10 (Nat.le_of_ble_eq_true rfl) rfl w_3_192 ho.s0 ?_
          refine E_bipush (pc := 22) (v := 20) ddX9_write_22 rfl ?_
          refine E_icmp_ne (pc := 24) (tgt := 30) ddX9_write_24 (by decide) (fun h => ?_) (fun h => ?_)
          · have k := k.1 h
            refine E_aload_n (pc := 30) (x := 308) ddX9_write_30 rfl rfl ?_
            refine E_getR (pc := 31) (x := 312) ddX9_write_31 ec_8 8 (Nat.le_of_ble_eq_true rfl) rfl w_3_190 ho.s0 ho.r8 (by decide) ?_
            refine E_aload_n (pc := 34) (x := 308) ddX9_write_34 rfl rfl ?_
            refine E_getI (pc := 35) ddX9_write_35 ec_8 10 (Nat.le_of_ble_eq_true rfl) rfl w_3_192 ho.s0 ?_
            refine E_iload_n (pc := 38) (x := x1) ddX9_write_38 rfl rfl ?_
            obtain ⟨j1, ij1, lj1, k⟩ := k
            obtain ⟨I2, eI2⟩ : ∃ y : It, y = e_st I 312 j1 x1 := ⟨_, rfl⟩
            have k := k I2 eI2
            refine E_iastN (pc := 39) (j := j1) ddX9_write_39 ho.s4 (by decide) ij1 lj1 (Nat.le_of_ble_eq_true rfl) ?_
            rw [← eI2]
            refine E_aload_n (pc := 40) (x := 308) ddX9_write_40 rfl rfl ?_
            refine E_getR (pc := 41) (x := 313) ddX9_write_41 ec_8 9 (Nat.le_of_ble_eq_true rfl) rfl w_3_191 ho.s0 ho.r9 (by decide) ?_
            refine E_aload_n (pc := 44) (x := 308) ddX9_write_44 rfl rfl ?_
            refine E_getI (pc := 45) ddX9_write_45 ec_8 10 (Nat.le_of_ble_eq_true rfl) rfl w_3_192 ho.s0 ?_
            refine E_iload_n (pc := 48) (x := x2) ddX9_write_48 rfl rfl ?_
            obtain ⟨j3, ij3, lj3, k⟩ := k
            obtain ⟨I4, eI4⟩ : ∃ y : It, y = e_st I2 313 j3 x2 := ⟨_, rfl⟩
            have k := k I4 eI4
            refine E_iastN (pc := 49) (j := j3) ddX9_write_49 ho.s5 (by decide) ij3 lj3 (Nat.le_of_ble_eq_true rfl) ?_
            rw [← eI4]
            refine E_aload_n (pc := 50) (x := 308) ddX9_write_50 rfl rfl ?_
            refine E_dupr (pc := 51) ddX9_write_51 ?_
            refine E_getI (pc := 52) ddX9_write_52 ec_8 10 (Nat.le_of_ble_eq_true rfl) rfl w_3_192 ho.s0 ?_
            refine E_iconst (pc := 55) (v := 1) ddX9_write_55 rfl ?_
            refine E_iadd (pc := 56) ddX9_write_56 ?_
            obtain ⟨I5, eI5⟩ : ∃ y : It, y = e_st I4 308 10 ((I4 308 10) + 1) := ⟨_, rfl⟩
            have k := k I5 eI5
            refine E_putI (pc := 57) ddX9_write_57 ec_8 10 (Nat.le_of_ble_eq_true rfl) rfl w_3_192 ho.s0 rfl rfl ?_
            rw [← eI5]
            refine E_aload_n (pc := 60) (x := 308) ddX9_write_60 rfl rfl ?_
            refine E_getI (pc := 61) ddX9_write_61 ec_8 10 (Nat.le_of_ble_eq_true rfl) rfl w_3_192 ho.s0 ?_
            exact E_iret (pc := 64) ddX9_write_64 rfl k
          · have k := k.2 h
            refine E_ldc (pc := 27) (v := (-1000000004)) ddX9_write_27 w_4_17 ?_
            exact E_iret (pc := 29) ddX9_write_29 rfl k
/-! X9_tear, labels [] -/
set_option maxRecDepth 100000 in
set_option maxHeartbeats 4000000 in
theorem B_X9_tear_0 {mc ms : Nat} {z : Zt} {I : It} {Q : Option Value → Zt → It → Prop} (ho : isO z)
    (k : ∀ v1 : Int32, v1 = (I 308 10) → ∀ I2 : It, I2 = e_st I 308 10 0 → Q (some (.int v1)) z I2) :
    E mX9_tear mc ms 0 [some (.ref 308), none] [] z I Q := by
  refine E_aload_n (pc := 0) (x := 308) ddX9_tear_0 rfl rfl ?_
  refine E_getI (pc := 1) ddX9_tear_1 ec_8 10 (Nat.le_of_ble_eq_true rfl) rfl w_3_192 ho.s0 ?_
  obtain ⟨v1, ev1⟩ : ∃ y : Int32, y = (I 308 10) := ⟨_, rfl⟩
  have k := k v1 ev1
  rw [← ev1]
  refine E_istore_n (pc := 4) (ls' := [some (.ref 308), some (.int v1)]) ddX9_tear_4 rfl (Nat.le_of_ble_eq_true rfl) rfl rfl ?_
  refine E_aload_n (pc := 5) (x := 308) ddX9_tear_5 rfl rfl ?_
  refine E_iconst (pc := 6) (v := 0) ddX9_tear_6 rfl ?_
  obtain ⟨I2, eI2⟩ : ∃ y : It, y = e_st I 308 10 0 := ⟨_, rfl⟩
  have k := k I2 eI2
  refine E_putI (pc := 7) ddX9_tear_7 ec_8 10 (Nat.le_of_ble_eq_true rfl) rfl w_3_192 ho.s0 rfl rfl ?_
  rw [← eI2]
  refine E_iload_n (pc := 10) (x := v1) ddX9_tear_10 rfl rfl ?_
  exact E_iret (pc := 11) ddX9_tear_11 rfl k
/-! X9_seed, labels [] -/
set_option maxRecDepth 100000 in
set_option maxHeartbeats 4000000 in
theorem B_X9_seed_0 {mc ms : Nat} {z : Zt} {I : It} {Q : Option Value → Zt → It → Prop} {x1 : Int32} (ho : isO z)
    (k : ((0 ≤ x1) → ∀ v1 : Int32, v1 = (I 308 6) → ∀ I2 : It, I2 = e_st I 308 6 x1 → Q (some (.int v1)) z I2) ∧
    ((¬ 0 ≤ x1) → Q (some (.int (-1000000002))) z I)) :
    E mX9_seed mc ms 0 [some (.ref 308), some (.int x1), none] [] z I Q := by
  refine E_iload_n (pc := 0) (x := x1) ddX9_seed_0 rfl rfl ?_
  refine E_if_ge (pc := 1) (tgt := 7) ddX9_seed_1 (by decide) (fun h => ?_) (fun h => ?_)
  · have k := k.1 h
    refine E_aload_n (pc := 7) (x := 308) ddX9_seed_7 rfl rfl ?_
    refine E_getI (pc := 8) ddX9_seed_8 ec_8 6 (Nat.le_of_ble_eq_true rfl) rfl w_3_188 ho.s0 ?_
    obtain ⟨v1, ev1⟩ : ∃ y : Int32, y = (I 308 6) := ⟨_, rfl⟩
    have k := k v1 ev1
    rw [← ev1]
    refine E_istore_n (pc := 11) (ls' := [some (.ref 308), some (.int x1), some (.int v1)]) ddX9_seed_11 rfl (Nat.le_of_ble_eq_true rfl) rfl rfl ?_
    refine E_aload_n (pc := 12) (x := 308) ddX9_seed_12 rfl rfl ?_
    refine E_iload_n (pc := 13) (x := x1) ddX9_seed_13 rfl rfl ?_
    obtain ⟨I2, eI2⟩ : ∃ y : It, y = e_st I 308 6 x1 := ⟨_, rfl⟩
    have k := k I2 eI2
    refine E_putI (pc := 14) ddX9_seed_14 ec_8 6 (Nat.le_of_ble_eq_true rfl) rfl w_3_188 ho.s0 rfl rfl ?_
    rw [← eI2]
    refine E_iload_n (pc := 17) (x := v1) ddX9_seed_17 rfl rfl ?_
    exact E_iret (pc := 18) ddX9_seed_18 rfl k
  · have k := k.2 h
    refine E_ldc (pc := 4) (v := (-1000000002)) ddX9_seed_4 w_4_16 ?_
    exact E_iret (pc := 6) ddX9_seed_6 rfl k
/-! X9_keep, labels [26] -/
set_option maxRecDepth 100000 in
set_option maxHeartbeats 4000000 in
theorem B_X9_keep_0 {mc ms : Nat} {z : Zt} {I : It} {Q : Option Value → Zt → It → Prop} {x1 : Int32} (ho : isO z)
    (k : ((x1 < 0) → Q (some (.int (-1000000001))) z I) ∧
    ((¬ x1 < 0) → ((1 < x1) → Q (some (.int (-1000000001))) z I) ∧
    ((¬ 1 < x1) → E mX9_copyRow 0 0 0 [some (.ref 308), some (.int 0), some (.int (5848 + (344 * x1))), none] [] z I (fun r z' I' => E mX9_keep mc ms 26 [some (.ref 308), some (.int x1)] (r.toList ++ []) z' I' Q)))) :
    E mX9_keep mc ms 0 [some (.ref 308), some (.int x1)] [] z I Q := by
  refine E_iload_n (pc := 0) (x := x1) ddX9_keep_0 rfl rfl ?_
  refine E_iconst (pc := 1) (v := 0) ddX9_keep_1 rfl ?_
  refine E_iconst (pc := 2) (v := 1) ddX9_keep_2 rfl ?_
  refine E_callS (pc := 3) (As := [.int x1, .int 0, .int 1]) (st := []) ddX9_keep_3 hX9_in ⟨(Nat.le_of_ble_eq_true rfl), (Nat.le_of_ble_eq_true rfl)⟩ w_4_13 rfl rfl (Nat.le_of_ble_eq_true rfl) (e_cc rfl (e_cc rfl (e_cc rfl e_cn))) (Nat.le_of_ble_eq_true rfl) ?_
  refine (show E mX9_in 0 0 0 [some (.int x1), some (.int 0), some (.int 1)] [] z I _ from ?_)
  refine E_iload_n (pc := 0) (x := x1) ddX9_in_0 rfl rfl ?_
  refine E_iload_n (pc := 1) (x := 0) ddX9_in_1 rfl rfl ?_
  refine E_icmp_lt (pc := 2) (tgt := 14) ddX9_in_2 (by decide) (fun h => ?_) (fun h => ?_)
  · have k := k.1 h
    refine E_iconst (pc := 14) (v := 0) ddX9_in_14 rfl ?_
    refine E_zret (pc := 15) ddX9_in_15 rfl (by decide) ?_
    refine (show E mX9_keep mc ms 6 [some (.ref 308), some (.int x1)] [.int 0] z I Q from ?_)
    refine E_if_ne (pc := 6) (tgt := 12) ddX9_keep_6 (by decide) (fun h => absurd h (by decide)) (fun _ => ?_)
    refine E_ldc (pc := 9) (v := (-1000000001)) ddX9_keep_9 w_4_155 ?_
    exact E_iret (pc := 11) ddX9_keep_11 rfl k
  · have k := k.2 h
    refine E_iload_n (pc := 5) (x := x1) ddX9_in_5 rfl rfl ?_
    refine E_iload_n (pc := 6) (x := 1) ddX9_in_6 rfl rfl ?_
    refine E_icmp_gt (pc := 7) (tgt := 14) ddX9_in_7 (by decide) (fun h => ?_) (fun h => ?_)
    · have k := k.1 h
      refine E_iconst (pc := 14) (v := 0) ddX9_in_14 rfl ?_
      refine E_zret (pc := 15) ddX9_in_15 rfl (by decide) ?_
      refine (show E mX9_keep mc ms 6 [some (.ref 308), some (.int x1)] [.int 0] z I Q from ?_)
      refine E_if_ne (pc := 6) (tgt := 12) ddX9_keep_6 (by decide) (fun h => absurd h (by decide)) (fun _ => ?_)
      refine E_ldc (pc := 9) (v := (-1000000001)) ddX9_keep_9 w_4_155 ?_
      exact E_iret (pc := 11) ddX9_keep_11 rfl k
    · have k := k.2 h
      refine E_iconst (pc := 10) (v := 1) ddX9_in_10 rfl ?_
      refine E_goto (pc := 11) (tgt := 15) ddX9_in_11 (by decide) ?_
      refine E_zret (pc := 15) ddX9_in_15 rfl (by decide) ?_
      refine (show E mX9_keep mc ms 6 [some (.ref 308), some (.int x1)] [.int 1] z I Q from ?_)
      refine E_if_ne (pc := 6) (tgt := 12) ddX9_keep_6 (by decide) (fun _ => ?_) (fun h => absurd h (by decide))
      refine E_aload_n (pc := 12) (x := 308) ddX9_keep_12 rfl rfl ?_
      refine E_iconst (pc := 13) (v := 0) ddX9_keep_13 rfl ?_
      refine E_sipush (pc := 14) (v := 5848) ddX9_keep_14 rfl ?_
      refine E_sipush (pc := 17) (v := 344) ddX9_keep_17 rfl ?_
      refine E_iload_n (pc := 20) (x := x1) ddX9_keep_20 rfl rfl ?_
      refine E_imul (pc := 21) ddX9_keep_21 ?_
      refine E_iadd (pc := 22) ddX9_keep_22 ?_
      exact E_callV (pc := 23) (As := [.int 0, .int (5848 + (344 * x1))]) (st := []) (a := 308) ddX9_keep_23 hX9_copyRow ⟨(Nat.le_of_ble_eq_true rfl), (Nat.le_of_ble_eq_true rfl)⟩ w_4_104 (ci := 8) rfl rfl ho.s0 rfl rfl (Nat.le_of_ble_eq_true rfl) (e_cc rfl (e_cc rfl e_cn)) (Nat.le_of_ble_eq_true rfl) k
set_option maxRecDepth 100000 in
set_option maxHeartbeats 4000000 in
theorem B_X9_keep_26 {mc ms : Nat} {z : Zt} {I : It} {Q : Option Value → Zt → It → Prop} {x1 : Int32} (ho : isO z)
    (k : ∃ j1 : Nat, x1 = nI j1 ∧ j1 < 2 ∧ ∀ I2 : It, I2 = e_st I 311 j1 (I 308 6) → ∀ I3 : It, I3 = e_st I2 308 5 ((I2 308 5) ||| (1 <<< (x1 &&& 31))) → ∀ I4 : It, I4 = e_st I3 308 4 0 → Q (some (.int 1)) z I4) :
    E mX9_keep mc ms 26 [some (.ref 308), some (.int x1)] [] z I Q := by
  refine E_aload_n (pc := 26) (x := 308) ddX9_keep_26 rfl rfl ?_
  refine E_getR (pc := 27) (x := 311) ddX9_keep_27 ec_8 7 (Nat.le_of_ble_eq_true rfl) rfl w_3_189 ho.s0 ho.r7 (by decide) ?_
  refine E_iload_n (pc := 30) (x := x1) ddX9_keep_30 rfl rfl ?_
  refine E_aload_n (pc := 31) (x := 308) ddX9_keep_31 rfl rfl ?_
  refine E_getI (pc := 32) ddX9_keep_32 ec_8 6 (Nat.le_of_ble_eq_true rfl) rfl w_3_188 ho.s0 ?_
  obtain ⟨j1, ij1, lj1, k⟩ := k
  obtain ⟨I2, eI2⟩ : ∃ y : It, y = e_st I 311 j1 (I 308 6) := ⟨_, rfl⟩
  have k := k I2 eI2
  refine E_iastN (pc := 35) (j := j1) ddX9_keep_35 ho.s3 (by decide) ij1 lj1 (Nat.le_of_ble_eq_true rfl) ?_
  rw [← eI2]
  refine E_aload_n (pc := 36) (x := 308) ddX9_keep_36 rfl rfl ?_
  refine E_dupr (pc := 37) ddX9_keep_37 ?_
  refine E_getI (pc := 38) ddX9_keep_38 ec_8 5 (Nat.le_of_ble_eq_true rfl) rfl w_3_187 ho.s0 ?_
  refine E_iconst (pc := 41) (v := 1) ddX9_keep_41 rfl ?_
  refine E_iload_n (pc := 42) (x := x1) ddX9_keep_42 rfl rfl ?_
  refine E_ishl (pc := 43) ddX9_keep_43 ?_
  refine E_ior (pc := 44) ddX9_keep_44 ?_
  obtain ⟨I3, eI3⟩ : ∃ y : It, y = e_st I2 308 5 ((I2 308 5) ||| (1 <<< (x1 &&& 31))) := ⟨_, rfl⟩
  have k := k I3 eI3
  refine E_putI (pc := 45) ddX9_keep_45 ec_8 5 (Nat.le_of_ble_eq_true rfl) rfl w_3_187 ho.s0 rfl rfl ?_
  rw [← eI3]
  refine E_aload_n (pc := 48) (x := 308) ddX9_keep_48 rfl rfl ?_
  refine E_iconst (pc := 49) (v := 0) ddX9_keep_49 rfl ?_
  obtain ⟨I4, eI4⟩ : ∃ y : It, y = e_st I3 308 4 0 := ⟨_, rfl⟩
  have k := k I4 eI4
  refine E_putI (pc := 50) ddX9_keep_50 ec_8 4 (Nat.le_of_ble_eq_true rfl) rfl w_3_186 ho.s0 rfl rfl ?_
  rw [← eI4]
  refine E_iconst (pc := 53) (v := 1) ddX9_keep_53 rfl ?_
  exact E_iret (pc := 54) ddX9_keep_54 rfl k
/-! X9_goBack, labels [40] -/
set_option maxRecDepth 100000 in
set_option maxHeartbeats 4000000 in
theorem B_X9_goBack_0 {mc ms : Nat} {z : Zt} {I : It} {Q : Option Value → Zt → It → Prop} {x1 : Int32} (ho : isO z)
    (k : ((x1 < 0) → Q (some (.int (-1000000001))) z I) ∧
    ((¬ x1 < 0) → ((1 < x1) → Q (some (.int (-1000000001))) z I) ∧
    ((¬ 1 < x1) → ((¬ (((I 308 5) >>> (x1 &&& 31)) &&& 1) = 0) → E mX9_copyRow 0 0 0 [some (.ref 308), some (.int (5848 + (344 * x1))), some (.int 0), none] [] z I (fun r z' I' => E mX9_goBack mc ms 40 [some (.ref 308), some (.int x1)] (r.toList ++ []) z' I' Q)) ∧
    (((((I 308 5) >>> (x1 &&& 31)) &&& 1) = 0) → Q (some (.int (-1000000003))) z I)))) :
    E mX9_goBack mc ms 0 [some (.ref 308), some (.int x1)] [] z I Q := by
  refine E_iload_n (pc := 0) (x := x1) ddX9_goBack_0 rfl rfl ?_
  refine E_iconst (pc := 1) (v := 0) ddX9_goBack_1 rfl ?_
  refine E_iconst (pc := 2) (v := 1) ddX9_goBack_2 rfl ?_
  refine E_callS (pc := 3) (As := [.int x1, .int 0, .int 1]) (st := []) ddX9_goBack_3 hX9_in ⟨(Nat.le_of_ble_eq_true rfl), (Nat.le_of_ble_eq_true rfl)⟩ w_4_13 rfl rfl (Nat.le_of_ble_eq_true rfl) (e_cc rfl (e_cc rfl (e_cc rfl e_cn))) (Nat.le_of_ble_eq_true rfl) ?_
  refine (show E mX9_in 0 0 0 [some (.int x1), some (.int 0), some (.int 1)] [] z I _ from ?_)
  refine E_iload_n (pc := 0) (x := x1) ddX9_in_0 rfl rfl ?_
  refine E_iload_n (pc := 1) (x := 0) ddX9_in_1 rfl rfl ?_
  refine E_icmp_lt (pc := 2) (tgt := 14) ddX9_in_2 (by decide) (fun h => ?_) (fun h => ?_)
  · have k := k.1 h
    refine E_iconst (pc := 14) (v := 0) ddX9_in_14 rfl ?_
    refine E_zret (pc := 15) ddX9_in_15 rfl (by decide) ?_
    refine (show E mX9_goBack mc ms 6 [some (.ref 308), some (.int x1)] [.int 0] z I Q from ?_)
    refine E_if_ne (pc := 6) (tgt := 12) ddX9_goBack_6 (by decide) (fun h => absurd h (by decide)) (fun _ => ?_)
    refine E_ldc (pc := 9) (v := (-1000000001)) ddX9_goBack_9 w_4_155 ?_
    exact E_iret (pc := 11) ddX9_goBack_11 rfl k
  · have k := k.2 h
    refine E_iload_n (pc := 5) (x := x1) ddX9_in_5 rfl rfl ?_
    refine E_iload_n (pc := 6) (x := 1) ddX9_in_6 rfl rfl ?_
    refine E_icmp_gt (pc := 7) (tgt := 14) ddX9_in_7 (by decide) (fun h => ?_) (fun h => ?_)
    · have k := k.1 h
      refine E_iconst (pc := 14) (v := 0) ddX9_in_14 rfl ?_
      refine E_zret (pc := 15) ddX9_in_15 rfl (by decide) ?_
      refine (show E mX9_goBack mc ms 6 [some (.ref 308), some (.int x1)] [.int 0] z I Q from ?_)
      refine E_if_ne (pc := 6) (tgt := 12) ddX9_goBack_6 (by decide) (fun h => absurd h (by decide)) (fun _ => ?_)
      refine E_ldc (pc := 9) (v := (-1000000001)) ddX9_goBack_9 w_4_155 ?_
      exact E_iret (pc := 11) ddX9_goBack_11 rfl k
    · have k := k.2 h
      refine E_iconst (pc := 10) (v := 1) ddX9_in_10 rfl ?_
      refine E_goto (pc := 11) (tgt := 15) ddX9_in_11 (by decide) ?_
      refine E_zret (pc := 15) ddX9_in_15 rfl (by decide) ?_
      refine (show E mX9_goBack mc ms 6 [some (.ref 308), some (.int x1)] [.int 1] z I Q from ?_)
      refine E_if_ne (pc := 6) (tgt := 12) ddX9_goBack_6 (by decide) (fun _ => ?_) (fun h => absurd h (by decide))
      refine E_aload_n (pc := 12) (x := 308) ddX9_goBack_12 rfl rfl ?_
      refine E_getI (pc := 13) ddX9_goBack_13 ec_8 5 (Nat.le_of_ble_eq_true rfl) rfl w_3_187 ho.s0 ?_
      refine E_iload_n (pc := 16) (x := x1) ddX9_goBack_16 rfl rfl ?_
      refine E_ishr (pc := 17) ddX9_goBack_17 ?_
      refine E_iconst (pc := 18) (v := 1) ddX9_goBack_18 rfl ?_
      refine E_iand (pc := 19) ddX9_goBack_19 ?_
      refine E_if_ne (pc := 20) (tgt := 26) ddX9_goBack_20 (by decide) (fun h => ?_) (fun h => ?_)
      · have k := k.1 h
        refine E_aload_n (pc := 26) (x := 308) ddX9_goBack_26 rfl rfl ?_
        refine E_sipush (pc := 27) (v := 5848) ddX9_goBack_27 rfl ?_
        refine E_sipush (pc := 30) (v := 344) ddX9_goBack_30 rfl ?_
        refine E_iload_n (pc := 33) (x := x1) ddX9_goBack_33 rfl rfl ?_
        refine E_imul (pc := 34) ddX9_goBack_34 ?_
        refine E_iadd (pc := 35) ddX9_goBack_35 ?_
        refine E_iconst (pc := 36) (v := 0) ddX9_goBack_36 rfl ?_
        exact E_callV (pc := 37) (As := [.int (5848 + (344 * x1)), .int 0]) (st := []) (a := 308) ddX9_goBack_37 hX9_copyRow ⟨(Nat.le_of_ble_eq_true rfl), (Nat.le_of_ble_eq_true rfl)⟩ w_4_104 (ci := 8) rfl rfl ho.s0 rfl rfl (Nat.le_of_ble_eq_true rfl) (e_cc rfl (e_cc rfl e_cn)) (Nat.le_of_ble_eq_true rfl) k
      · have k := k.2 h
        refine E_ldc (pc := 23) (v := (-1000000003)) ddX9_goBack_23 w_4_191 ?_
        exact E_iret (pc := 25) ddX9_goBack_25 rfl k
set_option maxRecDepth 100000 in
set_option maxHeartbeats 4000000 in
theorem B_X9_goBack_40 {mc ms : Nat} {z : Zt} {I : It} {Q : Option Value → Zt → It → Prop} {x1 : Int32} (ho : isO z)
    (k : ∃ j1 : Nat, x1 = nI j1 ∧ j1 < 2 ∧ ∀ I2 : It, I2 = e_st I 308 6 (I 311 j1) → ∀ I3 : It, I3 = e_st I2 308 4 0 → Q (some (.int 1)) z I3) :
    E mX9_goBack mc ms 40 [some (.ref 308), some (.int x1)] [] z I Q := by
  refine E_aload_n (pc := 40) (x := 308) ddX9_goBack_40 rfl rfl ?_
  refine E_aload_n (pc := 41) (x := 308) ddX9_goBack_41 rfl rfl ?_
  refine E_getR (pc := 42) (x := 311) ddX9_goBack_42 ec_8 7 (Nat.le_of_ble_eq_true rfl) rfl w_3_189 ho.s0 ho.r7 (by decide) ?_
  refine E_iload_n (pc := 45) (x := x1) ddX9_goBack_45 rfl rfl ?_
  obtain ⟨j1, ij1, lj1, k⟩ := k
  refine E_ialdN (pc := 46) (j := j1) ddX9_goBack_46 ho.s3 ij1 lj1 (Nat.le_of_ble_eq_true rfl) ?_
  obtain ⟨I2, eI2⟩ : ∃ y : It, y = e_st I 308 6 (I 311 j1) := ⟨_, rfl⟩
  have k := k I2 eI2
  refine E_putI (pc := 47) ddX9_goBack_47 ec_8 6 (Nat.le_of_ble_eq_true rfl) rfl w_3_188 ho.s0 rfl rfl ?_
  rw [← eI2]
  refine E_aload_n (pc := 50) (x := 308) ddX9_goBack_50 rfl rfl ?_
  refine E_iconst (pc := 51) (v := 0) ddX9_goBack_51 rfl ?_
  obtain ⟨I3, eI3⟩ : ∃ y : It, y = e_st I2 308 4 0 := ⟨_, rfl⟩
  have k := k I3 eI3
  refine E_putI (pc := 52) ddX9_goBack_52 ec_8 4 (Nat.le_of_ble_eq_true rfl) rfl w_3_186 ho.s0 rfl rfl ?_
  rw [← eI3]
  refine E_iconst (pc := 55) (v := 1) ddX9_goBack_55 rfl ?_
  exact E_iret (pc := 56) ddX9_goBack_56 rfl k
