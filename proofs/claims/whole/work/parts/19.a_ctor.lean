/-! ===== constructors ===== -/
theorem i_nw_id {z : Zt} {I : It} (h : I z.1 = fun _ => 0) : i_nw z I = I := by
  funext a k
  unfold i_nw
  split
  next e => rw [e, h]
  next => rfl
/-- below m all is as it was -/
def zE (m : Nat) (z z' : Zt) : Prop := ∀ a, a < m → z'.2.1 a = z.2.1 a ∧ z'.2.2 a = z.2.2 a
theorem zE.rf {m : Nat} {z : Zt} : zE m z z := fun _ _ => ⟨rfl, rfl⟩
theorem zE.tr {m : Nat} {z z' z'' : Zt} (h : zE m z z') (h' : zE m z' z'') : zE m z z'' := fun a ha => ⟨(h' a ha).1.trans (h a ha).1, (h' a ha).2.trans (h a ha).2⟩
theorem zE.nw {m : Nat} {z : Zt} {s : Nat × Nat} (h : m ≤ z.1) : zE m z (z_nw z s) := fun a ha => ⟨if_neg (by omega), funext fun _ => if_neg (by omega)⟩
theorem zE.put {m n k x : Nat} {z : Zt} (h : m ≤ n) : zE m z (z_rf z n k x) := fun a ha => ⟨rfl, funext fun _ => if_neg (by omega)⟩
theorem zE.le {m n : Nat} {z z' : Zt} (h : zE n z z') (hm : m ≤ n) : zE m z z' := fun a ha => h a (by omega)
/-- an object at m of class ci, and its first j arrays behind it -/
def bld (z0 : Zt) (m ci : Nat) (F L : Nat → Nat) (j : Nat) (z : Zt) : Prop := z.1 = m + 1 + j ∧ zE m z0 z ∧ z.2.1 m = (1, ci) ∧ ∀ i, i < j → z.2.1 (m + 1 + i) = (2, L i) ∧ z.2.2 m (F i) = m + 1 + i
theorem bld.step {z0 z : Zt} {m ci : Nat} {F L : Nat → Nat} {j N k : Nat} (h : bld z0 m ci F L j z) (hk : F j = k) (hN : L j = N) (hF : ∀ i, i < j → F i ≠ k) : bld z0 m ci F L (j + 1) (z_rf (z_nw z (2, N)) m k z.1) := by
  obtain ⟨h1, h2, h3, h4⟩ := h
  refine ⟨by show z.1 + 1 = _; omega, (h2.tr (zE.nw (by omega))).tr (zE.put (Nat.le_refl _)), ?_, fun i hi => ?_⟩
  · show (if m = z.1 then _ else z.2.1 m) = _
    rw [if_neg (by omega)]; exact h3
  · by_cases e : i = j
    · subst e
      refine ⟨?_, ?_⟩
      · show (if m + 1 + i = z.1 then (2, N) else _) = _
        rw [if_pos (by omega), hN]
      · show (if m = m ∧ F i = k then z.1 else _) = _
        rw [if_pos ⟨rfl, hk⟩, h1]
    · refine ⟨?_, ?_⟩
      · show (if m + 1 + i = z.1 then (2, N) else z.2.1 (m + 1 + i)) = _
        rw [if_neg (by omega)]; exact (h4 i (by omega)).1
      · show (if m = m ∧ F i = k then z.1 else if m = z.1 then 0 else z.2.2 m (F i)) = _
        rw [if_neg (fun q => hF i (by omega) q.2), if_neg (by omega)]; exact (h4 i (by omega)).2
theorem E_nap {M : MI} {mc ms pc : Nat} {ls : List (Option Value)} {st : List Value} {z z0 : Zt} {I : It} {Q : Option Value → Zt → It → Prop} {m ci j k N idx N0 : Nat} {F L : Nat → Nat} {n0 : Int32} {C0 : String} {T0 : u_T} {ty0 : Nat → FieldType} (hd1 : decode M.2.1 pc = .ok (.newarray .int, 2)) (hn : ¬ n0 < 0) (hN : n0.toNatClampNeg = N) (hb : N * 4 ≤ 536870912) (hd2 : decode M.2.1 (pc + 2) = .ok (.putfield idx, 3)) (hE : e_cl ci C0 T0 N0 ty0) (hk : k < N0) (hr : e_isR ci k = true) (hl : Cond.fieldLink M.1.cls idx C0 (T0 k).2.1 (T0 k).2.2.1 ∈ WL) (hfin : (T0 k).2.2.2 = true) (hin2 : M.1.name = "<init>") (hcls : C0 = M.1.cls) (hnr : ∀ y, narrow (ty0 k) (.ref y) = .ref y) (hfit : ∀ y, fits (ty0 k) (.ref y) = true) (hB : bld z0 m ci F L j z) (hI : ∀ a, m < a → I a = fun _ => 0) (hFk : F j = k) (hL : L j = N) (hF : ∀ i, i < j → F i ≠ k) (kk : ∀ z', bld z0 m ci F L (j + 1) z' → E M mc ms (pc + 5) ls st z' I Q) : E M (mc + 1) (ms + N) pc ls (.int n0 :: .ref m :: st) z I Q := by
  have h1 := hB.1
  refine E_newa hd1 w_1_48 hn hN hb ?_
  rw [i_nw_id (hI _ (by omega))]
  refine E_putFR hd2 hE k hk hr hl ?_ hfin hin2 hcls hnr hfit (by omega) (kk _ (hB.step hFk hL hF))
  show (if m = z.1 then _ else z.2.1 m) = _
  rw [if_neg (by omega)]; exact hB.2.2.1
theorem isM.ag {z z' : Zt} {m : Nat} (h : isM z m) (he : ∀ a, m ≤ a → a ≤ (m + 13) → z'.2.1 a = z.2.1 a ∧ z'.2.2 a = z.2.2 a) : isM z' m :=
  ⟨(he m (by omega) (by omega)).1.trans h.s0, (congrFun (he m (by omega) (by omega)).2 4).trans h.r4, (he (m + 1) (by omega) (by omega)).1.trans h.s1, (congrFun (he m (by omega) (by omega)).2 5).trans h.r5, (he (m + 2) (by omega) (by omega)).1.trans h.s2, (congrFun (he m (by omega) (by omega)).2 6).trans h.r6, (he (m + 3) (by omega) (by omega)).1.trans h.s3, (congrFun (he m (by omega) (by omega)).2 7).trans h.r7, (he (m + 4) (by omega) (by omega)).1.trans h.s4, (congrFun (he m (by omega) (by omega)).2 8).trans h.r8, (he (m + 5) (by omega) (by omega)).1.trans h.s5, (congrFun (he m (by omega) (by omega)).2 9).trans h.r9, (he (m + 6) (by omega) (by omega)).1.trans h.s6, (congrFun (he m (by omega) (by omega)).2 10).trans h.r10, (he (m + 7) (by omega) (by omega)).1.trans h.s7, (congrFun (he m (by omega) (by omega)).2 11).trans h.r11, (he (m + 8) (by omega) (by omega)).1.trans h.s8, (congrFun (he m (by omega) (by omega)).2 12).trans h.r12, (he (m + 9) (by omega) (by omega)).1.trans h.s9, (congrFun (he m (by omega) (by omega)).2 13).trans h.r13, (he (m + 10) (by omega) (by omega)).1.trans h.s10, (congrFun (he m (by omega) (by omega)).2 15).trans h.r15, (he (m + 11) (by omega) (by omega)).1.trans h.s11, (congrFun (he m (by omega) (by omega)).2 16).trans h.r16, (he (m + 12) (by omega) (by omega)).1.trans h.s12, (congrFun (he m (by omega) (by omega)).2 17).trans h.r17, (he (m + 13) (by omega) (by omega)).1.trans h.s13⟩
theorem isP.ag {z z' : Zt} {p : Nat} (h : isP z p) (he : ∀ a, p ≤ a → a ≤ (p + 7) → z'.2.1 a = z.2.1 a ∧ z'.2.2 a = z.2.2 a) : isP z' p :=
  ⟨(he p (by omega) (by omega)).1.trans h.s0, (congrFun (he p (by omega) (by omega)).2 2).trans h.r2, (he (p + 1) (by omega) (by omega)).1.trans h.s1, (congrFun (he p (by omega) (by omega)).2 3).trans h.r3, (he (p + 2) (by omega) (by omega)).1.trans h.s2, (congrFun (he p (by omega) (by omega)).2 4).trans h.r4, (he (p + 3) (by omega) (by omega)).1.trans h.s3, (congrFun (he p (by omega) (by omega)).2 5).trans h.r5, (he (p + 4) (by omega) (by omega)).1.trans h.s4, (congrFun (he p (by omega) (by omega)).2 6).trans h.r6, (he (p + 5) (by omega) (by omega)).1.trans h.s5, (congrFun (he p (by omega) (by omega)).2 7).trans h.r7, (he (p + 6) (by omega) (by omega)).1.trans h.s6, (congrFun (he p (by omega) (by omega)).2 8).trans h.r8, (he (p + 7) (by omega) (by omega)).1.trans h.s7⟩
theorem isRd.ag {z z' : Zt} (h : isRd z) (he : ∀ a, 2 ≤ a → a ≤ 3 → z'.2.1 a = z.2.1 a ∧ z'.2.2 a = z.2.2 a) : isRd z' :=
  ⟨(he 2 (by omega) (by omega)).1.trans h.s0, (congrFun (he 2 (by omega) (by omega)).2 0).trans h.r0, (he 3 (by omega) (by omega)).1.trans h.s1⟩
theorem isBk.ag {z z' : Zt} (h : isBk z) (he : ∀ a, 304 ≤ a → a ≤ 306 → z'.2.1 a = z.2.1 a ∧ z'.2.2 a = z.2.2 a) : isBk z' :=
  ⟨(he 304 (by omega) (by omega)).1.trans h.s0, (congrFun (he 304 (by omega) (by omega)).2 0).trans h.r0, (he 305 (by omega) (by omega)).1.trans h.s1, (congrFun (he 304 (by omega) (by omega)).2 1).trans h.r1, (he 306 (by omega) (by omega)).1.trans h.s2⟩
theorem isO.ag {z z' : Zt} (h : isO z) (he : ∀ a, 308 ≤ a → a ≤ 316 → z'.2.1 a = z.2.1 a ∧ z'.2.2 a = z.2.2 a) : isO z' :=
  ⟨(he 308 (by omega) (by omega)).1.trans h.s0, (congrFun (he 308 (by omega) (by omega)).2 0).trans h.r0, (he 309 (by omega) (by omega)).1.trans h.s1, (congrFun (he 308 (by omega) (by omega)).2 3).trans h.r3, (he 310 (by omega) (by omega)).1.trans h.s2, (congrFun (he 308 (by omega) (by omega)).2 7).trans h.r7, (he 311 (by omega) (by omega)).1.trans h.s3, (congrFun (he 308 (by omega) (by omega)).2 8).trans h.r8, (he 312 (by omega) (by omega)).1.trans h.s4, (congrFun (he 308 (by omega) (by omega)).2 9).trans h.r9, (he 313 (by omega) (by omega)).1.trans h.s5, (congrFun (he 308 (by omega) (by omega)).2 11).trans h.r11, (he 314 (by omega) (by omega)).1.trans h.s6, (congrFun (he 308 (by omega) (by omega)).2 20).trans h.r20, (he 315 (by omega) (by omega)).1.trans h.s7, (congrFun (he 308 (by omega) (by omega)).2 21).trans h.r21, (he 316 (by omega) (by omega)).1.trans h.s8⟩
theorem isIm.ag {z z' : Zt} {i : Nat} (h : isIm z i) (he : ∀ a, i ≤ a → a ≤ i + 14 → z'.2.1 a = z.2.1 a ∧ z'.2.2 a = z.2.2 a) : isIm z' i :=
  ⟨(he i (by omega) (by omega)).1.trans h.s0, (congrFun (he i (by omega) (by omega)).2 0).trans h.r0, h.m.ag (fun a _ _ => he a (by omega) (by omega))⟩
theorem isPa.ag {z z' : Zt} (h : isPa z) (he : ∀ a, 48 ≤ a → a ≤ 273 → z'.2.1 a = z.2.1 a ∧ z'.2.2 a = z.2.2 a) : isPa z' :=
  ⟨(he 48 (by omega) (by omega)).1.trans h.s0, (congrFun (he 48 (by omega) (by omega)).2 0).trans h.r0, (he 49 (by omega) (by omega)).1.trans h.s1, fun j hj => ⟨(congrFun (he 49 (by omega) (by omega)).2 j).trans (h.e hj), (h.m hj).ag (fun a _ _ => he a (by omega) (by omega))⟩⟩
theorem isDr.ag {z z' : Zt} (h : isDr z) (he : z'.2.1 307 = z.2.1 307) : isDr z' := he.trans h
def F_X4 : Nat → Nat := fun i => ([4, 5, 6, 7, 8, 9, 10, 11, 12, 13, 15, 16, 17] : List Nat).getD i 0
def L_X4 : Nat → Nat := fun i => ([8, 8, 8, 8, 64, 64, 8, 8, 64, 64, 8, 8, 8] : List Nat).getD i 0
set_option maxRecDepth 100000 in
set_option maxHeartbeats 4000000 in
theorem K_X4 {z : Zt} {I : It} {Q : Option Value → Zt → It → Prop} {m : Nat} (h1 : z.1 = m + 1) (hs : z.2.1 m = (1, 3)) (hI : ∀ a, m < a → I a = fun _ => 0) (k : ∀ z', z'.1 = (m + 14) → zE m z z' → isM z' m → Q none z' I) : E mX4_init 13 328 0 [some (.ref m)] [] z I Q := by
  have b0 : bld z m 3 F_X4 L_X4 0 z := ⟨h1, zE.rf, hs, fun i hi => absurd hi (Nat.not_lt_zero _)⟩
  refine E_aload_n (pc := 0) (x := m) ddX4_init_0 rfl rfl ?_
  refine E_obj (pc := 1) ddX4_init_1 w_1_113 w_1_19 w_1_20 (Nat.le_of_ble_eq_true rfl) (Nat.le_of_ble_eq_true rfl) ?_
  refine E_aload_n (pc := 4) (x := m) ddX4_init_4 rfl rfl ?_
  refine E_bipush (pc := 5) (v := 8) ddX4_init_5 rfl ?_
  refine E_nap (pc := 7) (mc := 12) (ms := 320) (N := 8) (j := 0) (k := 4) ddX4_init_7 (by decide) (by decide) (by decide) ddX4_init_9 ec_3 (Nat.le_of_ble_eq_true rfl) rfl w_1_122 rfl rfl rfl (fun _ => rfl) (fun _ => rfl) b0 hI rfl rfl (by decide) (fun z1 b1 => ?_)
  refine E_aload_n (pc := 12) (x := m) ddX4_init_12 rfl rfl ?_
  refine E_bipush (pc := 13) (v := 8) ddX4_init_13 rfl ?_
  refine E_nap (pc := 15) (mc := 11) (ms := 312) (N := 8) (j := 1) (k := 5) ddX4_init_15 (by decide) (by decide) (by decide) ddX4_init_17 ec_3 (Nat.le_of_ble_eq_true rfl) rfl w_1_125 rfl rfl rfl (fun _ => rfl) (fun _ => rfl) b1 hI rfl rfl (by decide) (fun z2 b2 => ?_)
  refine E_aload_n (pc := 20) (x := m) ddX4_init_20 rfl rfl ?_
  refine E_bipush (pc := 21) (v := 8) ddX4_init_21 rfl ?_
  refine E_nap (pc := 23) (mc := 10) (ms := 304) (N := 8) (j := 2) (k := 6) ddX4_init_23 (by decide) (by decide) (by decide) ddX4_init_25 ec_3 (Nat.le_of_ble_eq_true rfl) rfl w_1_127 rfl rfl rfl (fun _ => rfl) (fun _ => rfl) b2 hI rfl rfl (by decide) (fun z3 b3 => ?_)
  refine E_aload_n (pc := 28) (x := m) ddX4_init_28 rfl rfl ?_
  refine E_bipush (pc := 29) (v := 8) ddX4_init_29 rfl ?_
  refine E_nap (pc := 31) (mc := 9) (ms := 296) (N := 8) (j := 3) (k := 7) ddX4_init_31 (by decide) (by decide) (by decide) ddX4_init_33 ec_3 (Nat.le_of_ble_eq_true rfl) rfl w_1_129 rfl rfl rfl (fun _ => rfl) (fun _ => rfl) b3 hI rfl rfl (by decide) (fun z4 b4 => ?_)
  refine E_aload_n (pc := 36) (x := m) ddX4_init_36 rfl rfl ?_
  refine E_bipush (pc := 37) (v := 64) ddX4_init_37 rfl ?_
  refine E_nap (pc := 39) (mc := 8) (ms := 232) (N := 64) (j := 4) (k := 8) ddX4_init_39 (by decide) (by decide) (by decide) ddX4_init_41 ec_3 (Nat.le_of_ble_eq_true rfl) rfl w_1_130 rfl rfl rfl (fun _ => rfl) (fun _ => rfl) b4 hI rfl rfl (by decide) (fun z5 b5 => ?_)
  refine E_aload_n (pc := 44) (x := m) ddX4_init_44 rfl rfl ?_
  refine E_bipush (pc := 45) (v := 64) ddX4_init_45 rfl ?_
  refine E_nap (pc := 47) (mc := 7) (ms := 168) (N := 64) (j := 5) (k := 9) ddX4_init_47 (by decide) (by decide) (by decide) ddX4_init_49 ec_3 (Nat.le_of_ble_eq_true rfl) rfl w_1_131 rfl rfl rfl (fun _ => rfl) (fun _ => rfl) b5 hI rfl rfl (by decide) (fun z6 b6 => ?_)
  refine E_aload_n (pc := 52) (x := m) ddX4_init_52 rfl rfl ?_
  refine E_bipush (pc := 53) (v := 8) ddX4_init_53 rfl ?_
  refine E_nap (pc := 55) (mc := 6) (ms := 160) (N := 8) (j := 6) (k := 10) ddX4_init_55 (by decide) (by decide) (by decide) ddX4_init_57 ec_3 (Nat.le_of_ble_eq_true rfl) rfl w_1_132 rfl rfl rfl (fun _ => rfl) (fun _ => rfl) b6 hI rfl rfl (by decide) (fun z7 b7 => ?_)
  refine E_aload_n (pc := 60) (x := m) ddX4_init_60 rfl rfl ?_
  refine E_bipush (pc := 61) (v := 8) ddX4_init_61 rfl ?_
  refine E_nap (pc := 63) (mc := 5) (ms := 152) (N := 8) (j := 7) (k := 11) ddX4_init_63 (by decide) (by decide) (by decide) ddX4_init_65 ec_3 (Nat.le_of_ble_eq_true rfl) rfl w_1_134 rfl rfl rfl (fun _ => rfl) (fun _ => rfl) b7 hI rfl rfl (by decide) (fun z8 b8 => ?_)
  refine E_aload_n (pc := 68) (x := m) ddX4_init_68 rfl rfl ?_
  refine E_bipush (pc := 69) (v := 64) ddX4_init_69 rfl ?_
  refine E_nap (pc := 71) (mc := 4) (ms := 88) (N := 64) (j := 8) (k := 12) ddX4_init_71 (by decide) (by decide) (by decide) ddX4_init_73 ec_3 (Nat.le_of_ble_eq_true rfl) rfl w_1_136 rfl rfl rfl (fun _ => rfl) (fun _ => rfl) b8 hI rfl rfl (by decide) (fun z9 b9 => ?_)
  refine E_aload_n (pc := 76) (x := m) ddX4_init_76 rfl rfl ?_
  refine E_bipush (pc := 77) (v := 64) ddX4_init_77 rfl ?_
  refine E_nap (pc := 79) (mc := 3) (ms := 24) (N := 64) (j := 9) (k := 13) ddX4_init_79 (by decide) (by decide) (by decide) ddX4_init_81 ec_3 (Nat.le_of_ble_eq_true rfl) rfl w_1_137 rfl rfl rfl (fun _ => rfl) (fun _ => rfl) b9 hI rfl rfl (by decide) (fun z10 b10 => ?_)
  refine E_aload_n (pc := 84) (x := m) ddX4_init_84 rfl rfl ?_
  refine E_bipush (pc := 85) (v := 8) ddX4_init_85 rfl ?_
  refine E_nap (pc := 87) (mc := 2) (ms := 16) (N := 8) (j := 10) (k := 15) ddX4_init_87 (by decide) (by decide) (by decide) ddX4_init_89 ec_3 (Nat.le_of_ble_eq_true rfl) rfl w_1_140 rfl rfl rfl (fun _ => rfl) (fun _ => rfl) b10 hI rfl rfl (by decide) (fun z11 b11 => ?_)
  refine E_aload_n (pc := 92) (x := m) ddX4_init_92 rfl rfl ?_
  refine E_bipush (pc := 93) (v := 8) ddX4_init_93 rfl ?_
  refine E_nap (pc := 95) (mc := 1) (ms := 8) (N := 8) (j := 11) (k := 16) ddX4_init_95 (by decide) (by decide) (by decide) ddX4_init_97 ec_3 (Nat.le_of_ble_eq_true rfl) rfl w_1_141 rfl rfl rfl (fun _ => rfl) (fun _ => rfl) b11 hI rfl rfl (by decide) (fun z12 b12 => ?_)
  refine E_aload_n (pc := 100) (x := m) ddX4_init_100 rfl rfl ?_
  refine E_bipush (pc := 101) (v := 8) ddX4_init_101 rfl ?_
  refine E_nap (pc := 103) (mc := 0) (ms := 0) (N := 8) (j := 12) (k := 17) ddX4_init_103 (by decide) (by decide) (by decide) ddX4_init_105 ec_3 (Nat.le_of_ble_eq_true rfl) rfl w_1_142 rfl rfl rfl (fun _ => rfl) (fun _ => rfl) b12 hI rfl rfl (by decide) (fun z13 b13 => ?_)
  have hf := b13
  exact E_vret (pc := 108) ddX4_init_108 rfl (k _ hf.1 hf.2.1 ⟨hf.2.2.1, (hf.2.2.2 0 (by omega)).2, (hf.2.2.2 0 (by omega)).1, (hf.2.2.2 1 (by omega)).2, (hf.2.2.2 1 (by omega)).1, (hf.2.2.2 2 (by omega)).2, (hf.2.2.2 2 (by omega)).1, (hf.2.2.2 3 (by omega)).2, (hf.2.2.2 3 (by omega)).1, (hf.2.2.2 4 (by omega)).2, (hf.2.2.2 4 (by omega)).1, (hf.2.2.2 5 (by omega)).2, (hf.2.2.2 5 (by omega)).1, (hf.2.2.2 6 (by omega)).2, (hf.2.2.2 6 (by omega)).1, (hf.2.2.2 7 (by omega)).2, (hf.2.2.2 7 (by omega)).1, (hf.2.2.2 8 (by omega)).2, (hf.2.2.2 8 (by omega)).1, (hf.2.2.2 9 (by omega)).2, (hf.2.2.2 9 (by omega)).1, (hf.2.2.2 10 (by omega)).2, (hf.2.2.2 10 (by omega)).1, (hf.2.2.2 11 (by omega)).2, (hf.2.2.2 11 (by omega)).1, (hf.2.2.2 12 (by omega)).2, (hf.2.2.2 12 (by omega)).1⟩)
def F_X6 : Nat → Nat := fun i => ([2, 3, 4, 5, 6, 7, 8] : List Nat).getD i 0
def L_X6 : Nat → Nat := fun i => ([8, 8, 8, 8, 8, 8, 8] : List Nat).getD i 0
set_option maxRecDepth 100000 in
set_option maxHeartbeats 4000000 in
theorem K_X6 {z : Zt} {I : It} {Q : Option Value → Zt → It → Prop} {p : Nat} (h1 : z.1 = p + 1) (hs : z.2.1 p = (1, 5)) (hI : ∀ a, p < a → I a = fun _ => 0) (k : ∀ z', z'.1 = (p + 8) → zE p z z' → isP z' p → Q none z' I) : E mX6_init 7 56 0 [some (.ref p)] [] z I Q := by
  have b0 : bld z p 5 F_X6 L_X6 0 z := ⟨h1, zE.rf, hs, fun i hi => absurd hi (Nat.not_lt_zero _)⟩
  refine E_aload_n (pc := 0) (x := p) ddX6_init_0 rfl rfl ?_
  refine E_obj (pc := 1) ddX6_init_1 w_1_54 w_1_19 w_1_20 (Nat.le_of_ble_eq_true rfl) (Nat.le_of_ble_eq_true rfl) ?_
  refine E_aload_n (pc := 4) (x := p) ddX6_init_4 rfl rfl ?_
  refine E_bipush (pc := 5) (v := 8) ddX6_init_5 rfl ?_
  refine E_nap (pc := 7) (mc := 6) (ms := 48) (N := 8) (j := 0) (k := 2) ddX6_init_7 (by decide) (by decide) (by decide) ddX6_init_9 ec_5 (Nat.le_of_ble_eq_true rfl) rfl w_1_63 rfl rfl rfl (fun _ => rfl) (fun _ => rfl) b0 hI rfl rfl (by decide) (fun z1 b1 => ?_)
  refine E_aload_n (pc := 12) (x := p) ddX6_init_12 rfl rfl ?_
  refine E_bipush (pc := 13) (v := 8) ddX6_init_13 rfl ?_
  refine E_nap (pc := 15) (mc := 5) (ms := 40) (N := 8) (j := 1) (k := 3) ddX6_init_15 (by decide) (by decide) (by decide) ddX6_init_17 ec_5 (Nat.le_of_ble_eq_true rfl) rfl w_1_65 rfl rfl rfl (fun _ => rfl) (fun _ => rfl) b1 hI rfl rfl (by decide) (fun z2 b2 => ?_)
  refine E_aload_n (pc := 20) (x := p) ddX6_init_20 rfl rfl ?_
  refine E_bipush (pc := 21) (v := 8) ddX6_init_21 rfl ?_
  refine E_nap (pc := 23) (mc := 4) (ms := 32) (N := 8) (j := 2) (k := 4) ddX6_init_23 (by decide) (by decide) (by decide) ddX6_init_25 ec_5 (Nat.le_of_ble_eq_true rfl) rfl w_1_69 rfl rfl rfl (fun _ => rfl) (fun _ => rfl) b2 hI rfl rfl (by decide) (fun z3 b3 => ?_)
  refine E_aload_n (pc := 28) (x := p) ddX6_init_28 rfl rfl ?_
  refine E_bipush (pc := 29) (v := 8) ddX6_init_29 rfl ?_
  refine E_nap (pc := 31) (mc := 3) (ms := 24) (N := 8) (j := 3) (k := 5) ddX6_init_31 (by decide) (by decide) (by decide) ddX6_init_33 ec_5 (Nat.le_of_ble_eq_true rfl) rfl w_1_73 rfl rfl rfl (fun _ => rfl) (fun _ => rfl) b3 hI rfl rfl (by decide) (fun z4 b4 => ?_)
  refine E_aload_n (pc := 36) (x := p) ddX6_init_36 rfl rfl ?_
  refine E_bipush (pc := 37) (v := 8) ddX6_init_37 rfl ?_
  refine E_nap (pc := 39) (mc := 2) (ms := 16) (N := 8) (j := 4) (k := 6) ddX6_init_39 (by decide) (by decide) (by decide) ddX6_init_41 ec_5 (Nat.le_of_ble_eq_true rfl) rfl w_1_77 rfl rfl rfl (fun _ => rfl) (fun _ => rfl) b4 hI rfl rfl (by decide) (fun z5 b5 => ?_)
  refine E_aload_n (pc := 44) (x := p) ddX6_init_44 rfl rfl ?_
  refine E_bipush (pc := 45) (v := 8) ddX6_init_45 rfl ?_
  refine E_nap (pc := 47) (mc := 1) (ms := 8) (N := 8) (j := 5) (k := 7) ddX6_init_47 (by decide) (by decide) (by decide) ddX6_init_49 ec_5 (Nat.le_of_ble_eq_true rfl) rfl w_1_81 rfl rfl rfl (fun _ => rfl) (fun _ => rfl) b5 hI rfl rfl (by decide) (fun z6 b6 => ?_)
  refine E_aload_n (pc := 52) (x := p) ddX6_init_52 rfl rfl ?_
  refine E_bipush (pc := 53) (v := 8) ddX6_init_53 rfl ?_
  refine E_nap (pc := 55) (mc := 0) (ms := 0) (N := 8) (j := 6) (k := 8) ddX6_init_55 (by decide) (by decide) (by decide) ddX6_init_57 ec_5 (Nat.le_of_ble_eq_true rfl) rfl w_1_85 rfl rfl rfl (fun _ => rfl) (fun _ => rfl) b6 hI rfl rfl (by decide) (fun z7 b7 => ?_)
  have hf := b7
  exact E_vret (pc := 60) ddX6_init_60 rfl (k _ hf.1 hf.2.1 ⟨hf.2.2.1, (hf.2.2.2 0 (by omega)).2, (hf.2.2.2 0 (by omega)).1, (hf.2.2.2 1 (by omega)).2, (hf.2.2.2 1 (by omega)).1, (hf.2.2.2 2 (by omega)).2, (hf.2.2.2 2 (by omega)).1, (hf.2.2.2 3 (by omega)).2, (hf.2.2.2 3 (by omega)).1, (hf.2.2.2 4 (by omega)).2, (hf.2.2.2 4 (by omega)).1, (hf.2.2.2 5 (by omega)).2, (hf.2.2.2 5 (by omega)).1, (hf.2.2.2 6 (by omega)).2, (hf.2.2.2 6 (by omega)).1⟩)
def F_X7 : Nat → Nat := fun i => ([0] : List Nat).getD i 0
def L_X7 : Nat → Nat := fun i => ([200] : List Nat).getD i 0
set_option maxRecDepth 100000 in
set_option maxHeartbeats 4000000 in
theorem K_X7 {z : Zt} {I : It} {Q : Option Value → Zt → It → Prop} (h1 : z.1 = 2 + 1) (hs : z.2.1 2 = (1, 6)) (hI : ∀ a, 2 < a → I a = fun _ => 0) (k : ∀ z', z'.1 = 4 → zE 2 z z' → isRd z' → Q none z' (e_st I 2 2 (-1))) : E mX7_init 1 200 0 [some (.ref 2)] [] z I Q := by
  have b0 : bld z 2 6 F_X7 L_X7 0 z := ⟨h1, zE.rf, hs, fun i hi => absurd hi (Nat.not_lt_zero _)⟩
  refine E_aload_n (pc := 0) (x := 2) ddX7_init_0 rfl rfl ?_
  refine E_obj (pc := 1) ddX7_init_1 w_1_26 w_1_19 w_1_20 (Nat.le_of_ble_eq_true rfl) (Nat.le_of_ble_eq_true rfl) ?_
  refine E_aload_n (pc := 4) (x := 2) ddX7_init_4 rfl rfl ?_
  refine E_sipush (pc := 5) (v := 200) ddX7_init_5 rfl ?_
  refine E_nap (pc := 8) (mc := 0) (ms := 0) (N := 200) (j := 0) (k := 0) ddX7_init_8 (by decide) (by decide) (by decide) ddX7_init_10 ec_6 (Nat.le_of_ble_eq_true rfl) rfl w_1_27 rfl rfl rfl (fun _ => rfl) (fun _ => rfl) b0 hI rfl rfl (by decide) (fun z1 b1 => ?_)
  refine E_aload_n (pc := 13) (x := 2) ddX7_init_13 rfl rfl ?_
  refine E_iconst (pc := 14) (v := (-1)) ddX7_init_14 rfl ?_
  refine E_putI (pc := 15) ddX7_init_15 ec_6 2 (Nat.le_of_ble_eq_true rfl) rfl w_1_30 b1.2.2.1 rfl rfl ?_
  have hf := b1
  exact E_vret (pc := 18) ddX7_init_18 rfl (k _ hf.1 hf.2.1 ⟨hf.2.2.1, (hf.2.2.2 0 (by omega)).2, (hf.2.2.2 0 (by omega)).1⟩)
def F_X0 : Nat → Nat := fun i => ([0, 1] : List Nat).getD i 0
def L_X0 : Nat → Nat := fun i => ([20, 20] : List Nat).getD i 0
set_option maxRecDepth 100000 in
set_option maxHeartbeats 4000000 in
theorem K_X0 {z : Zt} {I : It} {Q : Option Value → Zt → It → Prop} (h1 : z.1 = 304 + 1) (hs : z.2.1 304 = (1, 0)) (hI : ∀ a, 304 < a → I a = fun _ => 0) (k : ∀ z', z'.1 = 307 → zE 304 z z' → isBk z' → Q none z' I) : E mX0_init 2 40 0 [some (.ref 304)] [] z I Q := by
  have b0 : bld z 304 0 F_X0 L_X0 0 z := ⟨h1, zE.rf, hs, fun i hi => absurd hi (Nat.not_lt_zero _)⟩
  refine E_aload_n (pc := 0) (x := 304) ddX0_init_0 rfl rfl ?_
  refine E_obj (pc := 1) ddX0_init_1 w_1_224 w_1_19 w_1_20 (Nat.le_of_ble_eq_true rfl) (Nat.le_of_ble_eq_true rfl) ?_
  refine E_aload_n (pc := 4) (x := 304) ddX0_init_4 rfl rfl ?_
  refine E_bipush (pc := 5) (v := 20) ddX0_init_5 rfl ?_
  refine E_nap (pc := 7) (mc := 1) (ms := 20) (N := 20) (j := 0) (k := 0) ddX0_init_7 (by decide) (by decide) (by decide) ddX0_init_9 ec_0 (Nat.le_of_ble_eq_true rfl) rfl w_1_225 rfl rfl rfl (fun _ => rfl) (fun _ => rfl) b0 hI rfl rfl (by decide) (fun z1 b1 => ?_)
  refine E_aload_n (pc := 12) (x := 304) ddX0_init_12 rfl rfl ?_
  refine E_bipush (pc := 13) (v := 20) ddX0_init_13 rfl ?_
  refine E_nap (pc := 15) (mc := 0) (ms := 0) (N := 20) (j := 1) (k := 1) ddX0_init_15 (by decide) (by decide) (by decide) ddX0_init_17 ec_0 (Nat.le_of_ble_eq_true rfl) rfl w_1_226 rfl rfl rfl (fun _ => rfl) (fun _ => rfl) b1 hI rfl rfl (by decide) (fun z2 b2 => ?_)
  have hf := b2
  exact E_vret (pc := 20) ddX0_init_20 rfl (k _ hf.1 hf.2.1 ⟨hf.2.2.1, (hf.2.2.2 0 (by omega)).2, (hf.2.2.2 0 (by omega)).1, (hf.2.2.2 1 (by omega)).2, (hf.2.2.2 1 (by omega)).1⟩)
def F_X9 : Nat → Nat := fun i => ([0, 3, 7, 8, 9, 11, 20, 21] : List Nat).getD i 0
def L_X9 : Nat → Nat := fun i => ([6880, 48, 2, 20, 20, 200, 8, 48] : List Nat).getD i 0
set_option maxRecDepth 100000 in
set_option maxHeartbeats 4000000 in
theorem K_X9 {z : Zt} {I : It} {Q : Option Value → Zt → It → Prop} (h1 : z.1 = 308 + 1) (hs : z.2.1 308 = (1, 8)) (hI : ∀ a, 308 < a → I a = fun _ => 0) (k : ∀ z', z'.1 = 317 → zE 308 z z' → isO z' → Q none z' (e_st I 308 13 (-1))) : E mX9_init 8 7226 0 [some (.ref 308)] [] z I Q := by
  have b0 : bld z 308 8 F_X9 L_X9 0 z := ⟨h1, zE.rf, hs, fun i hi => absurd hi (Nat.not_lt_zero _)⟩
  refine E_aload_n (pc := 0) (x := 308) ddX9_init_0 rfl rfl ?_
  refine E_obj (pc := 1) ddX9_init_1 w_3_181 w_1_19 w_1_20 (Nat.le_of_ble_eq_true rfl) (Nat.le_of_ble_eq_true rfl) ?_
  refine E_aload_n (pc := 4) (x := 308) ddX9_init_4 rfl rfl ?_
  refine E_sipush (pc := 5) (v := 6880) ddX9_init_5 rfl ?_
  refine E_nap (pc := 8) (mc := 7) (ms := 346) (N := 6880) (j := 0) (k := 0) ddX9_init_8 (by decide) (by decide) (by decide) ddX9_init_10 ec_8 (Nat.le_of_ble_eq_true rfl) rfl w_3_182 rfl rfl rfl (fun _ => rfl) (fun _ => rfl) b0 hI rfl rfl (by decide) (fun z1 b1 => ?_)
  refine E_aload_n (pc := 13) (x := 308) ddX9_init_13 rfl rfl ?_
  refine E_bipush (pc := 14) (v := 48) ddX9_init_14 rfl ?_
  refine E_nap (pc := 16) (mc := 6) (ms := 298) (N := 48) (j := 1) (k := 3) ddX9_init_16 (by decide) (by decide) (by decide) ddX9_init_18 ec_8 (Nat.le_of_ble_eq_true rfl) rfl w_3_185 rfl rfl rfl (fun _ => rfl) (fun _ => rfl) b1 hI rfl rfl (by decide) (fun z2 b2 => ?_)
  refine E_aload_n (pc := 21) (x := 308) ddX9_init_21 rfl rfl ?_
  refine E_iconst (pc := 22) (v := 2) ddX9_init_22 rfl ?_
  refine E_nap (pc := 23) (mc := 5) (ms := 296) (N := 2) (j := 2) (k := 7) ddX9_init_23 (by decide) (by decide) (by decide) ddX9_init_25 ec_8 (Nat.le_of_ble_eq_true rfl) rfl w_3_189 rfl rfl rfl (fun _ => rfl) (fun _ => rfl) b2 hI rfl rfl (by decide) (fun z3 b3 => ?_)
  refine E_aload_n (pc := 28) (x := 308) ddX9_init_28 rfl rfl ?_
  refine E_bipush (pc := 29) (v := 20) ddX9_init_29 rfl ?_
  refine E_nap (pc := 31) (mc := 4) (ms := 276) (N := 20) (j := 3) (k := 8) ddX9_init_31 (by decide) (by decide) (by decide) ddX9_init_33 ec_8 (Nat.le_of_ble_eq_true rfl) rfl w_3_190 rfl rfl rfl (fun _ => rfl) (fun _ => rfl) b3 hI rfl rfl (by decide) (fun z4 b4 => ?_)
  refine E_aload_n (pc := 36) (x := 308) ddX9_init_36 rfl rfl ?_
  refine E_bipush (pc := 37) (v := 20) ddX9_init_37 rfl ?_
  refine E_nap (pc := 39) (mc := 3) (ms := 256) (N := 20) (j := 4) (k := 9) ddX9_init_39 (by decide) (by decide) (by decide) ddX9_init_41 ec_8 (Nat.le_of_ble_eq_true rfl) rfl w_3_191 rfl rfl rfl (fun _ => rfl) (fun _ => rfl) b4 hI rfl rfl (by decide) (fun z5 b5 => ?_)
  refine E_aload_n (pc := 44) (x := 308) ddX9_init_44 rfl rfl ?_
  refine E_sipush (pc := 45) (v := 200) ddX9_init_45 rfl ?_
  refine E_nap (pc := 48) (mc := 2) (ms := 56) (N := 200) (j := 5) (k := 11) ddX9_init_48 (by decide) (by decide) (by decide) ddX9_init_50 ec_8 (Nat.le_of_ble_eq_true rfl) rfl w_3_193 rfl rfl rfl (fun _ => rfl) (fun _ => rfl) b5 hI rfl rfl (by decide) (fun z6 b6 => ?_)
  refine E_aload_n (pc := 53) (x := 308) ddX9_init_53 rfl rfl ?_
  refine E_iconst (pc := 54) (v := (-1)) ddX9_init_54 rfl ?_
  refine E_putI (pc := 55) ddX9_init_55 ec_8 13 (Nat.le_of_ble_eq_true rfl) rfl w_3_195 b6.2.2.1 rfl rfl ?_
  refine E_aload_n (pc := 58) (x := 308) ddX9_init_58 rfl rfl ?_
  refine E_bipush (pc := 59) (v := 8) ddX9_init_59 rfl ?_
  refine E_nap (pc := 61) (mc := 1) (ms := 48) (N := 8) (j := 6) (k := 20) ddX9_init_61 (by decide) (by decide) (by decide) ddX9_init_63 ec_8 (Nat.le_of_ble_eq_true rfl) rfl w_3_202 rfl rfl rfl (fun _ => rfl) (fun _ => rfl) b6 (fun a ha => by rw [e_st_a (by omega)]; exact hI a ha) rfl rfl (by decide) (fun z7 b7 => ?_)
  refine E_aload_n (pc := 66) (x := 308) ddX9_init_66 rfl rfl ?_
  refine E_bipush (pc := 67) (v := 48) ddX9_init_67 rfl ?_
  refine E_nap (pc := 69) (mc := 0) (ms := 0) (N := 48) (j := 7) (k := 21) ddX9_init_69 (by decide) (by decide) (by decide) ddX9_init_71 ec_8 (Nat.le_of_ble_eq_true rfl) rfl w_3_203 rfl rfl rfl (fun _ => rfl) (fun _ => rfl) b7 (fun a ha => by rw [e_st_a (by omega)]; exact hI a ha) rfl rfl (by decide) (fun z8 b8 => ?_)
  have hf := b8
  exact E_vret (pc := 74) ddX9_init_74 rfl (k _ hf.1 hf.2.1 ⟨hf.2.2.1, (hf.2.2.2 0 (by omega)).2, (hf.2.2.2 0 (by omega)).1, (hf.2.2.2 1 (by omega)).2, (hf.2.2.2 1 (by omega)).1, (hf.2.2.2 2 (by omega)).2, (hf.2.2.2 2 (by omega)).1, (hf.2.2.2 3 (by omega)).2, (hf.2.2.2 3 (by omega)).1, (hf.2.2.2 4 (by omega)).2, (hf.2.2.2 4 (by omega)).1, (hf.2.2.2 5 (by omega)).2, (hf.2.2.2 5 (by omega)).1, (hf.2.2.2 6 (by omega)).2, (hf.2.2.2 6 (by omega)).1, (hf.2.2.2 7 (by omega)).2, (hf.2.2.2 7 (by omega)).1⟩)
theorem zE.own {m : Nat} {z z' : Zt} {s : Nat × Nat} (h1 : z.1 = m) (h : zE m (z_nw z s) z') : zE m z z' := (zE.nw (by omega)).tr h
theorem nw_own {z : Zt} {s : Nat × Nat} {m : Nat} (h : z.1 = m) : (z_nw z s).2.1 m = s := if_pos h.symm
theorem rf_own {z : Zt} {m k x : Nat} : (z_rf z m k x).2.2 m k = x := if_pos ⟨rfl, rfl⟩
theorem rf_oth {z : Zt} {m k x j : Nat} (h : j ≠ k) : (z_rf z m k x).2.2 m j = z.2.2 m j := if_neg fun q => h q.2
theorem rf_far {z : Zt} {m k x a : Nat} (h : a ≠ m) : (z_rf z m k x).2.1 a = z.2.1 a ∧ (z_rf z m k x).2.2 a = z.2.2 a := ⟨rfl, funext fun _ => if_neg fun q => h q.1⟩
set_option maxRecDepth 100000 in
theorem K_X1 {z : Zt} {I : It} {Q : Option Value → Zt → It → Prop} (k : Q none z I) : E mX1_init 0 0 0 [some (.ref 307)] [] z I Q := by
  refine E_aload_n (pc := 0) (x := 307) ddX1_init_0 rfl rfl ?_
  refine E_obj (pc := 1) ddX1_init_1 w_2_1 w_1_19 w_1_20 (Nat.le_of_ble_eq_true rfl) (Nat.le_of_ble_eq_true rfl) ?_
  exact E_vret (pc := 4) ddX1_init_4 rfl k
set_option maxRecDepth 100000 in
set_option maxHeartbeats 4000000 in
theorem K_X2 {z : Zt} {I : It} {Q : Option Value → Zt → It → Prop} {i : Nat} (h1 : z.1 = i + 1) (hs : z.2.1 i = (1, 2)) (hI : ∀ a, i < a → I a = fun _ => 0) (k : ∀ z', z'.1 = i + 15 → zE i z z' → isIm z' i → Q none z' I) : E mX2_init 14 346 0 [some (.ref i)] [] z I Q := by
  refine E_aload_n (pc := 0) (x := i) ddX2_init_0 rfl rfl ?_
  refine E_obj (pc := 1) ddX2_init_1 w_1_205 w_1_19 w_1_20 (Nat.le_of_ble_eq_true rfl) (Nat.le_of_ble_eq_true rfl) ?_
  refine E_aload_n (pc := 4) (x := i) ddX2_init_4 rfl rfl ?_
  refine E_new (pc := 5) (mc := 13) (ms := 328) ddX2_init_5 ec_3 w_1_206 w_1_109 w_1_4 ?_
  rw [i_nw_id (hI _ (by omega))]
  refine E_dupr (pc := 8) ddX2_init_8 ?_
  refine E_callIN (pc := 9) (mc1 := 13) (ms1 := 328) (mc := 0) (ms := 0) (As := []) (st := [.ref z.1, .ref i]) (a := z.1) ddX2_init_9 hX4_init ⟨(Nat.le_of_ble_eq_true rfl), (Nat.le_of_ble_eq_true rfl)⟩ (nst_mem 5 rfl) (by omega) rfl rfl (Nat.le_of_ble_eq_true rfl) e_cn (Nat.le_of_ble_eq_true rfl) ?_
  refine K_X4 (m := z.1) rfl (nw_own rfl) (fun a ha => hI a (by omega)) (fun z' g1 g2 g3 => ?_)
  refine (show E mX2_init 0 0 12 [some (.ref i)] [.ref z.1, .ref i] z' I Q from ?_)
  have g4 := zE.own rfl g2
  refine E_putFR (pc := 12) ddX2_init_12 ec_2 0 (Nat.le_of_ble_eq_true rfl) rfl w_1_208 ((g4 i (by omega)).1.trans hs) rfl rfl rfl (fun _ => rfl) (fun _ => rfl) (by omega) ?_
  refine E_vret (pc := 15) ddX2_init_15 rfl (k _ (by show z'.1 = _; omega) ((g4.le (by omega)).tr (zE.put (Nat.le_refl _))) ⟨(g4 i (by omega)).1.trans hs, by rw [rf_own]; exact h1, ?_⟩)
  rw [← h1]
  exact g3.ag (fun a _ _ => rf_far (by omega))
def pst (z0 : Zt) (i : Nat) (z : Zt) : Prop := z.1 = 50 + 14 * i ∧ zE 48 z0 z ∧ z.2.1 48 = (1, 4) ∧ z.2.2 48 0 = 49 ∧ z.2.1 49 = (3, 16) ∧ ∀ j, j < i → z.2.2 49 j = 50 + 14 * j ∧ isM z (50 + 14 * j)
set_option maxRecDepth 100000 in
set_option maxHeartbeats 4000000 in
theorem LK_X5 {z0 : Zt} {I : It} {Q : Option Value → Zt → It → Prop} (hI : ∀ a, 48 < a → I a = fun _ => 0) (k : ∀ z', pst z0 16 z' → Q none z' I) : ∀ (r i : Nat) (z : Zt), i + r = 16 → pst z0 i z → E mX5_init (14 * r) (346 * r) 15 [some (.ref 48), some (.int (nI i))] [] z I Q := by
  intro r
  induction r with
  | zero =>
    intro i z hi hp
    have : i = 16 := by omega
    subst this
    refine E_iload_n (pc := 15) (x := nI 16) ddX5_init_15 rfl rfl ?_
    refine E_bipush (pc := 16) (v := 16) ddX5_init_16 rfl ?_
    refine E_icmp_ge (pc := 18) (tgt := 40) ddX5_init_18 (by decide) (fun _ => ?_) (fun h => absurd (by decide) h)
    exact E_vret (pc := 40) ddX5_init_40 rfl (k z hp)
  | succ r ih =>
    intro i z hi hp
    obtain ⟨p1, p2, p3, p4, p5, p6⟩ := hp
    refine E_iload_n (pc := 15) (x := nI i) ddX5_init_15 rfl rfl ?_
    refine E_bipush (pc := 16) (v := 16) ddX5_init_16 rfl ?_
    refine E_icmp_ge (pc := 18) (tgt := 40) ddX5_init_18 (by decide) (fun h => absurd h (nI_ge (a := i) (b := 16) (by omega) (by omega))) (fun _ => ?_)
    refine E_aload_n (pc := 21) (x := 48) ddX5_init_21 rfl rfl ?_
    refine E_getR (pc := 22) (x := 49) ddX5_init_22 ec_4 0 (Nat.le_of_ble_eq_true rfl) rfl w_1_189 p3 p4 (by decide) ?_
    refine E_iload_n (pc := 25) (x := nI i) ddX5_init_25 rfl rfl ?_
    rw [show 14 * (r + 1) = (13 + 14 * r) + 1 by omega, show 346 * (r + 1) = (328 + 346 * r) + 18 by omega]
    refine E_new (pc := 26) (mc := 13 + 14 * r) (ms := 328 + 346 * r) ddX5_init_26 ec_3 w_1_186 w_1_109 w_1_4 ?_
    rw [i_nw_id (hI _ (by omega))]
    refine E_dupr (pc := 29) ddX5_init_29 ?_
    refine E_callIN (pc := 30) (mc1 := 13) (ms1 := 328) (As := []) (st := [.ref z.1, .int (nI i), .ref 49]) (a := z.1) ddX5_init_30 hX4_init ⟨(Nat.le_of_ble_eq_true rfl), (Nat.le_of_ble_eq_true rfl)⟩ (nst_mem 3 rfl) (by omega) rfl rfl (Nat.le_of_ble_eq_true rfl) e_cn (Nat.le_of_ble_eq_true rfl) ?_
    refine K_X4 (m := z.1) rfl (nw_own rfl) (fun a ha => hI a (by omega)) (fun z' g1 g2 g3 => ?_)
    refine (show E mX5_init (14 * r) (346 * r) 33 [some (.ref 48), some (.int (nI i))] [.ref z.1, .int (nI i), .ref 49] z' I Q from ?_)
    have g4 := zE.own rfl g2
    refine E_aast (pc := 33) ddX5_init_33 ((g4 49 (by omega)).1.trans p5) (vp_in_nI (by omega) (by omega)) g3.s0 ?_
    rw [nI_clamp (by omega)]
    refine E_iinc (pc := 34) (v := nI (i + 1)) (ls' := [some (.ref 48), some (.int (nI (i + 1)))]) ddX5_init_34 rfl (nI_1 i) (Nat.le_of_ble_eq_true rfl) rfl rfl ?_
    refine E_goto (pc := 37) (tgt := 15) ddX5_init_37 (by decide) ?_
    refine ih (i + 1) _ (by omega) ⟨by show z'.1 = _; omega, (p2.tr (g4.le (by omega))).tr (zE.put (by omega)), (g4 48 (by omega)).1.trans p3, ?_, (g4 49 (by omega)).1.trans p5, fun j hj => ?_⟩
    · rw [(rf_far (by omega)).2, (g4 48 (by omega)).2]; exact p4
    · by_cases e : j = i
      · subst e
        rw [rf_own]
        refine ⟨p1, ?_⟩
        rw [← p1]
        exact g3.ag (fun a _ _ => rf_far (by omega))
      · rw [rf_oth e, (g4 49 (by omega)).2]
        refine ⟨(p6 j (by omega)).1, (p6 j (by omega)).2.ag (fun a _ _ => ?_)⟩
        rw [(rf_far (by omega)).1, (rf_far (by omega)).2]
        exact g4 a (by omega)
set_option maxRecDepth 100000 in
set_option maxHeartbeats 4000000 in
theorem K_X5 {z : Zt} {I : It} {Q : Option Value → Zt → It → Prop} (h1 : z.1 = 49) (hs : z.2.1 48 = (1, 4)) (hI : ∀ a, 48 < a → I a = fun _ => 0) (k : ∀ z', z'.1 = 274 → zE 48 z z' → isPa z' → Q none z' I) : E mX5_init 225 5552 0 [some (.ref 48), none] [] z I Q := by
  refine E_aload_n (pc := 0) (x := 48) ddX5_init_0 rfl rfl ?_
  refine E_obj (pc := 1) ddX5_init_1 w_1_185 w_1_19 w_1_20 (Nat.le_of_ble_eq_true rfl) (Nat.le_of_ble_eq_true rfl) ?_
  refine E_aload_n (pc := 4) (x := 48) ddX5_init_4 rfl rfl ?_
  refine E_bipush (pc := 5) (v := 16) ddX5_init_5 rfl ?_
  refine E_anewa (pc := 7) (mc := 224) (ms := 5536) (N := 16) ddX5_init_7 w_1_186 (by decide) (by decide) (by decide) ?_
  rw [i_nw_id (hI _ (by omega))]
  have e48 : (z_nw z (3, 16)).2.1 48 = (1, 4) := by
    show (if 48 = z.1 then _ else z.2.1 48) = _
    rw [if_neg (by omega)]; exact hs
  refine E_putFR (pc := 10) ddX5_init_10 ec_4 0 (Nat.le_of_ble_eq_true rfl) rfl w_1_189 e48 rfl rfl rfl (fun _ => rfl) (fun _ => rfl) (by omega) ?_
  refine E_iconst (pc := 13) (v := 0) ddX5_init_13 rfl ?_
  refine E_istore_n (pc := 14) (ls' := [some (.ref 48), some (.int 0)]) ddX5_init_14 rfl (Nat.le_of_ble_eq_true rfl) rfl rfl ?_
  refine LK_X5 (z0 := z) hI (fun z' g => k z' g.1 g.2.1 ⟨g.2.2.1, g.2.2.2.1, g.2.2.2.2.1, fun j hj => g.2.2.2.2.2 j hj⟩) 16 0 _ rfl ⟨by show z.1 + 1 = _; omega, (zE.nw (by omega)).tr (zE.put (Nat.le_refl _)), e48, by rw [rf_own]; exact h1, ?_, fun j hj => absurd hj (Nat.not_lt_zero _)⟩
  exact nw_own h1
set_option maxRecDepth 100000 in
set_option maxHeartbeats 4000000 in
theorem K_X8 {z : Zt} {I : It} {Q : Option Value → Zt → It → Prop} (h1 : z.1 = 2) (hs : z.2.1 1 = (1, 7)) (hI : ∀ a, 1 < a → I a = fun _ => 0) (k : ∀ z', z'.1 = 308 → zE 1 z z' → isZ z' 4 12 → Q none z' (e_st I 2 2 (-1))) : E mX8_init 306 7325 0 [some (.ref 1)] [] z I Q := by
  refine E_aload_n (pc := 0) (x := 1) ddX8_init_0 rfl rfl ?_
  refine E_obj (pc := 1) ddX8_init_1 w_1_18 w_1_19 w_1_20 (Nat.le_of_ble_eq_true rfl) (Nat.le_of_ble_eq_true rfl) ?_
  have v1_0 := h1
  have w_0 := hs
  have i_0 := hI
  refine E_aload_n (pc := 4) (x := 1) ddX8_init_4 rfl rfl ?_
  refine E_new (pc := 5) (mc := 305) (ms := 7319) ddX8_init_5 ec_6 w_1_21 w_1_22 w_1_2 ?_
  rw [i_nw_id (hI _ (by omega)), v1_0]
  refine E_dupr (pc := 8) ddX8_init_8 ?_
  refine E_callIN (pc := 9) (mc1 := 1) (ms1 := 200) (mc := 304) (ms := 7119) (As := []) (st := [.ref 2, .ref 1]) (a := 2) ddX8_init_9 hX7_init ⟨(Nat.le_of_ble_eq_true rfl), (Nat.le_of_ble_eq_true rfl)⟩ (nst_mem 0 rfl) (by decide) rfl rfl (Nat.le_of_ble_eq_true rfl) e_cn (Nat.le_of_ble_eq_true rfl) ?_
  refine K_X7 (by show z.1 + 1 = _; omega) (nw_own v1_0) (fun a ha => hI a (by omega)) (fun y1 n_1 x_1 c_1 => ?_)
  refine (show E mX8_init 304 7119 12 [some (.ref 1)] [.ref 2, .ref 1] y1 (e_st I 2 2 (-1)) Q from ?_)
  have g_1 := zE.own v1_0 x_1
  have t_1 : y1.2.1 1 = (1, 7) := (g_1 1 (by omega)).1.trans w_0
  refine E_putFR (pc := 12) ddX8_init_12 ec_7 0 (Nat.le_of_ble_eq_true rfl) rfl w_2_8 t_1 rfl rfl rfl (fun _ => rfl) (fun _ => rfl) (by decide) ?_
  obtain ⟨z1, ez1⟩ : ∃ y : Zt, y = z_rf y1 1 0 2 := ⟨_, rfl⟩
  rw [← ez1]
  have v1_1 : z1.1 = 4 := by rw [ez1]; exact n_1
  have w_1 : z1.2.1 1 = (1, 7) := by rw [ez1]; exact t_1
  have f_1 : ∀ a, a ≠ 1 → z1.2.1 a = y1.2.1 a ∧ z1.2.2 a = y1.2.2 a := fun a ha => by rw [ez1]; exact rf_far ha
  have f0_1 : zE 1 z z1 := fun a ha => ⟨(f_1 a (by omega)).1.trans (g_1 a (by omega)).1, (f_1 a (by omega)).2.trans (g_1 a (by omega)).2⟩
  have d0_1 : isRd z1 := c_1.ag (fun a _ _ => f_1 a (by omega))
  have r0_1 : z1.2.2 1 0 = 2 := by rw [ez1]; exact rf_own
  have hJ : ∀ a, 2 < a → e_st I 2 2 (-1) a = fun _ => 0 := fun a ha => by rw [e_st_a (by omega)]; exact hI a (by omega)
  refine E_aload_n (pc := 15) (x := 1) ddX8_init_15 rfl rfl ?_
  refine E_new (pc := 16) (mc := 303) (ms := 7110) ddX8_init_16 ec_5 w_1_49 w_1_50 w_1_3 ?_
  rw [i_nw_id (hJ _ (by omega)), v1_1]
  refine E_dupr (pc := 19) ddX8_init_19 ?_
  refine E_callIN (pc := 20) (mc1 := 7) (ms1 := 56) (mc := 296) (ms := 7054) (As := []) (st := [.ref 4, .ref 1]) (a := 4) ddX8_init_20 hX6_init ⟨(Nat.le_of_ble_eq_true rfl), (Nat.le_of_ble_eq_true rfl)⟩ (nst_mem 1 rfl) (by decide) rfl rfl (Nat.le_of_ble_eq_true rfl) e_cn (Nat.le_of_ble_eq_true rfl) ?_
  refine K_X6 (p := 4) (by show z1.1 + 1 = _; omega) (nw_own v1_1) (fun a ha => hJ a (by omega)) (fun y2 n_2 x_2 c_2 => ?_)
  refine (show E mX8_init 296 7054 23 [some (.ref 1)] [.ref 4, .ref 1] y2 (e_st I 2 2 (-1)) Q from ?_)
  have g_2 := zE.own v1_1 x_2
  have t_2 : y2.2.1 1 = (1, 7) := (g_2 1 (by omega)).1.trans w_1
  refine E_putR (pc := 23) ddX8_init_23 ec_7 1 (Nat.le_of_ble_eq_true rfl) rfl w_2_9 t_2 rfl (fun _ => rfl) (fun _ => rfl) (by decide) ?_
  obtain ⟨z2, ez2⟩ : ∃ y : Zt, y = z_rf y2 1 1 4 := ⟨_, rfl⟩
  rw [← ez2]
  have v1_2 : z2.1 = 12 := by rw [ez2]; exact n_2
  have w_2 : z2.2.1 1 = (1, 7) := by rw [ez2]; exact t_2
  have f_2 : ∀ a, a ≠ 1 → z2.2.1 a = y2.2.1 a ∧ z2.2.2 a = y2.2.2 a := fun a ha => by rw [ez2]; exact rf_far ha
  have f0_2 : zE 1 z1 z2 := fun a ha => ⟨(f_2 a (by omega)).1.trans (g_2 a (by omega)).1, (f_2 a (by omega)).2.trans (g_2 a (by omega)).2⟩
  have d1_2 : isP z2 4 := c_2.ag (fun a _ _ => f_2 a (by omega))
  have r1_2 : z2.2.2 1 1 = 4 := by rw [ez2]; exact rf_own
  have r0_2 : z2.2.2 1 0 = 2 := by rw [ez2, rf_oth (by decide), (g_2 1 (by omega)).2]; exact r0_1
  have d0_2 : isRd z2 := d0_1.ag (fun a _ _ => ⟨(f_2 a (by omega)).1.trans (g_2 a (by omega)).1, (f_2 a (by omega)).2.trans (g_2 a (by omega)).2⟩)
  refine E_aload_n (pc := 26) (x := 1) ddX8_init_26 rfl rfl ?_
  refine E_new (pc := 27) (mc := 295) (ms := 7045) ddX8_init_27 ec_5 w_1_49 w_1_50 w_1_3 ?_
  rw [i_nw_id (hJ _ (by omega)), v1_2]
  refine E_dupr (pc := 30) ddX8_init_30 ?_
  refine E_callIN (pc := 31) (mc1 := 7) (ms1 := 56) (mc := 288) (ms := 6989) (As := []) (st := [.ref 12, .ref 1]) (a := 12) ddX8_init_31 hX6_init ⟨(Nat.le_of_ble_eq_true rfl), (Nat.le_of_ble_eq_true rfl)⟩ (nst_mem 1 rfl) (by decide) rfl rfl (Nat.le_of_ble_eq_true rfl) e_cn (Nat.le_of_ble_eq_true rfl) ?_
  refine K_X6 (p := 12) (by show z2.1 + 1 = _; omega) (nw_own v1_2) (fun a ha => hJ a (by omega)) (fun y3 n_3 x_3 c_3 => ?_)
  refine (show E mX8_init 288 6989 34 [some (.ref 1)] [.ref 12, .ref 1] y3 (e_st I 2 2 (-1)) Q from ?_)
  have g_3 := zE.own v1_2 x_3
  have t_3 : y3.2.1 1 = (1, 7) := (g_3 1 (by omega)).1.trans w_2
  refine E_putR (pc := 34) ddX8_init_34 ec_7 2 (Nat.le_of_ble_eq_true rfl) rfl w_2_10 t_3 rfl (fun _ => rfl) (fun _ => rfl) (by decide) ?_
  obtain ⟨z3, ez3⟩ : ∃ y : Zt, y = z_rf y3 1 2 12 := ⟨_, rfl⟩
  rw [← ez3]
  have v1_3 : z3.1 = 20 := by rw [ez3]; exact n_3
  have w_3 : z3.2.1 1 = (1, 7) := by rw [ez3]; exact t_3
  have f_3 : ∀ a, a ≠ 1 → z3.2.1 a = y3.2.1 a ∧ z3.2.2 a = y3.2.2 a := fun a ha => by rw [ez3]; exact rf_far ha
  have f0_3 : zE 1 z2 z3 := fun a ha => ⟨(f_3 a (by omega)).1.trans (g_3 a (by omega)).1, (f_3 a (by omega)).2.trans (g_3 a (by omega)).2⟩
  have d2_3 : isP z3 12 := c_3.ag (fun a _ _ => f_3 a (by omega))
  have r2_3 : z3.2.2 1 2 = 12 := by rw [ez3]; exact rf_own
  have r0_3 : z3.2.2 1 0 = 2 := by rw [ez3, rf_oth (by decide), (g_3 1 (by omega)).2]; exact r0_2
  have d0_3 : isRd z3 := d0_2.ag (fun a _ _ => ⟨(f_3 a (by omega)).1.trans (g_3 a (by omega)).1, (f_3 a (by omega)).2.trans (g_3 a (by omega)).2⟩)
  have r1_3 : z3.2.2 1 1 = 4 := by rw [ez3, rf_oth (by decide), (g_3 1 (by omega)).2]; exact r1_2
  have d1_3 : isP z3 4 := d1_2.ag (fun a _ _ => ⟨(f_3 a (by omega)).1.trans (g_3 a (by omega)).1, (f_3 a (by omega)).2.trans (g_3 a (by omega)).2⟩)
  refine E_aload_n (pc := 37) (x := 1) ddX8_init_37 rfl rfl ?_
  refine E_new (pc := 38) (mc := 287) (ms := 6971) ddX8_init_38 ec_3 w_1_108 w_1_109 w_1_4 ?_
  rw [i_nw_id (hJ _ (by omega)), v1_3]
  refine E_dupr (pc := 41) ddX8_init_41 ?_
  refine E_callIN (pc := 42) (mc1 := 13) (ms1 := 328) (mc := 274) (ms := 6643) (As := []) (st := [.ref 20, .ref 1]) (a := 20) ddX8_init_42 hX4_init ⟨(Nat.le_of_ble_eq_true rfl), (Nat.le_of_ble_eq_true rfl)⟩ (nst_mem 2 rfl) (by decide) rfl rfl (Nat.le_of_ble_eq_true rfl) e_cn (Nat.le_of_ble_eq_true rfl) ?_
  refine K_X4 (m := 20) (by show z3.1 + 1 = _; omega) (nw_own v1_3) (fun a ha => hJ a (by omega)) (fun y4 n_4 x_4 c_4 => ?_)
  refine (show E mX8_init 274 6643 45 [some (.ref 1)] [.ref 20, .ref 1] y4 (e_st I 2 2 (-1)) Q from ?_)
  have g_4 := zE.own v1_3 x_4
  have t_4 : y4.2.1 1 = (1, 7) := (g_4 1 (by omega)).1.trans w_3
  refine E_putFR (pc := 45) ddX8_init_45 ec_7 3 (Nat.le_of_ble_eq_true rfl) rfl w_2_11 t_4 rfl rfl rfl (fun _ => rfl) (fun _ => rfl) (by decide) ?_
  obtain ⟨z4, ez4⟩ : ∃ y : Zt, y = z_rf y4 1 3 20 := ⟨_, rfl⟩
  rw [← ez4]
  have v1_4 : z4.1 = 34 := by rw [ez4]; exact n_4
  have w_4 : z4.2.1 1 = (1, 7) := by rw [ez4]; exact t_4
  have f_4 : ∀ a, a ≠ 1 → z4.2.1 a = y4.2.1 a ∧ z4.2.2 a = y4.2.2 a := fun a ha => by rw [ez4]; exact rf_far ha
  have f0_4 : zE 1 z3 z4 := fun a ha => ⟨(f_4 a (by omega)).1.trans (g_4 a (by omega)).1, (f_4 a (by omega)).2.trans (g_4 a (by omega)).2⟩
  have d3_4 : isM z4 20 := c_4.ag (fun a _ _ => f_4 a (by omega))
  have r3_4 : z4.2.2 1 3 = 20 := by rw [ez4]; exact rf_own
  have r0_4 : z4.2.2 1 0 = 2 := by rw [ez4, rf_oth (by decide), (g_4 1 (by omega)).2]; exact r0_3
  have d0_4 : isRd z4 := d0_3.ag (fun a _ _ => ⟨(f_4 a (by omega)).1.trans (g_4 a (by omega)).1, (f_4 a (by omega)).2.trans (g_4 a (by omega)).2⟩)
  have r1_4 : z4.2.2 1 1 = 4 := by rw [ez4, rf_oth (by decide), (g_4 1 (by omega)).2]; exact r1_3
  have d1_4 : isP z4 4 := d1_3.ag (fun a _ _ => ⟨(f_4 a (by omega)).1.trans (g_4 a (by omega)).1, (f_4 a (by omega)).2.trans (g_4 a (by omega)).2⟩)
  have r2_4 : z4.2.2 1 2 = 12 := by rw [ez4, rf_oth (by decide), (g_4 1 (by omega)).2]; exact r2_3
  have d2_4 : isP z4 12 := d2_3.ag (fun a _ _ => ⟨(f_4 a (by omega)).1.trans (g_4 a (by omega)).1, (f_4 a (by omega)).2.trans (g_4 a (by omega)).2⟩)
  refine E_aload_n (pc := 48) (x := 1) ddX8_init_48 rfl rfl ?_
  refine E_new (pc := 49) (mc := 273) (ms := 6625) ddX8_init_49 ec_3 w_1_108 w_1_109 w_1_4 ?_
  rw [i_nw_id (hJ _ (by omega)), v1_4]
  refine E_dupr (pc := 52) ddX8_init_52 ?_
  refine E_callIN (pc := 53) (mc1 := 13) (ms1 := 328) (mc := 260) (ms := 6297) (As := []) (st := [.ref 34, .ref 1]) (a := 34) ddX8_init_53 hX4_init ⟨(Nat.le_of_ble_eq_true rfl), (Nat.le_of_ble_eq_true rfl)⟩ (nst_mem 2 rfl) (by decide) rfl rfl (Nat.le_of_ble_eq_true rfl) e_cn (Nat.le_of_ble_eq_true rfl) ?_
  refine K_X4 (m := 34) (by show z4.1 + 1 = _; omega) (nw_own v1_4) (fun a ha => hJ a (by omega)) (fun y5 n_5 x_5 c_5 => ?_)
  refine (show E mX8_init 260 6297 56 [some (.ref 1)] [.ref 34, .ref 1] y5 (e_st I 2 2 (-1)) Q from ?_)
  have g_5 := zE.own v1_4 x_5
  have t_5 : y5.2.1 1 = (1, 7) := (g_5 1 (by omega)).1.trans w_4
  refine E_putFR (pc := 56) ddX8_init_56 ec_7 4 (Nat.le_of_ble_eq_true rfl) rfl w_2_12 t_5 rfl rfl rfl (fun _ => rfl) (fun _ => rfl) (by decide) ?_
  obtain ⟨z5, ez5⟩ : ∃ y : Zt, y = z_rf y5 1 4 34 := ⟨_, rfl⟩
  rw [← ez5]
  have v1_5 : z5.1 = 48 := by rw [ez5]; exact n_5
  have w_5 : z5.2.1 1 = (1, 7) := by rw [ez5]; exact t_5
  have f_5 : ∀ a, a ≠ 1 → z5.2.1 a = y5.2.1 a ∧ z5.2.2 a = y5.2.2 a := fun a ha => by rw [ez5]; exact rf_far ha
  have f0_5 : zE 1 z4 z5 := fun a ha => ⟨(f_5 a (by omega)).1.trans (g_5 a (by omega)).1, (f_5 a (by omega)).2.trans (g_5 a (by omega)).2⟩
  have d4_5 : isM z5 34 := c_5.ag (fun a _ _ => f_5 a (by omega))
  have r4_5 : z5.2.2 1 4 = 34 := by rw [ez5]; exact rf_own
  have r0_5 : z5.2.2 1 0 = 2 := by rw [ez5, rf_oth (by decide), (g_5 1 (by omega)).2]; exact r0_4
  have d0_5 : isRd z5 := d0_4.ag (fun a _ _ => ⟨(f_5 a (by omega)).1.trans (g_5 a (by omega)).1, (f_5 a (by omega)).2.trans (g_5 a (by omega)).2⟩)
  have r1_5 : z5.2.2 1 1 = 4 := by rw [ez5, rf_oth (by decide), (g_5 1 (by omega)).2]; exact r1_4
  have d1_5 : isP z5 4 := d1_4.ag (fun a _ _ => ⟨(f_5 a (by omega)).1.trans (g_5 a (by omega)).1, (f_5 a (by omega)).2.trans (g_5 a (by omega)).2⟩)
  have r2_5 : z5.2.2 1 2 = 12 := by rw [ez5, rf_oth (by decide), (g_5 1 (by omega)).2]; exact r2_4
  have d2_5 : isP z5 12 := d2_4.ag (fun a _ _ => ⟨(f_5 a (by omega)).1.trans (g_5 a (by omega)).1, (f_5 a (by omega)).2.trans (g_5 a (by omega)).2⟩)
  have r3_5 : z5.2.2 1 3 = 20 := by rw [ez5, rf_oth (by decide), (g_5 1 (by omega)).2]; exact r3_4
  have d3_5 : isM z5 20 := d3_4.ag (fun a _ _ => ⟨(f_5 a (by omega)).1.trans (g_5 a (by omega)).1, (f_5 a (by omega)).2.trans (g_5 a (by omega)).2⟩)
  refine E_aload_n (pc := 59) (x := 1) ddX8_init_59 rfl rfl ?_
  refine E_new (pc := 60) (mc := 259) (ms := 6294) ddX8_init_60 ec_4 w_1_180 w_1_181 w_1_5 ?_
  rw [i_nw_id (hJ _ (by omega)), v1_5]
  refine E_dupr (pc := 63) ddX8_init_63 ?_
  refine E_callI (pc := 64) (mc1 := 225) (ms1 := 5552) (mc := 34) (ms := 742) (As := []) (st := [.ref 48, .ref 1]) (a := 48) ddX8_init_64 hX5_init ⟨(Nat.le_of_ble_eq_true rfl), (Nat.le_of_ble_eq_true rfl)⟩ w_1_182 (by decide) rfl rfl (Nat.le_of_ble_eq_true rfl) e_cn (Nat.le_of_ble_eq_true rfl) ?_
  refine K_X5 (by show z5.1 + 1 = _; omega) (nw_own v1_5) (fun a ha => hJ a (by omega)) (fun y6 n_6 x_6 c_6 => ?_)
  refine (show E mX8_init 34 742 67 [some (.ref 1)] [.ref 48, .ref 1] y6 (e_st I 2 2 (-1)) Q from ?_)
  have g_6 := zE.own v1_5 x_6
  have t_6 : y6.2.1 1 = (1, 7) := (g_6 1 (by omega)).1.trans w_5
  refine E_putFR (pc := 67) ddX8_init_67 ec_7 5 (Nat.le_of_ble_eq_true rfl) rfl w_2_13 t_6 rfl rfl rfl (fun _ => rfl) (fun _ => rfl) (by decide) ?_
  obtain ⟨z6, ez6⟩ : ∃ y : Zt, y = z_rf y6 1 5 48 := ⟨_, rfl⟩
  rw [← ez6]
  have v1_6 : z6.1 = 274 := by rw [ez6]; exact n_6
  have w_6 : z6.2.1 1 = (1, 7) := by rw [ez6]; exact t_6
  have f_6 : ∀ a, a ≠ 1 → z6.2.1 a = y6.2.1 a ∧ z6.2.2 a = y6.2.2 a := fun a ha => by rw [ez6]; exact rf_far ha
  have f0_6 : zE 1 z5 z6 := fun a ha => ⟨(f_6 a (by omega)).1.trans (g_6 a (by omega)).1, (f_6 a (by omega)).2.trans (g_6 a (by omega)).2⟩
  have d5_6 : isPa z6 := c_6.ag (fun a _ _ => f_6 a (by omega))
  have r5_6 : z6.2.2 1 5 = 48 := by rw [ez6]; exact rf_own
  have r0_6 : z6.2.2 1 0 = 2 := by rw [ez6, rf_oth (by decide), (g_6 1 (by omega)).2]; exact r0_5
  have d0_6 : isRd z6 := d0_5.ag (fun a _ _ => ⟨(f_6 a (by omega)).1.trans (g_6 a (by omega)).1, (f_6 a (by omega)).2.trans (g_6 a (by omega)).2⟩)
  have r1_6 : z6.2.2 1 1 = 4 := by rw [ez6, rf_oth (by decide), (g_6 1 (by omega)).2]; exact r1_5
  have d1_6 : isP z6 4 := d1_5.ag (fun a _ _ => ⟨(f_6 a (by omega)).1.trans (g_6 a (by omega)).1, (f_6 a (by omega)).2.trans (g_6 a (by omega)).2⟩)
  have r2_6 : z6.2.2 1 2 = 12 := by rw [ez6, rf_oth (by decide), (g_6 1 (by omega)).2]; exact r2_5
  have d2_6 : isP z6 12 := d2_5.ag (fun a _ _ => ⟨(f_6 a (by omega)).1.trans (g_6 a (by omega)).1, (f_6 a (by omega)).2.trans (g_6 a (by omega)).2⟩)
  have r3_6 : z6.2.2 1 3 = 20 := by rw [ez6, rf_oth (by decide), (g_6 1 (by omega)).2]; exact r3_5
  have d3_6 : isM z6 20 := d3_5.ag (fun a _ _ => ⟨(f_6 a (by omega)).1.trans (g_6 a (by omega)).1, (f_6 a (by omega)).2.trans (g_6 a (by omega)).2⟩)
  have r4_6 : z6.2.2 1 4 = 34 := by rw [ez6, rf_oth (by decide), (g_6 1 (by omega)).2]; exact r4_5
  have d4_6 : isM z6 34 := d4_5.ag (fun a _ _ => ⟨(f_6 a (by omega)).1.trans (g_6 a (by omega)).1, (f_6 a (by omega)).2.trans (g_6 a (by omega)).2⟩)
  refine E_aload_n (pc := 70) (x := 1) ddX8_init_70 rfl rfl ?_
  refine E_new (pc := 71) (mc := 33) (ms := 739) ddX8_init_71 ec_2 w_1_200 w_1_201 w_1_6 ?_
  rw [i_nw_id (hJ _ (by omega)), v1_6]
  refine E_dupr (pc := 74) ddX8_init_74 ?_
  refine E_callIN (pc := 75) (mc1 := 14) (ms1 := 346) (mc := 19) (ms := 393) (As := []) (st := [.ref 274, .ref 1]) (a := 274) ddX8_init_75 hX2_init ⟨(Nat.le_of_ble_eq_true rfl), (Nat.le_of_ble_eq_true rfl)⟩ (nst_mem 4 rfl) (by decide) rfl rfl (Nat.le_of_ble_eq_true rfl) e_cn (Nat.le_of_ble_eq_true rfl) ?_
  refine K_X2 (i := 274) (by show z6.1 + 1 = _; omega) (nw_own v1_6) (fun a ha => hJ a (by omega)) (fun y7 n_7 x_7 c_7 => ?_)
  refine (show E mX8_init 19 393 78 [some (.ref 1)] [.ref 274, .ref 1] y7 (e_st I 2 2 (-1)) Q from ?_)
  have g_7 := zE.own v1_6 x_7
  have t_7 : y7.2.1 1 = (1, 7) := (g_7 1 (by omega)).1.trans w_6
  refine E_putFR (pc := 78) ddX8_init_78 ec_7 6 (Nat.le_of_ble_eq_true rfl) rfl w_2_14 t_7 rfl rfl rfl (fun _ => rfl) (fun _ => rfl) (by decide) ?_
  obtain ⟨z7, ez7⟩ : ∃ y : Zt, y = z_rf y7 1 6 274 := ⟨_, rfl⟩
  rw [← ez7]
  have v1_7 : z7.1 = 289 := by rw [ez7]; exact n_7
  have w_7 : z7.2.1 1 = (1, 7) := by rw [ez7]; exact t_7
  have f_7 : ∀ a, a ≠ 1 → z7.2.1 a = y7.2.1 a ∧ z7.2.2 a = y7.2.2 a := fun a ha => by rw [ez7]; exact rf_far ha
  have f0_7 : zE 1 z6 z7 := fun a ha => ⟨(f_7 a (by omega)).1.trans (g_7 a (by omega)).1, (f_7 a (by omega)).2.trans (g_7 a (by omega)).2⟩
  have d6_7 : isIm z7 274 := c_7.ag (fun a _ _ => f_7 a (by omega))
  have r6_7 : z7.2.2 1 6 = 274 := by rw [ez7]; exact rf_own
  have r0_7 : z7.2.2 1 0 = 2 := by rw [ez7, rf_oth (by decide), (g_7 1 (by omega)).2]; exact r0_6
  have d0_7 : isRd z7 := d0_6.ag (fun a _ _ => ⟨(f_7 a (by omega)).1.trans (g_7 a (by omega)).1, (f_7 a (by omega)).2.trans (g_7 a (by omega)).2⟩)
  have r1_7 : z7.2.2 1 1 = 4 := by rw [ez7, rf_oth (by decide), (g_7 1 (by omega)).2]; exact r1_6
  have d1_7 : isP z7 4 := d1_6.ag (fun a _ _ => ⟨(f_7 a (by omega)).1.trans (g_7 a (by omega)).1, (f_7 a (by omega)).2.trans (g_7 a (by omega)).2⟩)
  have r2_7 : z7.2.2 1 2 = 12 := by rw [ez7, rf_oth (by decide), (g_7 1 (by omega)).2]; exact r2_6
  have d2_7 : isP z7 12 := d2_6.ag (fun a _ _ => ⟨(f_7 a (by omega)).1.trans (g_7 a (by omega)).1, (f_7 a (by omega)).2.trans (g_7 a (by omega)).2⟩)
  have r3_7 : z7.2.2 1 3 = 20 := by rw [ez7, rf_oth (by decide), (g_7 1 (by omega)).2]; exact r3_6
  have d3_7 : isM z7 20 := d3_6.ag (fun a _ _ => ⟨(f_7 a (by omega)).1.trans (g_7 a (by omega)).1, (f_7 a (by omega)).2.trans (g_7 a (by omega)).2⟩)
  have r4_7 : z7.2.2 1 4 = 34 := by rw [ez7, rf_oth (by decide), (g_7 1 (by omega)).2]; exact r4_6
  have d4_7 : isM z7 34 := d4_6.ag (fun a _ _ => ⟨(f_7 a (by omega)).1.trans (g_7 a (by omega)).1, (f_7 a (by omega)).2.trans (g_7 a (by omega)).2⟩)
  have r5_7 : z7.2.2 1 5 = 48 := by rw [ez7, rf_oth (by decide), (g_7 1 (by omega)).2]; exact r5_6
  have d5_7 : isPa z7 := d5_6.ag (fun a _ _ => ⟨(f_7 a (by omega)).1.trans (g_7 a (by omega)).1, (f_7 a (by omega)).2.trans (g_7 a (by omega)).2⟩)
  refine E_aload_n (pc := 81) (x := 1) ddX8_init_81 rfl rfl ?_
  refine E_new (pc := 82) (mc := 18) (ms := 390) ddX8_init_82 ec_2 w_1_200 w_1_201 w_1_6 ?_
  rw [i_nw_id (hJ _ (by omega)), v1_7]
  refine E_dupr (pc := 85) ddX8_init_85 ?_
  refine E_callIN (pc := 86) (mc1 := 14) (ms1 := 346) (mc := 4) (ms := 44) (As := []) (st := [.ref 289, .ref 1]) (a := 289) ddX8_init_86 hX2_init ⟨(Nat.le_of_ble_eq_true rfl), (Nat.le_of_ble_eq_true rfl)⟩ (nst_mem 4 rfl) (by decide) rfl rfl (Nat.le_of_ble_eq_true rfl) e_cn (Nat.le_of_ble_eq_true rfl) ?_
  refine K_X2 (i := 289) (by show z7.1 + 1 = _; omega) (nw_own v1_7) (fun a ha => hJ a (by omega)) (fun y8 n_8 x_8 c_8 => ?_)
  refine (show E mX8_init 4 44 89 [some (.ref 1)] [.ref 289, .ref 1] y8 (e_st I 2 2 (-1)) Q from ?_)
  have g_8 := zE.own v1_7 x_8
  have t_8 : y8.2.1 1 = (1, 7) := (g_8 1 (by omega)).1.trans w_7
  refine E_putFR (pc := 89) ddX8_init_89 ec_7 7 (Nat.le_of_ble_eq_true rfl) rfl w_2_15 t_8 rfl rfl rfl (fun _ => rfl) (fun _ => rfl) (by decide) ?_
  obtain ⟨z8, ez8⟩ : ∃ y : Zt, y = z_rf y8 1 7 289 := ⟨_, rfl⟩
  rw [← ez8]
  have v1_8 : z8.1 = 304 := by rw [ez8]; exact n_8
  have w_8 : z8.2.1 1 = (1, 7) := by rw [ez8]; exact t_8
  have f_8 : ∀ a, a ≠ 1 → z8.2.1 a = y8.2.1 a ∧ z8.2.2 a = y8.2.2 a := fun a ha => by rw [ez8]; exact rf_far ha
  have f0_8 : zE 1 z7 z8 := fun a ha => ⟨(f_8 a (by omega)).1.trans (g_8 a (by omega)).1, (f_8 a (by omega)).2.trans (g_8 a (by omega)).2⟩
  have d7_8 : isIm z8 289 := c_8.ag (fun a _ _ => f_8 a (by omega))
  have r7_8 : z8.2.2 1 7 = 289 := by rw [ez8]; exact rf_own
  have r0_8 : z8.2.2 1 0 = 2 := by rw [ez8, rf_oth (by decide), (g_8 1 (by omega)).2]; exact r0_7
  have d0_8 : isRd z8 := d0_7.ag (fun a _ _ => ⟨(f_8 a (by omega)).1.trans (g_8 a (by omega)).1, (f_8 a (by omega)).2.trans (g_8 a (by omega)).2⟩)
  have r1_8 : z8.2.2 1 1 = 4 := by rw [ez8, rf_oth (by decide), (g_8 1 (by omega)).2]; exact r1_7
  have d1_8 : isP z8 4 := d1_7.ag (fun a _ _ => ⟨(f_8 a (by omega)).1.trans (g_8 a (by omega)).1, (f_8 a (by omega)).2.trans (g_8 a (by omega)).2⟩)
  have r2_8 : z8.2.2 1 2 = 12 := by rw [ez8, rf_oth (by decide), (g_8 1 (by omega)).2]; exact r2_7
  have d2_8 : isP z8 12 := d2_7.ag (fun a _ _ => ⟨(f_8 a (by omega)).1.trans (g_8 a (by omega)).1, (f_8 a (by omega)).2.trans (g_8 a (by omega)).2⟩)
  have r3_8 : z8.2.2 1 3 = 20 := by rw [ez8, rf_oth (by decide), (g_8 1 (by omega)).2]; exact r3_7
  have d3_8 : isM z8 20 := d3_7.ag (fun a _ _ => ⟨(f_8 a (by omega)).1.trans (g_8 a (by omega)).1, (f_8 a (by omega)).2.trans (g_8 a (by omega)).2⟩)
  have r4_8 : z8.2.2 1 4 = 34 := by rw [ez8, rf_oth (by decide), (g_8 1 (by omega)).2]; exact r4_7
  have d4_8 : isM z8 34 := d4_7.ag (fun a _ _ => ⟨(f_8 a (by omega)).1.trans (g_8 a (by omega)).1, (f_8 a (by omega)).2.trans (g_8 a (by omega)).2⟩)
  have r5_8 : z8.2.2 1 5 = 48 := by rw [ez8, rf_oth (by decide), (g_8 1 (by omega)).2]; exact r5_7
  have d5_8 : isPa z8 := d5_7.ag (fun a _ _ => ⟨(f_8 a (by omega)).1.trans (g_8 a (by omega)).1, (f_8 a (by omega)).2.trans (g_8 a (by omega)).2⟩)
  have r6_8 : z8.2.2 1 6 = 274 := by rw [ez8, rf_oth (by decide), (g_8 1 (by omega)).2]; exact r6_7
  have d6_8 : isIm z8 274 := d6_7.ag (fun a _ _ => ⟨(f_8 a (by omega)).1.trans (g_8 a (by omega)).1, (f_8 a (by omega)).2.trans (g_8 a (by omega)).2⟩)
  refine E_aload_n (pc := 92) (x := 1) ddX8_init_92 rfl rfl ?_
  refine E_new (pc := 93) (mc := 3) (ms := 41) ddX8_init_93 ec_0 w_1_219 w_1_220 w_1_7 ?_
  rw [i_nw_id (hJ _ (by omega)), v1_8]
  refine E_dupr (pc := 96) ddX8_init_96 ?_
  refine E_callIN (pc := 97) (mc1 := 2) (ms1 := 40) (mc := 1) (ms := 1) (As := []) (st := [.ref 304, .ref 1]) (a := 304) ddX8_init_97 hX0_init ⟨(Nat.le_of_ble_eq_true rfl), (Nat.le_of_ble_eq_true rfl)⟩ (nst_mem 6 rfl) (by decide) rfl rfl (Nat.le_of_ble_eq_true rfl) e_cn (Nat.le_of_ble_eq_true rfl) ?_
  refine K_X0 (by show z8.1 + 1 = _; omega) (nw_own v1_8) (fun a ha => hJ a (by omega)) (fun y9 n_9 x_9 c_9 => ?_)
  refine (show E mX8_init 1 1 100 [some (.ref 1)] [.ref 304, .ref 1] y9 (e_st I 2 2 (-1)) Q from ?_)
  have g_9 := zE.own v1_8 x_9
  have t_9 : y9.2.1 1 = (1, 7) := (g_9 1 (by omega)).1.trans w_8
  refine E_putFR (pc := 100) ddX8_init_100 ec_7 8 (Nat.le_of_ble_eq_true rfl) rfl w_2_16 t_9 rfl rfl rfl (fun _ => rfl) (fun _ => rfl) (by decide) ?_
  obtain ⟨z9, ez9⟩ : ∃ y : Zt, y = z_rf y9 1 8 304 := ⟨_, rfl⟩
  rw [← ez9]
  have v1_9 : z9.1 = 307 := by rw [ez9]; exact n_9
  have w_9 : z9.2.1 1 = (1, 7) := by rw [ez9]; exact t_9
  have f_9 : ∀ a, a ≠ 1 → z9.2.1 a = y9.2.1 a ∧ z9.2.2 a = y9.2.2 a := fun a ha => by rw [ez9]; exact rf_far ha
  have f0_9 : zE 1 z8 z9 := fun a ha => ⟨(f_9 a (by omega)).1.trans (g_9 a (by omega)).1, (f_9 a (by omega)).2.trans (g_9 a (by omega)).2⟩
  have d8_9 : isBk z9 := c_9.ag (fun a _ _ => f_9 a (by omega))
  have r8_9 : z9.2.2 1 8 = 304 := by rw [ez9]; exact rf_own
  have r0_9 : z9.2.2 1 0 = 2 := by rw [ez9, rf_oth (by decide), (g_9 1 (by omega)).2]; exact r0_8
  have d0_9 : isRd z9 := d0_8.ag (fun a _ _ => ⟨(f_9 a (by omega)).1.trans (g_9 a (by omega)).1, (f_9 a (by omega)).2.trans (g_9 a (by omega)).2⟩)
  have r1_9 : z9.2.2 1 1 = 4 := by rw [ez9, rf_oth (by decide), (g_9 1 (by omega)).2]; exact r1_8
  have d1_9 : isP z9 4 := d1_8.ag (fun a _ _ => ⟨(f_9 a (by omega)).1.trans (g_9 a (by omega)).1, (f_9 a (by omega)).2.trans (g_9 a (by omega)).2⟩)
  have r2_9 : z9.2.2 1 2 = 12 := by rw [ez9, rf_oth (by decide), (g_9 1 (by omega)).2]; exact r2_8
  have d2_9 : isP z9 12 := d2_8.ag (fun a _ _ => ⟨(f_9 a (by omega)).1.trans (g_9 a (by omega)).1, (f_9 a (by omega)).2.trans (g_9 a (by omega)).2⟩)
  have r3_9 : z9.2.2 1 3 = 20 := by rw [ez9, rf_oth (by decide), (g_9 1 (by omega)).2]; exact r3_8
  have d3_9 : isM z9 20 := d3_8.ag (fun a _ _ => ⟨(f_9 a (by omega)).1.trans (g_9 a (by omega)).1, (f_9 a (by omega)).2.trans (g_9 a (by omega)).2⟩)
  have r4_9 : z9.2.2 1 4 = 34 := by rw [ez9, rf_oth (by decide), (g_9 1 (by omega)).2]; exact r4_8
  have d4_9 : isM z9 34 := d4_8.ag (fun a _ _ => ⟨(f_9 a (by omega)).1.trans (g_9 a (by omega)).1, (f_9 a (by omega)).2.trans (g_9 a (by omega)).2⟩)
  have r5_9 : z9.2.2 1 5 = 48 := by rw [ez9, rf_oth (by decide), (g_9 1 (by omega)).2]; exact r5_8
  have d5_9 : isPa z9 := d5_8.ag (fun a _ _ => ⟨(f_9 a (by omega)).1.trans (g_9 a (by omega)).1, (f_9 a (by omega)).2.trans (g_9 a (by omega)).2⟩)
  have r6_9 : z9.2.2 1 6 = 274 := by rw [ez9, rf_oth (by decide), (g_9 1 (by omega)).2]; exact r6_8
  have d6_9 : isIm z9 274 := d6_8.ag (fun a _ _ => ⟨(f_9 a (by omega)).1.trans (g_9 a (by omega)).1, (f_9 a (by omega)).2.trans (g_9 a (by omega)).2⟩)
  have r7_9 : z9.2.2 1 7 = 289 := by rw [ez9, rf_oth (by decide), (g_9 1 (by omega)).2]; exact r7_8
  have d7_9 : isIm z9 289 := d7_8.ag (fun a _ _ => ⟨(f_9 a (by omega)).1.trans (g_9 a (by omega)).1, (f_9 a (by omega)).2.trans (g_9 a (by omega)).2⟩)
  refine E_aload_n (pc := 103) (x := 1) ddX8_init_103 rfl rfl ?_
  refine E_new (pc := 104) (mc := 0) (ms := 0) ddX8_init_104 ec_1 w_1_236 w_1_237 w_1_8 ?_
  rw [i_nw_id (hJ _ (by omega)), v1_9]
  refine E_dupr (pc := 107) ddX8_init_107 ?_
  refine E_callIN (pc := 108) (mc1 := 0) (ms1 := 0) (mc := 0) (ms := 0) (As := []) (st := [.ref 307, .ref 1]) (a := 307) ddX8_init_108 hX1_init ⟨(Nat.le_of_ble_eq_true rfl), (Nat.le_of_ble_eq_true rfl)⟩ (nst_mem 7 rfl) (by decide) rfl rfl (Nat.le_of_ble_eq_true rfl) e_cn (Nat.le_of_ble_eq_true rfl) ?_
  refine K_X1 ?_
  obtain ⟨y10, ey10⟩ : ∃ y : Zt, y = z_nw z9 (1, 1) := ⟨_, rfl⟩
  rw [← ey10]
  have n_10 : y10.1 = 308 := by rw [ey10]; show z9.1 + 1 = 308; omega
  have x_10 : zE 307 (z_nw z9 (1, 1)) y10 := by rw [ey10]; exact zE.rf
  have c_10 : isDr y10 := by rw [ey10]; exact nw_own v1_9
  refine (show E mX8_init 0 0 111 [some (.ref 1)] [.ref 307, .ref 1] y10 (e_st I 2 2 (-1)) Q from ?_)
  have g_10 := zE.own v1_9 x_10
  have t_10 : y10.2.1 1 = (1, 7) := (g_10 1 (by omega)).1.trans w_9
  refine E_putFR (pc := 111) ddX8_init_111 ec_7 9 (Nat.le_of_ble_eq_true rfl) rfl w_2_17 t_10 rfl rfl rfl (fun _ => rfl) (fun _ => rfl) (by decide) ?_
  obtain ⟨z10, ez10⟩ : ∃ y : Zt, y = z_rf y10 1 9 307 := ⟨_, rfl⟩
  rw [← ez10]
  have v1_10 : z10.1 = 308 := by rw [ez10]; exact n_10
  have w_10 : z10.2.1 1 = (1, 7) := by rw [ez10]; exact t_10
  have f_10 : ∀ a, a ≠ 1 → z10.2.1 a = y10.2.1 a ∧ z10.2.2 a = y10.2.2 a := fun a ha => by rw [ez10]; exact rf_far ha
  have f0_10 : zE 1 z9 z10 := fun a ha => ⟨(f_10 a (by omega)).1.trans (g_10 a (by omega)).1, (f_10 a (by omega)).2.trans (g_10 a (by omega)).2⟩
  have d9_10 : isDr z10 := c_10.ag (f_10 307 (by omega)).1
  have r9_10 : z10.2.2 1 9 = 307 := by rw [ez10]; exact rf_own
  have r0_10 : z10.2.2 1 0 = 2 := by rw [ez10, rf_oth (by decide), (g_10 1 (by omega)).2]; exact r0_9
  have d0_10 : isRd z10 := d0_9.ag (fun a _ _ => ⟨(f_10 a (by omega)).1.trans (g_10 a (by omega)).1, (f_10 a (by omega)).2.trans (g_10 a (by omega)).2⟩)
  have r1_10 : z10.2.2 1 1 = 4 := by rw [ez10, rf_oth (by decide), (g_10 1 (by omega)).2]; exact r1_9
  have d1_10 : isP z10 4 := d1_9.ag (fun a _ _ => ⟨(f_10 a (by omega)).1.trans (g_10 a (by omega)).1, (f_10 a (by omega)).2.trans (g_10 a (by omega)).2⟩)
  have r2_10 : z10.2.2 1 2 = 12 := by rw [ez10, rf_oth (by decide), (g_10 1 (by omega)).2]; exact r2_9
  have d2_10 : isP z10 12 := d2_9.ag (fun a _ _ => ⟨(f_10 a (by omega)).1.trans (g_10 a (by omega)).1, (f_10 a (by omega)).2.trans (g_10 a (by omega)).2⟩)
  have r3_10 : z10.2.2 1 3 = 20 := by rw [ez10, rf_oth (by decide), (g_10 1 (by omega)).2]; exact r3_9
  have d3_10 : isM z10 20 := d3_9.ag (fun a _ _ => ⟨(f_10 a (by omega)).1.trans (g_10 a (by omega)).1, (f_10 a (by omega)).2.trans (g_10 a (by omega)).2⟩)
  have r4_10 : z10.2.2 1 4 = 34 := by rw [ez10, rf_oth (by decide), (g_10 1 (by omega)).2]; exact r4_9
  have d4_10 : isM z10 34 := d4_9.ag (fun a _ _ => ⟨(f_10 a (by omega)).1.trans (g_10 a (by omega)).1, (f_10 a (by omega)).2.trans (g_10 a (by omega)).2⟩)
  have r5_10 : z10.2.2 1 5 = 48 := by rw [ez10, rf_oth (by decide), (g_10 1 (by omega)).2]; exact r5_9
  have d5_10 : isPa z10 := d5_9.ag (fun a _ _ => ⟨(f_10 a (by omega)).1.trans (g_10 a (by omega)).1, (f_10 a (by omega)).2.trans (g_10 a (by omega)).2⟩)
  have r6_10 : z10.2.2 1 6 = 274 := by rw [ez10, rf_oth (by decide), (g_10 1 (by omega)).2]; exact r6_9
  have d6_10 : isIm z10 274 := d6_9.ag (fun a _ _ => ⟨(f_10 a (by omega)).1.trans (g_10 a (by omega)).1, (f_10 a (by omega)).2.trans (g_10 a (by omega)).2⟩)
  have r7_10 : z10.2.2 1 7 = 289 := by rw [ez10, rf_oth (by decide), (g_10 1 (by omega)).2]; exact r7_9
  have d7_10 : isIm z10 289 := d7_9.ag (fun a _ _ => ⟨(f_10 a (by omega)).1.trans (g_10 a (by omega)).1, (f_10 a (by omega)).2.trans (g_10 a (by omega)).2⟩)
  have r8_10 : z10.2.2 1 8 = 304 := by rw [ez10, rf_oth (by decide), (g_10 1 (by omega)).2]; exact r8_9
  have d8_10 : isBk z10 := d8_9.ag (fun a _ _ => ⟨(f_10 a (by omega)).1.trans (g_10 a (by omega)).1, (f_10 a (by omega)).2.trans (g_10 a (by omega)).2⟩)
  have fr := (((((((((f0_1).tr f0_2).tr f0_3).tr f0_4).tr f0_5).tr f0_6).tr f0_7).tr f0_8).tr f0_9).tr f0_10
  exact E_vret (pc := 114) ddX8_init_114 rfl (k z10 v1_10 fr ⟨w_10, r0_10, r1_10, r2_10, r3_10, r4_10, r5_10, r6_10, r7_10, r8_10, r9_10, by decide, by decide, d0_10, d1_10, d2_10, d3_10, d4_10, d5_10, d6_10, d7_10, d8_10, d9_10⟩)
