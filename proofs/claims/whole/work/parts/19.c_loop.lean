/-! ===== the law's loop ===== -/
theorem lw_lt {n i : Nat} (hn : n ≤ 2048) (hi : i < 4096) (h : n < i + 4) : nI n - 4 < nI i := by
  rcases Nat.lt_or_ge n 4 with q | q
  · have hb : nI n - 4 < 0 := by
      have : n = 0 ∨ n = 1 ∨ n = 2 ∨ n = 3 := by omega
      rcases this with e | e | e | e <;> subst e <;> decide
    rw [Int32.lt_iff_toInt_lt] at hb ⊢
    rw [nI_toInt (by omega)]
    have e0 : (0 : Int32).toInt = 0 := rfl
    omega
  · have e : nI n - 4 = nI (n - 4) := pk_sub (a := n) (b := 4) q
    rw [e]
    exact nI_lt (by omega) (by omega)
theorem lw_ge {n i : Nat} (hn : n ≤ 2048) (h : i + 4 ≤ n) : ¬ nI n - 4 < nI i := by
  have e : nI n - 4 = nI (n - 4) := pk_sub (a := n) (b := 4) (by omega)
  rw [e]
  intro q
  rw [Int32.lt_iff_toInt_lt, nI_toInt (by omega), nI_toInt (by omega)] at q
  omega
section L2
variable {mc ms : Nat} {z : Zt} {I : It} {Q : Option Value → Zt → It → Prop} {n i T : Nat} {G : Gt}
set_option maxRecDepth 100000 in
set_option maxHeartbeats 4000000 in
theorem LC_switch (hL : LI n T z I G) (hn : n ≤ 2048) (hi : i + 4 ≤ n) (hT : T + 4000 < 2147483647) (k : ∀ z' I' G', LI n (T + 400) z' I' G' → E mL_law mc ms 685 [some (.ref 0), some (.ref 1), some (.ref 308), some (.int (nI i))] [] z' I' Q) : E mL_law mc ms 26 [some (.ref 0), some (.ref 1), some (.ref 308), some (.int (nI i))] [] z I Q := by
  obtain ⟨pa, pb, hz, hab, ho, hs, hC1, hY1, hG⟩ := id hL
  refine E_aload_n (pc := 26) (x := 0) ddL_law_26 rfl rfl ?_
  refine E_iload_n (pc := 27) (x := nI i) ddL_law_27 rfl rfl ?_
  refine E_ialdN (pc := 28) (j := i) ddL_law_28 hs rfl (by omega) (by omega) ?_
  refine E_bipush (pc := 29) (v := 31) ddL_law_29 rfl ?_
  refine E_iand (pc := 31) ddL_law_31 ?_
  generalize I 0 i &&& 31 = w
  by_cases h0 : w = 0
  · refine E_tswIn (pc := 32) (v := 0) (tgt := 132) ddL_law_32 (by rw [h0]; rfl) (by decide) (by decide) rfl (by decide) ?_
    exact LC_feed hL hn hi hT k
  by_cases h1 : w = 1
  · refine E_tswIn (pc := 32) (v := 1) (tgt := 155) ddL_law_32 (by rw [h1]; rfl) (by decide) (by decide) rfl (by decide) ?_
    exact LC_wires hL hn hi hT k
  by_cases h2 : w = 2
  · refine E_tswIn (pc := 32) (v := 2) (tgt := 168) ddL_law_32 (by rw [h2]; rfl) (by decide) (by decide) rfl (by decide) ?_
    exact LC_fault hL hn hi hT k
  by_cases h3 : w = 3
  · refine E_tswIn (pc := 32) (v := 3) (tgt := 181) ddL_law_32 (by rw [h3]; rfl) (by decide) (by decide) rfl (by decide) ?_
    exact LC_told hL hn hi hT k
  by_cases h4 : w = 4
  · refine E_tswIn (pc := 32) (v := 4) (tgt := 204) ddL_law_32 (by rw [h4]; rfl) (by decide) (by decide) rfl (by decide) ?_
    exact LC_wire hL hn hi hT k
  by_cases h5 : w = 5
  · refine E_tswIn (pc := 32) (v := 5) (tgt := 237) ddL_law_32 (by rw [h5]; rfl) (by decide) (by decide) rfl (by decide) ?_
    exact LC_wave hL hn hi hT k
  by_cases h6 : w = 6
  · refine E_tswIn (pc := 32) (v := 6) (tgt := 280) ddL_law_32 (by rw [h6]; rfl) (by decide) (by decide) rfl (by decide) ?_
    exact LC_gate hL hn hi hT k
  by_cases h7 : w = 7
  · refine E_tswIn (pc := 32) (v := 7) (tgt := 313) ddL_law_32 (by rw [h7]; rfl) (by decide) (by decide) rfl (by decide) ?_
    exact LC_queue hL hn hi hT k
  by_cases h8 : w = 8
  · refine E_tswIn (pc := 32) (v := 8) (tgt := 356) ddL_law_32 (by rw [h8]; rfl) (by decide) (by decide) rfl (by decide) ?_
    exact LC_resolved hL hn hi hT k
  by_cases h9 : w = 9
  · refine E_tswIn (pc := 32) (v := 9) (tgt := 389) ddL_law_32 (by rw [h9]; rfl) (by decide) (by decide) rfl (by decide) ?_
    exact LC_comes hL hn hi hT k
  by_cases h10 : w = 10
  · refine E_tswIn (pc := 32) (v := 10) (tgt := 432) ddL_law_32 (by rw [h10]; rfl) (by decide) (by decide) rfl (by decide) ?_
    exact LC_step hL hn hi hT k
  by_cases h11 : w = 11
  · refine E_tswIn (pc := 32) (v := 11) (tgt := 445) ddL_law_32 (by rw [h11]; rfl) (by decide) (by decide) rfl (by decide) ?_
    exact LC_run hL hn hi hT k
  by_cases h12 : w = 12
  · refine E_tswIn (pc := 32) (v := 12) (tgt := 468) ddL_law_32 (by rw [h12]; rfl) (by decide) (by decide) rfl (by decide) ?_
    exact LC_set hL hn hi hT k
  by_cases h13 : w = 13
  · refine E_tswIn (pc := 32) (v := 13) (tgt := 511) ddL_law_32 (by rw [h13]; rfl) (by decide) (by decide) rfl (by decide) ?_
    exact LC_calm hL hn hi hT k
  by_cases h14 : w = 14
  · refine E_tswIn (pc := 32) (v := 14) (tgt := 524) ddL_law_32 (by rw [h14]; rfl) (by decide) (by decide) rfl (by decide) ?_
    exact LC_drift hL hn hi hT k
  by_cases h15 : w = 15
  · refine E_tswIn (pc := 32) (v := 15) (tgt := 547) ddL_law_32 (by rw [h15]; rfl) (by decide) (by decide) rfl (by decide) ?_
    exact LC_undo hL hn hi hT k
  by_cases h16 : w = 16
  · refine E_tswIn (pc := 32) (v := 16) (tgt := 570) ddL_law_32 (by rw [h16]; rfl) (by decide) (by decide) rfl (by decide) ?_
    exact LC_write hL hn hi hT k
  by_cases h17 : w = 17
  · refine E_tswIn (pc := 32) (v := 17) (tgt := 603) ddL_law_32 (by rw [h17]; rfl) (by decide) (by decide) rfl (by decide) ?_
    exact LC_tear hL hn hi hT k
  by_cases h18 : w = 18
  · refine E_tswIn (pc := 32) (v := 18) (tgt := 616) ddL_law_32 (by rw [h18]; rfl) (by decide) (by decide) rfl (by decide) ?_
    exact LC_seed hL hn hi hT k
  by_cases h19 : w = 19
  · refine E_tswIn (pc := 32) (v := 19) (tgt := 639) ddL_law_32 (by rw [h19]; rfl) (by decide) (by decide) rfl (by decide) ?_
    exact LC_keep hL hn hi hT k
  by_cases h20 : w = 20
  · refine E_tswIn (pc := 32) (v := 20) (tgt := 662) ddL_law_32 (by rw [h20]; rfl) (by decide) (by decide) rfl (by decide) ?_
    exact LC_goBack hL hn hi hT k
  have q0 := lv_neT h0 (a := 0) rfl
  have q1 := lv_neT h1 (a := 1) rfl
  have q2 := lv_neT h2 (a := 2) rfl
  have q3 := lv_neT h3 (a := 3) rfl
  have q4 := lv_neT h4 (a := 4) rfl
  have q5 := lv_neT h5 (a := 5) rfl
  have q6 := lv_neT h6 (a := 6) rfl
  have q7 := lv_neT h7 (a := 7) rfl
  have q8 := lv_neT h8 (a := 8) rfl
  have q9 := lv_neT h9 (a := 9) rfl
  have q10 := lv_neT h10 (a := 10) rfl
  have q11 := lv_neT h11 (a := 11) rfl
  have q12 := lv_neT h12 (a := 12) rfl
  have q13 := lv_neT h13 (a := 13) rfl
  have q14 := lv_neT h14 (a := 14) rfl
  have q15 := lv_neT h15 (a := 15) rfl
  have q16 := lv_neT h16 (a := 16) rfl
  have q17 := lv_neT h17 (a := 17) rfl
  have q18 := lv_neT h18 (a := 18) rfl
  have q19 := lv_neT h19 (a := 19) rfl
  have q20 := lv_neT h20 (a := 20) rfl
  refine E_tswOut (pc := 32) (tgt := 685) ddL_law_32 (by omega) (by decide) ?_
  exact k z I G ⟨pa, pb, hz, hab, ho, hs, hC1, hY1, hG.le (by omega)⟩
set_option maxRecDepth 100000 in
set_option maxHeartbeats 4000000 in
theorem LC_loop (hn : n ≤ 2048) (k : ∀ z I, Q (some (.int 1)) z I) : ∀ (r i : Nat) (z : Zt) (I : It) (G : Gt), n ≤ i + r → i ≤ 2048 → LI n (100 * i) z I G → E mL_law mc ms 18 [some (.ref 0), some (.ref 1), some (.ref 308), some (.int (nI i))] [] z I Q := by
  intro r
  induction r with
  | zero =>
    intro i z I G hr hi hL
    obtain ⟨pa, pb, hz, hab, ho, hs, hC1, hY1, hG⟩ := id hL
    refine E_iload_n (pc := 18) (x := nI i) ddL_law_18 rfl rfl ?_
    refine E_aload_n (pc := 19) (x := 0) ddL_law_19 rfl rfl ?_
    refine E_alen (pc := 20) (n := n) ddL_law_20 hs ?_
    refine E_iconst (pc := 21) (v := 4) ddL_law_21 rfl ?_
    refine E_isub (pc := 22) ddL_law_22 ?_
    refine E_icmp_gt (pc := 23) (tgt := 691) ddL_law_23 (by decide) (fun _ => ?_) (fun h => absurd (lw_lt hn (by omega) (by omega)) h)
    refine E_iconst (pc := 691) (v := 1) ddL_law_691 rfl ?_
    exact E_zret (pc := 692) ddL_law_692 rfl (Or.inr rfl) (k z I)
  | succ r ih =>
    intro i z I G hr hi hL
    obtain ⟨pa, pb, hz, hab, ho, hs, hC1, hY1, hG⟩ := id hL
    refine E_iload_n (pc := 18) (x := nI i) ddL_law_18 rfl rfl ?_
    refine E_aload_n (pc := 19) (x := 0) ddL_law_19 rfl rfl ?_
    refine E_alen (pc := 20) (n := n) ddL_law_20 hs ?_
    refine E_iconst (pc := 21) (v := 4) ddL_law_21 rfl ?_
    refine E_isub (pc := 22) ddL_law_22 ?_
    by_cases h4 : i + 4 ≤ n
    · refine E_icmp_gt (pc := 23) (tgt := 691) ddL_law_23 (by decide) (fun h => absurd h (lw_ge hn h4)) (fun _ => ?_)
      refine LC_switch hL hn h4 (by omega) (fun z' I' G' hL' => ?_)
      refine E_iinc (pc := 685) (v := nI (i + 4)) (ls' := [some (.ref 0), some (.ref 1), some (.ref 308), some (.int (nI (i + 4)))]) ddL_law_685 rfl (ix2 i 4) (Nat.le_of_ble_eq_true rfl) rfl rfl ?_
      refine E_goto (pc := 688) (tgt := 18) ddL_law_688 (by decide) ?_
      refine ih (i + 4) z' I' G' (by omega) (by omega) ?_
      rw [show 100 * (i + 4) = 100 * i + 400 by omega]; exact hL'
    · refine E_icmp_gt (pc := 23) (tgt := 691) ddL_law_23 (by decide) (fun _ => ?_) (fun h => absurd (lw_lt hn (by omega) (by omega)) h)
      refine E_iconst (pc := 691) (v := 1) ddL_law_691 rfl ?_
      exact E_zret (pc := 692) ddL_law_692 rfl (Or.inr rfl) (k z I)
end L2
theorem isZ.ag {z z' : Zt} (h : isZ z 4 12) (he : zE 308 z z') : isZ z' 4 12 :=
  ⟨(he 1 (by omega)).1.trans h.s0, (congrFun (he 1 (by omega)).2 0).trans h.r0, (congrFun (he 1 (by omega)).2 1).trans h.r1, (congrFun (he 1 (by omega)).2 2).trans h.r2, (congrFun (he 1 (by omega)).2 3).trans h.r3, (congrFun (he 1 (by omega)).2 4).trans h.r4, (congrFun (he 1 (by omega)).2 5).trans h.r5, (congrFun (he 1 (by omega)).2 6).trans h.r6, (congrFun (he 1 (by omega)).2 7).trans h.r7, (congrFun (he 1 (by omega)).2 8).trans h.r8, (congrFun (he 1 (by omega)).2 9).trans h.r9, h.npa, h.npb, h.rd.ag (fun a _ _ => he a (by omega)), h.pa.ag (fun a _ _ => he a (by omega)), h.pb.ag (fun a _ _ => he a (by omega)), h.now.ag (fun a _ _ => he a (by omega)), h.trial.ag (fun a _ _ => he a (by omega)), h.past.ag (fun a _ _ => he a (by omega)), h.im1.ag (fun a _ _ => he a (by omega)), h.im2.ag (fun a _ _ => he a (by omega)), h.book.ag (fun a _ _ => he a (by omega)), h.draws.ag (he 307 (by omega)).1⟩
/-- before the first call -/
def κ0 : Kt := bg π0 lv0
def G0 : Gt := (π0, κ0, fun _ => κ0, 0, κ0, κ0, fun _ _ => 0)
theorem κ0_0 {f i j : Nat} : κ0 f i j = 0 := by
  show (if f = 4 then 0 else if f = 11 then 0 else 0) = 0
  split
  · rfl
  · split <;> rfl
theorem WG_0 : WG 0 G0 := ⟨W00.1, ⟨bg_WK W00.1 W00.2, Nat.zero_le _⟩, ⟨Nat.zero_le _, fun k hk => absurd hk (Nat.not_lt_zero _)⟩, ⟨Nat.zero_le _, fun q => absurd q (by show ¬ (0 : Nat) = 1; omega)⟩, ⟨Nat.zero_le _, fun q => absurd q (by show ¬ (0 : Nat) = 1; omega)⟩, by show (0 : Nat) < 2147483648; omega, ⟨Nat.zero_le _, fun k hk => absurd hk (Nat.not_lt_zero _)⟩, ⟨Nat.zero_le _, fun k hk => absurd hk (Nat.not_lt_zero _), Nat.zero_le _⟩⟩
theorem bsum_0 : (bsum fun w => κ0 7 w 0) = 0 := rfl
section L3
variable {I : It} {n : Nat}
theorem hM_0 {m : Nat} {J : It} (hJ : ∀ a, m ≤ a → a ≤ m + 13 → J a = fun _ => 0) : hM J m π0 κ0 := by
  have z : ∀ a k, m ≤ a → a ≤ m + 13 → J a k = nI 0 := fun a k h1 h2 => by rw [hJ a h1 h2]; rfl
  refine ⟨⟨z m 0 (by omega) (by omega), z m 1 (by omega) (by omega), z m 2 (by omega) (by omega), z m 14 (by omega) (by omega)⟩, ⟨by rw [bsum_0]; exact z m 3 (by omega) (by omega), fun w hw => absurd hw (Nat.not_lt_zero _)⟩, ⟨fun g hg => absurd hg (Nat.not_lt_zero _), fun g hg => z (m + 8) g (by omega) (by omega), fun g hg => absurd hg (Nat.not_lt_zero _)⟩, fun k hk => absurd hk (Nat.not_lt_zero _)⟩
theorem hC_0 (hI : ∀ a, 1 ≤ a → I a = fun _ => 0) : hC (e_st (e_st I 2 2 (-1)) 308 13 (-1)) 4 G0 := by
  have z : ∀ a k, 1 ≤ a → a ≠ 2 → a ≠ 308 → e_st (e_st I 2 2 (-1)) 308 13 (-1) a k = nI 0 := fun a k h1 h2 h3 => by rw [e_st_a h3, e_st_a h2, hI a h1]; rfl
  have zf : ∀ a, 1 ≤ a → a ≠ 2 → a ≠ 308 → e_st (e_st I 2 2 (-1)) 308 13 (-1) a = fun _ => 0 := fun a h1 h2 h3 => by rw [e_st_a h3, e_st_a h2, hI a h1]
  refine ⟨⟨z 4 0 (by omega) (by omega) (by omega), z 4 1 (by omega) (by omega) (by omega), fun g hg => absurd hg (Nat.not_lt_zero _)⟩, hM_0 (fun a _ _ => zf a (by omega) (by omega) (by omega)), ⟨Nat.zero_le _, z 48 2 (by omega) (by omega) (by omega), 0, by omega, z 48 1 (by omega) (by omega) (by omega), fun k hk => absurd hk (Nat.not_lt_zero _)⟩, ⟨Nat.zero_le _, z 274 2 (by omega) (by omega) (by omega), fun q => absurd q (by show ¬ (0 : Nat) = 1; omega)⟩, ⟨Nat.zero_le _, z 289 2 (by omega) (by omega) (by omega), fun q => absurd q (by show ¬ (0 : Nat) = 1; omega)⟩, z 307 0 (by omega) (by omega) (by omega), ⟨z 304 2 (by omega) (by omega) (by omega), fun k hk => absurd hk (Nat.not_lt_zero _)⟩, ⟨?_, fun k hk => absurd hk (Nat.not_lt_zero _), ?_⟩⟩
  · rw [e_st_a (by decide), e_st_k (by decide), hI 2 (by omega)]; rfl
  · rw [e_st_a (by decide), e_st_same]; rfl
theorem hY_0 (hI : ∀ a, 1 ≤ a → I a = fun _ => 0) : hY (e_st (e_st I 2 2 (-1)) 308 13 (-1)) G0 := by
  have z : ∀ k, e_st (e_st I 2 2 (-1)) 308 13 (-1) 309 k = nI 0 := fun k => by rw [e_st_a (by decide), e_st_a (by decide), hI 309 (by omega)]; rfl
  have zo : ∀ k, k ≠ 13 → e_st (e_st I 2 2 (-1)) 308 13 (-1) 308 k = nI 0 := fun k hk => by rw [e_st_k hk, e_st_a (by decide), hI 308 (by omega)]; rfl
  refine ⟨⟨zo 1 (by omega), zo 2 (by omega), fun g hg => absurd hg (Nat.not_lt_zero _)⟩, ⟨⟨z _, z _, z _, z _⟩, fun w hw => absurd hw (Nat.not_lt_zero _), fun g hg => absurd hg (Nat.not_lt_zero _), fun k hk => absurd hk (Nat.not_lt_zero _)⟩, ⟨Nat.zero_le _, zo 4 (by omega), fun k hk => absurd hk (Nat.not_lt_zero _)⟩, ⟨zo 5 (by omega), fun q => absurd q (by show ¬ (0 : Nat) = 1; omega), fun q => absurd q (by show ¬ (0 : Nat) = 1; omega)⟩, zo 6 (by omega), ⟨zo 10 (by omega), fun k hk => absurd hk (Nat.not_lt_zero _)⟩, ⟨zo 12 (by omega), fun k hk => absurd hk (Nat.not_lt_zero _), ?_⟩⟩
  rw [e_st_same]; rfl
end L3
set_option maxRecDepth 100000 in
set_option maxHeartbeats 4000000 in
theorem L_whole {z : Zt} {I : It} {Q : Option Value → Zt → It → Prop} {n : Nat} (hn : n ≤ 2048) (h1 : z.1 = 1) (hs : z.2.1 0 = (2, n)) (hI : ∀ a, 1 ≤ a → I a = fun _ => 0) (k : ∀ z I, Q (some (.int 1)) z I) : E mL_law 316 14583 0 [some (.ref 0), none, none, none] [] z I Q := by
  refine E_new (pc := 0) (mc := 315) (ms := 14573) ddL_law_0 ec_7 w_1_13 w_1_14 w_1_1 ?_
  rw [i_nw_id (hI _ (by omega)), h1]
  refine E_dupr (pc := 3) ddL_law_3 ?_
  refine E_callI (pc := 4) (mc1 := 306) (ms1 := 7325) (mc := 9) (ms := 7248) (As := []) (st := [.ref 1]) (a := 1) ddL_law_4 hX8_init ⟨(Nat.le_of_ble_eq_true rfl), (Nat.le_of_ble_eq_true rfl)⟩ w_1_15 (by decide) rfl rfl (Nat.le_of_ble_eq_true rfl) e_cn (Nat.le_of_ble_eq_true rfl) ?_
  refine K_X8 (by show z.1 + 1 = _; omega) (nw_own h1) (fun a ha => hI a (by omega)) (fun z1 n1 x1 c1 => ?_)
  refine (show E mL_law 9 7248 7 [some (.ref 0), none, none, none] [.ref 1] z1 (e_st I 2 2 (-1)) Q from ?_)
  refine E_astore_n (pc := 7) (ls' := [some (.ref 0), some (.ref 1), none, none]) ddL_law_7 rfl (Nat.le_of_ble_eq_true rfl) rfl rfl ?_
  have g1 := zE.own h1 x1
  have hJ : ∀ a, 307 < a → e_st I 2 2 (-1) a = fun _ => 0 := fun a ha => by rw [e_st_a (by omega)]; exact hI a (by omega)
  refine E_new (pc := 8) (mc := 8) (ms := 7226) ddL_law_8 ec_8 w_3_176 w_3_177 w_1_9 ?_
  rw [i_nw_id (hJ _ (by omega)), n1]
  refine E_dupr (pc := 11) ddL_law_11 ?_
  refine E_callI (pc := 12) (mc1 := 8) (ms1 := 7226) (mc := 0) (ms := 0) (As := []) (st := [.ref 308]) (a := 308) ddL_law_12 hX9_init ⟨(Nat.le_of_ble_eq_true rfl), (Nat.le_of_ble_eq_true rfl)⟩ w_3_178 (by decide) rfl rfl (Nat.le_of_ble_eq_true rfl) e_cn (Nat.le_of_ble_eq_true rfl) ?_
  refine K_X9 (by show z1.1 + 1 = _; omega) (nw_own n1) (fun a ha => hJ a (by omega)) (fun z2 n2 x2 c2 => ?_)
  refine (show E mL_law 0 0 15 [some (.ref 0), some (.ref 1), none, none] [.ref 308] z2 (e_st (e_st I 2 2 (-1)) 308 13 (-1)) Q from ?_)
  have g2 := zE.own n1 x2
  refine E_astore_n (pc := 15) (ls' := [some (.ref 0), some (.ref 1), some (.ref 308), none]) ddL_law_15 rfl (Nat.le_of_ble_eq_true rfl) rfl rfl ?_
  refine E_iconst (pc := 16) (v := 0) ddL_law_16 rfl ?_
  refine E_istore_n (pc := 17) (ls' := [some (.ref 0), some (.ref 1), some (.ref 308), some (.int 0)]) ddL_law_17 rfl (Nat.le_of_ble_eq_true rfl) rfl rfl ?_
  have hz2 : isZ z2 4 12 := c1.ag g2
  have hs2 : z2.2.1 0 = (2, n) := (g2 0 (by omega)).1.trans ((g1 0 (by omega)).1.trans hs)
  exact LC_loop hn k n 0 z2 _ G0 (by omega) (by omega) ⟨4, 12, hz2, Or.inl ⟨rfl, rfl⟩, c2, hs2, hC_0 hI, hY_0 hI, WG_0⟩
