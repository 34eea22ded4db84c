/-! ===== the reference reads a gate ===== -/
section S3
variable {mc ms : Nat} {z : Zt} {I I' J : It} {Q : Option Value → Zt → It → Prop} {t : Nat → Nat} {n b L p0 : Nat} {s : St} {π : Pt} {lv : Nat → Nat}
theorem M_readGate (ho : isO z) (h : hV9 I t n (q1 p0) 201) (hB : hPN I π lv) (hW : WP π) (k : ∀ I', FrN I I' → hV9 I' t n (gR t n π p0) 201 → ((gR t n π p0).1 = 0 → hPN I' (aG t n π p0) lv) → Q none z I') : E mX9_readGate mc ms 0 [some (.ref 308), some (.int (nI p0)), none, none] [] z I Q := by
  have hw0 := hW.1
  have hw1 := hW.2.1
  obtain ⟨b1, b2, b3, b4⟩ := hB
  refine B_X9_readGate_0 ho ?_
  rw [b2]
  refine pk_ne (π 1 0) 8 (fun h8 v1 ev1 => ?_) (fun h8 => ?_)
  · have e0 : gR t n π p0 = q8 t n (π 0 0) p0 := if_neg h8
    rw [e0] at k
    have h8' : π 1 0 < 8 := by omega
    have ev1' : v1 = nI (6 * π 1 0) := by rw [ev1]; exact ixm 6 (π 1 0)
    subst ev1'
    have s8 : ∀ {A B : It} {j : Nat} {v : Int32}, B = e_st A 316 j v → B 308 = A 308 := fun e => by rw [e, e_st_a (by decide)]
    have s4 : ∀ {A B : It} {j : Nat} {v : Int32}, B = e_st A 316 j v → B 314 = A 314 := fun e => by rw [e, e_st_a (by decide)]
    have c8 : ∀ {A B : It}, Fr9 A B → B 308 18 = A 308 18 := fun f => f.2 18 (by decide) (by decide) (by decide) (by decide)
    have c9 : ∀ {A B : It}, Fr9 A B → B 308 19 = A 308 19 := fun f => f.2 19 (by decide) (by decide) (by decide) (by decide)
    refine M_number (L := 6) ho h (by omega) (by omega) (gt_lit (L := 6) (by omega) (by omega)) (fun I2 y2 hf2 h2 hy2 => B_X9_readGate_37 ho ⟨6 * π 1 0 + 0, ix2 _ 0, by omega, fun I3 e3 => ?_⟩)
    have h3 : hV9 I3 t n (q2 t n p0) 201 := h2.to (s8 e3) (s4 e3)
    have n3 : I3 308 18 = nI (π 0 0) := by rw [s8 e3, c8 hf2]; exact b1
    rw [n3]
    refine M_number (L := π 0 0) ho h3 (by omega) (by omega) (gt_pred hw0) (fun I4 y4 hf4 h4 hy4 => B_X9_readGate_56 ho ⟨6 * π 1 0 + 1, ix2 _ 1, by omega, fun I5 e5 => ?_⟩)
    have h5 : hV9 I5 t n (q3 t n (π 0 0) p0) 201 := h4.to (s8 e5) (s4 e5)
    have n5 : I5 308 18 = nI (π 0 0) := by rw [s8 e5, c8 hf4]; exact n3
    rw [n5]
    refine M_number (L := π 0 0) ho h5 (by omega) (by omega) (gt_pred hw0) (fun I6 y6 hf6 h6 hy6 => B_X9_readGate_75 ho ⟨6 * π 1 0 + 2, ix2 _ 2, by omega, fun I7 e7 => ?_⟩)
    have h7 : hV9 I7 t n (q4 t n (π 0 0) p0) 201 := h6.to (s8 e7) (s4 e7)
    have n7 : I7 308 18 = nI (π 0 0) := by rw [s8 e7, c8 hf6]; exact n5
    rw [n7]
    refine M_number (L := π 0 0) ho h7 (by omega) (by omega) (gt_pred hw0) (fun I8 y8 hf8 h8x hy8 => B_X9_readGate_94 ho ⟨6 * π 1 0 + 3, ix2 _ 3, by omega, fun I9 e9 => ?_⟩)
    have h9 : hV9 I9 t n (q5 t n (π 0 0) p0) 201 := h8x.to (s8 e9) (s4 e9)
    have n9 : I9 308 18 = nI (π 0 0) := by rw [s8 e9, c8 hf8]; exact n7
    refine M_number (L := 21) ho h9 (by omega) (by omega) (gt_lit (L := 21) (by omega) (by omega)) (fun Ia ya hfa ha hya => B_X9_readGate_109 ho ⟨6 * π 1 0 + 4, ix2 _ 4, by omega, fun Ib eb => ?_⟩)
    have hb : hV9 Ib t n (q6 t n (π 0 0) p0) 201 := ha.to (s8 eb) (s4 eb)
    have nb : Ib 308 18 = nI (π 0 0) := by rw [s8 eb, c8 hfa]; exact n9
    have mb : Ib 308 19 = nI (π 1 0) := by rw [s8 eb, c9 hfa, s8 e9, c9 hf8, s8 e7, c9 hf6, s8 e5, c9 hf4, s8 e3, c9 hf2]; exact b2
    have row : Ib 316 = upd (upd (upd (upd (upd (I 316) (6 * π 1 0 + 0) y2) (6 * π 1 0 + 1) y4) (6 * π 1 0 + 2) y6) (6 * π 1 0 + 3) y8) (6 * π 1 0 + 4) ya := by
      rw [eb, e_st_row, hfa.1 316 (by decide), e9, e_st_row, hf8.1 316 (by decide), e7, e_st_row, hf6.1 316 (by decide), e5, e_st_row, hf4.1 316 (by decide), e3, e_st_row, hf2.1 316 (by decide)]
    have frb : FrN I Ib := ((((((((FrN.f9 hf2).tr (FrN.sa e3 (by omega))).tr (FrN.f9 hf4)).tr (FrN.sa e5 (by omega))).tr (FrN.f9 hf6)).tr (FrN.sa e7 (by omega))).tr (FrN.f9 hf8)).tr (FrN.sa e9 (by omega))).tr ((FrN.f9 hfa).tr (FrN.sa eb (by omega)))
    have r5b : Ib 315 = I 315 := by rw [eb, e_st_a (by decide), hfa.1 315 (by decide), e9, e_st_a (by decide), hf8.1 315 (by decide), e7, e_st_a (by decide), hf6.1 315 (by decide), e5, e_st_a (by decide), hf4.1 315 (by decide), e3, e_st_a (by decide), hf2.1 315 (by decide)]
    have g0 : Ib 316 (6 * π 1 0 + 0) = y2 := by rw [row, xd_ne (by omega), xd_ne (by omega), xd_ne (by omega), xd_ne (by omega), xd_same]
    have g1 : Ib 316 (6 * π 1 0 + 1) = y4 := by rw [row, xd_ne (by omega), xd_ne (by omega), xd_ne (by omega), xd_same]
    have g2 : Ib 316 (6 * π 1 0 + 2) = y6 := by rw [row, xd_ne (by omega), xd_ne (by omega), xd_same]
    have g3 : Ib 316 (6 * π 1 0 + 3) = y8 := by rw [row, xd_ne (by omega), xd_same]
    have g4 : Ib 316 (6 * π 1 0 + 4) = ya := by rw [row, xd_same]
    have h17 : (q6 t n (π 0 0) p0).1 = 0 → Ib 308 17 = nI (sk t n (q5 t n (π 0 0) p0).2.2) := fun q => by rw [s8 eb]; exact (hya q).2
    -- the rest, once the loop has been looked at
    have rest : ∀ Jc, Fr9 Ib Jc → hV9 Jc t n (q7 t n (π 0 0) p0) 201 → E mX9_number 0 0 0 [some (.ref 308), some (.int 0), some (.int 1), none, none] [] z Jc (fun r z' I' => E mX9_readGate mc ms 202 [some (.ref 308), none, none, none] (r.toList ++ [.int (nI (6 * π 1 0) + 5), .ref 316]) z' I' Q) := by
      intro Jc hfc hc
      refine M_number (L := 2) ho hc (by omega) (by omega) (gt_lit (L := 2) (by omega) (by omega)) (fun Id yd hfd hd hyd => B_X9_readGate_202 ho ⟨6 * π 1 0 + 5, ix2 _ 5, by omega, fun Ie ee Ih eh => ?_⟩)
      have me : Ie 308 19 = nI (π 1 0) := by rw [s8 ee, c9 hfd, c9 hfc]; exact mb
      rw [me, nI_1] at eh
      refine k Ih ((frb.tr ((FrN.f9 hfc).tr (FrN.f9 hfd))).tr ((FrN.sa ee (by omega)).tr (FrN.st eh (by omega) (by omega)))) (hd.tj (fun j hj => by rw [eh, e_st_k (by omega), s8 ee]) (by rw [eh, e_st_a (by decide), s4 ee])) (fun z8 => ⟨?_, ?_, fun w hw => ?_, fun g hg j hj => ?_⟩)
      · rw [eh, e_st_k (by decide), s8 ee, c8 hfd, c8 hfc, aG_0]; exact nb
      · rw [eh, e_st_same, aG_1]
      · have hw' : w < π 0 0 := by rw [aG_0] at hw; exact hw
        rw [eh, e_st_a (by decide), ee, e_st_a (by decide), hfd.1 315 (by decide), hfc.1 315 (by decide), r5b]
        exact b3 w hw'
      · have z7 : (q7 t n (π 0 0) p0).1 = 0 := (nm_0 z8).1
        have z6 : (q6 t n (π 0 0) p0).1 = 0 := by rw [← q7_0 z7]; exact z7
        have z5 : (q5 t n (π 0 0) p0).1 = 0 := (nm_0 z6).1
        have z4 : (q4 t n (π 0 0) p0).1 = 0 := (nm_0 z5).1
        have z3 : (q3 t n (π 0 0) p0).1 = 0 := (nm_0 z4).1
        have z2 : (q2 t n p0).1 = 0 := (nm_0 z3).1
        have hg' : g < π 1 0 + 1 := by rw [aG_1] at hg; exact hg
        have rr : Ih 316 = upd (Ib 316) (6 * π 1 0 + 5) yd := by rw [eh, e_st_a (by decide), ee, e_st_row, hfd.1 316 (by decide), hfc.1 316 (by decide)]
        rw [rr]
        by_cases eg : g = π 1 0
        · subst eg
          have hj6 : j = 0 ∨ j = 1 ∨ j = 2 ∨ j = 3 ∨ j = 4 ∨ j = 5 := by omega
          rcases hj6 with e | e | e | e | e | e
          · subst e; rw [xd_ne (by omega), g0]; exact (hy2 z2).1.trans (congrArg nI aG_2.symm)
          · subst e; rw [xd_ne (by omega), g1]; exact (hy4 z3).1.trans (congrArg nI aG_3.symm)
          · subst e; rw [xd_ne (by omega), g2]; exact (hy6 z4).1.trans (congrArg nI aG_4.symm)
          · subst e; rw [xd_ne (by omega), g3]; exact (hy8 z5).1.trans (congrArg nI aG_5.symm)
          · subst e; rw [xd_ne (by omega), g4]; exact (hya z6).1.trans (congrArg nI aG_6.symm)
          · subst e; rw [xd_same]; exact (hyd z8).1.trans (congrArg nI aG_7.symm)
        · rw [xd_ne (by omega), row, xd_ne (by omega), xd_ne (by omega), xd_ne (by omega), xd_ne (by omega), xd_ne (by omega), aG_g eg (by omega)]
          exact b4 g (by omega) j hj
    -- the loop
    have h4b := hb.2.1.2.1
    have noL : ¬ lp t n (π 0 0) p0 → hV9 Ib t n (q7 t n (π 0 0) p0) 201 := fun q => by
      have e76 : q7 t n (π 0 0) p0 = q6 t n (π 0 0) p0 := if_neg q
      rw [e76]; exact hb
    have vals : (q6 t n (π 0 0) p0).1 = 0 → (y2 = nI (nv t n (q1 p0)) ∧ nv t n (q1 p0) < 6) ∧ (y4 = nI (nv t n (q2 t n p0)) ∧ nv t n (q2 t n p0) < π 0 0) ∧ (y6 = nI (nv t n (q3 t n (π 0 0) p0)) ∧ nv t n (q3 t n (π 0 0) p0) < π 0 0) ∧ (y8 = nI (nv t n (q4 t n (π 0 0) p0)) ∧ nv t n (q4 t n (π 0 0) p0) < π 0 0) ∧ (ya = nI (nv t n (q5 t n (π 0 0) p0)) ∧ nv t n (q5 t n (π 0 0) p0) < 21) := fun z6 => by
      have z5 : (q5 t n (π 0 0) p0).1 = 0 := (nm_0 z6).1
      have z4 : (q4 t n (π 0 0) p0).1 = 0 := (nm_0 z5).1
      have z3 : (q3 t n (π 0 0) p0).1 = 0 := (nm_0 z4).1
      have z2 : (q2 t n p0).1 = 0 := (nm_0 z3).1
      exact ⟨⟨(hy2 z2).1, (nm_0 z2).2.2⟩, ⟨(hy4 z3).1, (nm_0 z3).2.2⟩, ⟨(hy6 z4).1, (nm_0 z4).2.2⟩, ⟨(hy8 z5).1, (nm_0 z5).2.2⟩, ⟨(hya z6).1, (nm_0 z6).2.2⟩⟩
    have look : ∀ y0 : Int32, ((q6 t n (π 0 0) p0).1 = 0 → ((¬ y0 = 0) ↔ (nv t n (q2 t n p0) = nv t n (q4 t n (π 0 0) p0) ∨ (nv t n (q1 p0) ≠ 0 ∧ nv t n (q3 t n (π 0 0) p0) = nv t n (q4 t n (π 0 0) p0))))) → E mX9_readGate mc ms 164 [some (.ref 308), none, some (.int (nI (6 * π 1 0))), none] [.int y0] z Ib Q := by
      intro y0 hy0
      refine B_X9_readGate_164 ho ⟨fun h0 => rest Ib Fr9.rf (noL (fun q => (hy0 q.1).mpr q.2.2 h0)), fun hn0 => ⟨6 * π 1 0 + 4, ix2 _ 4, by omega, ?_⟩⟩
      rw [g4]
      refine ⟨fun hne => rest Ib Fr9.rf (noL (fun q => ?_)), fun h0 => ?_⟩
      · have := (vals q.1).2.2.2.2.1
        rw [q.2.1] at this
        exact hne this
      · rw [hb.2.1.1]
        refine pk_ne (q6 t n (π 0 0) p0).1 0 (fun hne => rest Ib Fr9.rf (noL (fun q => hne q.1))) (fun he Ic ec Ie ee => ?_) rfl rfl (Nat.lt_of_le_of_lt h4b (by omega))
        have hv5 : nv t n (q5 t n (π 0 0) p0) = 0 := by
          obtain ⟨a1, a2⟩ := (vals he).2.2.2.2
          rw [h0] at a1
          have e0 : nI 0 = nI (nv t n (q5 t n (π 0 0) p0)) := a1
          exact ((nI_eq (by omega) (by omega)).mp e0).symm
        have hlp : lp t n (π 0 0) p0 := ⟨he, hv5, (hy0 he).mp hn0⟩
        have e7 : q7 t n (π 0 0) p0 = (4, sk t n (q5 t n (π 0 0) p0).2.2, 0) := if_pos hlp
        refine rest Ie ((Fr9.st ec (by omega)).tr (Fr9.st ee (by omega))) ?_
        rw [e7]
        exact hb.flt (c := 4) (by omega) (by omega) ec ee (h17 he)
    refine ⟨6 * π 1 0 + 1, ix2 _ 1, by omega, 6 * π 1 0 + 3, ix2 _ 3, by omega, ?_⟩
    rw [g1, g3]
    refine ⟨fun hac => look 1 (fun z6 => ?_), fun hac => ⟨6 * π 1 0 + 0, ix2 _ 0, by omega, ?_⟩⟩
    · obtain ⟨⟨a1, c1⟩, ⟨a2, c2⟩, ⟨a3, c3⟩, ⟨a4, c4⟩, a5⟩ := vals z6
      rw [a2, a4, nI_eq (by omega) (by omega)] at hac
      exact ⟨fun _ => Or.inl hac, fun _ => by decide⟩
    rw [g0]
    refine ⟨fun hk => look 0 (fun z6 => ?_), fun hk => ⟨6 * π 1 0 + 2, ix2 _ 2, by omega, ?_⟩⟩
    · obtain ⟨⟨a1, c1⟩, ⟨a2, c2⟩, ⟨a3, c3⟩, ⟨a4, c4⟩, a5⟩ := vals z6
      rw [a2, a4, nI_eq (by omega) (by omega)] at hac
      rw [a1] at hk
      have hk' : nv t n (q1 p0) = 0 := (nI_eq (b := 0) (by omega) (by omega)).mp hk
      exact ⟨fun q => absurd rfl q, fun q => by rcases q with q | q; exact absurd q hac; exact absurd hk' q.1⟩
    rw [g2]
    refine ⟨fun hbc => look 0 (fun z6 => ?_), fun hbc => look 1 (fun z6 => ?_)⟩
    · obtain ⟨⟨a1, c1⟩, ⟨a2, c2⟩, ⟨a3, c3⟩, ⟨a4, c4⟩, a5⟩ := vals z6
      rw [a2, a4, nI_eq (by omega) (by omega)] at hac
      rw [a3, a4, nI_eq (by omega) (by omega)] at hbc
      exact ⟨fun q => absurd rfl q, fun q => by rcases q with q | q; exact absurd q hac; exact absurd q.2 hbc⟩
    · obtain ⟨⟨a1, c1⟩, ⟨a2, c2⟩, ⟨a3, c3⟩, ⟨a4, c4⟩, a5⟩ := vals z6
      rw [a3, a4, nI_eq (by omega) (by omega)] at hbc
      have hk' : nv t n (q1 p0) ≠ 0 := fun q => hk (by rw [a1, q]; rfl)
      exact ⟨fun _ => Or.inr ⟨hk', hbc⟩, fun _ => by decide⟩
  · have e0 : gR t n π p0 = (3, p0, 0) := if_pos h8
    rw [e0] at k
    rw [h.2.1.1]
    refine ⟨fun q => absurd rfl q, fun _ I1 e1 I2 e2 => ?_⟩
    exact k I2 ((FrN.st e1 (by omega) (by omega)).tr (FrN.st e2 (by omega) (by omega))) (h.flt (c := 3) (by omega) (by omega) e1 e2 rfl) (fun q => absurd q (by show ¬ (3 : Nat) = 0; omega))
/-- a clause, from the place of its word -/
theorem M_readClause (ho : isO z) {q : Nat} (h : hV9 I t n (0, 0, q) 300) (hlt : sk t n q < n) (hB : hPN I π lv) (hW : WP π) (k : ∀ I', FrN I I' → hV9 I' t n (cS t n π (sk t n q)) 300 → ((cS t n π (sk t n q)).1 = 0 → hPN I' (cP t n π (sk t n q)) (cL t n π lv (sk t n q))) → Q none z I') : E mX9_readClause mc ms 0 [some (.ref 308), none, none] [] z I Q := by
  obtain ⟨hT, hF, q', hqb, hq4, hq0⟩ := h
  have hqe : q' = q := hq0 rfl
  subst hqe
  have hn := hT.2.1
  refine B_X9_readClause_0 ho (M_here ho hT hq4 (by omega) (fun J hf hj h14 => B_X9_readClause_4 ho (fun v1 ev1 I2 e2 => ?_)))
  rw [h14] at ev1
  subst ev1
  rw [h14, nI_1] at e2
  have hch' : hch t n (sk t n q') = nI (t (sk t n q')) := if_pos hlt
  rw [hch']
  obtain ⟨c1, c2⟩ := hT.2.2 _ hlt
  generalize hp0 : sk t n q' = p0 at *
  have fJ : Fr9 I J := ⟨hf, fun j h14 _ _ _ => hj j h14⟩
  have f2 : Fr9 I I2 := fJ.tr (Fr9.st e2 (by omega))
  have h2 : hV9 I2 t n (q1 p0) 201 := ⟨hT.to (by rw [e2, e_st_k (by decide)]; exact hj 12 (by decide)) (by rw [e2, e_st_a (by decide)]; exact hf 314 (by decide)), ⟨by rw [e2, e_st_k (by decide), hj 15 (by decide)]; exact hF.1, by show (0 : Nat) ≤ 4; omega, fun x => absurd rfl x⟩, p0 + 1, by omega, by rw [e2, e_st_same], fun _ => rfl⟩
  have hB2 : hPN I2 π lv := by
    obtain ⟨b1, b2, b3, b4⟩ := hB
    exact ⟨by rw [f2.2 18 (by decide) (by decide) (by decide) (by decide)]; exact b1, by rw [f2.2 19 (by decide) (by decide) (by decide) (by decide)]; exact b2, fun w hw => by rw [f2.1 315 (by decide)]; exact b3 w hw, fun g hg j hj => by rw [f2.1 316 (by decide)]; exact b4 g hg j hj⟩
  have hPt : ∀ {A B : It} {π' : Pt} {lv' : Nat → Nat}, Fr9 A B → hPN A π' lv' → hPN B π' lv' := fun f b => ⟨by rw [f.2 18 (by decide) (by decide) (by decide) (by decide)]; exact b.1, by rw [f.2 19 (by decide) (by decide) (by decide) (by decide)]; exact b.2.1, fun w hw => by rw [f.1 315 (by decide)]; exact b.2.2.1 w hw, fun g hg j hj => by rw [f.1 316 (by decide)]; exact b.2.2.2 g hg j hj⟩
  refine pk_ne (t p0) 119 (fun hw => pk_ne (t p0) 103 (fun hg => ?_) (fun hg => ?_)) (fun hw => ?_)
  · rw [cS_x hw hg] at k
    rw [h2.2.1.1]
    refine ⟨fun x => absurd rfl x, fun _ I3 e3 I4 e4 => ?_⟩
    refine M_clauseEnd ho (h2.flt (c := 1) (by omega) (by omega) e3 e4 rfl) (fun I5 f5 h5 => ?_)
    rw [en_f (by show ¬ (1 : Nat) = 0; omega)] at h5
    exact k I5 (FrN.f9 (((f2.tr (Fr9.st e3 (by omega))).tr (Fr9.st e4 (by omega))).tr f5)) h5 (fun x => absurd x (by show ¬ (1 : Nat) = 0; omega))
  · obtain ⟨e1, e2', e3⟩ := cS_g (n := n) (π := π) (lv := lv) hg
    rw [e1, e2', e3, gS_gR] at k
    refine M_readGate ho h2 hB2 hW (fun I3 f3 h3 hB3 => B_X9_readClause_45 ho (M_clauseEnd ho h3 (fun I4 f4 h4 => ?_)))
    exact k I4 ((FrN.f9 f2).tr (f3.tr (FrN.f9 f4))) h4 (fun x => hPt f4 (hB3 (en_0 x).1))
  · obtain ⟨e1, e2', e3⟩ := cS_w (n := n) (π := π) (lv := lv) hw
    rw [e1, e2', e3, wS_wR] at k
    refine M_readWire ho h2 hB2 hW (fun I3 f3 h3 hB3 => B_X9_readClause_31 ho (M_clauseEnd ho h3 (fun I4 f4 h4 => ?_)))
    exact k I4 ((FrN.f9 f2).tr (f3.tr (FrN.f9 f4))) h4 (fun x => hPt f4 (hB3 (en_0 x).1))
end S3
