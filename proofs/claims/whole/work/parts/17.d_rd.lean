/-! ===== the class reads a whole text ===== -/
section R3
variable {mc ms : Nat} {z : Zt} {I I' J : It} {Q : Option Value → Zt → It → Prop} {t : Nat → Nat} {n b L p p0 : Nat} {s : St} {π : Pt} {lv : Nat → Nat}
theorem cS_w (h : t p0 = 119) : cS t n π p0 = wS t n π p0 ∧ cP t n π p0 = aW π ∧ cL t n π lv p0 = (fun i => if i = π 0 0 then nv t n (q1 p0) else lv i) := ⟨if_pos h, if_pos h, if_pos h⟩
theorem cS_g (h : t p0 = 103) : cS t n π p0 = gS t n π p0 ∧ cP t n π p0 = aG t n π p0 ∧ cL t n π lv p0 = lv := by
  have hn : ¬ t p0 = 119 := by omega
  refine ⟨?_, if_neg hn, if_neg hn⟩
  unfold cS
  rw [if_neg hn, if_pos h]; rfl
theorem cS_x (h1 : ¬ t p0 = 119) (h2 : ¬ t p0 = 103) : cS t n π p0 = (1, p0, 0) := by
  unfold cS
  rw [if_neg h1, if_neg h2]
theorem C_readClause (hr : isRd z) (hp : isP z p) (hp2 : 3 < p) (h : hV I t n (0, 0, p0) 200) (hlt : p0 < n) (hB : hPB I p π lv) (hW : WP π) (k : ∀ I', FrW p I I' → hV I' t n (cS t n π p0) 300 → ((cS t n π p0).1 = 0 → hPB I' p (cP t n π p0) (cL t n π lv p0)) → Q none z I') : E mX7_readClause mc ms 0 [some (.ref 2), some (.ref p)] [] z I Q := by
  have h4 := h.pl.1
  have hT := h.1
  have hn := hT.2.1
  obtain ⟨c1, c2⟩ := hT.2.2 p0 hlt
  have hng : ¬ nI p0 < 0 := nI_pos (by omega)
  have hngt : ¬ nI n ≤ nI p0 := nI_ge hlt (by omega)
  refine B_X7_readClause_0 hr hp ?_
  rw [h4, hT.1]
  refine ⟨fun q => absurd q hng, fun _ => ⟨fun q => absurd q hngt, fun _ => ⟨p0, rfl, by omega, ?_⟩⟩⟩
  rw [c1]
  refine pk_ne (t p0) 119 (fun hw => ⟨fun q => absurd q hng, fun _ => ⟨fun q => absurd q hngt, fun _ => pk_ne (t p0) 103 (fun hg => ?_) (fun hg => ?_)⟩⟩) (fun hw => ?_)
  · rw [cS_x hw hg] at k
    rw [h.2.1.1]
    refine ⟨fun q => absurd rfl q, fun _ I2 e2 I3 e3 => ?_⟩
    exact k I3 (FrW.f2 ((Fr2.st e2).tr (Fr2.st e3))) ((h.flt (c := 1) rfl (by omega) (by omega) e2 e3 rfl).le (by omega)) (fun q => absurd q (by show ¬ (1 : Nat) = 0; omega))
  · obtain ⟨e1, e2, e3⟩ := cS_g (n := n) (π := π) (lv := lv) hg
    rw [e1, e2, e3] at k
    exact C_readGate hr hp hp2 h hB hW (fun I' a b c => B_X7_readClause_31 (k I' a b c))
  · obtain ⟨e1, e2, e3⟩ := cS_w (n := n) (π := π) (lv := lv) hw
    rw [e1, e2, e3] at k
    exact C_readWire hr hp hp2 h hB hW (fun I' a b c => B_X7_readClause_14 (k I' a b c))
theorem w3_pl (h : (w3 t n p0).1 = 0) (hp : p0 < n) : p0 < (w3 t n p0).2.2 ∧ (w3 t n p0).2.2 ≤ n := by
  obtain ⟨h1, h2, h3, h4⟩ := en_0 h
  have e : w3 t n p0 = en t n (w2 t n p0) := rfl
  rw [e, h4]
  have a := nm_pl h1 (show (q1 p0).2.2 ≤ n from hp)
  have a' : p0 + 1 < (w2 t n p0).2.2 := a.1
  have b := sk_le (t := t) (n := n) (p := (w2 t n p0).2.2)
  show p0 < sk t n (w2 t n p0).2.2 + 1 ∧ sk t n (w2 t n p0).2.2 + 1 ≤ n
  omega
theorem q7_0 {W : Nat} (h : (q7 t n W p0).1 = 0) : q7 t n W p0 = q6 t n W p0 := by
  by_cases q : lp t n W p0
  · have e : q7 t n W p0 = (4, sk t n (q5 t n W p0).2.2, 0) := if_pos q
    rw [e] at h
    exact absurd h (by show ¬ (4 : Nat) = 0; omega)
  · exact if_neg q
theorem q9_pl {W : Nat} (h : (q9 t n W p0).1 = 0) (hp : p0 < n) : p0 < (q9 t n W p0).2.2 ∧ (q9 t n W p0).2.2 ≤ n := by
  obtain ⟨h1, h2, h3, h4⟩ := en_0 h
  have e : q9 t n W p0 = en t n (q8 t n W p0) := rfl
  rw [e, h4]
  have z7 := (nm_0 h1).1
  have e76 := q7_0 z7
  have z6 : (q6 t n W p0).1 = 0 := by rw [← e76]; exact z7
  have z5 := (nm_0 z6).1
  have z4 := (nm_0 z5).1
  have z3 := (nm_0 z4).1
  have z2 := (nm_0 z3).1
  have a2 := nm_pl z2 (show (q1 p0).2.2 ≤ n from hp)
  have a3 := nm_pl z3 a2.2
  have a4 := nm_pl z4 a3.2
  have a5 := nm_pl z5 a4.2
  have a6 := nm_pl z6 a5.2
  have a8 := nm_pl h1 (by rw [e76]; exact a6.2)
  have b1 : p0 + 1 < (q2 t n p0).2.2 := a2.1
  have b2 : (q2 t n p0).2.2 < (q3 t n W p0).2.2 := a3.1
  have b3 : (q3 t n W p0).2.2 < (q4 t n W p0).2.2 := a4.1
  have b4 : (q4 t n W p0).2.2 < (q5 t n W p0).2.2 := a5.1
  have b5 : (q5 t n W p0).2.2 < (q6 t n W p0).2.2 := a6.1
  have b8 : (q7 t n W p0).2.2 < (q8 t n W p0).2.2 := a8.1
  rw [e76] at b8
  have b := sk_le (t := t) (n := n) (p := (q8 t n W p0).2.2)
  show p0 < sk t n (q8 t n W p0).2.2 + 1 ∧ sk t n (q8 t n W p0).2.2 + 1 ≤ n
  omega
theorem cS_pl (h : (cS t n π p0).1 = 0) (hp : p0 < n) : p0 < (cS t n π p0).2.2 ∧ (cS t n π p0).2.2 ≤ n := by
  by_cases hw : t p0 = 119
  · have e : cS t n π p0 = wS t n π p0 := if_pos hw
    rw [e] at h ⊢
    by_cases h8 : π 0 0 = 8
    · have e2 : wS t n π p0 = (3, p0, 0) := if_pos h8
      rw [e2] at h; exact absurd h (by show ¬ (3 : Nat) = 0; omega)
    · have e2 : wS t n π p0 = w3 t n p0 := if_neg h8
      rw [e2] at h ⊢; exact w3_pl h hp
  · by_cases hg : t p0 = 103
    · have e : cS t n π p0 = gS t n π p0 := (cS_g (lv := fun _ => 0) hg).1
      rw [e] at h ⊢
      by_cases h8 : π 1 0 = 8
      · have e2 : gS t n π p0 = (3, p0, 0) := if_pos h8
        rw [e2] at h; exact absurd h (by show ¬ (3 : Nat) = 0; omega)
      · have e2 : gS t n π p0 = q9 t n (π 0 0) p0 := if_neg h8
        rw [e2] at h ⊢; exact q9_pl h hp
    · rw [cS_x hw hg] at h; exact absurd h (by show ¬ (1 : Nat) = 0; omega)
/-- a clause keeps the plan's bounds -/
theorem cP_W (h : (cS t n π p0).1 = 0) (hW : WPL π lv) : WPL (cP t n π p0) (cL t n π lv p0) := by
  obtain ⟨⟨w0, w1, wg⟩, hl⟩ := hW
  by_cases hw : t p0 = 119
  · obtain ⟨e1, e2, e3⟩ := cS_w (n := n) (π := π) (lv := lv) hw
    rw [e1] at h
    rw [e2, e3]
    have h8 : ¬ π 0 0 = 8 := fun q => by
      have e : wS t n π p0 = (3, p0, 0) := if_pos q
      rw [e] at h; exact absurd h (by show ¬ (3 : Nat) = 0; omega)
    have e : wS t n π p0 = w3 t n p0 := if_neg h8
    rw [e] at h
    have hv := (nm_0 (en_0 h).1).2.2
    have a0 : aW π 0 0 = π 0 0 + 1 := rfl
    have a1 : aW π 1 0 = π 1 0 := rfl
    have ag : ∀ f g, 2 ≤ f → aW π f g = π f g := fun f g hf => if_neg (by omega)
    refine ⟨⟨by rw [a0]; omega, by rw [a1]; exact w1, fun g hg => ?_⟩, fun w hw' => ?_⟩
    · rw [a1] at hg
      have := wg g hg
      rw [ag 2 g (by omega), ag 3 g (by omega), ag 4 g (by omega), ag 5 g (by omega), ag 6 g (by omega), ag 7 g (by omega), a0]
      omega
    · rw [a0] at hw'
      show (if w = π 0 0 then nv t n (q1 p0) else lv w) < 4
      split
      · exact hv
      · exact hl w (by omega)
  · by_cases hg : t p0 = 103
    · obtain ⟨e1, e2, e3⟩ := cS_g (n := n) (π := π) (lv := lv) hg
      rw [e1] at h
      rw [e2, e3]
      have h8 : ¬ π 1 0 = 8 := fun q => by
        have e : gS t n π p0 = (3, p0, 0) := if_pos q
        rw [e] at h; exact absurd h (by show ¬ (3 : Nat) = 0; omega)
      have e : gS t n π p0 = q9 t n (π 0 0) p0 := if_neg h8
      rw [e] at h
      have z8 := (en_0 h).1
      have z7 := (nm_0 z8).1
      have z6 : (q6 t n (π 0 0) p0).1 = 0 := by rw [← q7_0 z7]; exact z7
      have z5 := (nm_0 z6).1
      have z4 := (nm_0 z5).1
      have z3 := (nm_0 z4).1
      have z2 := (nm_0 z3).1
      refine ⟨⟨by rw [aG_0]; exact w0, by rw [aG_1]; omega, fun g hg' => ?_⟩, fun w hw' => ?_⟩
      · rw [aG_1] at hg'
        rw [aG_0]
        by_cases eg : g = π 1 0
        · subst eg
          rw [aG_2, aG_3, aG_4, aG_5, aG_6, aG_7]
          have v6 := (nm_0 z6).2.2
          have v8 := (nm_0 z8).2.2
          exact ⟨(nm_0 z2).2.2, (nm_0 z3).2.2, (nm_0 z4).2.2, (nm_0 z5).2.2, by omega, by omega⟩
        · rw [aG_g eg (by omega), aG_g eg (by omega), aG_g eg (by omega), aG_g eg (by omega), aG_g eg (by omega), aG_g eg (by omega)]
          exact wg g (by omega)
      · rw [aG_0] at hw'; exact hl w hw'
    · rw [cS_x hw hg] at h; exact absurd h (by show ¬ (1 : Nat) = 0; omega)
theorem L_readInto (hr : isRd z) (hp : isP z p) (hp2 : 3 < p) : ∀ (r i : Nat) (J : It) (π : Pt) (lv : Nat → Nat) (p0 : Nat), i + r = 200 → n ≤ p0 + r → FrW p I J → hV J t n (0, 0, p0) 200 → hPB J p π lv → WPL π lv → (∀ I' y, FrW p I I' → hT3 I' t n → hF3 I' (ps t n r π lv p0).1 → ((ps t n r π lv p0).1.1 = 0 → hPB I' p (ps t n r π lv p0).2.1 (ps t n r π lv p0).2.2) → y = nI (ps t n r π lv p0).1.1 → Q (some (.int y)) z I') → E mX7_readInto mc ms 25 [some (.ref 2), some (.ref p), some (.int (nI i))] [] z J Q := by
  intro r
  induction r with
  | zero =>
    intro i J π lv p0 hi hm hf h hB hW k
    refine B_X7_readInto_25 hr hp (pk_le 200 i (fun _ => ?_) (fun h => absurd h (by omega)))
    exact k J _ hf h.1 h.2.1 (fun _ => hB) h.2.1.1
  | succ r ih =>
    intro i J π lv p0 hi hm hf h hB hW k
    have hn := h.1.2.1
    have h4 := h.pl.1
    refine B_X7_readInto_25 hr hp (pk_le 200 i (fun h => absurd h (by omega)) (fun _ => ?_))
    rw [h.1.1, h4]
    have hp200 := h.pl.2
    refine pk_le n p0 (fun hge => ?_) (fun hlt => ?_)
    · have e : ps t n (r + 1) π lv p0 = ((0, 0, p0), π, lv) := if_neg (by omega)
      rw [e] at k
      exact k J _ hf h.1 h.2.1 (fun _ => hB) h.2.1.1
    · rw [h.2.1.1]
      refine ⟨fun q => absurd rfl q, fun _ => C_readClause hr hp hp2 h hlt hB hW.1 (fun I1 hf1 h1 hB1 => B_X7_readInto_55 hr hp ?_)⟩
      obtain ⟨hT1, hF1, q, hqb, hq4, hq0⟩ := h1
      refine C_skip hr hT1 hq4 (by omega) (fun I2 hf2 hj2 h24 => B_X7_readInto_59 hr hp ?_)
      rw [nI_1]
      have hT2 : hT3 I2 t n := hT1.to (hj2 1 (by decide)) (hf2 3 (by decide))
      have hF2 : hF3 I2 (cS t n π p0) := hF1.to (hj2 2 (by decide)) (hj2 3 (by decide))
      have hfr : FrW p I I2 := (hf.tr hf1).tr (FrW.f2 hf2)
      by_cases hz : (cS t n π p0).1 = 0
      · have e : ps t n (r + 1) π lv p0 = ps t n r (cP t n π p0) (cL t n π lv p0) (sk t n (cS t n π p0).2.2) := by
          show (if p0 < n then (if (cS t n π p0).1 = 0 then _ else _) else _) = _
          rw [if_pos hlt, if_pos hz]
        rw [e] at k
        have hpl := cS_pl hz hlt
        have hsk := sk_le (t := t) (n := n) (p := (cS t n π p0).2.2)
        have hqe := hq0 hz
        have hB2 : hPB I2 p (cP t n π p0) (cL t n π lv p0) := by
          obtain ⟨b1, b2⟩ := hB1 hz
          exact ⟨b1.fr (fun a _ _ => hf2 a (by omega)), fun w hw => by rw [hf2 (p + 1) (by omega)]; exact b2 w hw⟩
        refine ih (i + 1) I2 (cP t n π p0) (cL t n π lv p0) (sk t n (cS t n π p0).2.2) (by omega) (by omega) hfr ⟨hT2, ⟨by rw [hF2.1, hz], by show (0 : Nat) ≤ 4; omega, fun _ => hF2.2.2.1 hz, fun q => absurd rfl q⟩, sk t n (cS t n π p0).2.2, by omega, by rw [h24, hqe], fun _ => rfl⟩ hB2 (cP_W hz hW) k
      · have e : ps t n (r + 1) π lv p0 = (cS t n π p0, π, lv) := by
          show (if p0 < n then (if (cS t n π p0).1 = 0 then _ else _) else _) = _
          rw [if_pos hlt, if_neg hz]
        rw [e] at k
        have kk := k I2 (nI (cS t n π p0).1) hfr hT2 hF2 (fun q => absurd q hz) rfl
        have hc4 := hF2.2.1
        refine B_X7_readInto_25 hr hp ?_
        rw [hF2.1]
        refine ⟨fun _ => kk, fun _ => ⟨fun _ => kk, fun _ => pk_ne (cS t n π p0).1 0 (fun _ => kk) (fun q => absurd q hz) rfl rfl (by omega)⟩⟩
def π0 : Pt := fun _ _ => 0
def lv0 : Nat → Nat := fun _ => 0
theorem W00 : WPL π0 lv0 := ⟨⟨Nat.zero_le _, Nat.zero_le _, fun g hg => absurd hg (Nat.not_lt_zero _)⟩, fun w hw => absurd hw (Nat.not_lt_zero _)⟩
def prs (t : Nat → Nat) (n : Nat) : St × Pt × (Nat → Nat) := ps t n 200 π0 lv0 (sk t n 0)
theorem C_readInto (hr : isRd z) (hp : isP z p) (hp2 : 3 < p) (hT : hT3 I t n) (k : ∀ I' y, FrW p I I' → hT3 I' t n → hF3 I' (prs t n).1 → ((prs t n).1.1 = 0 → hPB I' p (prs t n).2.1 (prs t n).2.2) → y = nI (prs t n).1.1 → Q (some (.int y)) z I') : E mX7_readInto mc ms 0 [some (.ref 2), some (.ref p), none] [] z I Q := by
  refine B_X7_readInto_0 hr hp (fun I1 e1 I2 e2 I3 e3 I4 e4 I5 e5 => ?_)
  have f5 : FrW p I I5 := ((((FrW.st e1 (by omega)).tr (FrW.st e2 (by omega))).tr (FrW.f2 (Fr2.st e3))).tr (FrW.f2 (Fr2.st e4))).tr (FrW.f2 (Fr2.st e5))
  have hT5 : hT3 I5 t n := hT.to (by rw [e5, e_st_k (by decide), e4, e_st_k (by decide), e3, e_st_k (by decide), e2, e_st_a (by omega), e1, e_st_a (by omega)]) (f5 3 (by decide) (by omega))
  have h54 : I5 2 4 = nI 0 := by rw [e5, e_st_same]; rfl
  refine C_skip hr hT5 h54 (by omega) (fun J hfJ hjJ h4J => B_X7_readInto_23 hr hp ?_)
  have hsk := sk_le (t := t) (n := n) (p := 0)
  have hn := hT.2.1
  have p5 : ∀ k, I5 p k = e_st (e_st I p 0 0) p 1 0 p k := fun k => by rw [e5, e_st_a (by omega), e4, e_st_a (by omega), e3, e_st_a (by omega), e2, e1]
  refine L_readInto (I := I) hr hp hp2 200 0 J π0 lv0 (sk t n 0) (by omega) (by omega) (f5.tr (FrW.f2 hfJ)) ⟨hT5.to (hjJ 1 (by decide)) (hfJ 3 (by decide)), ⟨?_, by show (0 : Nat) ≤ 4; omega, fun _ => ?_, fun q => absurd rfl q⟩, sk t n 0, by omega, h4J, fun _ => rfl⟩ ⟨⟨?_, ?_, fun g hg => absurd hg (Nat.not_lt_zero _)⟩, fun w hw => absurd hw (Nat.not_lt_zero _)⟩ W00 k
  · rw [hjJ 3 (by decide), e5, e_st_k (by decide), e4, e_st_k (by decide), e3, e_st_same]; rfl
  · rw [hjJ 2 (by decide), e5, e_st_k (by decide), e4, e_st_same]
  · rw [hfJ p (by omega), p5, e_st_k (by decide), e_st_same]; rfl
  · rw [hfJ p (by omega), p5, e_st_same]; rfl
theorem ps_W : ∀ (r : Nat) (π : Pt) (lv : Nat → Nat) (p0 : Nat), WPL π lv → WPL (ps t n r π lv p0).2.1 (ps t n r π lv p0).2.2
  | 0, π, lv, p0, h => h
  | r + 1, π, lv, p0, h => by
    by_cases hlt : p0 < n
    · by_cases hz : (cS t n π p0).1 = 0
      · have e : ps t n (r + 1) π lv p0 = ps t n r (cP t n π p0) (cL t n π lv p0) (sk t n (cS t n π p0).2.2) := by
          show (if p0 < n then (if (cS t n π p0).1 = 0 then _ else _) else _) = _
          rw [if_pos hlt, if_pos hz]
        rw [e]
        exact ps_W r _ _ _ (cP_W hz h)
      · have e : ps t n (r + 1) π lv p0 = (cS t n π p0, π, lv) := by
          show (if p0 < n then (if (cS t n π p0).1 = 0 then _ else _) else _) = _
          rw [if_pos hlt, if_neg hz]
        rw [e]; exact h
    · have e : ps t n (r + 1) π lv p0 = ((0, 0, p0), π, lv) := if_neg hlt
      rw [e]; exact h
theorem prs_W : WPL (prs t n).2.1 (prs t n).2.2 := ps_W 200 π0 lv0 _ W00
end R3
