/-! ===== the reference begins, and wires ===== -/
def FrB (I I' : It) : Prop := (∀ a, a ≠ 308 → a ≠ 309 → a ≠ 310 → I' a = I a) ∧ ∀ j, j ≠ 1 → j ≠ 2 → j ≠ 4 → j ≠ 5 → j ≠ 10 → I' 308 j = I 308 j
section S4
variable {mc ms : Nat} {z : Zt} {I I' J J0 : It} {Q : Option Value → Zt → It → Prop} {t : Nat → Nat} {n b L p0 : Nat} {s : St} {π : Pt} {lv : Nat → Nat}
theorem LM_begA (ho : isO z) (k : ∀ K : It, (∀ a, a ≠ 309 → K a = J0 a) → (∀ q, q < 344 → K 309 q = 0) → E mX9_begin mc ms 40 [some (.ref 308), some (.int 0)] [] z K Q) : ∀ (r i : Nat) (K : It), i + r = 344 → (∀ a, a ≠ 309 → K a = J0 a) → (∀ q, q < i → K 309 q = 0) → E mX9_begin mc ms 18 [some (.ref 308), some (.int (nI i))] [] z K Q := by
  intro r
  induction r with
  | zero =>
    intro i K hi h1 h2
    exact B_X9_begin_18 ho (pk_le 344 i (fun _ => k K h1 (fun q hq => h2 q (by omega))) (fun h => absurd h (by omega)))
  | succ r ih =>
    intro i K hi h1 h2
    refine B_X9_begin_18 ho (pk_le 344 i (fun h => absurd h (by omega)) (fun _ => ⟨i, rfl, by omega, fun I2 e2 => ?_⟩))
    rw [nI_1]
    refine ih (i + 1) I2 (by omega) (fun a ha => by rw [e2, e_st_a ha]; exact h1 a ha) (fun q hq => ?_)
    by_cases e : q = i
    · subst e; rw [e2, e_st_same]
    · rw [e2, e_st_k e]; exact h2 q (by omega)
theorem LM_begB (ho : isO z) (k : ∀ K : It, (∀ a, a ≠ 309 → K a = J0 a) → (∀ q, (q < 8 ∨ 16 ≤ q) → (q < 24 ∨ 32 ≤ q) → K 309 q = J0 309 q) → (∀ i, i < 8 → K 309 (8 + i) = J0 315 i ∧ K 309 (24 + i) = -1) → E mX9_begin mc ms 79 [some (.ref 308), some (.int 0)] [] z K Q) : ∀ (r w : Nat) (K : It), w + r = 8 → (∀ a, a ≠ 309 → K a = J0 a) → (∀ q, (q < 8 ∨ 16 ≤ q) → (q < 24 ∨ 32 ≤ q) → K 309 q = J0 309 q) → (∀ i, i < w → K 309 (8 + i) = J0 315 i ∧ K 309 (24 + i) = -1) → E mX9_begin mc ms 40 [some (.ref 308), some (.int (nI w))] [] z K Q := by
  intro r
  induction r with
  | zero =>
    intro w K hi h1 h2 h3
    exact B_X9_begin_40 ho (pk_le 8 w (fun _ => k K h1 h2 (fun q hq => h3 q (by omega))) (fun h => absurd h (by omega)))
  | succ r ih =>
    intro w K hi h1 h2 h3
    refine B_X9_begin_40 ho (pk_le 8 w (fun h => absurd h (by omega)) (fun _ => ⟨w, rfl, by omega, 8 + w, ix2 8 w, by omega, fun I3 e3 => ⟨24 + w, ix2 24 w, by omega, fun I5 e5 => ?_⟩⟩))
    rw [nI_1]
    have r5 : I5 309 = upd (upd (K 309) (8 + w) (J0 315 w)) (24 + w) (-1) := by rw [e5, e_st_row, e3, e_st_row, h1 315 (by decide)]
    refine ih (w + 1) I5 (by omega) (fun a ha => by rw [e5, e_st_a ha, e3, e_st_a ha]; exact h1 a ha) (fun q a b => ?_) (fun i hi => ?_)
    · rw [r5, xd_ne (by omega), xd_ne (by omega)]; exact h2 q a b
    · rw [r5]
      by_cases e : i = w
      · subst e
        rw [xd_same, xd_ne (by omega), xd_same]; exact ⟨rfl, rfl⟩
      · rw [xd_ne (by omega), xd_ne (by omega), xd_ne (by omega), xd_ne (by omega)]; exact h3 i (by omega)
theorem LM_begC (ho : isO z) {G : Nat} (hG : G ≤ 8) (h2' : J0 308 2 = nI G) (k : ∀ K : It, (∀ a, a ≠ 310 → K a = J0 a) → (∀ q, q < 6 * G → K 310 q = J0 316 q) → E mX9_begin mc ms 110 [some (.ref 308), some (.int 0)] [] z K Q) : ∀ (r i : Nat) (K : It), i + r = 6 * G → (∀ a, a ≠ 310 → K a = J0 a) → (∀ q, q < i → K 310 q = J0 316 q) → E mX9_begin mc ms 79 [some (.ref 308), some (.int (nI i))] [] z K Q := by
  intro r
  have e6 : (6 : Int32) * nI G = nI (6 * G) := ixm 6 G
  induction r with
  | zero =>
    intro i K hi h1 h2
    refine B_X9_begin_79 ho ?_
    rw [h1 308 (by decide), h2', e6]
    exact pk_le (6 * G) i (fun _ => k K h1 (fun q hq => h2 q (by omega))) (fun h => absurd h (by omega))
  | succ r ih =>
    intro i K hi h1 h2
    refine B_X9_begin_79 ho ?_
    rw [h1 308 (by decide), h2', e6]
    refine pk_le (6 * G) i (fun h => absurd h (by omega)) (fun _ => ⟨i, rfl, by omega, fun I2 e2 => ?_⟩)
    rw [nI_1]
    refine ih (i + 1) I2 (by omega) (fun a ha => by rw [e2, e_st_a ha]; exact h1 a ha) (fun q hq => ?_)
    by_cases e : q = i
    · subst e; rw [e2, e_st_same]; exact congrFun (h1 316 (by decide)) _
    · rw [e2, e_st_k e]; exact h2 q (by omega)
theorem LM_begD (ho : isO z) (hO0 : hO J0 π) (hW : WP π) (hl : ∀ w, w < π 0 0 → J0 309 (8 + w) = nI (lv w)) (k : ∀ K : It, (∀ a, a ≠ 309 → K a = J0 a) → (∀ q, (q < 176 ∨ 184 ≤ q) → K 309 q = J0 309 q) → (∀ i, i < π 1 0 → K 309 (176 + i) = nI (lv (π 5 i))) → E mX9_tellAll 0 0 0 [some (.ref 308), some (.int 0), none] [] z K (fun r z' I' => E mX9_begin mc ms 153 [some (.ref 308), none] (r.toList ++ []) z' I' Q)) : ∀ (r g : Nat) (K : It), g + r = π 1 0 → (∀ a, a ≠ 309 → K a = J0 a) → (∀ q, (q < 176 ∨ 184 ≤ q) → K 309 q = J0 309 q) → (∀ i, i < g → K 309 (176 + i) = nI (lv (π 5 i))) → E mX9_begin mc ms 110 [some (.ref 308), some (.int (nI g))] [] z K Q := by
  intro r
  have hw0 := hW.1
  have hw1 := hW.2.1
  obtain ⟨o1, o2, o3⟩ := hO0
  induction r with
  | zero =>
    intro g K hi h1 h2 h3
    refine B_X9_begin_110 ho ?_
    rw [h1 308 (by decide), o2]
    exact pk_le (π 1 0) g (fun _ => k K h1 h2 (fun q hq => h3 q (by omega))) (fun h => absurd h (by omega))
  | succ r ih =>
    intro g K hi h1 h2 h3
    have hgp := (hW.2.2 g (by omega)).2.2.2.1
    refine B_X9_begin_110 ho ?_
    rw [h1 308 (by decide), o2]
    refine pk_le (π 1 0) g (fun h => absurd h (by omega)) (fun _ => ⟨6 * g + 3, ix6 g 3, by omega, 8 + π 5 g, ?_, by omega, 176 + g, ix2 176 g, by omega, fun I4 e4 => ?_⟩)
    · rw [h1 310 (by decide), o3 g (by omega) 3 (by omega)]; exact ix2 8 (π 5 g)
    · rw [h2 _ (by omega), hl _ hgp] at e4
      rw [nI_1]
      refine ih (g + 1) I4 (by omega) (fun a ha => by rw [e4, e_st_a ha]; exact h1 a ha) (fun q hq => by rw [e4, e_st_k (by omega)]; exact h2 q hq) (fun i hi => ?_)
      by_cases e : i = g
      · subst e; rw [e4, e_st_same]
      · rw [e4, e_st_k (by omega)]; exact h3 i (by omega)
theorem M_begin (ho : isO z) (hB : hPN I π lv) (hW : WPL π lv) (k : ∀ I', FrB I I' → hO I' π → hR I' 0 π (bgn π lv) → I' 308 4 = 0 → I' 308 5 = 0 → I' 308 10 = 0 → Q none z I') : E mX9_begin mc ms 0 [some (.ref 308), none] [] z I Q := by
  obtain ⟨b1, b2, b3, b4⟩ := hB
  obtain ⟨hWP, hlv⟩ := hW
  have hw0 := hWP.1
  have hw1 := hWP.2.1
  refine B_X9_begin_0 ho (fun I1 e1 I2 e2 => ?_)
  rw [b1] at e1
  have h19 : I1 308 19 = nI (π 1 0) := by rw [e1, e_st_k (by decide)]; exact b2
  rw [h19] at e2
  have j1 : I2 308 1 = nI (π 0 0) := by rw [e2, e_st_k (by decide), e1, e_st_same]
  have j2 : I2 308 2 = nI (π 1 0) := by rw [e2, e_st_same]
  have jo : ∀ j, j ≠ 1 → j ≠ 2 → I2 308 j = I 308 j := fun j c1 c2 => by rw [e2, e_st_k c2, e1, e_st_k c1]
  have ja : ∀ a, a ≠ 308 → I2 a = I a := fun a ha => by rw [e2, e_st_a ha, e1, e_st_a ha]
  refine LM_begA (J0 := I2) ho (fun KA a1 a2 => ?_) 344 0 I2 (by omega) (fun _ _ => rfl) (fun q hq => absurd hq (Nat.not_lt_zero _))
  refine LM_begB (J0 := KA) ho (fun KB c1 c2 c3 => ?_) 8 0 KA (by omega) (fun _ _ => rfl) (fun _ _ _ => rfl) (fun q hq => absurd hq (Nat.not_lt_zero _))
  refine LM_begC (J0 := KB) (G := π 1 0) ho hw1 (by rw [c1 308 (by decide), a1 308 (by decide)]; exact j2) (fun KC d1 d2 => ?_) (6 * π 1 0) 0 KB (by omega) (fun _ _ => rfl) (fun q hq => absurd hq (Nat.not_lt_zero _))
  have s8 : KC 308 = I2 308 := by rw [d1 308 (by decide), c1 308 (by decide), a1 308 (by decide)]
  have hOC : hO KC π := by
    refine ⟨by rw [s8]; exact j1, by rw [s8]; exact j2, fun g hg j hj => ?_⟩
    rw [d2 _ (by omega), c1 316 (by decide), a1 316 (by decide), ja 316 (by decide)]
    exact b4 g hg j hj
  have hl : ∀ w, w < π 0 0 → KC 309 (8 + w) = nI (lv w) := fun w hw => by
    rw [d1 309 (by decide), (c3 w (by omega)).1, a1 315 (by decide), ja 315 (by decide)]
    exact b3 w hw
  refine LM_begD (J0 := KC) (lv := lv) ho hOC hWP hl (fun KD f1 f2 f3 => ?_) (π 1 0) 0 KC (by omega) (fun _ _ => rfl) (fun _ _ => rfl) (fun q hq => absurd hq (Nat.not_lt_zero _))
  have hOD : hO KD π := hOC.fr f1
  have z0 : ∀ q, q < 344 → (q < 8 ∨ 16 ≤ q) → (q < 24 ∨ 32 ≤ q) → (q < 176 ∨ 184 ≤ q) → KD 309 q = 0 := fun q c4 c5 c6 c7 => by
    rw [f2 q c7, d1 309 (by decide), c2 q c5 c6]; exact a2 q c4
  have hR0 : hR KD 0 π (bg π lv) := by
    refine ⟨⟨z0 0 (by omega) (by omega) (by omega) (by omega), z0 1 (by omega) (by omega) (by omega) (by omega), z0 2 (by omega) (by omega) (by omega) (by omega), z0 3 (by omega) (by omega) (by omega) (by omega)⟩, fun w hw => ⟨?_, ?_, ?_, ?_, ?_, fun q _ hq => absurd hq (Nat.not_lt_zero _)⟩, fun g hg => ⟨?_, ?_, fun q hq => absurd hq (Nat.not_lt_zero _)⟩, fun q hq => absurd hq (Nat.not_lt_zero _)⟩
    · rw [show 0 + 8 + w = 8 + w by omega, f2 _ (by omega)]; exact hl w hw
    · exact z0 _ (by omega) (by omega) (by omega) (by omega)
    · rw [show 0 + 24 + w = 24 + w by omega, f2 _ (by omega), d1 309 (by decide), (c3 w (by omega)).2]; rfl
    · exact z0 _ (by omega) (by omega) (by omega) (by omega)
    · exact z0 _ (by omega) (by omega) (by omega) (by omega)
    · rw [show 0 + 176 + g = 176 + g by omega]; exact f3 g hg
    · exact z0 _ (by omega) (by omega) (by omega) (by omega)
  have hWK := bg_WK hWP hlv
  refine M_tellAll (x := 0) ho (by omega) hR0 hOD hWP hWK.1 hWK.2.1 (Nat.zero_le _) (by show 0 + 20 < 2 ^ 31; omega) (fun KE hfE hRE => B_X9_begin_153 ho (fun I3 e3 I4 e4 I5 e5 => ?_))
  have s5 : ∀ a, a ≠ 308 → I5 a = KE a := fun a ha => by rw [e5, e_st_a ha, e4, e_st_a ha, e3, e_st_a ha]
  have t5 : ∀ j, j ≠ 4 → j ≠ 5 → j ≠ 10 → I5 308 j = I2 308 j := fun j c1 c2 c3 => by rw [e5, e_st_k c3, e4, e_st_k c2, e3, e_st_k c1, hfE.1 308 (by decide), f1 308 (by decide), s8]
  refine k I5 ⟨fun a x1 x2 x3 => ?_, fun j x1 x2 x3 x4 x5 => ?_⟩ ⟨?_, ?_, fun g hg j hj => ?_⟩ ?_ ?_ ?_ ?_
  · rw [s5 a x1, hfE.1 a x2, f1 a x2, d1 a x3, c1 a x2, a1 a x2, ja a x1]
  · rw [t5 j x3 x4 x5, jo j x1 x2]
  · rw [t5 1 (by decide) (by decide) (by decide)]; exact j1
  · rw [t5 2 (by decide) (by decide) (by decide)]; exact j2
  · rw [s5 310 (by decide), hfE.1 310 (by decide)]; exact hOD.2.2 g hg j hj
  · exact hRE.fr hWP (bgn_WK hWP hlv).z8 (fun q _ _ => by rw [s5 309 (by decide)])
  · rw [e5, e_st_k (by decide), e4, e_st_k (by decide), e3, e_st_same]
  · rw [e5, e_st_k (by decide), e4, e_st_same]
  · rw [e5, e_st_same]
theorem hPN.f9 (f : Fr9 I I') (b : hPN I π lv) : hPN I' π lv := ⟨by rw [f.2 18 (by decide) (by decide) (by decide) (by decide)]; exact b.1, by rw [f.2 19 (by decide) (by decide) (by decide) (by decide)]; exact b.2.1, fun w hw => by rw [f.1 315 (by decide)]; exact b.2.2.1 w hw, fun g hg j hj => by rw [f.1 316 (by decide)]; exact b.2.2.2 g hg j hj⟩
theorem LM_txt (ho : isO z) : ∀ (r : Nat) (J : It) (π : Pt) (lv : Nat → Nat) (q : Nat), n ≤ sk t n q + r → FrN I J → hV9 J t n (0, 0, q) 300 → hPN J π lv → WPL π lv → (∀ I', FrN I I' → hF9 I' (ps t n r π lv (sk t n q)).1 → ((ps t n r π lv (sk t n q)).1.1 = 0 → hPN I' (ps t n r π lv (sk t n q)).2.1 (ps t n r π lv (sk t n q)).2.2) → E mX9_wires mc ms 47 [some (.ref 308)] [] z I' Q) → E mX9_wires mc ms 25 [some (.ref 308)] [] z J Q := by
  intro r
  induction r with
  | zero =>
    intro J π lv q hm hf h hB hW k
    obtain ⟨hT, hF, q', hqb, hq4, hq0⟩ := h
    have hqe : q' = q := hq0 rfl
    subst hqe
    have hn := hT.2.1
    refine B_X9_wires_25 ho ?_
    rw [hF.1]
    refine ⟨fun x => absurd rfl x, fun _ => M_here ho hT hq4 (by omega) (fun J2 hf2 hj2 h14 => B_X9_wires_36 ho ?_)⟩
    have e : hch t n (sk t n q') = -1 := if_neg (by omega)
    rw [e]
    have f2 : Fr9 J J2 := ⟨hf2, fun j h14 _ _ _ => hj2 j h14⟩
    exact ⟨fun _ => k J2 (hf.tr (FrN.f9 f2)) (hF.to (hj2 15 (by decide)) (hj2 16 (by decide))) (fun _ => hB.f9 f2), fun x => absurd rfl x⟩
  | succ r ih =>
    intro J π lv q hm hf h hB hW k
    obtain ⟨hT, hF, q', hqb, hq4, hq0⟩ := h
    have hqe : q' = q := hq0 rfl
    subst hqe
    have hn := hT.2.1
    refine B_X9_wires_25 ho ?_
    rw [hF.1]
    refine ⟨fun x => absurd rfl x, fun _ => M_here ho hT hq4 (by omega) (fun J2 hf2 hj2 h14 => B_X9_wires_36 ho ?_)⟩
    have f2 : Fr9 J J2 := ⟨hf2, fun j h14 _ _ _ => hj2 j h14⟩
    have hF2 : hF9 J2 (0, 0, q') := hF.to (hj2 15 (by decide)) (hj2 16 (by decide))
    have hB2 : hPN J2 π lv := hB.f9 f2
    have hfr2 := hf.tr (FrN.f9 f2)
    by_cases hlt : sk t n q' < n
    · have e : hch t n (sk t n q') = nI (t (sk t n q')) := if_pos hlt
      rw [e]
      have c2 := (hT.2.2 _ hlt).2
      refine ⟨fun x => absurd x (nI_neg1 (by omega)), fun _ => ?_⟩
      have h2 : hV9 J2 t n (0, 0, sk t n q') 300 := ⟨hT.to (hj2 12 (by decide)) (hf2 314 (by decide)), hF2, sk t n q', by omega, h14, fun _ => rfl⟩
      refine M_readClause ho h2 (by rw [sk_id]; exact hlt) hB2 hW.1 (fun I3 f3 h3 hB3 => B_X9_wires_44 ho ?_)
      rw [sk_id] at h3 hB3
      have hfr3 := hfr2.tr f3
      by_cases hz : (cS t n π (sk t n q')).1 = 0
      · have e : ps t n (r + 1) π lv (sk t n q') = ps t n r (cP t n π (sk t n q')) (cL t n π lv (sk t n q')) (sk t n (cS t n π (sk t n q')).2.2) := by
          show (if sk t n q' < n then (if (cS t n π (sk t n q')).1 = 0 then _ else _) else _) = _
          rw [if_pos hlt, if_pos hz]
        rw [e] at k
        have hpl := cS_pl hz hlt
        have hsk := sk_le (t := t) (n := n) (p := (cS t n π (sk t n q')).2.2)
        obtain ⟨hT3, hF3, q3, hqb3, hq43, hq03⟩ := h3
        have hqe3 := hq03 hz
        refine ih I3 _ _ (cS t n π (sk t n q')).2.2 (by omega) hfr3 ⟨hT3, ⟨by rw [hF3.1, hz], by show (0 : Nat) ≤ 4; omega, fun x => absurd rfl x⟩, q3, hqb3, hq43, fun _ => hqe3⟩ (hB3 hz) (cP_W hz hW) k
      · have e : ps t n (r + 1) π lv (sk t n q') = (cS t n π (sk t n q'), π, lv) := by
          show (if sk t n q' < n then (if (cS t n π (sk t n q')).1 = 0 then _ else _) else _) = _
          rw [if_pos hlt, if_neg hz]
        rw [e] at k
        have hF3 := h3.2.1
        have kk := k I3 hfr3 hF3 (fun x => absurd x hz)
        have h4 := hF3.2.1
        refine B_X9_wires_25 ho ?_
        rw [hF3.1]
        exact pk_ne (cS t n π (sk t n q')).1 0 (fun _ => kk) (fun x => absurd x hz) rfl rfl (by omega)
    · have e : ps t n (r + 1) π lv (sk t n q') = ((0, 0, sk t n q'), π, lv) := if_neg hlt
      rw [e] at k
      have e : hch t n (sk t n q') = -1 := if_neg hlt
      rw [e]
      exact ⟨fun _ => k J2 hfr2 hF2 (fun _ => hB2), fun x => absurd rfl x⟩
end S4
section S5
variable {mc ms : Nat} {z : Zt} {I : It} {Q : Option Value → Zt → It → Prop} {π : Pt} {κ : Kt} {ρ : Nat → Kt} {c : Nat} {α β : Kt} {μ : Mt} {T : Nat}
theorem N_wires (ho : isO z) (hX : hY I (π, κ, ρ, c, α, β, μ)) (hG : WG T (π, κ, ρ, c, α, β, μ)) (k : ∀ I', FrY I I' → hY I' (oWires (π, κ, ρ, c, α, β, μ)).2 → Q (some (.int (oWires (π, κ, ρ, c, α, β, μ)).1)) z I') : E mX9_wires mc ms 0 [some (.ref 308)] [] z I Q := by
  obtain ⟨y1, y2, y3, y4, y5, y6, y7⟩ := id hX
  obtain ⟨hW, ⟨hK, hKT⟩, hc, hi1, hi2, hs, hBk', hTz⟩ := id hG
  have hw := prs_W (t := μ 8) (n := μ 7 0)
  have k : ∀ I', FrY I I' → hY I' (ite ((prs (μ 8) (μ 7 0)).1.1 = 0) (nI ((prs (μ 8) (μ 7 0)).2.1 0 0), ((prs (μ 8) (μ 7 0)).2.1, bgn (prs (μ 8) (μ 7 0)).2.1 (prs (μ 8) (μ 7 0)).2.2, ρ, 0, α, β, um (um (um (um (um μ 1 0 0) 1 1 0) 4 0 0) 7 0 0) 9 0 0)) (-10 - nI (prs (μ 8) (μ 7 0)).1.1, (π, κ, ρ, c, α, β, um (um μ 7 0 0) 9 0 ((prs (μ 8) (μ 7 0)).1.2.1 + 1)))).2 → Q (some (.int (ite ((prs (μ 8) (μ 7 0)).1.1 = 0) (nI ((prs (μ 8) (μ 7 0)).2.1 0 0), ((prs (μ 8) (μ 7 0)).2.1, bgn (prs (μ 8) (μ 7 0)).2.1 (prs (μ 8) (μ 7 0)).2.2, ρ, 0, α, β, um (um (um (um (um μ 1 0 0) 1 1 0) 4 0 0) 7 0 0) 9 0 0)) (-10 - nI (prs (μ 8) (μ 7 0)).1.1, (π, κ, ρ, c, α, β, um (um μ 7 0 0) 9 0 ((prs (μ 8) (μ 7 0)).1.2.1 + 1)))).1)) z I' := k
  refine B_X9_wires_0 ho (fun I1 e1 I2 e2 I3 e3 I4 e4 I5 e5 => ?_)
  have a5 : ∀ a, a ≠ 308 → I5 a = I a := fun a ha => by rw [e5, e_st_a ha, e4, e_st_a ha, e3, e_st_a ha, e2, e_st_a ha, e1, e_st_a ha]
  have j5 : ∀ j, j ≠ 13 → j ≠ 14 → j ≠ 15 → j ≠ 18 → j ≠ 19 → I5 308 j = I 308 j := fun j c1 c2 c3 c4 c5 => by rw [e5, e_st_k c1, e4, e_st_k c5, e3, e_st_k c4, e2, e_st_k c3, e1, e_st_k c2]
  have h5 : hV9 I5 (μ 8) (μ 7 0) (0, 0, 0) 300 := ⟨⟨by rw [j5 12 (by decide) (by decide) (by decide) (by decide) (by decide)]; exact y7.1, hTz.1, fun q hq => ⟨by rw [a5 314 (by decide)]; exact y7.2.1 q hq, hTz.2.1 q hq⟩⟩, ⟨by rw [e5, e_st_k (by decide), e4, e_st_k (by decide), e3, e_st_k (by decide), e2, e_st_same]; rfl, by show (0 : Nat) ≤ 4; omega, fun x => absurd rfl x⟩, 0, by omega, by rw [e5, e_st_k (by decide), e4, e_st_k (by decide), e3, e_st_k (by decide), e2, e_st_k (by decide), e1, e_st_same]; rfl, fun _ => rfl⟩
  have hB5 : hPN I5 π0 lv0 := ⟨by rw [e5, e_st_k (by decide), e4, e_st_k (by decide), e3, e_st_same]; rfl, by rw [e5, e_st_k (by decide), e4, e_st_same]; rfl, fun w hw => absurd hw (Nat.not_lt_zero _), fun g hg => absurd hg (Nat.not_lt_zero _)⟩
  have h200 := hTz.1
  refine LM_txt (I := I5) ho 200 I5 π0 lv0 0 (by omega) FrN.rf h5 hB5 W00 (fun I6 f6 hF6 hB6 => B_X9_wires_47 ho (fun I7 e7 => ?_))
  have hP0 : ps (μ 8) (μ 7 0) 200 π0 lv0 (sk (μ 8) (μ 7 0) 0) = prs (μ 8) (μ 7 0) := rfl
  rw [hP0] at hF6 hB6
  have o13 : I5 308 13 = -1 := by rw [e5, e_st_same]
  clear h5 hP0
  generalize prs (μ 8) (μ 7 0) = P at *
  obtain ⟨⟨f, fp, p⟩, π', lv'⟩ := P
  have hf4 : f ≤ 4 := hF6.2.1
  have f7 : I7 308 15 = nI f := by rw [e7, e_st_k (by decide)]; exact hF6.1
  have a7 : ∀ a, a ≠ 308 → a ≠ 315 → a ≠ 316 → I7 a = I a := fun a c1 c2 c3 => by rw [e7, e_st_a c1, f6.1 a c1 c2 c3, a5 a c1]
  have j7 : ∀ j, j < 12 → I7 308 j = I 308 j := fun j hj => by rw [e7, e_st_k (by omega), f6.2 j (by omega), j5 j (by omega) (by omega) (by omega) (by omega) (by omega)]
  have o12 : I7 308 12 = nI 0 := by rw [e7, e_st_same]; rfl
  have p13 : I7 308 13 = -1 := by rw [e7, e_st_k (by decide), f6.2 13 (by omega)]; exact o13
  rw [f7]
  refine pk_eq f 0 (fun hz0 => ?_) (fun hnz I8 e8 => ?_)
  · have hz0' : ((f, fp, p) : St).1 = 0 := hz0
    rw [if_pos hz0'] at k
    have hB7 : hPN I7 π' lv' := by
      obtain ⟨x1, x2, x3, x4⟩ := hB6 hz0
      exact ⟨by rw [e7, e_st_k (by decide)]; exact x1, by rw [e7, e_st_k (by decide)]; exact x2, fun w hw => by rw [e7, e_st_a (by decide)]; exact x3 w hw, fun g hg j hj => by rw [e7, e_st_a (by decide)]; exact x4 g hg j hj⟩
    refine M_begin ho hB7 hw (fun I8 f8 hO8 hR8 c4 c5 c10 => B_X9_wires_79 ho ?_)
    rw [hO8.1]
    refine k I8 (fun a ha => by rw [f8.1 a (by omega) (by omega) (by omega), a7 a (by omega) (by omega) (by omega)]) ⟨hO8, hR8, ⟨Nat.zero_le _, c4, fun j hj => absurd hj (Nat.not_lt_zero _)⟩, ⟨c5, fun x => absurd x (by show ¬ (0 : Nat) = 1; omega), fun x => absurd x (by show ¬ (0 : Nat) = 1; omega)⟩, ?_, ⟨c10, fun j hj => absurd hj (Nat.not_lt_zero _)⟩, ⟨?_, fun j hj => absurd hj (Nat.not_lt_zero _), ?_⟩⟩
    · rw [f8.2 6 (by decide) (by decide) (by decide) (by decide) (by decide), j7 6 (by omega)]; exact y5
    · rw [f8.2 12 (by decide) (by decide) (by decide) (by decide) (by decide)]; exact o12
    · rw [f8.2 13 (by decide) (by decide) (by decide) (by decide) (by decide)]; exact p13
  · have hnz' : ¬ ((f, fp, p) : St).1 = 0 := hnz
    rw [if_neg hnz'] at k
    have h16 : I7 308 16 = nI fp := by rw [e7, e_st_k (by decide)]; exact hF6.2.2 hnz
    rw [h16] at e8
    have f8 : I8 308 15 = nI f := by rw [e8, e_st_k (by decide)]; exact f7
    rw [f8]
    have a8 : ∀ a, a ≠ 308 → a ≠ 315 → a ≠ 316 → I8 a = I a := fun a c1 c2 c3 => by rw [e8, e_st_a c1, a7 a c1 c2 c3]
    have j8 : ∀ j, j < 12 → I8 308 j = I 308 j := fun j hj => by rw [e8, e_st_k (by omega), j7 j hj]
    have r9 : I8 309 = I 309 := a8 309 (by decide) (by decide) (by decide)
    refine k I8 (fun a ha => a8 a (by omega) (by omega) (by omega)) ⟨?_, y2.fr hW hK.z8 (fun q _ _ => by rw [r9]), y3.fr hW hG.z8p (j8 4 (by omega)) (fun q _ _ => by rw [r9]), ?_, by rw [j8 6 (by omega)]; exact y5, ?_, ⟨?_, fun j hj => absurd hj (Nat.not_lt_zero _), ?_⟩⟩
    · unfold hO at *; rw [j8 1 (by omega), j8 2 (by omega), a8 310 (by decide) (by decide) (by decide)]; exact y1
    · exact hYi.fr (I' := I8) y4 hW hG.z8a hG.z8b (j8 5 (by omega)) (a8 311 (by decide) (by decide) (by decide)) (fun q _ _ => by rw [r9])
    · have : hYb I8 μ := by
        unfold hYb at *; rw [j8 10 (by omega), a8 312 (by decide) (by decide) (by decide), a8 313 (by decide) (by decide) (by decide)]; exact y6
      exact this
    · rw [e8, e_st_k (by decide)]; exact o12
    · rw [e8, e_st_same, um_same, nI_dec (by omega)]; rfl
end S5
