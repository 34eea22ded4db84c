/-! ===== the class does its deeds ===== -/
theorem nlt_of {x y : Int32} : ¬ x ≤ y → y < x := fun h => by rw [Int32.le_iff_toInt_le] at h; rw [Int32.lt_iff_toInt_lt]; omega
theorem nle_of {x y : Int32} : ¬ x < y → y ≤ x := fun h => by rw [Int32.lt_iff_toInt_lt] at h; rw [Int32.le_iff_toInt_le]; omega
theorem le_n {x y : Int32} : x ≤ y → ¬ y < x := fun h => by rw [Int32.le_iff_toInt_le] at h; rw [Int32.lt_iff_toInt_lt]; omega
theorem lt_nle {x y : Int32} : x < y → ¬ y ≤ x := fun h => by rw [Int32.lt_iff_toInt_lt] at h; rw [Int32.le_iff_toInt_le]; omega
section D1
variable {mc ms : Nat} {z : Zt} {I : It} {Q : Option Value → Zt → It → Prop} {pa pb : Nat} {π : Pt} {κ : Kt} {ρ : Nat → Kt} {c : Nat} {α β : Kt} {μ : Mt} {T : Nat} {x1 x2 x3 : Int32}
theorem D_feed (hz : isZ z pa pb) (hpa : pa + 7 < 20) (h4 : 3 < pa) (hX : hC I pa (π, κ, ρ, c, α, β, μ)) (hG : WG T (π, κ, ρ, c, α, β, μ)) (k : ∀ I', FrX I I' → hC I' pa (oFeed (π, κ, ρ, c, α, β, μ) x1).2 → Q (some (.int (oFeed (π, κ, ρ, c, α, β, μ) x1).1)) z I') : E mX8_feed mc ms 0 [some (.ref 1), some (.int x1)] [] z I Q := by
  obtain ⟨y1, y2, y3, y4, y5, y6, y7, y8⟩ := id hX
  obtain ⟨hW, hK, hc, hi1, hi2, hs, hB, hTz⟩ := id hG
  have kI := k I FrX.rf
  refine B_X8_feed_0 hz ⟨fun h => ?_, fun h1 => ⟨fun h2 => ?_, fun h => ?_⟩⟩
  · have e : oFeed (π, κ, ρ, c, α, β, μ) x1 = _ := if_pos (Or.inl h)
    rw [e] at kI; exact kI hX
  · have e : oFeed (π, κ, ρ, c, α, β, μ) x1 = _ := if_neg (fun q => by rcases q with q | q; exact h1 q; exact le_n h2 q)
    rw [y8.1]
    have h200 := hTz.1
    refine pk_lt (μ 7 0) 200 (fun h3 => ⟨μ 7 0, rfl, h3, fun I2 e2 I3 e3 => ?_⟩) (fun h3 => ?_)
    · rw [if_pos h3] at e
      rw [e] at k
      obtain ⟨j, hj, rfl⟩ := xc h1
      rw [un_nI hj] at k
      have h21 : I2 2 1 = nI (μ 7 0) := by rw [e2, e_st_a (by decide), y8.1]
      rw [h21, nI_1] at e3
      have h31 : I3 2 1 = nI (μ 7 0 + 1) := by rw [e3, e_st_same]
      rw [h31]
      have ro : ∀ a, a ≠ 2 → a ≠ 3 → I3 a = I a := fun a a2 a3 => by rw [e3, e_st_a a2, e2, e_st_a a3]
      refine k I3 (fun a ha => ro a (by omega) (by omega)) ⟨y1.fr (fun a _ _ => ro a (by omega) (by omega)), y2.fr (fun a _ _ => ro a (by omega) (by omega)), y3.fr (fun a _ _ => ro a (by omega) (by omega)), y4.fr (fun a _ _ => ro a (by omega) (by omega)), y5.fr (fun a _ _ => ro a (by omega) (by omega)), by rw [ro 307 (by omega) (by omega)]; exact y6, y7.fr (fun a _ _ => ro a (by omega) (by omega)), ?_⟩
      unfold hTx
      rw [um_same, um_a (a' := 8) (by decide), um_a (a' := 9) (by decide), um_a (a' := 9) (by decide)]
      refine ⟨h31, fun q hq => ?_, ?_⟩
      · rw [e3, e_st_a (by decide), e2, e_st_row]
        by_cases eq : q = μ 7 0
        · subst eq; rw [xd_same, um_same]
        · rw [xd_ne eq, um_b eq]; exact y8.2.1 q (by omega)
      · rw [e3, e_st_k (by decide), e2, e_st_a (by decide)]; exact y8.2.2
    · rw [if_neg (by omega)] at e
      rw [e] at kI; exact kI hX
  · have e : oFeed (π, κ, ρ, c, α, β, μ) x1 = _ := if_pos (Or.inr (nlt_of h))
    rw [e] at kI; exact kI hX
theorem D_step (hz : isZ z pa pb) (hpa : pa + 7 < 20) (hX : hC I pa (π, κ, ρ, c, α, β, μ)) (hG : WG T (π, κ, ρ, c, α, β, μ)) (hT : T + 3000 < 2147483647) (k : ∀ I', FrX I I' → hC I' pa (oStep (π, κ, ρ, c, α, β, μ)).2 → Q (some (.int (oStep (π, κ, ρ, c, α, β, μ)).1)) z I') : E mX8_step mc ms 0 [some (.ref 1)] [] z I Q := by
  obtain ⟨y1, y2, y3, y4, y5, y6, y7, y8⟩ := id hX
  obtain ⟨hW, ⟨hK, hKT⟩, hc, hi1, hi2, hs, hB, hTz⟩ := id hG
  have hb := hK.2.2.2.2.2.2.2.1
  have kI := k I FrX.rf
  refine B_X8_step_0 hz ?_
  rw [y2.1.2.2.1]
  refine pk_ne (κ 2 0 0) 0 (fun q => ?_) (fun q => C_isStill hz.now y2 (hK.tb (by omega)) (B_X8_step_17 hz ?_))
  · have e : oStep (π, κ, ρ, c, α, β, μ) = _ := if_neg (fun q' => q q'.1)
    rw [e] at kI; exact kI hX
  · by_cases hs : er κ 8 = 2147483647
    · have e : oStep (π, κ, ρ, c, α, β, μ) = _ := if_neg (fun q' => q'.2 hs)
      rw [if_pos hs]
      rw [e] at kI
      exact ⟨fun q => absurd q (by decide), fun _ => kI hX⟩
    · have e : oStep (π, κ, ρ, c, α, β, μ) = _ := if_pos ⟨q, hs⟩
      rw [if_neg hs]
      rw [e] at k
      refine ⟨fun _ => C_remember hz.past hz.now (fun j hj => hz.past.m hj) (by omega) y2 y3 hW hK (fun I1 hf1 hQ1 => B_X8_step_34 hz ?_), fun q => absurd rfl q⟩
      have hX1 := hX.past hpa hf1 hQ1
      refine C_advance hz.now hz.pa (by omega) hX1.2.1 hX1.1 hW hK q (by omega) hs (fun I2 hf2 h2 => B_X8_step_45 hz ?_)
      rw [h2.1.1, sp_time]
      exact k I2 ((FrX.past hf1).tr (FrX.mo hf2 (by omega) (by omega))) (hX1.now hpa hf2 h2)
theorem D_run (hz : isZ z pa pb) (hpa : pa + 7 < 20) (hX : hC I pa (π, κ, ρ, c, α, β, μ)) (hG : WG T (π, κ, ρ, c, α, β, μ)) (hT : T + 3000 < 2147483647) (k : ∀ I', FrX I I' → hC I' pa (oRun (π, κ, ρ, c, α, β, μ) x1).2 → Q (some (.int (oRun (π, κ, ρ, c, α, β, μ) x1).1)) z I') : E mX8_run mc ms 0 [some (.ref 1), some (.int x1)] [] z I Q := by
  obtain ⟨y1, y2, y3, y4, y5, y6, y7, y8⟩ := id hX
  obtain ⟨hW, ⟨hK, hKT⟩, hc, hi1, hi2, hs, hB, hTz⟩ := id hG
  have hb := hK.2.2.2.2.2.2.2.1
  have kI := k I FrX.rf
  refine B_X8_run_0 hz ⟨fun h => ?_, fun h1 => ⟨fun h2 => ?_, fun h => ?_⟩⟩
  · have e : oRun (π, κ, ρ, c, α, β, μ) x1 = _ := if_pos (Or.inl h)
    rw [e] at kI; exact kI hX
  · have hno : ¬ (x1 < 1 ∨ 200 < x1) := fun q => by rcases q with q | q; exact h1 q; exact le_n h2 q
    have e : oRun (π, κ, ρ, c, α, β, μ) x1 = _ := if_neg hno
    obtain ⟨j, hj, hj2, rfl⟩ := x1_n (b := 200) (by omega) hno
    rw [un_nI (by omega)] at e
    rw [y2.1.2.2.1]
    refine pk_eq (κ 2 0 0) 0 (fun q => ?_) (fun q => ?_)
    · rw [if_pos q] at e
      rw [e] at k
      refine C_remember hz.past hz.now (fun j hj => hz.past.m hj) (by omega) y2 y3 hW hK (fun I1 hf1 hQ1 => B_X8_run_39 hz ?_)
      have hX1 := hX.past hpa hf1 hQ1
      rw [hX1.2.1.1.1, nI_add]
      refine C_advanceTo hz.now hz.pa (by omega) hX1.2.1 hX1.1 hW hK (by omega) (by omega) (fun I2 hf2 h2 => B_X8_run_59 ?_)
      exact k I2 ((FrX.past hf1).tr (FrX.mo hf2 (by omega) (by omega))) (hX1.now hpa hf2 h2)
    · rw [if_neg q] at e
      rw [e] at kI; exact kI hX
  · have e : oRun (π, κ, ρ, c, α, β, μ) x1 = _ := if_pos (Or.inr (nlt_of h))
    rw [e] at kI; exact kI hX
theorem C_maySet (hz : isZ z pa pb) (hX : hC I pa (π, κ, ρ, c, α, β, μ)) (hW : WP π) (hb : κ 2 0 0 ≤ 1) {w : Nat} (hw : w < 8) (k : Q (some (.int (if κ 2 0 0 = 0 ∧ dc π w (π 1 0) = 0 then 1 else 0))) z I) : E mX8_maySetByHand mc ms 0 [some (.ref 1), some (.int (nI w))] [] z I Q := by
  obtain ⟨y1, y2, -⟩ := hX
  refine B_X8_maySetByHand_0 hz ?_
  rw [y2.1.2.2.1]
  refine pk_ne (κ 2 0 0) 0 (fun q => ?_) (fun q => C_driversOf hz.pa y1 hW hw (B_X8_maySetByHand_18 ?_))
  · rw [if_neg (fun q' => q q'.1)] at k; exact k
  · have := dc_le π w (π 1 0)
    have := hW.2.1
    refine pk_ne (dc π w (π 1 0)) 0 (fun q' => ?_) (fun q' => ?_)
    · rw [if_neg (fun q2 => q' q2.2)] at k; exact k
    · rw [if_pos ⟨q, q'⟩] at k; exact k
theorem D_set (hz : isZ z pa pb) (hpa : pa + 7 < 20) (hX : hC I pa (π, κ, ρ, c, α, β, μ)) (hG : WG T (π, κ, ρ, c, α, β, μ)) (hT : T + 3000 < 2147483647) (k : ∀ I', FrX I I' → hC I' pa (oSet (π, κ, ρ, c, α, β, μ) x1 x2 x3).2 → Q (some (.int (oSet (π, κ, ρ, c, α, β, μ) x1 x2 x3).1)) z I') : E mX8_set mc ms 0 [some (.ref 1), some (.int x1), some (.int x2), some (.int x3)] [] z I Q := by
  obtain ⟨y1, y2, y3, y4, y5, y6, y7, y8⟩ := id hX
  obtain ⟨hW, ⟨hK, hKT⟩, hc, hi1, hi2, hs, hB, hTz⟩ := id hG
  have hb := hK.2.2.2.2.2.2.2.1
  have hw0 := hW.1
  have kI := k I FrX.rf
  refine B_X8_set_0 hz ?_
  rw [y1.1]
  refine ⟨fun h => ?_, fun h1 => ⟨fun h => ?_, fun h2 => ⟨fun h => ?_, fun h3 => ⟨fun h => ?_, fun h4 => ⟨fun h => ?_, fun h5 => ⟨fun h6 => ?_, fun h => ?_⟩⟩⟩⟩⟩⟩
  · have e : oSet (π, κ, ρ, c, α, β, μ) x1 x2 x3 = _ := if_pos (Or.inl h)
    rw [e] at kI; exact kI hX
  · have e : oSet (π, κ, ρ, c, α, β, μ) x1 x2 x3 = _ := if_pos (Or.inr (Or.inl h))
    rw [e] at kI; exact kI hX
  · have e : oSet (π, κ, ρ, c, α, β, μ) x1 x2 x3 = _ := if_pos (Or.inr (Or.inr (Or.inl h)))
    rw [e] at kI; exact kI hX
  · have e : oSet (π, κ, ρ, c, α, β, μ) x1 x2 x3 = _ := if_pos (Or.inr (Or.inr (Or.inr h)))
    rw [e] at kI; exact kI hX
  · have e : oSet (π, κ, ρ, c, α, β, μ) x1 x2 x3 = _ := if_neg (fun q => by rcases q with q | q | q | q <;> contradiction)
    rw [if_pos (Or.inl h)] at e
    rw [e] at kI; exact kI hX
  · have e : oSet (π, κ, ρ, c, α, β, μ) x1 x2 x3 = _ := if_neg (fun q => by rcases q with q | q | q | q <;> contradiction)
    have hno : ¬ (x3 < 0 ∨ 20 < x3) := fun q => by rcases q with q | q; exact h5 q; exact le_n h6 q
    rw [if_neg hno] at e
    obtain ⟨w, hw, rfl⟩ := lt_n (n := π 0 0) (by omega) h1 h2
    obtain ⟨l, hl, rfl⟩ := le3 h3 h4
    obtain ⟨d, hd, rfl⟩ := x0_n (b := 20) (by omega) hno
    rw [un_nI (by omega), un_nI (by omega), un_nI (by omega)] at e
    refine C_maySet hz hX hW hb (by omega) (B_X8_set_39 hz ?_)
    by_cases hm : κ 2 0 0 = 0 ∧ dc π w (π 1 0) = 0
    · rw [if_pos hm] at e ⊢
      refine ⟨fun _ => ?_, fun q => absurd q (by decide)⟩
      rw [y2.1.2.2.2]
      have := hK.2.2.2.1.1
      refine pk_lt (κ 3 0 0) 8 (fun q => ?_) (fun q => ?_)
      · rw [if_pos q] at e
        rw [e] at k
        refine C_remember hz.past hz.now (fun j hj => hz.past.m hj) (by omega) y2 y3 hW hK (fun I1 hf1 hQ1 => B_X8_set_69 hz ?_)
        have hX1 := hX.past hpa hf1 hQ1
        rw [hX1.2.1.1.1, nI_add]
        refine C_addByHand hz.now hX1.2.1 hK.2.2.2.1 q (by omega) (by omega) (fun I2 hf2 h2 => B_X8_set_87 hz ?_)
        rw [h2.1.2.2.2, ah_3]
        exact k I2 ((FrX.past hf1).tr (FrX.mo hf2 (by omega) (by omega))) (hX1.now hpa hf2 h2)
      · rw [if_neg (by omega)] at e
        rw [e] at kI; exact kI hX
    · rw [if_neg hm] at e ⊢
      rw [e] at kI
      exact ⟨fun q => absurd rfl q, fun _ => kI hX⟩
  · have e : oSet (π, κ, ρ, c, α, β, μ) x1 x2 x3 = _ := if_neg (fun q => by rcases q with q | q | q | q <;> contradiction)
    rw [if_pos (Or.inr (nlt_of h))] at e
    rw [e] at kI; exact kI hX
theorem D_calm (hz : isZ z pa pb) (hpa : pa + 7 < 20) (hX : hC I pa (π, κ, ρ, c, α, β, μ)) (hG : WG T (π, κ, ρ, c, α, β, μ)) (hT : T + 3000 < 2147483647) (k : ∀ I', FrX I I' → hC I' pa (oCalm (π, κ, ρ, c, α, β, μ)).2 → Q (some (.int (oCalm (π, κ, ρ, c, α, β, μ)).1)) z I') : E mX8_calm mc ms 0 [some (.ref 1)] [] z I Q := by
  obtain ⟨y1, y2, y3, y4, y5, y6, y7, y8⟩ := id hX
  obtain ⟨hW, ⟨hK, hKT⟩, hc, hi1, hi2, hs, hB, hTz⟩ := id hG
  have hb := hK.2.2.2.2.2.2.2.1
  have kI := k I FrX.rf
  refine B_X8_calm_0 hz ?_
  rw [y2.1.2.2.1]
  refine pk_ne (κ 2 0 0) 0 (fun q => ?_) (fun q => ?_)
  · have e : oCalm (π, κ, ρ, c, α, β, μ) = _ := if_neg q
    rw [e] at k
    refine C_remember hz.past hz.now (fun j hj => hz.past.m hj) (by omega) y2 y3 hW hK (fun I1 hf1 hQ1 => B_X8_calm_24 hz (fun I2 e2 => ?_))
    have hX1 := hX.past hpa hf1 hQ1
    have h2 : hM I2 20 π (ku κ 2 0) := hX1.2.1.sc (c := 0) (Or.inr (Or.inr ⟨rfl, rfl⟩)) e2
    have hX2 := hX1.now hpa (FrM.sc e2) h2
    have hL : LB π (ku κ 2 0) := by
      unfold LB; rw [ku_f (by decide), ku_f (by decide)]; exact hK.1
    have hQ' : WQ π (ku κ 2 0) := by
      unfold WQ; rw [ku_f (by decide), ku_f (by decide), ku_f (by decide), ku_f (by decide)]; exact hK.2.1
    refine C_tellAll hz.now hz.pa (by omega) h2 hX2.1 hW hL hQ' (by rw [ku_f (by decide)]; omega) (fun I3 hf3 h3 => B_X8_calm_43 hz ?_)
    rw [h3.1.1, tlA_f (by omega), ku_f (by decide)]
    exact k I3 (((FrX.past hf1).tr (FrX.mo (FrM.sc e2) (by omega) (by omega))).tr (FrX.mo hf3 (by omega) (by omega))) (hX2.now hpa hf3 h3)
  · have e : oCalm (π, κ, ρ, c, α, β, μ) = _ := if_pos q
    rw [e] at kI; exact kI hX
theorem hC.seed {I' : It} {s : Nat} (hX : hC I pa (π, κ, ρ, c, α, β, μ)) (hpa : pa + 7 < 20) (hf : ∀ a, a ≠ 307 → I' a = I a) (hs : I' 307 0 = nI s) : hC I' pa (π, κ, ρ, c, α, β, um μ 3 0 s) := by
  obtain ⟨y1, y2, y3, y4, y5, y6, y7, y8⟩ := hX
  refine ⟨y1.fr (fun a _ _ => hf a (by omega)), y2.fr (fun a _ _ => hf a (by omega)), y3.fr (fun a _ _ => hf a (by omega)), y4.fr (fun a _ _ => hf a (by omega)), y5.fr (fun a _ _ => hf a (by omega)), by rw [um_same]; exact hs, ?_, ?_⟩
  · have := hBk.fr (I' := I') y7 (fun a _ _ => hf a (by omega)); exact this
  · have := hTx.fr (I' := I') y8 (fun a _ _ => hf a (by omega)); exact this
theorem C_d1s (hz : isZ z pa pb) (hpa : pa + 7 < 20) (hX : hC I pa (π, κ, ρ, c, α, β, μ)) (hW : WP π) (hK : WK π κ) (hT : κ 0 0 0 + 40 < 2147483647) (k : ∀ I', FrX I I' → hC I' pa (π, d1s π κ, ρ, c, α, β, μ) → Q none z I') : ((¬ I 20 2 = 0) → Q none z I) ∧ ((I 20 2 = 0) → E mX4_isStill 0 0 0 [some (.ref 20)] [] z I (fun r z' I' => E mX8_driftOnce mc ms 98 [some (.ref 1), none, none, none] (r.toList ++ []) z' I' Q)) := by
  obtain ⟨y1, y2, y3, y4, y5, y6, y7, y8⟩ := id hX
  have hb := hK.2.2.2.2.2.2.2.1
  rw [y2.1.2.2.1]
  refine pk_ne (κ 2 0 0) 0 (fun q => ?_) (fun q => C_isStill hz.now y2 (hK.tb (by omega)) (B_X8_driftOnce_98 hz ?_))
  · have e : d1s π κ = κ := if_neg (fun q' => q q'.1)
    rw [e] at k; exact k I FrX.rf hX
  · by_cases hs : er κ 8 = 2147483647
    · have e : d1s π κ = κ := if_neg (fun q' => q'.2 hs)
      rw [e] at k
      rw [if_pos hs]
      exact ⟨fun _ => k I FrX.rf hX, fun q => absurd q (by decide)⟩
    · have e : d1s π κ = sp π κ := if_pos ⟨q, hs⟩
      rw [e] at k
      rw [if_neg hs]
      refine ⟨fun q => absurd rfl q, fun _ => C_advance hz.now hz.pa (by omega) y2 y1 hW hK q (by omega) hs (fun I2 hf2 h2 => B_X8_driftOnce_112 ?_)⟩
      exact k I2 (FrX.mo hf2 (by omega) (by omega)) (hX.now hpa hf2 h2)
theorem C_driftTail (hz : isZ z pa pb) (hpa : pa + 7 < 20) (hX : hC I pa (π, κ, ρ, c, α, β, μ)) (hW : WP π) (hK : WK π κ) (hT : κ 0 0 0 + 40 < 2147483647) {w l d : Nat} (hw : w < π 0 0) (hl : l < 4) (hd : d ≤ 20) (k : ∀ I', FrX I I' → hC I' pa (π, d1s π (d1k π κ w l d), ρ, c, α, β, μ) → Q none z I') : E mX8_driftOnce mc ms 44 [some (.ref 1), some (.int (nI w)), some (.int (nI l)), none] [.int (nI d)] z I Q := by
  have hb := hK.2.2.2.2.2.2.2.1
  have hw0 := hW.1
  obtain ⟨y1, y2, y3, y4, y5, y6, y7, y8⟩ := id hX
  refine B_X8_driftOnce_44 hz (C_maySet hz hX hW hb (by omega) (B_X8_driftOnce_50 hz ?_))
  by_cases hm : κ 2 0 0 = 0 ∧ dc π w (π 1 0) = 0
  · rw [if_pos hm]
    refine ⟨fun q => absurd q (by decide), fun _ => ?_⟩
    rw [y2.1.2.2.2]
    have := hK.2.2.2.1.1
    have hcc : ∀ {J : It} {κ2 : Kt}, hC J pa (π, κ2, ρ, c, α, β, μ) → WK π κ2 → κ2 0 0 0 + 40 < 2147483647 → (∀ I', FrX J I' → hC I' pa (π, d1s π κ2, ρ, c, α, β, μ) → Q none z I') → E mX8_driftOnce mc ms 81 [some (.ref 1), none, none, none] [] z J Q := by
      intro J κ2 hJ hK2 hT2 k2
      obtain ⟨c1, c2⟩ := C_d1s (mc := mc) (ms := ms) hz hpa hJ hW hK2 hT2 k2
      exact B_X8_driftOnce_81 hz ⟨fun q => B_X8_driftOnce_112 (c1 q), c2⟩
    refine pk_lt (κ 3 0 0) 8 (fun q => ?_) (fun q => ?_)
    · have e : d1k π κ w l d = ah κ w l (κ 0 0 0 + d) := if_pos ⟨hm.1, hm.2, q⟩
      rw [e] at k
      rw [y2.1.1, nI_add]
      refine C_addByHand hz.now y2 hK.2.2.2.1 q (by omega) (by omega) (fun I2 hf2 h2 => ?_)
      refine hcc (hX.now hpa hf2 h2) (ah_WK hK hm.1 q hw hm.2 hl (by omega) (by omega)) (by rw [ah_f (by omega)]; omega) (fun I3 hf3 h3 => k I3 ((FrX.mo hf2 (by omega) (by omega)).tr hf3) h3)
    · have e : d1k π κ w l d = κ := if_neg (fun q' => absurd q'.2.2 (by omega))
      rw [e] at k
      exact hcc hX hK hT k
  · rw [if_neg hm]
    have e : d1k π κ w l d = κ := if_neg (fun q' => hm ⟨q'.1, q'.2.1⟩)
    rw [e] at k
    exact ⟨fun _ => C_d1s hz hpa hX hW hK hT k, fun q => absurd rfl q⟩
theorem C_driftOnce (hz : isZ z pa pb) (hpa : pa + 7 < 20) (hX : hC I pa (π, κ, ρ, c, α, β, μ)) (hG : WG T (π, κ, ρ, c, α, β, μ)) (hT : T + 3000 < 2147483647) (h0 : 0 < π 0 0) (k : ∀ I', FrX I I' → hC I' pa (d1 (π, κ, ρ, c, α, β, μ)) → Q none z I') : E mX8_driftOnce mc ms 0 [some (.ref 1), none, none, none] [] z I Q := by
  obtain ⟨y1, y2, y3, y4, y5, y6, y7, y8⟩ := id hX
  obtain ⟨hW, ⟨hK, hKT⟩, hc, hi1, hi2, hs, hB, hTz⟩ := id hG
  have hw0 := hW.1
  rw [d1_e] at k
  refine B_X8_driftOnce_0 hz (C_remember hz.past hz.now (fun j hj => hz.past.m hj) (by omega) y2 y3 hW hK (fun I1 hf1 hQ1 => B_X8_driftOnce_11 hz ?_))
  have hX1 := hX.past hpa hf1 hQ1
  have h1 : dS (μ 3 0) < 2147483648 := dS_lt _
  have h2 : dS (dS (μ 3 0)) < 2147483648 := dS_lt _
  have h21 : dS (dS (dS (μ 3 0))) / 65536 % 21 ≤ 20 := Nat.le_of_lt_succ (Nat.mod_lt _ (by omega))
  have h4 : dS (dS (μ 3 0)) / 65536 % 4 < 4 := Nat.mod_lt _ (by omega)
  have hn : dS (μ 3 0) / 65536 % π 0 0 < π 0 0 := Nat.mod_lt _ h0
  have hi0 : I1 307 0 = nI (μ 3 0) := hX1.2.2.2.2.2.1
  rw [hX1.1.1]
  refine C_draw hz.draws hi0 hs h0 (by omega) (fun I2 hf2 hi2 => B_X8_driftOnce_25 hz ?_)
  refine C_draw (n := 4) hz.draws hi2 h1 (by omega) (by omega) (fun I3 hf3 hi3 => B_X8_driftOnce_34 hz ?_)
  refine C_draw (n := 21) hz.draws hi3 h2 (by omega) (by omega) (fun I4 hf4 hi4 => ?_)
  have hf14 : ∀ a, a ≠ 307 → I4 a = I1 a := fun a ha => by rw [hf4 a ha, hf3 a ha, hf2 a ha]
  generalize dS (dS (dS (μ 3 0))) = s3 at *
  generalize dS (dS (μ 3 0)) / 65536 % 4 = l at *
  generalize dS (μ 3 0) / 65536 % π 0 0 = w at *
  generalize s3 / 65536 % 21 = d at *
  have hX4 := hX1.seed hpa hf14 hi4
  refine C_driftTail hz hpa hX4 hW hK (by omega) hn h4 h21 (fun I5 hf5 h5 => k I5 (((FrX.past hf1).tr (fun a ha => hf14 a (by omega))).tr hf5) h5)
theorem L_drift (hz : isZ z pa pb) (hpa : pa + 7 < 20) (n : Nat) (hn : n ≤ 16) : ∀ (r i : Nat) (J : It) (G : Gt) (T : Nat), i + r = n → FrX I J → hC J pa G → WG T G → T + 20 * r + 3000 < 2147483647 → 0 < G.1 0 0 → (∀ I', FrX I I' → hC I' pa (dN r G) → Q (some (.int (nI ((dN r G).2.1 0 0 0)))) z I') → E mX8_drift mc ms 26 [some (.ref 1), some (.int (nI n)), some (.int (nI i))] [] z J Q := by
  intro r
  induction r with
  | zero =>
    intro i J G T hi hf hX hG hT h0 k
    obtain ⟨π, κ, ρ, c, α, β, μ⟩ := G
    refine B_X8_drift_26 hz (pk_le n i (fun _ => ?_) (fun h => absurd h (by omega)))
    rw [hX.2.1.1.1]
    exact k J hf hX
  | succ r ih =>
    intro i J G T hi hf hX hG hT h0 k
    obtain ⟨π, κ, ρ, c, α, β, μ⟩ := G
    refine B_X8_drift_26 hz (pk_le n i (fun h => absurd h (by omega)) (fun _ => C_driftOnce hz hpa hX hG (by omega) h0 (fun I2 hf2 h2 => B_X8_drift_35 hz ?_)))
    rw [nI_1]
    exact ih (i + 1) I2 _ (T + 20) (by omega) (hf.tr hf2) h2 (W_d1 hG (by omega) h0) (by omega) (by rw [d1_1]; exact h0) k
theorem D_drift (hz : isZ z pa pb) (hpa : pa + 7 < 20) (hX : hC I pa (π, κ, ρ, c, α, β, μ)) (hG : WG T (π, κ, ρ, c, α, β, μ)) (hT : T + 4000 < 2147483647) (k : ∀ I', FrX I I' → hC I' pa (oDrift (π, κ, ρ, c, α, β, μ) x1).2 → Q (some (.int (oDrift (π, κ, ρ, c, α, β, μ) x1).1)) z I') : E mX8_drift mc ms 0 [some (.ref 1), some (.int x1), none] [] z I Q := by
  obtain ⟨y1, y2, y3, y4, y5, y6, y7, y8⟩ := id hX
  obtain ⟨hW, ⟨hK, hKT⟩, hc, hi1, hi2, hs, hB, hTz⟩ := id hG
  have hw0 := hW.1
  have kI := k I FrX.rf
  refine B_X8_drift_0 hz ⟨fun h => ?_, fun h1 => ⟨fun h2 => ?_, fun h => ?_⟩⟩
  · have e : oDrift (π, κ, ρ, c, α, β, μ) x1 = _ := if_pos (Or.inl h)
    rw [e] at kI; exact kI hX
  · have hno : ¬ (x1 < 1 ∨ 16 < x1) := fun q => by rcases q with q | q; exact h1 q; exact le_n h2 q
    have e : oDrift (π, κ, ρ, c, α, β, μ) x1 = _ := if_neg hno
    obtain ⟨j, hj, hj2, rfl⟩ := x1_n (b := 16) (by omega) hno
    rw [un_nI (by omega)] at e
    rw [y1.1]
    refine pk_le (π 0 0) 0 (fun q => ?_) (fun q => ?_)
    · rw [if_pos (by omega)] at e
      rw [e] at kI
      rw [y2.1.1]; exact kI hX
    · rw [if_neg (by omega)] at e
      rw [e] at k
      exact L_drift hz hpa j hj2 j 0 I _ T (by omega) FrX.rf hX hG (by omega) (by show 0 < π 0 0; omega) k
  · have e : oDrift (π, κ, ρ, c, α, β, μ) x1 = _ := if_pos (Or.inr (nlt_of h))
    rw [e] at kI; exact kI hX
theorem D_undo (hz : isZ z pa pb) (hpa : pa + 7 < 20) (hX : hC I pa (π, κ, ρ, c, α, β, μ)) (hG : WG T (π, κ, ρ, c, α, β, μ)) (k : ∀ I', FrX I I' → hC I' pa (oUndo (π, κ, ρ, c, α, β, μ) x1).2 → Q (some (.int (oUndo (π, κ, ρ, c, α, β, μ) x1).1)) z I') : E mX8_undo mc ms 0 [some (.ref 1), some (.int x1)] [] z I Q := by
  obtain ⟨y1, y2, y3, y4, y5, y6, y7, y8⟩ := id hX
  obtain ⟨hW, ⟨hK, hKT⟩, hc, hi1, hi2, hs, hB, hTz⟩ := id hG
  have kI := k I FrX.rf
  refine B_X8_undo_0 hz ⟨fun h => ?_, fun h1 => ⟨fun h2 => ?_, fun h => ?_⟩⟩
  · have e : oUndo (π, κ, ρ, c, α, β, μ) x1 = _ := if_pos (Or.inl h)
    rw [e] at kI; exact kI hX
  · have hno : ¬ (x1 < 1 ∨ 16 < x1) := fun q => by rcases q with q | q; exact h1 q; exact le_n h2 q
    have e : oUndo (π, κ, ρ, c, α, β, μ) x1 = _ := if_neg hno
    obtain ⟨j, hj, hj2, rfl⟩ := x1_n (b := 16) (by omega) hno
    rw [un_nI (by omega)] at e
    rw [y3.2.1]
    have hc16 := hc.1
    refine pk_le j c (fun q => ?_) (fun q => ?_)
    · rw [if_pos q] at e
      rw [e] at k
      refine C_bringBack hz.past hz.now (fun j hj => hz.past.m hj) (by omega) y3 hW (by omega) q (hc.2 _ (by omega)).1 (fun I2 hf2 h2 hQ2 => B_X8_undo_40 hz ?_)
      rw [h2.1.1]
      exact k I2 (fun a ha => hf2 a (by omega) (by omega)) ⟨y1.fr (fun a _ _ => hf2 a (by omega) (by omega)), h2, hQ2, y4.fr (fun a _ _ => hf2 a (by omega) (by omega)), y5.fr (fun a _ _ => hf2 a (by omega) (by omega)), by rw [hf2 307 (by omega) (by omega)]; exact y6, y7.fr (fun a _ _ => hf2 a (by omega) (by omega)), y8.fr (fun a _ _ => hf2 a (by omega) (by omega))⟩
    · rw [if_neg (by omega)] at e
      rw [e] at kI; exact kI hX
  · have e : oUndo (π, κ, ρ, c, α, β, μ) x1 = _ := if_pos (Or.inr (nlt_of h))
    rw [e] at kI; exact kI hX
theorem D_write (hz : isZ z pa pb) (hpa : pa + 7 < 20) (hX : hC I pa (π, κ, ρ, c, α, β, μ)) (hG : WG T (π, κ, ρ, c, α, β, μ)) (k : ∀ I', FrX I I' → hC I' pa (oWrite (π, κ, ρ, c, α, β, μ) x1 x2).2 → Q (some (.int (oWrite (π, κ, ρ, c, α, β, μ) x1 x2).1)) z I') : E mX8_write mc ms 0 [some (.ref 1), some (.int x1), some (.int x2)] [] z I Q := by
  obtain ⟨y1, y2, y3, y4, y5, y6, y7, y8⟩ := id hX
  obtain ⟨hW, ⟨hK, hKT⟩, hc, hi1, hi2, hs, hB, hTz⟩ := id hG
  have hw0 := hW.1
  have kI := k I FrX.rf
  refine B_X8_write_0 hz ?_
  rw [y1.1]
  refine ⟨fun h => ?_, fun h1 => ⟨fun h => ?_, fun h2 => ⟨fun h => ?_, fun h3 => ⟨fun h => ?_, fun h4 => ?_⟩⟩⟩⟩
  · have e : oWrite (π, κ, ρ, c, α, β, μ) x1 x2 = _ := if_pos (Or.inl h)
    rw [e] at kI; exact kI hX
  · have e : oWrite (π, κ, ρ, c, α, β, μ) x1 x2 = _ := if_pos (Or.inr (Or.inl h))
    rw [e] at kI; exact kI hX
  · have e : oWrite (π, κ, ρ, c, α, β, μ) x1 x2 = _ := if_pos (Or.inr (Or.inr (Or.inl h)))
    rw [e] at kI; exact kI hX
  · have e : oWrite (π, κ, ρ, c, α, β, μ) x1 x2 = _ := if_pos (Or.inr (Or.inr (Or.inr h)))
    rw [e] at kI; exact kI hX
  · have e : oWrite (π, κ, ρ, c, α, β, μ) x1 x2 = _ := if_neg (fun q => by rcases q with q | q | q | q <;> contradiction)
    obtain ⟨w, hw, rfl⟩ := lt_n (n := π 0 0) (by omega) h1 h2
    obtain ⟨l, hl, rfl⟩ := le3 h3 h4
    rw [un_nI (by omega), un_nI (by omega)] at e
    rw [y7.1]
    have h20 := hB.1
    refine pk_lt (μ 4 0) 20 (fun h5 => ⟨μ 4 0, rfl, h5, fun I2 e2 => ⟨μ 4 0, ?_, h5, fun I4 e4 I5 e5 => ?_⟩⟩) (fun h5 => ?_)
    · rw [e2, e_st_a (by decide), y7.1]
    · rw [if_pos h5] at e
      rw [e] at k
      have h42 : I4 304 2 = nI (μ 4 0) := by rw [e4, e_st_a (by decide), e2, e_st_a (by decide), y7.1]
      rw [h42, nI_1] at e5
      have h52 : I5 304 2 = nI (μ 4 0 + 1) := by rw [e5, e_st_same]
      rw [h52]
      have ro : ∀ a, a ≠ 304 → a ≠ 305 → a ≠ 306 → I5 a = I a := fun a a1 a2 a3 => by rw [e5, e_st_a a1, e4, e_st_a a3, e2, e_st_a a2]
      refine k I5 (fun a ha => ro a (by omega) (by omega) (by omega)) ⟨y1.fr (fun a _ _ => ro a (by omega) (by omega) (by omega)), y2.fr (fun a _ _ => ro a (by omega) (by omega) (by omega)), y3.fr (fun a _ _ => ro a (by omega) (by omega) (by omega)), y4.fr (fun a _ _ => ro a (by omega) (by omega) (by omega)), y5.fr (fun a _ _ => ro a (by omega) (by omega) (by omega)), by rw [ro 307 (by omega) (by omega) (by omega)]; exact y6, ?_, ?_⟩
      · unfold hBk
        rw [um_same, um_a (a' := 5) (by decide), um_a (a' := 5) (by decide), um_a (a' := 6) (by decide)]
        refine ⟨h52, fun q hq => ?_⟩
        rw [e5, e_st_a (by decide), e_st_a (by decide), e4, e_st_row, e_st_a (by decide), e2, e_st_row, e_st_a (by decide)]
        by_cases eq : q = μ 4 0
        · subst eq; rw [xd_same, xd_same, um_same, um_same]; exact ⟨rfl, rfl⟩
        · rw [xd_ne eq, xd_ne eq, um_b eq, um_b eq, um_a (by decide)]; exact y7.2 q (by omega)
      · have := hTx.fr (I' := I5) y8 (fun a _ _ => ro a (by omega) (by omega) (by omega)); exact this
    · rw [if_neg (by omega)] at e
      rw [e] at kI; exact kI hX
theorem D_tear (hz : isZ z pa pb) (hpa : pa + 7 < 20) (hX : hC I pa (π, κ, ρ, c, α, β, μ)) (k : ∀ I', FrX I I' → hC I' pa (oTear (π, κ, ρ, c, α, β, μ)).2 → Q (some (.int (oTear (π, κ, ρ, c, α, β, μ)).1)) z I') : E mX8_tear mc ms 0 [some (.ref 1), none] [] z I Q := by
  obtain ⟨y1, y2, y3, y4, y5, y6, y7, y8⟩ := id hX
  refine B_X8_tear_0 hz (fun v1 e1 I2 e2 => ?_)
  rw [y7.1] at e1
  subst e1
  have ro : ∀ a, a ≠ 304 → I2 a = I a := fun a a1 => by rw [e2, e_st_a a1]
  refine k I2 (fun a ha => ro a (by omega)) ⟨y1.fr (fun a _ _ => ro a (by omega)), y2.fr (fun a _ _ => ro a (by omega)), y3.fr (fun a _ _ => ro a (by omega)), y4.fr (fun a _ _ => ro a (by omega)), y5.fr (fun a _ _ => ro a (by omega)), by rw [ro 307 (by omega)]; exact y6, ⟨?_, fun q hq => absurd hq (Nat.not_lt_zero _)⟩, ?_⟩
  · rw [e2, e_st_same]; rfl
  · have := hTx.fr (I' := I2) y8 (fun a _ _ => ro a (by omega)); exact this
theorem D_seed (hz : isZ z pa pb) (hpa : pa + 7 < 20) (hX : hC I pa (π, κ, ρ, c, α, β, μ)) (k : ∀ I', FrX I I' → hC I' pa (oSeed (π, κ, ρ, c, α, β, μ) x1).2 → Q (some (.int (oSeed (π, κ, ρ, c, α, β, μ) x1).1)) z I') : E mX8_seed mc ms 0 [some (.ref 1), some (.int x1), none] [] z I Q := by
  obtain ⟨y1, y2, y3, y4, y5, y6, y7, y8⟩ := id hX
  have hnn : 0 ≤ x1 → ¬ x1 < 0 := le_n
  refine B_X8_seed_0 hz ⟨fun h v1 e1 I2 e2 => ?_, fun h => ?_⟩
  · have e : oSeed (π, κ, ρ, c, α, β, μ) x1 = _ := if_neg (hnn h)
    rw [e] at k
    obtain ⟨j, hj, rfl⟩ := xc (hnn h)
    rw [un_nI hj] at k
    rw [y6] at e1
    subst e1
    exact k I2 (fun a ha => by rw [e2, e_st_a (by omega)]) (hX.seed hpa (fun a ha => by rw [e2, e_st_a ha]) (by rw [e2, e_st_same]))
  · have e : oSeed (π, κ, ρ, c, α, β, μ) x1 = _ := if_pos (nlt_of h)
    rw [e] at k; exact k I FrX.rf hX
theorem hC.forget {I' : It} (hX : hC I pa (π, κ, ρ, c, α, β, μ)) (hpa : pa + 7 < 20) (e : I' = e_st I 48 2 0) : hC I' pa (π, κ, ρ, 0, α, β, μ) := by
  obtain ⟨h1, h2, ⟨a1, a2, e1, a3, a4, a5⟩, h4, h5, h6, h7, h8⟩ := hX
  have ro : ∀ a, a ≠ 48 → I' a = I a := fun a a1 => by rw [e, e_st_a a1]
  exact ⟨h1.fr (fun a _ _ => ro a (by omega)), h2.fr (fun a _ _ => ro a (by omega)), ⟨by omega, by rw [e, e_st_same]; rfl, e1, a3, by rw [e, e_st_k (by decide)]; exact a4, fun k hk => absurd hk (by omega)⟩, h4.fr (fun a _ _ => ro a (by omega)), h5.fr (fun a _ _ => ro a (by omega)), by rw [ro 307 (by omega)]; exact h6, h7.fr (fun a _ _ => ro a (by omega)), h8.fr (fun a _ _ => ro a (by omega))⟩
theorem D_keep (hz : isZ z pa pb) (hpa : pa + 7 < 20) (hX : hC I pa (π, κ, ρ, c, α, β, μ)) (hG : WG T (π, κ, ρ, c, α, β, μ)) (k : ∀ I', FrX I I' → hC I' pa (oKeep (π, κ, ρ, c, α, β, μ) x1).2 → Q (some (.int (oKeep (π, κ, ρ, c, α, β, μ) x1).1)) z I') : E mX8_keep mc ms 0 [some (.ref 1), some (.int x1), none] [] z I Q := by
  obtain ⟨y1, y2, y3, y4, y5, y6, y7, y8⟩ := id hX
  obtain ⟨hW, ⟨hK, hKT⟩, hc, hi1, hi2, hs, hB, hTz⟩ := id hG
  refine B_X8_keep_0 hz ⟨fun h0 => ⟨fun h1 => ?_, fun h1 => ?_⟩, fun h0 => ?_⟩
  · have e : oKeep (π, κ, ρ, c, α, β, μ) x1 = _ := if_neg h0
    rw [if_neg h1] at e
    rw [e] at k; exact k I FrX.rf hX
  · have e : oKeep (π, κ, ρ, c, α, β, μ) x1 = _ := if_neg h0
    rw [if_pos h1] at e
    rw [e] at k
    refine C_take hz.im2 hz.im2.m hz.now hz.draws (by omega) (by omega) y2 hW hK y6 (fun I2 hf2 h2 => B_X8_keep_25 hz (fun I3 e3 => ?_))
    have hX2 : hC I2 pa (π, κ, ρ, c, α, κ, um (um μ 1 1 1) 2 1 (μ 3 0)) := ⟨y1.fr (fun a _ _ => hf2 a (by omega)), y2.fr (fun a _ _ => hf2 a (by omega)), y3.fr (fun a _ _ => hf2 a (by omega)), hI.fr (I' := I2) y4 (fun a _ _ => hf2 a (by omega)), h2, by rw [hf2 307 (by omega)]; exact y6, hBk.fr (I' := I2) y7 (fun a _ _ => hf2 a (by omega)), hTx.fr (I' := I2) y8 (fun a _ _ => hf2 a (by omega))⟩
    exact k I3 (fun a ha => by rw [e3, e_st_a (by omega)]; exact hf2 a (by omega)) (hX2.forget hpa e3)
  · have e : oKeep (π, κ, ρ, c, α, β, μ) x1 = _ := if_pos h0
    rw [e] at k
    refine C_take hz.im1 hz.im1.m hz.now hz.draws (by omega) (by omega) y2 hW hK y6 (fun I2 hf2 h2 => B_X8_keep_25 hz (fun I3 e3 => ?_))
    have hX2 : hC I2 pa (π, κ, ρ, c, κ, β, um (um μ 1 0 1) 2 0 (μ 3 0)) := ⟨y1.fr (fun a _ _ => hf2 a (by omega)), y2.fr (fun a _ _ => hf2 a (by omega)), y3.fr (fun a _ _ => hf2 a (by omega)), h2, hI.fr (I' := I2) y5 (fun a _ _ => hf2 a (by omega)), by rw [hf2 307 (by omega)]; exact y6, hBk.fr (I' := I2) y7 (fun a _ _ => hf2 a (by omega)), hTx.fr (I' := I2) y8 (fun a _ _ => hf2 a (by omega))⟩
    exact k I3 (fun a ha => by rw [e3, e_st_a (by omega)]; exact hf2 a (by omega)) (hX2.forget hpa e3)
theorem D_goBack (hz : isZ z pa pb) (hpa : pa + 7 < 20) (hX : hC I pa (π, κ, ρ, c, α, β, μ)) (hG : WG T (π, κ, ρ, c, α, β, μ)) (k : ∀ I', FrX I I' → hC I' pa (oBack (π, κ, ρ, c, α, β, μ) x1).2 → Q (some (.int (oBack (π, κ, ρ, c, α, β, μ) x1).1)) z I') : E mX8_goBack mc ms 0 [some (.ref 1), some (.int x1), none] [] z I Q := by
  obtain ⟨y1, y2, y3, y4, y5, y6, y7, y8⟩ := id hX
  obtain ⟨hW, ⟨hK, hKT⟩, hc, hi1, hi2, hs, hB, hTz⟩ := id hG
  refine B_X8_goBack_0 hz ⟨fun h0 => ⟨fun h1 => ?_, fun h1 => ?_⟩, fun h0 => ?_⟩
  · have e : oBack (π, κ, ρ, c, α, β, μ) x1 = _ := if_neg h0
    rw [if_neg h1] at e
    rw [e] at k; exact k I FrX.rf hX
  · have e : oBack (π, κ, ρ, c, α, β, μ) x1 = _ := if_neg h0
    rw [if_pos h1] at e
    rw [y5.2.1]
    have := hi2.1
    refine pk_ne (μ 1 1) 0 (fun q => ?_) (fun q => ?_)
    · have q1 : μ 1 1 = 1 := by omega
      rw [if_pos q1] at e
      rw [e] at k
      rw [q1] at y5
      refine C_give hz.im2 hz.im2.m hz.now hz.draws (by omega) (by omega) y5 hW (hi2.2 q1).1.1 (fun I2 hf2 h2 hs2 => B_X8_goBack_35 hz (fun I3 e3 => ?_))
      have hX2 : hC I2 pa (π, β, ρ, c, α, β, um μ 3 0 (μ 2 1)) := ⟨y1.fr (fun a _ _ => hf2 a (by omega) (by omega)), h2, y3.fr (fun a _ _ => hf2 a (by omega) (by omega)), hI.fr (I' := I2) y4 (fun a _ _ => hf2 a (by omega) (by omega)), by
        have := hI.fr (I' := I2) y5 (fun a _ _ => hf2 a (by omega) (by omega))
        show hI I2 π 289 β (μ 1 1) (μ 2 1)
        rw [q1]; exact this, by rw [um_same]; exact hs2, hBk.fr (I' := I2) y7 (fun a _ _ => hf2 a (by omega) (by omega)), hTx.fr (I' := I2) y8 (fun a _ _ => hf2 a (by omega) (by omega))⟩
      exact k I3 (fun a ha => by rw [e3, e_st_a (by omega)]; exact hf2 a (by omega) (by omega)) (hX2.forget hpa e3)
    · rw [if_neg (by omega)] at e
      rw [e] at k; exact k I FrX.rf hX
  · have e : oBack (π, κ, ρ, c, α, β, μ) x1 = _ := if_pos h0
    rw [y4.2.1]
    have := hi1.1
    refine pk_ne (μ 1 0) 0 (fun q => ?_) (fun q => ?_)
    · have q1 : μ 1 0 = 1 := by omega
      rw [if_pos q1] at e
      rw [e] at k
      rw [q1] at y4
      refine C_give hz.im1 hz.im1.m hz.now hz.draws (by omega) (by omega) y4 hW (hi1.2 q1).1.1 (fun I2 hf2 h2 hs2 => B_X8_goBack_35 hz (fun I3 e3 => ?_))
      have hX2 : hC I2 pa (π, α, ρ, c, α, β, um μ 3 0 (μ 2 0)) := ⟨y1.fr (fun a _ _ => hf2 a (by omega) (by omega)), h2, y3.fr (fun a _ _ => hf2 a (by omega) (by omega)), by
        have := hI.fr (I' := I2) y4 (fun a _ _ => hf2 a (by omega) (by omega))
        show hI I2 π 274 α (μ 1 0) (μ 2 0)
        rw [q1]; exact this, hI.fr (I' := I2) y5 (fun a _ _ => hf2 a (by omega) (by omega)), by rw [um_same]; exact hs2, hBk.fr (I' := I2) y7 (fun a _ _ => hf2 a (by omega) (by omega)), hTx.fr (I' := I2) y8 (fun a _ _ => hf2 a (by omega) (by omega))⟩
      exact k I3 (fun a ha => by rw [e3, e_st_a (by omega)]; exact hf2 a (by omega) (by omega)) (hX2.forget hpa e3)
    · rw [if_neg (by omega)] at e
      rw [e] at k; exact k I FrX.rf hX
end D1
