/-! ===== the class is asked ===== -/
theorem le3 {x : Int32} (h : ¬ x < 0) (h3 : ¬ 3 < x) : ∃ j, j < 4 ∧ x = nI j := by
  obtain ⟨j, hj, rfl⟩ := xc h
  refine ⟨j, ?_, rfl⟩
  rcases Nat.lt_or_ge 3 j with q | q
  · exact absurd (nI_lt q hj) h3
  · omega
theorem le4 {x : Int32} (h : ¬ x < 0) (h3 : ¬ 4 < x) : ∃ j, j < 5 ∧ x = nI j := by
  obtain ⟨j, hj, rfl⟩ := xc h
  refine ⟨j, ?_, rfl⟩
  rcases Nat.lt_or_ge 4 j with q | q
  · exact absurd (nI_lt q hj) h3
  · omega
theorem lt_n {x : Int32} {n : Nat} (hn : n < 2 ^ 31) (h : ¬ x < 0) (h3 : ¬ nI n ≤ x) : ∃ j, j < n ∧ x = nI j := by
  obtain ⟨j, hj, rfl⟩ := xc h
  refine ⟨j, ?_, rfl⟩
  rcases Nat.lt_or_ge j n with q | q
  · exact q
  · exact absurd (nI_le q hj) h3
theorem fmod8 : ∀ e, e < 8 → ∀ k, k < 8 → f_J9_floorMod_7cf53 (nI e - 1 - nI k) 8 = nI ((e + 7 - k) % 8) := by decide +kernel
theorem g8 (g j : Nat) : nI g * 8 + nI j = nI (8 * g + j) := by
  have e : nI g * 8 = nI (8 * g) := by rw [Nat.mul_comm]; exact pk_mul g 8
  rw [e, nI_add]
section Q1
variable {mc ms : Nat} {z : Zt} {I : It} {Q : Option Value → Zt → It → Prop} {pa pb : Nat} {π : Pt} {κ : Kt} {ρ : Nat → Kt} {c : Nat} {α β : Kt} {μ : Mt} {T : Nat} {x1 x2 x3 : Int32}
theorem C_fault (hz : isZ z pa pb) (hX : hC I pa (π, κ, ρ, c, α, β, μ)) (k : Q (some (.int (nI (μ 9 0) - 1))) z I) : E mX8_fault mc ms 0 [some (.ref 1)] [] z I Q := by
  refine B_X8_fault_0 hz ?_
  obtain ⟨h1, h2, h3, h4, h5, h6, h7, h8⟩ := hX
  rw [h8.2.2]; exact k
theorem C_resolved (hz : isZ z pa pb) (k : Q (some (.int (aRes x1 x2))) z I) : E mX8_resolved mc ms 0 [some (.ref 1), some (.int x1), some (.int x2)] [] z I Q := by
  refine B_X8_resolved_0 hz ⟨fun h => ?_, fun h1 => ⟨fun h => ?_, fun h2 => ⟨fun h => ?_, fun h3 => ⟨fun h => ?_, fun h4 => ?_⟩⟩⟩⟩
  · unfold aRes at k; rw [if_pos (Or.inl h)] at k; exact k
  · unfold aRes at k; rw [if_pos (Or.inr (Or.inl h))] at k; exact k
  · unfold aRes at k; rw [if_pos (Or.inr (Or.inr (Or.inl h)))] at k; exact k
  · unfold aRes at k; rw [if_pos (Or.inr (Or.inr (Or.inr h)))] at k; exact k
  · unfold aRes at k
    rw [if_neg (fun q => by rcases q with q | q | q | q <;> contradiction)] at k
    obtain ⟨a, ha, rfl⟩ := le3 h1 h2
    obtain ⟨b, hb, rfl⟩ := le3 h3 h4
    rw [un_nI (by omega), un_nI (by omega)] at k
    rw [jn_c a ha b hb]; exact k
theorem C_comes (hz : isZ z pa pb) (k : Q (some (.int (aCom x1 x2 x3))) z I) : E mX8_comes mc ms 0 [some (.ref 1), some (.int x1), some (.int x2), some (.int x3)] [] z I Q := by
  have hn : ¬ x1 ≤ 4 → 4 < x1 := fun h => by rw [Int32.le_iff_toInt_le] at h; rw [Int32.lt_iff_toInt_lt]; omega
  have hp : x1 ≤ 4 → ¬ 4 < x1 := fun h => by rw [Int32.le_iff_toInt_le] at h; rw [Int32.lt_iff_toInt_lt]; omega
  refine B_X8_comes_0 hz ⟨fun h => ?_, fun h1 => ⟨fun h => ?_, fun h2 => ⟨fun h => ?_, fun h3 => ⟨fun h => ?_, fun h4 => ⟨fun h => ?_, fun h5 => ⟨fun h => ?_, fun h => ?_⟩⟩⟩⟩⟩⟩
  · unfold aCom at k; rw [if_pos (Or.inl h)] at k; exact k
  · unfold aCom at k; rw [if_pos (Or.inr (Or.inl h))] at k; exact k
  · unfold aCom at k; rw [if_pos (Or.inr (Or.inr (Or.inl h)))] at k; exact k
  · unfold aCom at k; rw [if_pos (Or.inr (Or.inr (Or.inr h)))] at k; exact k
  · unfold aCom at k; rw [if_neg (fun q => by rcases q with q | q | q | q <;> contradiction), if_pos (Or.inl h)] at k; exact k
  · unfold aCom at k
    rw [if_neg (fun q => by rcases q with q | q | q | q <;> contradiction), if_neg (fun q => by rcases q with q | q; exact h5 q; exact hp h q)] at k
    obtain ⟨a, ha, rfl⟩ := le3 h1 h2
    obtain ⟨b, hb, rfl⟩ := le3 h3 h4
    obtain ⟨c, hc, rfl⟩ := le4 h5 (hp h)
    rw [un_nI (by omega), un_nI (by omega), un_nI (by omega)] at k
    have := oc_c c (by omega) a ha b hb 2 (by omega)
    rw [show (2 : Int32) = nI 2 from rfl, this, oc_d hc]; exact k
  · unfold aCom at k; rw [if_neg (fun q => by rcases q with q | q | q | q <;> contradiction), if_pos (Or.inr (hn h))] at k; exact k
theorem C_wire (hz : isZ z pa pb) (hX : hC I pa (π, κ, ρ, c, α, β, μ)) (hG : WG T (π, κ, ρ, c, α, β, μ)) (k : Q (some (.int (aWire π κ x1 x2))) z I) : E mX8_wire mc ms 0 [some (.ref 1), some (.int x1), some (.int x2)] [] z I Q := by
  obtain ⟨y1, y2, y3, y4, y5, y6, y7, y8⟩ := hX
  obtain ⟨hW, hK, -⟩ := hG
  have hw0 := hW.1
  refine B_X8_wire_0 hz ?_
  rw [y1.1]
  refine ⟨fun h => ?_, fun h1 => ⟨fun h => ?_, fun h2 => ?_⟩⟩
  · unfold aWire at k; rw [if_pos (Or.inl h)] at k; exact k
  · unfold aWire at k; rw [if_pos (Or.inr h)] at k; exact k
  · unfold aWire at k
    rw [if_neg (fun q => by rcases q with q | q <;> contradiction)] at k
    obtain ⟨w, hw, rfl⟩ := lt_n (by omega) h1 h2
    rw [un_nI (by omega)] at k
    obtain ⟨m1, m2, m3, -⟩ := y2.2.1.2 w hw
    refine ⟨?_, ?_, ?_, ?_, ?_, fun n0 n1 n2 n3 n4 => ?_⟩
    · rintro rfl
      exact ⟨w, rfl, by omega, by rw [m1]; exact k⟩
    · rintro rfl
      exact C_driversOf hz.pa y1 hW (by omega) (B_X8_wire_66 k)
    · rintro rfl
      exact ⟨w, rfl, by omega, by rw [m2]; exact k⟩
    · rintro rfl
      exact ⟨w, rfl, by omega, by rw [m3]; exact k⟩
    · rintro rfl
      exact C_lookersAt hz.pa y1 hW (by omega) (B_X8_wire_95 k)
    · rw [if_neg n0, if_neg n1, if_neg n2, if_neg n3, if_neg n4] at k; exact k
theorem C_gate (hz : isZ z pa pb) (hX : hC I pa (π, κ, ρ, c, α, β, μ)) (hG : WG T (π, κ, ρ, c, α, β, μ)) (k : Q (some (.int (aGate π κ x1 x2))) z I) : E mX8_gate mc ms 0 [some (.ref 1), some (.int x1), some (.int x2)] [] z I Q := by
  obtain ⟨y1, y2, y3, y4, y5, y6, y7, y8⟩ := hX
  obtain ⟨hW, ⟨hK, -⟩, -⟩ := hG
  have hw0 := hW.1
  have hw1 := hW.2.1
  refine B_X8_gate_0 hz ?_
  rw [y1.2.1]
  refine ⟨fun h => ?_, fun h1 => ⟨fun h => ?_, fun h2 => ?_⟩⟩
  · unfold aGate at k; rw [if_pos (Or.inl h)] at k; exact k
  · unfold aGate at k; rw [if_pos (Or.inr h)] at k; exact k
  · unfold aGate at k
    rw [if_neg (fun q => by rcases q with q | q <;> contradiction)] at k
    obtain ⟨g, hg, rfl⟩ := lt_n (by omega) h1 h2
    rw [un_nI (by omega)] at k
    obtain ⟨p2, p3, p4, p5, p6, p7⟩ := y1.2.2 g hg
    have hw5 := (hW.2.2 g hg).2.2.2.1
    refine ⟨?_, ?_, ?_, ?_, ?_, ?_, ?_, ?_, ?_, ?_, fun n0 n1 n2 n3 n4 n5 n6 n7 n8 n9 => ?_⟩
    · rintro rfl
      exact ⟨g, rfl, by omega, by rw [p2]; exact k⟩
    · rintro rfl
      exact ⟨g, rfl, by omega, by rw [p3]; exact k⟩
    · rintro rfl
      exact ⟨g, rfl, by omega, by rw [p4]; exact k⟩
    · rintro rfl
      exact ⟨g, rfl, by omega, by rw [p5]; exact k⟩
    · rintro rfl
      exact ⟨g, rfl, by omega, by rw [p6]; exact k⟩
    · rintro rfl
      exact ⟨g, rfl, by omega, by rw [p7]; exact k⟩
    · rintro rfl
      exact ⟨g, rfl, by omega, by rw [y2.2.2.1.1 g hg]; exact k⟩
    · rintro rfl
      exact C_outcomeOf hz.now hz.pa y2 y1 hW hK.1 hg (B_X8_gate_150 k)
    · rintro rfl
      exact ⟨g, rfl, by omega, by rw [y2.2.2.1.2.1 g (by omega)]; exact k⟩
    · rintro rfl
      refine ⟨g, rfl, by omega, ?_⟩
      rw [p5]
      exact C_drivenLevel hz.now hz.pa y2 y1 hW hK.1 (by omega) (but_g (by omega)) (B_X8_gate_182 k)
    · rw [if_neg n0, if_neg n1, if_neg n2, if_neg n3, if_neg n4, if_neg n5, if_neg n6, if_neg n7, if_neg n8, if_neg n9] at k; exact k
theorem C_queue (hz : isZ z pa pb) (hX : hC I pa (π, κ, ρ, c, α, β, μ)) (hG : WG T (π, κ, ρ, c, α, β, μ)) (k : Q (some (.int (aQueue π κ x1 x2 x3))) z I) : E mX8_queue mc ms 0 [some (.ref 1), some (.int x1), some (.int x2), some (.int x3)] [] z I Q := by
  obtain ⟨y1, y2, y3, y4, y5, y6, y7, y8⟩ := hX
  obtain ⟨hW, ⟨hK, -⟩, -⟩ := hG
  have hw0 := hW.1
  have hw1 := hW.2.1
  refine B_X8_queue_0 hz ?_
  rw [y1.2.1]
  refine ⟨fun h => ?_, fun h1 => ⟨fun h => ?_, fun h2 => ?_⟩⟩
  · unfold aQueue at k; rw [if_pos (Or.inl h)] at k; exact k
  · unfold aQueue at k; rw [if_pos (Or.inr h)] at k; exact k
  · unfold aQueue at k
    rw [if_neg (fun q => by rcases q with q | q <;> contradiction)] at k
    obtain ⟨g, hg, rfl⟩ := lt_n (by omega) h1 h2
    rw [un_nI (by omega)] at k
    have h8 := (hK.2.1 g hg).1
    have y28 : I 28 g = nI (κ 12 g 0) := y2.2.2.1.2.1 g (by omega)
    refine ⟨?_, ?_, fun n0 n1 => ?_⟩
    · rintro rfl
      rw [if_neg (by decide)] at k
      refine ⟨fun h => ?_, fun h3 => ⟨g, rfl, by omega, ?_⟩⟩
      · rw [if_pos (Or.inl h)] at k; exact k
      · rw [y28]
        refine ⟨fun h => ?_, fun h4 => ?_⟩
        · rw [if_pos (Or.inr h)] at k; exact k
        · rw [if_neg (fun q => by rcases q with q | q <;> contradiction)] at k
          obtain ⟨j, hj, rfl⟩ := lt_n (by omega) h3 h4
          rw [un_nI (by omega)] at k
          refine ⟨8 * g + j, ?_, by omega, ?_⟩
          · exact g8 g j
          · have := (y2.2.2.1.2.2 g hg j hj).1
            rw [show (29 : Nat) = 20 + 9 from rfl, this]; exact k
    · rintro rfl
      rw [if_neg (by decide)] at k
      refine ⟨fun h => ?_, fun h3 => ⟨g, rfl, by omega, ?_⟩⟩
      · rw [if_pos (Or.inl h)] at k; exact k
      · rw [y28]
        refine ⟨fun h => ?_, fun h4 => ?_⟩
        · rw [if_pos (Or.inr h)] at k; exact k
        · rw [if_neg (fun q => by rcases q with q | q <;> contradiction)] at k
          obtain ⟨j, hj, rfl⟩ := lt_n (by omega) h3 h4
          rw [un_nI (by omega)] at k
          refine ⟨8 * g + j, ?_, by omega, ?_⟩
          · exact g8 g j
          · have := (y2.2.2.1.2.2 g hg j hj).2
            rw [show (30 : Nat) = 20 + 10 from rfl, this]; exact k
    · rw [if_pos (fun q => by rcases q with q | q <;> contradiction)] at k; exact k
theorem C_wave (hz : isZ z pa pb) (hX : hC I pa (π, κ, ρ, c, α, β, μ)) (hG : WG T (π, κ, ρ, c, α, β, μ)) (k : Q (some (.int (aWave π κ x1 x2 x3))) z I) : E mX8_wave mc ms 0 [some (.ref 1), some (.int x1), some (.int x2), some (.int x3)] [] z I Q := by
  obtain ⟨y1, y2, y3, y4, y5, y6, y7, y8⟩ := hX
  obtain ⟨hW, ⟨hK, -⟩, -⟩ := hG
  have hw0 := hW.1
  refine B_X8_wave_0 hz ?_
  rw [y1.1]
  refine ⟨fun h => ?_, fun h1 => ⟨fun h => ?_, fun h2 => ?_⟩⟩
  · unfold aWave at k; rw [if_pos (Or.inl h)] at k; exact k
  · unfold aWave at k; rw [if_pos (Or.inr h)] at k; exact k
  · unfold aWave at k
    rw [if_neg (fun q => by rcases q with q | q <;> contradiction)] at k
    obtain ⟨w, hw, rfl⟩ := lt_n (by omega) h1 h2
    rw [un_nI (by omega)] at k
    have h99 := (hK.2.2.1.1 w hw).2.1
    obtain ⟨m1, m2, m3, e, he, m4, m5⟩ := y2.2.1.2 w hw
    have em : (if 8 < I 22 w then 8 else I 22 w) = nI (min (κ 5 w 0) 8) := by
      rw [show (22 : Nat) = 20 + 2 from rfl, m2]
      exact nmin 8 (by omega) (by omega)
    refine ⟨?_, ?_, fun n0 n1 => ?_⟩
    · rintro rfl
      rw [if_neg (by decide)] at k
      refine ⟨fun h => ?_, fun h3 => ⟨w, rfl, by omega, ?_⟩⟩
      · rw [if_pos (Or.inl h)] at k; exact k
      · rw [em]
        refine ⟨fun h => ?_, fun h4 => ?_⟩
        · rw [if_pos (Or.inr h)] at k; exact k
        · rw [if_neg (fun q => by rcases q with q | q <;> contradiction)] at k
          obtain ⟨j, hj, rfl⟩ := lt_n (by omega) h3 h4
          rw [un_nI (by omega)] at k
          refine ⟨8 * w + (e + 7 - j) % 8, ?_, by omega, ?_⟩
          · rw [show (24 : Nat) = 20 + 4 from rfl, m4, fmod8 e he j (by omega)]; exact g8 _ _
          · have := (m5 j (by omega) (by omega)).1
            rw [show (25 : Nat) = 20 + 5 from rfl, this]; exact k
    · rintro rfl
      rw [if_neg (by decide)] at k
      refine ⟨fun h => ?_, fun h3 => ⟨w, rfl, by omega, ?_⟩⟩
      · rw [if_pos (Or.inl h)] at k; exact k
      · rw [em]
        refine ⟨fun h => ?_, fun h4 => ?_⟩
        · rw [if_pos (Or.inr h)] at k; exact k
        · rw [if_neg (fun q => by rcases q with q | q <;> contradiction)] at k
          obtain ⟨j, hj, rfl⟩ := lt_n (by omega) h3 h4
          rw [un_nI (by omega)] at k
          refine ⟨8 * w + (e + 7 - j) % 8, ?_, by omega, ?_⟩
          · rw [show (24 : Nat) = 20 + 4 from rfl, m4, fmod8 e he j (by omega)]; exact g8 _ _
          · have := (m5 j (by omega) (by omega)).2
            rw [show (26 : Nat) = 20 + 6 from rfl, this]; exact k
    · rw [if_pos (fun q => by rcases q with q | q <;> contradiction)] at k; exact k
theorem L_settle (hz : isZ z pa pb) (hpa : pa + 7 < 20) (hPl : hP I pa π) (hW : WP π) : ∀ (r n : Nat) (J : It) (κ : Kt), n + r = 100 → FrM 34 I J → hM J 34 π κ → WK π κ → κ 0 0 0 + 20 * r + 40 < 2147483647 → (∀ I', FrM 34 I I' → Q (some (.int (sl π r n κ))) z I') → E mX8_stepsTillStill mc ms 13 [some (.ref 1), some (.int (nI n))] [] z J Q := by
  intro r
  induction r with
  | zero =>
    intro n J κ hn hf h hK hT k
    have hb := hK.2.2.2.2.2.2.2.1
    have hTB := hK.tb (by omega)
    refine B_X8_stepsTillStill_13 hz (pk_le 100 n (fun _ => ?_) (fun h => absurd h (by omega)))
    rw [show (34 : Nat) = 34 + 0 from rfl, h.1.2.2.1]
    refine pk_ne (κ 2 0 0) 0 (fun q => ?_) (fun q => C_isStill hz.trial h hTB (B_X8_stepsTillStill_73 ?_))
    · have := k J hf
      rw [show sl π 0 n κ = -1 from if_neg (fun q' => q q'.1)] at this; exact this
    · have := k J hf
      by_cases hs : er κ 8 = 2147483647
      · rw [show sl π 0 n κ = nI n from if_pos ⟨q, hs⟩] at this
        rw [if_pos hs]
        exact ⟨fun _ => this, fun q => absurd q (by decide)⟩
      · rw [show sl π 0 n κ = -1 from if_neg (fun q' => hs q'.2)] at this
        rw [if_neg hs]
        exact ⟨fun q => absurd rfl q, fun _ => this⟩
  | succ r ih =>
    intro n J κ hn hf h hK hT k
    have hb := hK.2.2.2.2.2.2.2.1
    have hTB := hK.tb (by omega)
    refine B_X8_stepsTillStill_13 hz (pk_le 100 n (fun h => absurd h (by omega)) (fun _ => ?_))
    have h342 : J 34 2 = nI (κ 2 0 0) := h.1.2.2.1
    rw [h342]
    refine pk_ne (κ 2 0 0) 0 (fun q => ?_) (fun q => C_isStill hz.trial h hTB (B_X8_stepsTillStill_36 hz ?_))
    · have := k J hf
      rw [show sl π (r + 1) n κ = -1 from if_neg q] at this
      exact pk_ne (κ 2 0 0) 0 (fun _ => this) (fun q' => absurd q' q)
    · have kk : sl π (r + 1) n κ = if er κ 8 = 2147483647 then nI n else sl π r (n + 1) (sp π κ) := if_pos q
      rw [kk] at k
      by_cases hs : er κ 8 = 2147483647
      · rw [if_pos hs]
        rw [if_pos hs] at k
        refine ⟨fun _ => ?_, fun q => absurd q (by decide)⟩
        rw [h342, q]
        refine ⟨fun q => absurd rfl q, fun _ => C_isStill hz.trial h hTB (B_X8_stepsTillStill_73 ?_)⟩
        rw [if_pos hs]
        exact ⟨fun _ => k J hf, fun q => absurd q (by decide)⟩
      · rw [if_neg hs]
        rw [if_neg hs] at k
        have hle := hK.er_le
        refine ⟨fun q => absurd rfl q, fun _ => C_advance hz.trial hz.pa (by omega) h (hPl.fr (fun a _ _ => hf a (by omega))) hW hK q (by omega) hs (fun I' hf' h' => B_X8_stepsTillStill_50 hz ?_)⟩
        rw [nI_1]
        exact ih (n + 1) I' (sp π κ) (by omega) (hf.tr hf') h' (sp_WK hW hK q (by omega)) (by rw [sp_time]; omega) k
theorem C_settle (hz : isZ z pa pb) (hpa : pa + 7 < 20) (hX : hC I pa (π, κ, ρ, c, α, β, μ)) (hG : WG T (π, κ, ρ, c, α, β, μ)) (hT : T + 3000 < 2147483647) (k : ∀ I', FrX I I' → hC I' pa (π, κ, ρ, c, α, β, μ) → Q (some (.int (sl π 100 0 κ))) z I') : E mX8_stepsTillStill mc ms 0 [some (.ref 1), none] [] z I Q := by
  obtain ⟨y1, y2, y3, y4, y5, y6, y7, y8⟩ := id hX
  obtain ⟨hW, ⟨hK, hKT⟩, -⟩ := hG
  refine B_X8_stepsTillStill_0 hz (C_copyFrom hz.trial hz.now (by omega) y2 hW hK (fun I1 hf1 h1 => B_X8_stepsTillStill_11 hz ?_))
  exact L_settle hz hpa (y1.fr (fun a _ _ => hf1 a (by omega))) hW 100 0 I1 κ (by omega) FrM.rf h1 hK (by omega) (fun I' hf' => k I' (FrX.mo (hf1.tr hf') (by omega) (by omega)) (hX.trial hpa (hf1.tr hf')))
theorem C_told (hz : isZ z pa pb) (hpa : pa + 7 < 20) (hX : hC I pa (π, κ, ρ, c, α, β, μ)) (hG : WG T (π, κ, ρ, c, α, β, μ)) (hT : T + 3000 < 2147483647) (k : ∀ I', FrX I I' → hC I' pa (π, κ, ρ, c, α, β, μ) → Q (some (.int (aTold π κ c μ x1))) z I') : E mX8_told mc ms 0 [some (.ref 1), some (.int x1)] [] z I Q := by
  obtain ⟨y1, y2, y3, y4, y5, y6, y7, y8⟩ := id hX
  obtain ⟨hW, ⟨hK, hKT⟩, hc, hi1, hi2, hs, hB, hTx⟩ := id hG
  have hTB := hK.tb (by omega)
  have hb := hK.2.2.2.2.2.2.2.1
  have kI := k I FrX.rf hX
  refine B_X8_told_0 hz ⟨?_, ?_, ?_, ?_, ?_, ?_, ?_, ?_, ?_, ?_, ?_, ?_, ?_, ?_, fun n0 n1 n2 n3 n4 n5 n6 n7 n8 n9 n10 n11 n12 n13 => ?_⟩
  · rintro rfl; rw [y1.1]; exact kI
  · rintro rfl; rw [y1.2.1]; exact kI
  · rintro rfl; rw [y8.1]; exact kI
  · rintro rfl; rw [y2.1.1]; exact kI
  · rintro rfl; rw [y2.1.2.1]; exact kI
  · rintro rfl
    rw [y2.1.2.2.1]
    refine pk_eq (κ 2 0 0) 0 (fun q => ?_) (fun q => ?_)
    · have e : aTold π κ c μ 5 = nI (κ 2 0 0) := rfl
      rw [e, q] at kI; exact kI
    · have e : aTold π κ c μ 5 = nI (κ 2 0 0) := rfl
      rw [e, show κ 2 0 0 = 1 by omega] at kI; exact kI
  · rintro rfl
    refine C_isStill hz.now y2 hTB (B_X8_told_135 ?_)
    have e : aTold π κ c μ 6 = if er κ 8 = 2147483647 then 1 else 0 := rfl
    rw [e] at kI
    by_cases h : er κ 8 = 2147483647
    · rw [if_pos h] at kI ⊢; exact ⟨fun q => absurd q (by decide), fun _ => kI⟩
    · rw [if_neg h] at kI ⊢; exact ⟨fun _ => kI, fun q => absurd rfl q⟩
  · rintro rfl
    exact C_holdingGates hz.now hz.pa y2 y1 hW hK.1 (B_X8_told_155 kI)
  · rintro rfl; rw [y2.2.1.1]; exact kI
  · rintro rfl
    exact C_settle hz hpa hX hG hT (fun I' h1 h2 => B_X8_told_168 (k I' h1 h2))
  · rintro rfl; rw [y2.1.2.2.2]; exact kI
  · rintro rfl; rw [y7.1]; exact kI
  · rintro rfl
    exact C_firstWrong hz.book hz.pa hz.now y2 y1 hW hK.1 y7 hB (B_X8_told_200 kI)
  · rintro rfl; rw [y3.2.1]; exact kI
  · unfold aTold at kI
    rw [if_neg n0, if_neg n1, if_neg n2, if_neg n3, if_neg n4, if_neg n5, if_neg n6, if_neg n7, if_neg n8, if_neg n9, if_neg n10, if_neg n11, if_neg n12, if_neg n13] at kI
    exact kI
end Q1
