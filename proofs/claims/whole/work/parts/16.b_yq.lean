/-! ===== the reference is asked ===== -/
theorem pm1 {x : Int32} {n : Nat} (hn : n < 2 ^ 31) (h : ¬ x < 0) : (nI n - 1 < x ↔ nI n ≤ x) := by
  obtain ⟨j, hj, rfl⟩ := xc h
  rcases Nat.eq_zero_or_pos n with e | e
  · subst e
    refine ⟨fun _ => nI_le (by omega) hj, fun _ => ?_⟩
    have : nI 0 - 1 = -1 := by decide
    rw [this, Int32.lt_iff_toInt_lt, nI_toInt hj]
    have : (-1 : Int32).toInt = -1 := by decide
    omega
  · rw [nI_dec e]
    constructor
    · intro q
      have := (nI_ltI (by omega) hj).mp q
      exact nI_le (by omega) hj
    · intro q
      refine nI_lt ?_ hj
      rcases Nat.lt_or_ge j n with q' | q'
      · exact absurd q (nI_ge q' hn)
      · omega
theorem in01 {x : Int32} (h : ¬ x < 0) (h1 : ¬ 1 < x) : x = 0 ∨ x = 1 := by
  obtain ⟨j, hj, rfl⟩ := xc h
  rcases Nat.lt_or_ge 1 j with q | q
  · exact absurd (nI_lt q hj) h1
  · have : j = 0 ∨ j = 1 := by omega
    rcases this with rfl | rfl
    · exact Or.inl rfl
    · exact Or.inr rfl
section Y2
variable {mc ms : Nat} {z : Zt} {I I' J : It} {Q : Option Value → Zt → It → Prop} {π : Pt} {κ κ' : Kt} {ρ ρ' : Nat → Kt} {c c' : Nat} {α β : Kt} {μ : Mt} {T : Nat} {x x1 x2 x3 : Int32}
theorem M_fault (ho : isO z) (hX : hY I (π, κ, ρ, c, α, β, μ)) (k : Q (some (.int (nI (μ 9 0) - 1))) z I) : E mX9_fault mc ms 0 [some (.ref 308)] [] z I Q := by
  refine B_X9_fault_0 ho ?_
  obtain ⟨y1, y2, y3, y4, y5, y6, y7⟩ := hX
  rw [y7.2.2]; exact k
theorem M_resolved (ho : isO z) (k : Q (some (.int (aRes x1 x2))) z I) : E mX9_resolved mc ms 0 [some (.ref 308), some (.int x1), some (.int x2)] [] z I Q := by
  refine B_X9_resolved_0 ho ⟨fun h => ?_, fun h1 => ⟨fun h => ?_, fun h2 => ⟨fun h => ?_, fun h3 => ⟨fun h => ?_, fun h4 => ?_⟩⟩⟩⟩
  · unfold aRes at k; rw [if_pos (Or.inl h)] at k; exact k
  · unfold aRes at k; rw [if_pos (Or.inr (Or.inl h))] at k; exact k
  · unfold aRes at k; rw [if_pos (Or.inr (Or.inr (Or.inl h)))] at k; exact k
  · unfold aRes at k; rw [if_pos (Or.inr (Or.inr (Or.inr h)))] at k; exact k
  · unfold aRes at k
    rw [if_neg (fun q => by rcases q with q | q | q | q <;> contradiction)] at k
    obtain ⟨a, ha, rfl⟩ := le3 h1 h2
    obtain ⟨b, hb, rfl⟩ := le3 h3 h4
    rw [un_nI (by omega), un_nI (by omega)] at k
    rw [jn_m a ha b hb]; exact k
theorem M_comes (ho : isO z) (k : Q (some (.int (aCom x1 x2 x3))) z I) : E mX9_comes mc ms 0 [some (.ref 308), some (.int x1), some (.int x2), some (.int x3)] [] z I Q := by
  refine B_X9_comes_0 ho ⟨fun h => ?_, fun h1 => ⟨fun h => ?_, fun h2 => ⟨fun h => ?_, fun h3 => ⟨fun h => ?_, fun h4 => ⟨fun h => ?_, fun h5 => ⟨fun h => ?_, fun h => ?_⟩⟩⟩⟩⟩⟩
  · unfold aCom at k; rw [if_pos (Or.inl h)] at k; exact k
  · unfold aCom at k; rw [if_pos (Or.inr (Or.inl h))] at k; exact k
  · unfold aCom at k; rw [if_pos (Or.inr (Or.inr (Or.inl h)))] at k; exact k
  · unfold aCom at k; rw [if_pos (Or.inr (Or.inr (Or.inr h)))] at k; exact k
  · unfold aCom at k; rw [if_neg (fun q => by rcases q with q | q | q | q <;> contradiction), if_pos (Or.inl h)] at k; exact k
  · unfold aCom at k; rw [if_neg (fun q => by rcases q with q | q | q | q <;> contradiction), if_pos (Or.inr h)] at k; exact k
  · unfold aCom at k
    rw [if_neg (fun q => by rcases q with q | q | q | q <;> contradiction), if_neg (fun q => by rcases q with q | q <;> contradiction)] at k
    obtain ⟨a, ha, rfl⟩ := le3 h1 h2
    obtain ⟨b, hb, rfl⟩ := le3 h3 h4
    obtain ⟨c, hc, rfl⟩ := le4 h5 h
    rw [un_nI (by omega), un_nI (by omega), un_nI (by omega)] at k
    rw [oc_m c (by omega) a ha b hb]; exact k
theorem LM_lookersAt (ho : isO z) (hPl : hO I π) (hW : WP π) {w : Nat} (hw : w < 8) (k : Q (some (.int (nI (lc π w (π 1 0))))) z I) : ∀ (r g : Nat), g + r = π 1 0 → E mX9_lookersAt mc ms 4 [some (.ref 308), some (.int (nI w)), some (.int (nI (lc π w g))), some (.int (nI g))] [] z I Q := by
  intro r
  have hw1 := hW.2.1
  induction r with
  | zero =>
    intro g hg
    refine B_X9_lookersAt_4 ho ?_
    rw [hPl.2.1]
    have e : g = π 1 0 := by omega
    subst e
    exact pk_le (π 1 0) (π 1 0) (fun _ => k) (fun h => absurd h (by omega))
  | succ r ih =>
    intro g hg
    have ih' := ih (g + 1) (by omega)
    refine B_X9_lookersAt_4 ho ?_
    rw [hPl.2.1]
    refine pk_le (π 1 0) g (fun h => absurd h (by omega)) (fun _ => M_looksAt ho hPl hW (by omega) hw (B_X9_lookersAt_19 ho ?_))
    rw [nI_1]
    cases hl : lkb π w g with
    | false =>
      have e : lc π w (g + 1) = lc π w g := if_neg (by rw [hl]; decide)
      rw [e] at ih'
      refine ⟨fun _ v e => ?_, fun q => absurd rfl q⟩
      have e' : v = nI (lc π w g) := by rw [e]; exact ix2 _ 0
      rw [e']; exact ih'
    | true =>
      have e : lc π w (g + 1) = lc π w g + 1 := by
        show (if lkb π w g = true then lc π w g + 1 else lc π w g) = _
        rw [if_pos hl]
      rw [e] at ih'
      refine ⟨fun q => absurd q (by decide), fun _ v e => ?_⟩
      rw [nI_1] at e
      rw [e]; exact ih'
theorem M_lookersAt (ho : isO z) (hPl : hO I π) (hW : WP π) {w : Nat} (hw : w < 8) (k : Q (some (.int (nI (lc π w (π 1 0))))) z I) : E mX9_lookersAt mc ms 0 [some (.ref 308), some (.int (nI w)), none, none] [] z I Q :=
  B_X9_lookersAt_0 ho (LM_lookersAt ho hPl hW hw k (π 1 0) 0 (by omega))
theorem M_wire (ho : isO z) (hX : hY I (π, κ, ρ, c, α, β, μ)) (hG : WG T (π, κ, ρ, c, α, β, μ)) (k : Q (some (.int (aWire π κ x1 x2))) z I) : E mX9_wire mc ms 0 [some (.ref 308), some (.int x1), some (.int x2)] [] z I Q := by
  obtain ⟨y1, y2, y3, y4, y5, y6, y7⟩ := hX
  obtain ⟨hW, hK, -⟩ := hG
  have hw0 := hW.1
  refine B_X9_wire_0 ho ?_
  rw [y1.1]
  refine ⟨fun h => ?_, fun h1 => ⟨fun h => ?_, fun h2 => ?_⟩⟩
  · unfold aWire at k; rw [if_pos (Or.inl h)] at k; exact k
  · unfold aWire at k; rw [if_pos (Or.inr ((pm1 (by omega) h1).mp h))] at k; exact k
  · have h2 : ¬ nI (π 0 0) ≤ x1 := fun q => h2 ((pm1 (by omega) h1).mpr q)
    unfold aWire at k
    rw [if_neg (fun q => by rcases q with q | q <;> contradiction)] at k
    obtain ⟨w, hw, rfl⟩ := lt_n (by omega) h1 h2
    rw [un_nI (by omega)] at k
    obtain ⟨m1, m2, m3, -⟩ := y2.2.1 w hw
    rw [show 0 + 8 + w = 8 + w by omega] at m1
    rw [show 0 + 16 + w = 16 + w by omega] at m2
    rw [show 0 + 24 + w = 24 + w by omega] at m3
    refine ⟨?_, ?_, ?_, ?_, ?_, fun n0 n1 n2 n3 n4 => ?_⟩
    · rintro rfl
      exact ⟨8 + w, ix2 8 w, by omega, by rw [m1]; exact k⟩
    · rintro rfl
      exact M_driversOf ho y1 hW (by omega) (B_X9_wire_63 k)
    · rintro rfl
      exact ⟨16 + w, ix2 16 w, by omega, by rw [m2]; exact k⟩
    · rintro rfl
      exact ⟨24 + w, ix2 24 w, by omega, by rw [m3]; exact k⟩
    · rintro rfl
      exact M_lookersAt ho y1 hW (by omega) (B_X9_wire_89 k)
    · rw [if_neg n0, if_neg n1, if_neg n2, if_neg n3, if_neg n4] at k; exact k
theorem M_gate (ho : isO z) (hX : hY I (π, κ, ρ, c, α, β, μ)) (hG : WG T (π, κ, ρ, c, α, β, μ)) (k : Q (some (.int (aGate π κ x1 x2))) z I) : E mX9_gate mc ms 0 [some (.ref 308), some (.int x1), some (.int x2)] [] z I Q := by
  obtain ⟨y1, y2, y3, y4, y5, y6, y7⟩ := hX
  obtain ⟨hW, ⟨hK, -⟩, -⟩ := hG
  have hw0 := hW.1
  have hw1 := hW.2.1
  refine B_X9_gate_0 ho ?_
  rw [y1.2.1]
  refine ⟨fun h => ?_, fun h1 => ⟨fun h => ?_, fun h2 => ?_⟩⟩
  · unfold aGate at k; rw [if_pos (Or.inl h)] at k; exact k
  · unfold aGate at k; rw [if_pos (Or.inr ((pm1 (by omega) h1).mp h))] at k; exact k
  · have h2 : ¬ nI (π 1 0) ≤ x1 := fun q => h2 ((pm1 (by omega) h1).mpr q)
    unfold aGate at k
    rw [if_neg (fun q => by rcases q with q | q <;> contradiction)] at k
    obtain ⟨g, hg, rfl⟩ := lt_n (by omega) h1 h2
    rw [un_nI (by omega)] at k
    have p2 := y1.2.2 g hg 0 (by omega)
    have p3 := y1.2.2 g hg 1 (by omega)
    have p4 := y1.2.2 g hg 2 (by omega)
    have p5 := y1.2.2 g hg 3 (by omega)
    have p6 := y1.2.2 g hg 4 (by omega)
    have p7 := y1.2.2 g hg 5 (by omega)
    have hw5 := (hW.2.2 g hg).2.2.2.1
    obtain ⟨m1, m2, -⟩ := y2.2.2.1 g hg
    rw [show 0 + 176 + g = 176 + g by omega] at m1
    rw [show 0 + 184 + g = 184 + g by omega] at m2
    refine ⟨?_, ?_, ?_, ?_, ?_, ?_, ?_, ?_, ?_, ?_, fun n0 n1 n2 n3 n4 n5 n6 n7 n8 n9 => ?_⟩
    · rintro rfl
      exact ⟨6 * g + 0, ix6 g 0, by omega, by rw [p2]; exact k⟩
    · rintro rfl
      exact ⟨6 * g + 1, ix6 g 1, by omega, by rw [p3]; exact k⟩
    · rintro rfl
      exact ⟨6 * g + 2, ix6 g 2, by omega, by rw [p4]; exact k⟩
    · rintro rfl
      exact ⟨6 * g + 3, ix6 g 3, by omega, by rw [p5]; exact k⟩
    · rintro rfl
      exact ⟨6 * g + 4, ix6 g 4, by omega, by rw [p6]; exact k⟩
    · rintro rfl
      exact ⟨6 * g + 5, ix6 g 5, by omega, by rw [p7]; exact k⟩
    · rintro rfl
      exact ⟨176 + g, ix2 176 g, by omega, by rw [m1]; exact k⟩
    · rintro rfl
      exact M_comesOf (x := 0) ho (by omega) y2 y1 hW hK.1 hg (B_X9_gate_92 k)
    · rintro rfl
      exact ⟨184 + g, ix2 184 g, by omega, by rw [m2]; exact k⟩
    · rintro rfl
      refine ⟨6 * g + 3, ix6 g 3, by omega, ?_⟩
      rw [p5]
      exact M_drivenTo (x := 0) (w := π 5 g) ho (by omega) y2 y1 hW hK.1 (by omega) (but_g (by omega)) (B_X9_gate_116 k)
    · rw [if_neg n0, if_neg n1, if_neg n2, if_neg n3, if_neg n4, if_neg n5, if_neg n6, if_neg n7, if_neg n8, if_neg n9] at k; exact k
theorem ix8 (a g j : Nat) : nI a + nI 8 * nI g + nI j = nI (a + 8 * g + j) := by rw [ixm, ix2, ix2]
theorem M_queue (ho : isO z) (hX : hY I (π, κ, ρ, c, α, β, μ)) (hG : WG T (π, κ, ρ, c, α, β, μ)) (k : Q (some (.int (aQueue π κ x1 x2 x3))) z I) : E mX9_queue mc ms 0 [some (.ref 308), some (.int x1), some (.int x2), some (.int x3)] [] z I Q := by
  obtain ⟨y1, y2, y3, y4, y5, y6, y7⟩ := hX
  obtain ⟨hW, ⟨hK, -⟩, -⟩ := hG
  have hw1 := hW.2.1
  refine B_X9_queue_0 ho ?_
  rw [y1.2.1]
  refine ⟨fun h => ?_, fun h1 => ⟨fun h => ?_, fun h2 => ?_⟩⟩
  · unfold aQueue at k; rw [if_pos (Or.inl h)] at k; exact k
  · unfold aQueue at k; rw [if_pos (Or.inr ((pm1 (by omega) h1).mp h))] at k; exact k
  · have h2 : ¬ nI (π 1 0) ≤ x1 := fun q => h2 ((pm1 (by omega) h1).mpr q)
    unfold aQueue at k
    rw [if_neg (fun q => by rcases q with q | q <;> contradiction)] at k
    obtain ⟨g, hg, rfl⟩ := lt_n (by omega) h1 h2
    rw [un_nI (by omega)] at k
    have h8 := (hK.2.1 g hg).1
    obtain ⟨m1, m2, m3⟩ := y2.2.2.1 g hg
    rw [show 0 + 184 + g = 184 + g by omega] at m2
    refine ⟨fun h3 => ?_, fun h3 => ⟨fun h4 => ?_, fun h4 => ⟨184 + g, ix2 184 g, by omega, ?_⟩⟩⟩
    · rw [if_pos (fun q => by rcases q with q | q <;> subst q <;> exact absurd h3 (by decide))] at k; exact k
    · rw [if_pos (fun q => by rcases q with q | q <;> subst q <;> exact absurd h4 (by decide))] at k; exact k
    · have h01 := in01 h3 h4
      rw [if_neg (fun q => q h01)] at k
      rw [m2]
      refine ⟨fun h => ?_, fun h5 => ⟨fun h => ?_, fun h6 => ?_⟩⟩
      · rw [if_pos (Or.inl h)] at k; exact k
      · rw [if_pos (Or.inr ((pm1 (by omega) h5).mp h))] at k; exact k
      · have h6 : ¬ nI (κ 12 g 0) ≤ x2 := fun q => h6 ((pm1 (by omega) h5).mpr q)
        rw [if_neg (fun q => by rcases q with q | q <;> contradiction)] at k
        obtain ⟨j, hj, rfl⟩ := lt_n (by omega) h5 h6
        rw [un_nI (by omega)] at k
        have m4 := m3 j hj
        rw [show 0 + 192 + 8 * g + j = 192 + 8 * g + j by omega, show 0 + 256 + 8 * g + j = 256 + 8 * g + j by omega] at m4
        refine ⟨fun h0 => ⟨256 + 8 * g + j, ix8 256 g j, by omega, ?_⟩, fun h0 => ⟨192 + 8 * g + j, ix8 192 g j, by omega, ?_⟩⟩
        · rw [if_neg h0] at k; rw [m4.2]; exact k
        · rw [if_pos h0] at k; rw [m4.1]; exact k
theorem M_wave (ho : isO z) (hX : hY I (π, κ, ρ, c, α, β, μ)) (hG : WG T (π, κ, ρ, c, α, β, μ)) (k : Q (some (.int (aWave π κ x1 x2 x3))) z I) : E mX9_wave mc ms 0 [some (.ref 308), some (.int x1), some (.int x2), some (.int x3)] [] z I Q := by
  obtain ⟨y1, y2, y3, y4, y5, y6, y7⟩ := hX
  obtain ⟨hW, ⟨hK, -⟩, -⟩ := hG
  have hw0 := hW.1
  refine B_X9_wave_0 ho ?_
  rw [y1.1]
  refine ⟨fun h => ?_, fun h1 => ⟨fun h => ?_, fun h2 => ?_⟩⟩
  · unfold aWave at k; rw [if_pos (Or.inl h)] at k; exact k
  · unfold aWave at k; rw [if_pos (Or.inr ((pm1 (by omega) h1).mp h))] at k; exact k
  · have h2 : ¬ nI (π 0 0) ≤ x1 := fun q => h2 ((pm1 (by omega) h1).mpr q)
    unfold aWave at k
    rw [if_neg (fun q => by rcases q with q | q <;> contradiction)] at k
    obtain ⟨w, hw, rfl⟩ := lt_n (by omega) h1 h2
    rw [un_nI (by omega)] at k
    obtain ⟨m1, m2, m3, m4, m5, m6⟩ := y2.2.1 w hw
    rw [show 0 + 40 + w = 40 + w by omega] at m5
    refine ⟨fun h3 => ?_, fun h3 => ⟨fun h4 => ?_, fun h4 => ⟨40 + w, ix2 40 w, by omega, ?_⟩⟩⟩
    · rw [if_pos (fun q => by rcases q with q | q <;> subst q <;> exact absurd h3 (by decide))] at k; exact k
    · rw [if_pos (fun q => by rcases q with q | q <;> subst q <;> exact absurd h4 (by decide))] at k; exact k
    · have h01 := in01 h3 h4
      rw [if_neg (fun q => q h01)] at k
      rw [m5]
      refine ⟨fun h => ?_, fun h5 => ⟨fun h => ?_, fun h6 => ?_⟩⟩
      · rw [if_pos (Or.inl h)] at k; exact k
      · rw [if_pos (Or.inr ((pm1 (by omega) h5).mp h))] at k; exact k
      · have h6 : ¬ nI (min (κ 5 w 0) 8) ≤ x2 := fun q => h6 ((pm1 (by omega) h5).mpr q)
        rw [if_neg (fun q => by rcases q with q | q <;> contradiction)] at k
        obtain ⟨j, hj, rfl⟩ := lt_n (by omega) h5 h6
        rw [un_nI (by omega)] at k
        have m7 := m6 j (by omega) (by omega)
        rw [show 0 + 48 + 8 * w + j = 48 + 8 * w + j by omega, show 0 + 112 + 8 * w + j = 112 + 8 * w + j by omega] at m7
        refine ⟨fun h0 => ⟨112 + 8 * w + j, ix8 112 w j, by omega, ?_⟩, fun h0 => ⟨48 + 8 * w + j, ix8 48 w j, by omega, ?_⟩⟩
        · rw [if_neg h0] at k; rw [m7.2]; exact k
        · rw [if_pos h0] at k; rw [m7.1]; exact k
theorem LM_holds (ho : isO z) (hX : hR I 0 π κ) (hPl : hO I π) (hW : WP π) (hL : LB π κ) (k : Q (some (.int (nI (mk fun g => decide (g < π 1 0) && decide (κ 11 g 0 = ocK π κ g))))) z I) : ∀ (r g : Nat), g + r = π 1 0 → E mX9_holds mc ms 4 [some (.ref 308), some (.int (nI (mk fun i => decide (i < g) && decide (κ 11 i 0 = ocK π κ i)))), some (.int (nI g))] [] z I Q := by
  intro r
  have hw1 := hW.2.1
  induction r with
  | zero =>
    intro g hg
    refine B_X9_holds_4 ho ?_
    rw [hPl.2.1]
    have e : g = π 1 0 := by omega
    subst e
    exact pk_le (π 1 0) (π 1 0) (fun _ => k) (fun h => absurd h (by omega))
  | succ r ih =>
    intro g hg
    have ih' := ih (g + 1) (by omega)
    have hgg : g < π 1 0 := by omega
    refine B_X9_holds_4 ho ?_
    rw [hPl.2.1]
    refine pk_le (π 1 0) g (fun h => absurd h (by omega)) (fun _ => ⟨176 + g, ix2 176 g, by omega, M_comesOf (x := 0) ho (by omega) hX hPl hW hL hgg (B_X9_holds_29 ho ?_)⟩)
    have m1 := (hX.2.2.1 g hgg).1
    rw [show 0 + 176 + g = 176 + g by omega] at m1
    rw [m1, nI_1]
    have h1 := hL.2 g hgg
    have h2 := ocK_lt hW hL hgg
    refine pk_ne (κ 11 g 0) (ocK π κ g) (fun hne v e => ?_) (fun he v e => ?_)
    · have e2 : (mk fun i => decide (i < g + 1) && decide (κ 11 i 0 = ocK π κ i)) = (mk fun i => decide (i < g) && decide (κ 11 i 0 = ocK π κ i)) := mk_ext fun i _ => by
        by_cases e : i = g
        · subst e; simp [hne]
        · have : (i < g + 1) ↔ (i < g) := by omega
          simp [this]
      rw [e2] at ih'
      rw [e, Int32.or_zero]; exact ih'
    · rw [sh1 g (by omega), mk_or _ (by omega : g < 8)] at e
      have e2 : (mk fun i => decide (i = g) || (decide (i < g) && decide (κ 11 i 0 = ocK π κ i))) = (mk fun i => decide (i < g + 1) && decide (κ 11 i 0 = ocK π κ i)) := mk_ext fun i _ => by
        by_cases e : i = g
        · subst e; simp [he]
        · have : (i < g + 1) ↔ (i < g) := by omega
          simp [this, e]
      rw [← e2] at ih'
      rw [e]; exact ih'
theorem M_holds (ho : isO z) (hX : hR I 0 π κ) (hPl : hO I π) (hW : WP π) (hL : LB π κ) (k : Q (some (.int (nI (mk fun g => decide (g < π 1 0) && decide (κ 11 g 0 = ocK π κ g))))) z I) : E mX9_holds mc ms 0 [some (.ref 308), none, none] [] z I Q := by
  have := LM_holds (mc := mc) (ms := ms) ho hX hPl hW hL k (π 1 0) 0 (by omega)
  rw [mk_0 (P := fun i => decide (i < 0) && decide (κ 11 i 0 = ocK π κ i)) (fun i _ => by simp)] at this
  exact B_X9_holds_0 ho this
theorem shl_b : ∀ b, b < 2 → ∀ v, v < 8 → (nI b) <<< (nI v &&& 31) = nI (b * 2 ^ v) := by decide +kernel
theorem LM_flickers (ho : isO z) (hX : hR I 0 π κ) (hPl : hO I π) (hW : WP π) (hB : WB π κ) (k : Q (some (.int (nI (bsum fun w => κ 7 w 0)))) z I) : ∀ (r v : Nat), v + r = π 0 0 → E mX9_flickers mc ms 4 [some (.ref 308), some (.int (nI (bsum fun i => if i < v then κ 7 i 0 else 0))), some (.int (nI v))] [] z I Q := by
  intro r
  have hw0 := hW.1
  have hle : ∀ v i, i < 8 → (if i < v then κ 7 i 0 else 0) ≤ 1 := fun v i hi => by
    have := (hB.2 i hi).1
    split <;> omega
  induction r with
  | zero =>
    intro v hv
    refine B_X9_flickers_4 ho ?_
    rw [hPl.1]
    have e : v = π 0 0 := by omega
    subst e
    have e2 : (bsum fun i => if i < π 0 0 then κ 7 i 0 else 0) = bsum fun w => κ 7 w 0 := bsum_ext fun i hi => by
      split
      · rfl
      · exact ((hB.2 i hi).2 (by omega)).symm
    rw [e2]
    exact pk_le (π 0 0) (π 0 0) (fun _ => k) (fun h => absurd h (by omega))
  | succ r ih =>
    intro v hv
    have ih' := ih (v + 1) (by omega)
    refine B_X9_flickers_4 ho ?_
    rw [hPl.1]
    refine pk_le (π 0 0) v (fun h => absurd h (by omega)) (fun _ => ⟨32 + v, ix2 32 v, by omega, fun v2 e2 => ?_⟩)
    have m4 := (hX.2.1 v (by omega)).2.2.2.1
    rw [show 0 + 32 + v = 32 + v by omega] at m4
    have h7 := (hB.2 v (by omega)).1
    rw [m4, shl_b _ (by omega) v (by omega)] at e2
    rw [nI_1]
    have h01 : κ 7 v 0 = 0 ∨ κ 7 v 0 = 1 := by omega
    rcases h01 with q | q
    · have e3 : (bsum fun i => if i < v + 1 then κ 7 i 0 else 0) = bsum fun i => if i < v then κ 7 i 0 else 0 := bsum_ext fun i hi => by
        by_cases e : i = v
        · subst e; rw [if_pos (by omega), if_neg (by omega), q]
        · have : (i < v + 1) ↔ (i < v) := by omega
          simp only [this]
      rw [e3] at ih'
      rw [q, Nat.zero_mul] at e2
      rw [e2, show nI 0 = 0 from rfl, Int32.or_zero]; exact ih'
    · rw [q, Nat.one_mul, bsum_or (hle v) (by omega : v < 8)] at e2
      have e3 : (bsum fun i => if i = v then 1 else if i < v then κ 7 i 0 else 0) = bsum fun i => if i < v + 1 then κ 7 i 0 else 0 := bsum_ext fun i hi => by
        by_cases e : i = v
        · subst e; rw [if_pos rfl, if_pos (by omega), q]
        · have : (i < v + 1) ↔ (i < v) := by omega
          simp only [this, if_neg e]
      rw [e3] at e2
      rw [e2]; exact ih'
theorem M_flickers (ho : isO z) (hX : hR I 0 π κ) (hPl : hO I π) (hW : WP π) (hB : WB π κ) (k : Q (some (.int (nI (bsum fun w => κ 7 w 0)))) z I) : E mX9_flickers mc ms 0 [some (.ref 308), none, none] [] z I Q := by
  have := LM_flickers (mc := mc) (ms := ms) ho hX hPl hW hB k (π 0 0) 0 (by omega)
  have e : (bsum fun i => if i < 0 then κ 7 i 0 else 0) = 0 := by
    rw [bsum_ext (g := fun _ => 0) (fun i _ => if_neg (by omega))]; rfl
  rw [e] at this
  exact B_X9_flickers_0 ho this
theorem LM_wrongEntry (ho : isO z) (hX : hR I 0 π κ) (hPl : hO I π) (hW : WP π) (hL : LB π κ) (hB : hYb I μ) (hWB : WBk π μ) (k : Q (some (.int (fw (wrg π κ μ) (μ 4 0) 0))) z I) : ∀ r i, i + r = μ 4 0 → fw (wrg π κ μ) (μ 4 0) 0 = fw (wrg π κ μ) r i → E mX9_wrongEntry mc ms 2 [some (.ref 308), some (.int (nI i))] [] z I Q := by
  intro r
  have h20 := hWB.1
  have hw0 := hW.1
  induction r with
  | zero =>
    intro i hi he
    refine B_X9_wrongEntry_2 ho ?_
    rw [hB.1]
    rw [he] at k
    exact pk_le (μ 4 0) i (fun _ => k) (fun h => absurd h (by omega))
  | succ r ih =>
    intro i hi he
    obtain ⟨b1, b2⟩ := hWB.2 i (by omega)
    obtain ⟨c1, c2⟩ := hB.2 i (by omega)
    refine B_X9_wrongEntry_2 ho ?_
    rw [hB.1]
    refine pk_le (μ 4 0) i (fun h => absurd h (by omega)) (fun _ => ⟨i, rfl, by omega, ?_⟩)
    rw [c1, c2, hPl.1]
    have h0 : ¬ nI (μ 5 i) < 0 := nI_pos (by omega)
    refine ⟨fun h => absurd h h0, fun _ => ⟨fun h => absurd ((pm1 (by omega) h0).mp h) (nI_ge b1 (by omega)), fun _ => ⟨8 + μ 5 i, ix2 8 _, by omega, ?_⟩⟩⟩
    have m1 := (hX.2.1 _ b1).1
    rw [show 0 + 8 + μ 5 i = 8 + μ 5 i by omega] at m1
    rw [m1]
    have := hL.1 _ b1
    refine pk_eq (κ 4 (μ 5 i) 0) (μ 6 i) (fun h => ?_) (fun h => ?_)
    · rw [nI_1]
      refine ih (i + 1) (by omega) ?_
      rw [he]
      show (if wrg π κ μ i = true then _ else _) = _
      unfold wrg
      rw [if_neg (by simpa using h)]
    · rw [he] at k
      have e : fw (wrg π κ μ) (r + 1) i = nI i := by
        show (if wrg π κ μ i = true then _ else _) = _
        unfold wrg
        rw [if_pos (by simpa using h)]
      rw [e] at k; exact k
theorem M_wrongEntry (ho : isO z) (hX : hR I 0 π κ) (hPl : hO I π) (hW : WP π) (hL : LB π κ) (hB : hYb I μ) (hWB : WBk π μ) (k : Q (some (.int (fw (wrg π κ μ) (μ 4 0) 0))) z I) : E mX9_wrongEntry mc ms 0 [some (.ref 308), none] [] z I Q :=
  B_X9_wrongEntry_0 ho (LM_wrongEntry ho hX hPl hW hL hB hWB k (μ 4 0) 0 (by omega) rfl)
theorem LM_settle (ho : isO z) (hPl : hO I π) (hW : WP π) : ∀ (r n : Nat) (J : It) (κ : Kt), n + r = 100 → FrR 6536 I J → hR J 6536 π κ → WK π κ → κ 0 0 0 + 20 * r + 60 < 2147483647 → (∀ I', FrR 6536 I I' → Q (some (.int (sl π r n κ))) z I') → E mX9_settles mc ms 10 [some (.ref 308), some (.int (nI n))] [] z J Q := by
  intro r
  induction r with
  | zero =>
    intro n J κ hn hf h hK hT k
    have hb := hK.2.2.2.2.2.2.2.1
    have hTB := hK.tb (by omega)
    have hN := hK.2.2.2.2.2.1
    have hPJ := hPl.to hf
    refine B_X9_settles_10 ho (pk_lt 100 n (fun h => absurd h (by omega)) (fun _ => ?_))
    have h2 : J 309 6538 = nI (κ 2 0 0) := h.1.2.2.1
    rw [h2]
    refine pk_ne (κ 2 0 0) 0 (fun q => ?_) (fun q => M_isStill (x := 6536) ho (by omega) h hPJ hW hTB hN (B_X9_settles_34 ho ?_))
    · have := k J hf
      rw [show sl π 0 n κ = -1 from if_neg (fun q' => q q'.1)] at this; exact this
    · by_cases hs : er κ 8 = 2147483647
      · have := k J hf
        rw [show sl π 0 n κ = nI n from if_pos ⟨q, hs⟩] at this
        rw [if_pos hs]
        exact ⟨fun q => absurd q (by decide), fun _ => this⟩
      · rw [if_neg hs]
        refine ⟨fun _ => M_stepIn (x := 6536) ho (by omega) h hPJ hW hK q (by omega) hs (fun I' hf' h' => B_X9_settles_46 ho ?_), fun q => absurd rfl q⟩
        rw [nI_1]
        refine B_X9_settles_10 ho (pk_lt 100 (n + 1) (fun _ => ?_) (fun h => absurd h (by omega)))
        have := k I' (hf.tr hf')
        rw [show sl π 0 n κ = -1 from if_neg (fun q' => hs q'.2)] at this; exact this
  | succ r ih =>
    intro n J κ hn hf h hK hT k
    have hb := hK.2.2.2.2.2.2.2.1
    have hTB := hK.tb (by omega)
    have hN := hK.2.2.2.2.2.1
    have hPJ := hPl.to hf
    refine B_X9_settles_10 ho (pk_lt 100 n (fun h => absurd h (by omega)) (fun _ => ?_))
    have h2 : J 309 6538 = nI (κ 2 0 0) := h.1.2.2.1
    rw [h2]
    refine pk_ne (κ 2 0 0) 0 (fun q => ?_) (fun q => M_isStill (x := 6536) ho (by omega) h hPJ hW hTB hN (B_X9_settles_34 ho ?_))
    · have := k J hf
      rw [show sl π (r + 1) n κ = -1 from if_neg q] at this; exact this
    · have kk : sl π (r + 1) n κ = if er κ 8 = 2147483647 then nI n else sl π r (n + 1) (sp π κ) := if_pos q
      rw [kk] at k
      by_cases hs : er κ 8 = 2147483647
      · rw [if_pos hs] at k ⊢
        exact ⟨fun q => absurd q (by decide), fun _ => k J hf⟩
      · rw [if_neg hs] at k ⊢
        have hle := hK.er_le
        refine ⟨fun _ => M_stepIn (x := 6536) ho (by omega) h hPJ hW hK q (by omega) hs (fun I' hf' h' => B_X9_settles_46 ho ?_), fun q => absurd rfl q⟩
        rw [nI_1]
        exact ih (n + 1) I' (sp π κ) (by omega) (hf.tr hf') h' (sp_WK hW hK q (by omega)) (by rw [sp_time]; omega) k
theorem M_settle (ho : isO z) (hX : hY I (π, κ, ρ, c, α, β, μ)) (hG : WG T (π, κ, ρ, c, α, β, μ)) (hT : T + 3000 < 2147483647) (k : ∀ I', FrY I I' → hY I' (π, κ, ρ, c, α, β, μ) → Q (some (.int (sl π 100 0 κ))) z I') : E mX9_settles mc ms 0 [some (.ref 308), none] [] z I Q := by
  obtain ⟨y1, y2, y3, y4, y5, y6, y7⟩ := id hX
  obtain ⟨hW, ⟨hK, hKT⟩, -⟩ := id hG
  refine B_X9_settles_0 ho (M_copyRow (x := 0) (y := 6536) ho (by omega) (by omega) (by omega) (fun I1 hf1 he1 => B_X9_settles_8 ho ?_))
  exact LM_settle ho (y1.to hf1) hW 100 0 I1 κ (by omega) FrR.rf (y2.cp hW hK.z8 he1) hK (by omega) (fun I' hf' => k I' (FrY.rr (hf1.tr hf')) (hX.tried hG (hf1.tr hf')))
theorem M_told (ho : isO z) (hX : hY I (π, κ, ρ, c, α, β, μ)) (hG : WG T (π, κ, ρ, c, α, β, μ)) (hT : T + 3000 < 2147483647) (k : ∀ I', FrY I I' → hY I' (π, κ, ρ, c, α, β, μ) → Q (some (.int (aTold π κ c μ x1))) z I') : E mX9_told mc ms 0 [some (.ref 308), some (.int x1)] [] z I Q := by
  obtain ⟨y1, y2, y3, y4, y5, y6, y7⟩ := id hX
  obtain ⟨hW, ⟨hK, hKT⟩, hc, hi1, hi2, hs, hB, hTz⟩ := id hG
  have hTB := hK.tb (by omega)
  have hN := hK.2.2.2.2.2.1
  have kI := k I FrY.rf hX
  have s0 : I 309 0 = nI (κ 0 0 0) := y2.1.1
  have s1 : I 309 1 = nI (κ 1 0 0) := y2.1.2.1
  have s2 : I 309 2 = nI (κ 2 0 0) := y2.1.2.2.1
  have s3 : I 309 3 = nI (κ 3 0 0) := y2.1.2.2.2
  refine B_X9_told_0 ho ⟨?_, ?_, ?_, ?_, ?_, ?_, ?_, ?_, ?_, ?_, ?_, ?_, ?_, ?_, fun n0 n1 n2 n3 n4 n5 n6 n7 n8 n9 n10 n11 n12 n13 => ?_⟩
  · rintro rfl; rw [y1.1]; exact kI
  · rintro rfl; rw [y1.2.1]; exact kI
  · rintro rfl; rw [y7.1]; exact kI
  · rintro rfl; rw [s0]; exact kI
  · rintro rfl; rw [s1]; exact kI
  · rintro rfl; rw [s2]; exact kI
  · rintro rfl
    refine M_isStill (x := 0) ho (by omega) y2 y1 hW hTB hN (B_X9_told_113 ?_)
    have e : aTold π κ c μ 6 = if er κ 8 = 2147483647 then 1 else 0 := rfl
    rw [e] at kI
    by_cases h : er κ 8 = 2147483647
    · rw [if_pos h] at kI ⊢; exact ⟨fun q => absurd q (by decide), fun _ => kI⟩
    · rw [if_neg h] at kI ⊢; exact ⟨fun _ => kI, fun q => absurd rfl q⟩
  · rintro rfl
    exact M_holds ho y2 y1 hW hK.1 (B_X9_told_126 kI)
  · rintro rfl
    exact M_flickers ho y2 y1 hW hK.2.2.1 (B_X9_told_131 kI)
  · rintro rfl
    exact M_settle ho hX hG hT (fun I' h1 h2 => B_X9_told_136 (k I' h1 h2))
  · rintro rfl; rw [s3]; exact kI
  · rintro rfl; rw [y6.1]; exact kI
  · rintro rfl
    exact M_wrongEntry ho y2 y1 hW hK.1 y6 hB (B_X9_told_153 kI)
  · rintro rfl; rw [y3.2.1]; exact kI
  · unfold aTold at kI
    rw [if_neg n0, if_neg n1, if_neg n2, if_neg n3, if_neg n4, if_neg n5, if_neg n6, if_neg n7, if_neg n8, if_neg n9, if_neg n10, if_neg n11, if_neg n12, if_neg n13] at kI
    exact kI
end Y2
