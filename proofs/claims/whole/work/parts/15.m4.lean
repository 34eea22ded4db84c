/-! ===== the reference: a step, copies, by hand ===== -/
section M4
variable {mc ms : Nat} {z : Zt} {I I' J J' : It} {Q : Option Value → Zt → It → Prop} {x y : Nat} {π : Pt} {κ κ' : Kt}
theorem WK.z8 (h : WK π κ) : Z8 π κ := ⟨fun g hg => (h.2.1 g hg).1, h.2.2.2.1.1⟩
theorem hR.sc {j f c : Nat} (hX : hR J x π κ) (hW : WP π) (hz8 : Z8 π κ) (hf : (f = 0 ∧ j = x) ∨ (f = 1 ∧ j = x + 1) ∨ (f = 2 ∧ j = x + 2)) (e : I = e_st J 309 j (nI c)) : hR I x π (ku κ f c) := by
  have ro : ∀ q, q ≠ j → I 309 q = J 309 q := fun q hq => by rw [e, e_st_k hq]
  have kf : ∀ f', 3 ≤ f' → ku κ f c f' = κ f' := fun f' hf' => ku_f (by omega)
  refine ⟨?_, hX.2.1.to hW.1 (fun q a b => ro q (by omega)) (kf _ (by omega)) (kf _ (by omega)) (kf _ (by omega)) (kf _ (by omega)) (kf _ (by omega)) (kf _ (by omega)), hX.2.2.1.to hW.2.1 hz8.1 (fun q a b => ro q (by omega)) (kf _ (by omega)) (kf _ (by omega)) (kf _ (by omega)) (kf _ (by omega)), hX.2.2.2.to hz8.2 (fun q a b => ro q (by omega)) (by rw [kf _ (by omega)]) (kf _ (by omega)) (kf _ (by omega)) (kf _ (by omega))⟩
  obtain ⟨y0, y1, y2, y3⟩ := hX.1
  unfold hRs
  rcases hf with ⟨rfl, rfl⟩ | ⟨rfl, rfl⟩ | ⟨rfl, rfl⟩
  · rw [e, e_st_same, e_st_k (by omega), e_st_k (by omega), e_st_k (by omega), ku_same, ku_f (by decide), ku_f (by decide), ku_f (by decide)]; exact ⟨rfl, y1, y2, y3⟩
  · rw [e, e_st_same, e_st_k (by omega), e_st_k (by omega), e_st_k (by omega), ku_same, ku_f (by decide), ku_f (by decide), ku_f (by decide)]; exact ⟨y0, rfl, y2, y3⟩
  · rw [e, e_st_same, e_st_k (by omega), e_st_k (by omega), e_st_k (by omega), ku_same, ku_f (by decide), ku_f (by decide), ku_f (by decide)]; exact ⟨y0, y1, rfl, y3⟩
theorem FrR.st {j : Nat} {v : Int32} (e : I = e_st J 309 j v) (hj : x ≤ j ∧ j < x + 344) : FrR x J I := ⟨fun a ha => by rw [e, e_st_a ha], fun q hq => by rw [e, e_st_k (by omega)]⟩
theorem LM_fin (ho : isO z) (hx : x + 344 ≤ 6880) (hX : hR I x π κ) (hPl : hO I π) (hW : WP π) (hz8 : Z8 π κ) (k : ∀ I', FrR x I I' → hR I' x π (fin κ) → Q none z I') : ∀ (r g : Nat) (K : It), g + r = π 1 0 → (∀ a, a ≠ 309 → K a = I a) → (∀ q, q ≠ x + 2 → q ≠ x + 3 → (q < x + 184 ∨ x + 184 + g ≤ q) → K 309 q = I 309 q) → K 309 (x + 2) = 1 → K 309 (x + 3) = 0 → (∀ i, i < g → K 309 (x + 184 + i) = 0) → E mX9_stepIn mc ms 108 [some (.ref 308), some (.int (nI x)), none, none, some (.int (nI g))] [] z K Q := by
  intro r
  have hw1 := hW.2.1
  induction r with
  | zero =>
    intro g K hg h1 h2 h3 h4 h5
    refine B_X9_stepIn_108 ho ?_
    rw [(hPl.fr h1).2.1]
    refine pk_le (π 1 0) g (fun _ => ?_) (fun h => absurd h (by omega))
    refine k K ⟨h1, fun q hq => h2 q (by omega) (by omega) (by omega)⟩ ⟨⟨?_, ?_, ?_, ?_⟩, hX.2.1.to hW.1 (fun q a b => h2 q (by omega) (by omega) (by omega)) (fin_f (by omega)) (fin_f (by omega)) (fin_f (by omega)) (fin_f (by omega)) (fin_f (by omega)) (fin_f (by omega)), fun i hi => ⟨?_, ?_, fun q hq => absurd hq (by rw [fin_12]; omega)⟩, fun q hq => absurd hq (by rw [fin_3]; omega)⟩
    · rw [h2 x (by omega) (by omega) (by omega), fin_f (by omega)]; exact hX.1.1
    · rw [h2 (x + 1) (by omega) (by omega) (by omega), fin_f (by omega)]; exact hX.1.2.1
    · rw [h3, fin_2]; rfl
    · rw [h4, fin_3]; rfl
    · rw [h2 _ (by omega) (by omega) (by omega), fin_f (by omega)]; exact (hX.2.2.1 i hi).1
    · rw [h5 i (by omega), fin_12]; rfl
  | succ r ih =>
    intro g K hg h1 h2 h3 h4 h5
    refine B_X9_stepIn_108 ho ?_
    rw [(hPl.fr h1).2.1]
    refine pk_le (π 1 0) g (fun h => absurd h (by omega)) (fun _ => ⟨x + 184 + g, ix3 x 184 g, by omega, fun I2 e2 => ?_⟩)
    rw [nI_1]
    refine ih (g + 1) I2 (by omega) (fun a ha => by rw [e2, e_st_a ha]; exact h1 a ha) (fun q a b c => by rw [e2, e_st_k (by omega)]; exact h2 q a b (by omega)) (by rw [e2, e_st_k (by omega)]; exact h3) (by rw [e2, e_st_k (by omega)]; exact h4) (fun i hi => ?_)
    by_cases e : i = g
    · subst e; rw [e2, e_st_same]
    · rw [e2, e_st_k (by omega)]; exact h5 i (by omega)
theorem XM_fin (ho : isO z) (hx : x + 344 ≤ 6880) (hX : hR J x π κ) (hf : FrR x I J) (hPl : hO I π) (hW : WP π) (hz8 : Z8 π κ) (k : ∀ I', FrR x I I' → hR I' x π (fin κ) → Q none z I') : E mX9_stepIn mc ms 81 [some (.ref 308), some (.int (nI x)), none, some (.int 40), none] [] z J Q := by
  refine B_X9_stepIn_81 ho ⟨fun q => absurd rfl q, fun _ => ⟨x + 2, ix2 x 2, by omega, fun I2 e2 => ⟨x + 3, ix2 x 3, by omega, fun I4 e4 => ?_⟩⟩⟩
  exact LM_fin (I := J) ho hx hX (hPl.to hf) hW hz8 (fun I' hf' h' => k I' (hf.tr hf') h') (π 1 0) 0 I4 (by omega) (fun a ha => by rw [e4, e_st_a ha, e2, e_st_a ha]) (fun q a b c => by rw [e4, e_st_k b, e2, e_st_k a]) (by rw [e4, e_st_k (by omega), e2, e_st_same]) (by rw [e4, e_st_same]) (fun i hi => absurd hi (by omega))
theorem wv_time (h : WK π κ) (hT : κ 0 0 0 + 20 < 2147483647) : (wv κ 8 = nI (κ 0 0 0)) ↔ er κ 8 ≤ κ 0 0 0 := by
  have h1 := h.er_ge (by omega)
  have h2 := h.er_le
  unfold wv
  by_cases e : er κ 8 = 2147483647
  · rw [if_pos e]
    exact ⟨fun q => absurd q (nI_n2 (by omega)), fun q => by omega⟩
  · rw [if_neg e, nI_eq (by omega) (by omega)]
    omega
theorem LM_stepIn (ho : isO z) (hx : x + 344 ≤ 6880) (hPl : hO I π) (hW : WP π) : ∀ (n s : Nat) (J : It) (κ : Kt), s < 40 → ph π κ s ≤ n → FrR x I J → hR J x π κ → WK π κ → κ 2 0 0 = 0 → κ 0 0 0 + 20 < 2147483647 → (∀ I', FrR x I I' → hR I' x π (st π n s κ) → Q none z I') → E mX9_stepIn mc ms 40 [some (.ref 308), some (.int (nI x)), none, some (.int (nI s)), none] [] z J Q := by
  intro n
  have hw0 := hW.1
  induction n with
  | zero =>
    intro s J κ hs hp
    unfold ph at hp; omega
  | succ n ih =>
    intro s J κ hs hp hf h hK h2 hT k
    have hPJ := hPl.to hf
    have hTB := hK.tb hT
    have hN := hK.2.2.2.2.2.1
    refine B_X9_stepIn_40 ho (pk_le 40 s (fun h => absurd h (by omega)) (fun _ => M_waits ho hx h hPJ hW hTB hN (B_X9_stepIn_51 ho ⟨x, ix2 x 0, by omega, ?_⟩)))
    rw [h.1.1]
    refine ⟨fun hne => ?_, fun he => ?_⟩
    · have hn : ¬ er κ 8 ≤ κ 0 0 0 := fun q => hne ((wv_time hK hT).mpr q)
      have e : st π (n + 1) s κ = κ := if_neg hn
      rw [e] at k
      exact B_X9_stepIn_81 ho (pk_ne s 40 (fun _ => k J hf h) (fun q => absurd q (by omega)))
    · have hd := (wv_time hK hT).mp he
      have e : st π (n + 1) s κ = if s + sg π κ = 40 then fin (cy π κ) else st π n (s + sg π κ) (cy π κ) := if_pos hd
      rw [e] at k
      have hK' := cy_WK hW hK h2
      have hT' : cy π κ 0 0 0 + 20 < 2147483647 := by rw [cy_0]; exact hT
      have h2' : cy π κ 2 0 0 = 0 := by rw [cy_2]; exact h2
      refine M_cycle ho hx h hPJ hW hK h2 hT (fun I' hf' h' => B_X9_stepIn_68 ho ?_)
      have hcl := cn_le π κ (π 0 0)
      have next : ∀ s', s' = s + sg π κ → E mX9_stepIn mc ms 40 [some (.ref 308), some (.int (nI x)), none, some (.int (nI s')), none] [] z I' Q := by
        intro s' es
        rw [← es] at k
        by_cases h40 : s' = 40
        · rw [if_pos h40] at k
          subst h40
          refine B_X9_stepIn_40 ho (pk_le 40 40 (fun _ => ?_) (fun h => absurd h (by omega)))
          exact XM_fin ho hx h' (hf.tr hf') hPl hW hK'.z8 k
        · rw [if_neg h40] at k
          have hph := ph_step hW hK hT hs hd (by omega)
          have hsg : sg π κ ≤ 1 := by unfold sg; split <;> omega
          exact ih s' I' (cy π κ) (by omega) (by rw [es]; omega) (hf.tr hf') h' hK' h2' hT' k
      refine pk_le (cn π κ (π 0 0)) 0 (fun h0 v1 e1 => ?_) (fun h0 v1 e1 => ?_)
      · have es : sg π κ = 0 := by unfold sg; rw [if_pos ((cn_0 hW).mp (by omega))]
        have e1' : v1 = nI s := by rw [e1]; exact ix2 s 0
        rw [e1']
        exact next s (by omega)
      · have es : sg π κ = 1 := by unfold sg; rw [if_neg (fun q => by have := (cn_0 hW).mpr q; omega)]
        have e1' : v1 = nI (s + 1) := by rw [e1]; exact nI_1 s
        rw [e1']
        exact next (s + 1) (by omega)
theorem M_stepIn (ho : isO z) (hx : x + 344 ≤ 6880) (hX : hR I x π κ) (hPl : hO I π) (hW : WP π) (hK : WK π κ) (h2 : κ 2 0 0 = 0) (hT : κ 0 0 0 + 40 < 2147483647) (hs : er κ 8 ≠ 2147483647) (k : ∀ I', FrR x I I' → hR I' x π (sp π κ) → Q none z I') : E mX9_stepIn mc ms 0 [some (.ref 308), some (.int (nI x)), none, none, none] [] z I Q := by
  have hTB := hK.tb (by omega)
  have hN := hK.2.2.2.2.2.1
  have h1 := hK.er_ge (by omega)
  have h3 := hK.er_le
  refine B_X9_stepIn_0 ho (M_waits ho hx hX hPl hW hTB hN (B_X9_stepIn_5 ho ⟨x, ix2 x 0, by omega, ?_⟩))
  have ew : wv κ 8 = nI (er κ 8) := if_neg hs
  rw [ew, hX.1.1]
  have fin1 : ∀ I2, I2 = e_st I 309 x (nI (er κ 8)) → E mX9_stepIn mc ms 40 [some (.ref 308), some (.int (nI x)), none, some (.int 0), none] [] z I2 Q := by
    intro I2 e2
    have hX2 := hX.sc (f := 0) hW hK.z8 (Or.inl ⟨rfl, rfl⟩) e2
    have hK2 := hK.time hW h1 (Nat.le_refl _)
    have hph := ph_le hK2
    exact LM_stepIn ho hx hPl hW 1000 0 I2 _ (by omega) (by omega) (FrR.st e2 (by omega)) hX2 hK2 (by rw [ku_f (by decide)]; exact h2) (by rw [ku_same]; omega) k
  refine pk_le (er κ 8) (κ 0 0 0) (fun hle I2 e2 => ?_) (fun hgt I2 e2 => fin1 I2 e2)
  exact fin1 I2 (by rw [e2, show κ 0 0 0 = er κ 8 by omega])
theorem M_isStill (ho : isO z) (hx : x + 344 ≤ 6880) (hX : hR I x π κ) (hPl : hO I π) (hW : WP π) (hT : TB π κ) (hN : ∀ g, π 1 0 ≤ g → κ 12 g 0 = 0) (k : Q (some (.int (if er κ 8 = 2147483647 then 1 else 0))) z I) : E mX9_isStill mc ms 0 [some (.ref 308), some (.int (nI x))] [] z I Q := by
  refine B_X9_isStill_0 ho (M_waits ho hx hX hPl hW hT hN (B_X9_isStill_5 ?_))
  have := er_le hT 8 (by omega)
  unfold wv
  by_cases e : er κ 8 = 2147483647
  · rw [if_pos e] at k ⊢
    exact ⟨fun q => absurd rfl q, fun _ => k⟩
  · rw [if_neg e] at k ⊢
    exact ⟨fun _ => k, fun q => absurd q (nI_neg1 (by omega))⟩
theorem LM_copyRow (ho : isO z) (hx : x + 344 ≤ 6880) (hy : y + 344 ≤ 6880) (hd : x + 344 ≤ y ∨ y + 344 ≤ x) (k : ∀ I', FrR y I I' → (∀ q, q < 344 → I' 309 (y + q) = I 309 (x + q)) → Q none z I') : ∀ (r i : Nat) (K : It), i + r = 344 → (∀ a, a ≠ 309 → K a = I a) → (∀ q, (q < y ∨ y + i ≤ q) → K 309 q = I 309 q) → (∀ q, q < i → K 309 (y + q) = I 309 (x + q)) → E mX9_copyRow mc ms 2 [some (.ref 308), some (.int (nI x)), some (.int (nI y)), some (.int (nI i))] [] z K Q := by
  intro r
  induction r with
  | zero =>
    intro i K hi h1 h2 h3
    exact B_X9_copyRow_2 ho (pk_le 344 i (fun _ => k K ⟨h1, fun q hq => h2 q (by omega)⟩ (fun q hq => h3 q (by omega))) (fun h => absurd h (by omega)))
  | succ r ih =>
    intro i K hi h1 h2 h3
    refine B_X9_copyRow_2 ho (pk_le 344 i (fun h => absurd h (by omega)) (fun _ => ⟨x + i, ix2 x i, by omega, y + i, ix2 y i, by omega, fun I3 e3 => ?_⟩))
    rw [nI_1]
    refine ih (i + 1) I3 (by omega) (fun a ha => by rw [e3, e_st_a ha]; exact h1 a ha) (fun q hq => by rw [e3, e_st_k (by omega)]; exact h2 q (by omega)) (fun q hq => ?_)
    by_cases e : q = i
    · subst e; rw [e3, e_st_same]; exact h2 _ (by omega)
    · rw [e3, e_st_k (by omega)]; exact h3 q (by omega)
theorem M_copyRow (ho : isO z) (hx : x + 344 ≤ 6880) (hy : y + 344 ≤ 6880) (hd : x + 344 ≤ y ∨ y + 344 ≤ x) (k : ∀ I', FrR y I I' → (∀ q, q < 344 → I' 309 (y + q) = I 309 (x + q)) → Q none z I') : E mX9_copyRow mc ms 0 [some (.ref 308), some (.int (nI x)), some (.int (nI y)), none] [] z I Q :=
  B_X9_copyRow_0 ho (LM_copyRow ho hx hy hd k 344 0 I (by omega) (fun _ _ => rfl) (fun _ _ => rfl) (fun _ h => absurd h (by omega)))
theorem hR.cp (h : hR I x π κ) (hW : WP π) (hz8 : Z8 π κ) (he : ∀ q, q < 344 → J 309 (y + q) = I 309 (x + q)) : hR J y π κ := by
  have hw0 := hW.1
  have hw1 := hW.2.1
  have he' : ∀ a b, b = y + (a - x) → x ≤ a → a < x + 344 → J 309 b = I 309 a := fun a b e h1 h2 => by
    rw [e, he (a - x) (by omega), show x + (a - x) = a by omega]
  obtain ⟨⟨s0, s1, s2, s3⟩, hw, hg, hh⟩ := h
  refine ⟨⟨?_, ?_, ?_, ?_⟩, fun w hw' => ?_, fun g hg' => ?_, fun k hk => ?_⟩
  · rw [he' x y (by omega) (by omega) (by omega)]; exact s0
  · rw [he' (x + 1) (y + 1) (by omega) (by omega) (by omega)]; exact s1
  · rw [he' (x + 2) (y + 2) (by omega) (by omega) (by omega)]; exact s2
  · rw [he' (x + 3) (y + 3) (by omega) (by omega) (by omega)]; exact s3
  · obtain ⟨a1, a2, a3, a4, a5, a6⟩ := hw w hw'
    rw [he' (x + 8 + w) (y + 8 + w) (by omega) (by omega) (by omega), he' (x + 16 + w) (y + 16 + w) (by omega) (by omega) (by omega), he' (x + 24 + w) (y + 24 + w) (by omega) (by omega) (by omega), he' (x + 32 + w) (y + 32 + w) (by omega) (by omega) (by omega), he' (x + 40 + w) (y + 40 + w) (by omega) (by omega) (by omega)]
    refine ⟨a1, a2, a3, a4, a5, fun k h1 h2 => ?_⟩
    rw [he' (x + 48 + 8 * w + k) (y + 48 + 8 * w + k) (by omega) (by omega) (by omega), he' (x + 112 + 8 * w + k) (y + 112 + 8 * w + k) (by omega) (by omega) (by omega)]
    exact a6 k h1 h2
  · obtain ⟨a1, a2, a3⟩ := hg g hg'
    have h8 := hz8.1 g hg'
    rw [he' (x + 176 + g) (y + 176 + g) (by omega) (by omega) (by omega), he' (x + 184 + g) (y + 184 + g) (by omega) (by omega) (by omega)]
    refine ⟨a1, a2, fun k hk => ?_⟩
    rw [he' (x + 192 + 8 * g + k) (y + 192 + 8 * g + k) (by omega) (by omega) (by omega), he' (x + 256 + 8 * g + k) (y + 256 + 8 * g + k) (by omega) (by omega) (by omega)]
    exact a3 k hk
  · have h8 := hz8.2
    rw [he' (x + 320 + k) (y + 320 + k) (by omega) (by omega) (by omega), he' (x + 328 + k) (y + 328 + k) (by omega) (by omega) (by omega), he' (x + 336 + k) (y + 336 + k) (by omega) (by omega) (by omega)]
    exact hh k hk
theorem T_layHand (ho : isO z) (hX : hR I 0 π κ) (hW : WP π) (hz8 : Z8 π κ) {w l t : Nat} (hn : κ 3 0 0 < 8) (k : ∀ I', FrR 0 I I' → hR I' 0 π (ah κ w l t) → Q none z I') (a : Nat) (J : It) (h2 : a ≤ κ 3 0 0) (hpe : hpos κ t = a) (h4 : HF 0 I J) (h3 : J 309 3 = I 309 3) (h5 : ∀ q, q < a → J 309 (320 + q) = I 309 (320 + q) ∧ J 309 (328 + q) = I 309 (328 + q) ∧ J 309 (336 + q) = I 309 (336 + q)) (h6 : ∀ q, a < q → q ≤ κ 3 0 0 → J 309 (320 + q) = I 309 (320 + (q - 1)) ∧ J 309 (328 + q) = I 309 (328 + (q - 1)) ∧ J 309 (336 + q) = I 309 (336 + (q - 1))) : E mX9_layHand mc ms 108 [some (.ref 308), some (.int (nI w)), some (.int (nI l)), some (.int (nI t)), some (.int (nI a))] [] z J Q := by
  refine B_X9_layHand_108 ho ⟨320 + a, ix2 320 a, by omega, fun I2 e2 => ⟨328 + a, ix2 328 a, by omega, fun I4 e4 => ⟨336 + a, ix2 336 a, by omega, fun I6 e6 I7 e7 => ?_⟩⟩⟩
  have r63 : I6 309 3 = nI (κ 3 0 0) := by rw [e6, e_st_k (by omega), e4, e_st_k (by omega), e2, e_st_k (by omega), h3]; exact hX.1.2.2.2
  rw [r63, nI_1] at e7
  have hf7 := (((h4.tr (HF.st e2 (by omega))).tr (HF.st e4 (by omega))).tr (HF.st e6 (by omega))).tr (HF.st e7 (by omega))
  have f2 := hf7.2
  have kf : ∀ f, f ≠ 3 ∧ f ≠ 15 ∧ f ≠ 16 ∧ f ≠ 17 → ah κ w l t f = κ f := fun f hf => ah_f hf
  refine k I7 (FrR.hf hf7) ⟨⟨?_, ?_, ?_, ?_⟩, hX.2.1.to hW.1 (fun q a b => f2 q (by omega) (by omega)) (kf _ (by omega)) (kf _ (by omega)) (kf _ (by omega)) (kf _ (by omega)) (kf _ (by omega)) (kf _ (by omega)), hX.2.2.1.to hW.2.1 hz8.1 (fun q a b => f2 q (by omega) (by omega)) (kf _ (by omega)) (kf _ (by omega)) (kf _ (by omega)) (kf _ (by omega)), fun q hq => ?_⟩
  · rw [f2 0 (by omega) (by omega), kf 0 (by omega)]; exact hX.1.1
  · rw [f2 (0 + 1) (by omega) (by omega), kf 1 (by omega)]; exact hX.1.2.1
  · rw [f2 (0 + 2) (by omega) (by omega), kf 2 (by omega)]; exact hX.1.2.2.1
  · rw [e7, show 0 + 3 = 3 from rfl, e_st_same, ah_3]
  · rw [ah_3] at hq
    have e15 : ah κ w l t 15 q 0 = if q < a then κ 15 q 0 else if q = a then t else κ 15 (q - 1) 0 := by unfold ah; rw [if_neg (by omega), if_pos rfl, hpe]
    have e16 : ah κ w l t 16 q 0 = if q < a then κ 16 q 0 else if q = a then w else κ 16 (q - 1) 0 := by unfold ah; rw [if_neg (by omega), if_neg (by omega), if_pos rfl, hpe]
    have e17 : ah κ w l t 17 q 0 = if q < a then κ 17 q 0 else if q = a then l else κ 17 (q - 1) 0 := by unfold ah; rw [if_neg (by omega), if_neg (by omega), if_neg (by omega), if_pos rfl, hpe]
    rw [e15, e16, e17, show 0 + 320 + q = 320 + q by omega, show 0 + 328 + q = 328 + q by omega, show 0 + 336 + q = 336 + q by omega, e7, e_st_k (by omega), e_st_k (by omega), e_st_k (by omega)]
    have x4 := hX.2.2.2
    by_cases c1 : q < a
    · rw [if_pos c1, if_pos c1, if_pos c1, e6, e_st_k (by omega), e_st_k (by omega), e_st_k (by omega), e4, e_st_k (by omega), e_st_k (by omega), e_st_k (by omega), e2, e_st_k (by omega), e_st_k (by omega), e_st_k (by omega)]
      obtain ⟨y1, y2, y3⟩ := h5 q c1
      rw [y1, y2, y3]
      have := x4 q (by omega)
      rw [show 0 + 320 + q = 320 + q by omega, show 0 + 328 + q = 328 + q by omega, show 0 + 336 + q = 336 + q by omega] at this
      exact this
    · rw [if_neg c1, if_neg c1, if_neg c1]
      by_cases c2 : q = a
      · subst c2
        rw [if_pos rfl, if_pos rfl, if_pos rfl, e6, e_st_same, e_st_k (by omega), e_st_k (by omega), e4, e_st_same, e_st_k (by omega), e2, e_st_same]
        exact ⟨rfl, rfl, rfl⟩
      · rw [if_neg c2, if_neg c2, if_neg c2, e6, e_st_k (by omega), e_st_k (by omega), e_st_k (by omega), e4, e_st_k (by omega), e_st_k (by omega), e_st_k (by omega), e2, e_st_k (by omega), e_st_k (by omega), e_st_k (by omega)]
        obtain ⟨y1, y2, y3⟩ := h6 q (by omega) (by omega)
        rw [y1, y2, y3]
        have := x4 (q - 1) (by omega)
        rw [show 0 + 320 + (q - 1) = 320 + (q - 1) by omega, show 0 + 328 + (q - 1) = 328 + (q - 1) by omega, show 0 + 336 + (q - 1) = 336 + (q - 1) by omega] at this
        exact this
theorem LM_layHand (ho : isO z) (hX : hR I 0 π κ) (hW : WP π) (hz8 : Z8 π κ) (hK : WH π κ) {w l t : Nat} (hn : κ 3 0 0 < 8) (hT : κ 0 0 0 + 20 < 2147483647) (ht : t < 2147483647) (k : ∀ I', FrR 0 I I' → hR I' 0 π (ah κ w l t) → Q none z I') : ∀ (a : Nat) (J : It), hpos κ t ≤ a → a ≤ κ 3 0 0 → hq (fun k => κ 15 k 0) t a = hpos κ t → HF 0 I J → J 309 3 = I 309 3 → (∀ q, q < a → J 309 (320 + q) = I 309 (320 + q) ∧ J 309 (328 + q) = I 309 (328 + q) ∧ J 309 (336 + q) = I 309 (336 + q)) → (∀ q, a < q → q ≤ κ 3 0 0 → J 309 (320 + q) = I 309 (320 + (q - 1)) ∧ J 309 (328 + q) = I 309 (328 + (q - 1)) ∧ J 309 (336 + q) = I 309 (336 + (q - 1))) → E mX9_layHand mc ms 8 [some (.ref 308), some (.int (nI w)), some (.int (nI l)), some (.int (nI t)), some (.int (nI a))] [] z J Q := by
  intro a
  induction a with
  | zero =>
    intro J h1 h2 h3 h4 h7 h5 h6
    exact B_X9_layHand_8 ho (pk_le 0 0 (fun _ => T_layHand ho hX hW hz8 hn k 0 J h2 (by omega) h4 h7 h5 h6) (fun h => absurd h (by omega)))
  | succ a ih =>
    intro J h1 h2 h3 h4 h7 h5 h6
    have ea : ∀ b : Nat, nI b + nI (a + 1) - 1 = nI (b + a) := fun b => by rw [ix2, nI_dec (by omega)]; exact congrArg nI (by omega)
    refine B_X9_layHand_8 ho (pk_le (a + 1) 0 (fun h => absurd h (by omega)) (fun _ => ⟨320 + a, ea 320, by omega, ?_⟩))
    have hx15 : I 309 (320 + a) = nI (κ 15 a 0) := by
      have := (hX.2.2.2 a (by omega)).1
      rw [show 0 + 320 + a = 320 + a by omega] at this; exact this
    have hja : J 309 (320 + a) = nI (κ 15 a 0) := by rw [(h5 a (by omega)).1, hx15]
    rw [hja]
    have hta := (hK.2.1 a (by omega)).2.1
    refine pk_le (κ 15 a 0) t (fun hle => ?_) (fun hgt => ⟨320 + (a + 1), ix2 320 (a + 1), by omega, fun I3 e3 => ⟨328 + a, ea 328, by omega, 328 + (a + 1), ix2 328 (a + 1), by omega, fun I6 e6 => ⟨336 + a, ea 336, by omega, 336 + (a + 1), ix2 336 (a + 1), by omega, fun I9 e9 => ?_⟩⟩⟩)
    · refine T_layHand ho hX hW hz8 hn k (a + 1) J h2 ?_ h4 h7 h5 h6
      rw [← h3]
      unfold hq
      rw [if_pos (show κ 15 a 0 ≤ t from hle)]
    · rw [nI_m1 (by omega : 0 < a + 1)]
      have h3' : hq (fun k => κ 15 k 0) t a = hpos κ t := by
        unfold hq at h3
        rw [if_neg (by show ¬ κ 15 a 0 ≤ t; omega)] at h3; exact h3
      have hle2 := hq_le (fun k => κ 15 k 0) t a
      refine ih I9 (by omega) (by omega) h3' (((h4.tr (HF.st e3 (by omega))).tr (HF.st e6 (by omega))).tr (HF.st e9 (by omega))) (by rw [e9, e_st_k (by omega), e6, e_st_k (by omega), e3, e_st_k (by omega)]; exact h7) (fun q hq => ?_) (fun q hq1 hq2 => ?_)
      · rw [e9, e_st_k (by omega), e_st_k (by omega), e_st_k (by omega), e6, e_st_k (by omega), e_st_k (by omega), e_st_k (by omega), e3, e_st_k (by omega), e_st_k (by omega), e_st_k (by omega)]
        exact h5 q (by omega)
      · by_cases e : q = a + 1
        · subst e
          rw [e9, e_st_same, e_st_k (by omega), e_st_k (by omega), e6, e_st_same, e_st_k (by omega), e_st_k (by omega), e3, e_st_same, e_st_k (by omega), e_st_k (by omega)]
          have a5 := h5 a (by omega)
          exact ⟨hx15.symm, a5.2.1, a5.2.2⟩
        · rw [e9, e_st_k (by omega), e_st_k (by omega), e_st_k (by omega), e6, e_st_k (by omega), e_st_k (by omega), e_st_k (by omega), e3, e_st_k (by omega), e_st_k (by omega), e_st_k (by omega)]
          exact h6 q (by omega) hq2
theorem M_layHand (ho : isO z) (hX : hR I 0 π κ) (hW : WP π) (hz8 : Z8 π κ) (hK : WH π κ) {w l t : Nat} (hn : κ 3 0 0 < 8) (hT : κ 0 0 0 + 20 < 2147483647) (ht : t < 2147483647) (k : ∀ I', FrR 0 I I' → hR I' 0 π (ah κ w l t) → Q none z I') : E mX9_layHand mc ms 0 [some (.ref 308), some (.int (nI w)), some (.int (nI l)), some (.int (nI t)), none] [] z I Q := by
  refine B_X9_layHand_0 ho (fun v1 e1 => ?_)
  have e1' : v1 = nI (κ 3 0 0) := by rw [e1]; exact hX.1.2.2.2
  subst e1'
  exact LM_layHand ho hX hW hz8 hK hn hT ht k (κ 3 0 0) I (hq_le _ _ _) (Nat.le_refl _) rfl ⟨fun _ _ => rfl, fun _ _ _ => rfl⟩ rfl (fun _ _ => ⟨rfl, rfl, rfl⟩) (fun _ h1 h2 => absurd h1 (by omega))
end M4
