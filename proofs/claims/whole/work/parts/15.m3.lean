/-! ===== the reference: a cycle ===== -/
def cn (π : Pt) (κ : Kt) : Nat → Nat
  | 0 => 0
  | v + 1 => if tgt π κ v ≠ κ 4 v 0 then cn π κ v + 1 else cn π κ v
theorem cn_le (π : Pt) (κ : Kt) : ∀ v, cn π κ v ≤ v
  | 0 => Nat.le_refl _
  | v + 1 => by
    have := cn_le π κ v
    unfold cn
    split <;> omega
theorem cn_pos (π : Pt) (κ : Kt) : ∀ v, 0 < cn π κ v ↔ ∃ i, i < v ∧ tgt π κ i ≠ κ 4 i 0
  | 0 => ⟨fun h => by simp [cn] at h, fun ⟨i, h, _⟩ => by omega⟩
  | v + 1 => by
    have ih := cn_pos π κ v
    by_cases hc : tgt π κ v ≠ κ 4 v 0
    · have e : cn π κ (v + 1) = cn π κ v + 1 := if_pos hc
      rw [e]
      exact ⟨fun _ => ⟨v, by omega, hc⟩, fun _ => by omega⟩
    · have e : cn π κ (v + 1) = cn π κ v := if_neg hc
      rw [e, ih]
      constructor
      · rintro ⟨i, h1, h2⟩; exact ⟨i, by omega, h2⟩
      · rintro ⟨i, h1, h2⟩
        by_cases ei : i = v
        · subst ei; exact absurd h2 hc
        · exact ⟨i, by omega, h2⟩
theorem cn_0 {π : Pt} {κ : Kt} (hW : WP π) : cn π κ (π 0 0) = 0 ↔ mk (chd π κ) = 0 := by
  have hw0 := hW.1
  constructor
  · intro h
    refine mk_0 fun i hi => ?_
    cases hc : chd π κ i with
    | false => rfl
    | true =>
      unfold chd at hc
      rw [Bool.and_eq_true, decide_eq_true_eq, decide_eq_true_eq] at hc
      have := (cn_pos π κ (π 0 0)).mpr ⟨i, hc.1, hc.2⟩
      omega
  · intro h
    rcases Nat.eq_zero_or_pos (cn π κ (π 0 0)) with q | q
    · exact q
    · obtain ⟨i, h1, h2⟩ := (cn_pos π κ (π 0 0)).mp q
      have := mk_z h i (by omega)
      unfold chd at this
      rw [decide_eq_true h1, decide_eq_true h2] at this
      cases this
def wkv (π : Pt) (P : Nat → Bool) (g : Nat) : Nat → Bool
  | 0 => false
  | v + 1 => wkv π P g v || (P v && lkb π v g)
theorem wkv_iff {π : Pt} {P : Nat → Bool} {g : Nat} : ∀ v, wkv π P g v = true ↔ ∃ i, i < v ∧ P i = true ∧ lkb π i g = true
  | 0 => ⟨fun h => by simp [wkv] at h, fun ⟨i, h, _⟩ => by omega⟩
  | v + 1 => by
    have ih := wkv_iff (π := π) (P := P) (g := g) v
    unfold wkv
    rw [Bool.or_eq_true, ih, Bool.and_eq_true]
    constructor
    · rintro (⟨i, h1, h2⟩ | h)
      · exact ⟨i, by omega, h2⟩
      · exact ⟨v, by omega, h⟩
    · rintro ⟨i, h1, h2⟩
      by_cases e : i = v
      · subst e; exact Or.inr h2
      · exact Or.inl ⟨i, by omega, h2⟩
theorem wkv_eq {π : Pt} {P : Nat → Bool} {g : Nat} (hW : WP π) (hg : g < π 1 0) : wkv π P g (π 0 0) = wk π P g := by
  obtain ⟨w2, w3, w4, -⟩ := hW.2.2 g hg
  have h : wkv π P g (π 0 0) = true ↔ wk π P g = true := by
    rw [wkv_iff]
    unfold wk lkb
    constructor
    · rintro ⟨i, h1, h2, h3⟩
      rw [Bool.or_eq_true, Bool.and_eq_true, decide_eq_true_eq, decide_eq_true_eq, decide_eq_true_eq] at h3
      rw [Bool.or_eq_true, Bool.and_eq_true, decide_eq_true_eq]
      rcases h3 with rfl | ⟨h4, rfl⟩
      · exact Or.inl h2
      · exact Or.inr ⟨h4, h2⟩
    · intro h
      rw [Bool.or_eq_true, Bool.and_eq_true, decide_eq_true_eq] at h
      rcases h with h | ⟨h4, h⟩
      · exact ⟨π 3 g, w3, h, by simp⟩
      · exact ⟨π 4 g, w4, h, by simp [h4]⟩
  cases hb : wk π P g with
  | true => exact h.mpr hb
  | false =>
    cases ha : wkv π P g (π 0 0) with
    | false => rfl
    | true => rw [h.mp ha] at hb; cases hb
theorem chX_same {κ κ' : Kt} {l i f j : Nat} (h1 : f ≠ 1) (h0 : κ' 0 = κ 0) (h : ∀ f, f ≠ 1 → κ' f i = κ f i) : chX κ' l i f j = chX κ l i f j := by
  unfold chX
  rw [h0, h 5 (by decide), h 6 (by decide), h 7 (by decide), h 9 (by decide), h 10 (by decide), h f h1]
section M3
variable {mc ms : Nat} {z : Zt} {I I' J J' : It} {Q : Option Value → Zt → It → Prop} {x : Nat} {π : Pt} {κ κ' : Kt}
theorem hR.tk {g : Nat} {J5 : It} (h : hR J x π (tkQ κ g)) (hW : WP π) (hg : g < π 1 0) (hz8 : Z8 π κ) (hd : due κ g = true) (e5 : J5 = e_st J 309 (x + 176 + g) (nI (κ 14 g 0))) (hq : qR x g (κ 12 g 0 - 1) 1 κ J5 J') : FrR x J J' ∧ hR J' x π (tkQ κ (g + 1)) := by
  have hw0 := hW.1
  have hw1 := hW.2.1
  obtain ⟨⟨f1, f2⟩, q1, q2⟩ := hq
  have fo : ∀ q, q ≠ x + 176 + g → q ≠ x + 184 + g → (q < x + 192 + 8 * g ∨ x + 192 + 8 * g + 8 ≤ q) → (q < x + 256 + 8 * g ∨ x + 256 + 8 * g + 8 ≤ q) → J' 309 q = J 309 q := fun q a b c d => by rw [f2 q b c d, e5, e_st_k a]
  have kf : ∀ f, f ≠ 11 ∧ f ≠ 12 ∧ f ≠ 13 ∧ f ≠ 14 → tkQ κ (g + 1) f = tkQ κ g f := fun f hf => by rw [tkQ_f hf, tkQ_f hf]
  have h8 : tkQ κ g 3 0 0 ≤ 8 := by rw [tkQ_f (by omega)]; exact hz8.2
  refine ⟨⟨fun a ha => by rw [f1 a ha, e5, e_st_a ha], fun q hq => fo q (by omega) (by omega) (by omega) (by omega)⟩, h.1.to (fun q a b => fo q (by omega) (by omega) (by omega) (by omega)) (by rw [kf _ (by omega)]) (by rw [kf _ (by omega)]) (by rw [kf _ (by omega)]) (by rw [kf _ (by omega)]), h.2.1.to hw0 (fun q a b => fo q (by omega) (by omega) (by omega) (by omega)) (kf _ (by omega)) (kf _ (by omega)) (kf _ (by omega)) (kf _ (by omega)) (kf _ (by omega)) (kf _ (by omega)), fun i hi => ?_, h.2.2.2.to h8 (fun q a b => fo q (by omega) (by omega) (by omega) (by omega)) (by rw [kf _ (by omega)]) (kf _ (by omega)) (kf _ (by omega)) (kf _ (by omega))⟩
  obtain ⟨a1, a2, a3⟩ := h.2.2.1 i hi
  have h8i := hz8.1 i hi
  have hcn := tkQ_cnt (κ := κ) (n := g) (i := i)
  by_cases e : i = g
  · subst e
    have e11 : tkQ κ (i + 1) 11 i 0 = κ 14 i 0 := by rw [tkQ_yes hd, if_pos rfl]; rfl
    have e12 : tkQ κ (i + 1) 12 i 0 = κ 12 i 0 - 1 := by rw [tkQ_yes hd, if_pos rfl]; rfl
    have e13 : ∀ k, tkQ κ (i + 1) 13 i k = κ 13 i (k + 1) := fun k => by rw [tkQ_yes hd, if_pos rfl]; rfl
    have e14 : ∀ k, tkQ κ (i + 1) 14 i k = κ 14 i (k + 1) := fun k => by rw [tkQ_yes hd, if_pos rfl]; rfl
    rw [e11, e12]
    refine ⟨by rw [f2 _ (by omega) (by omega) (by omega), e5, e_st_same], q1, fun k hk => ?_⟩
    rw [e13, e14]
    exact q2 k hk
  · have ee : ∀ f k, tkQ κ (g + 1) f i k = tkQ κ g f i k := fun f k => by rw [tkQ_yes hd, if_neg e]
    rw [ee, ee, fo (x + 176 + i) (by omega) (by omega) (by omega) (by omega), fo (x + 184 + i) (by omega) (by omega) (by omega) (by omega)]
    refine ⟨a1, a2, fun k hk => ?_⟩
    rw [ee, ee, fo _ (by omega) (by omega) (by omega) (by omega), fo _ (by omega) (by omega) (by omega) (by omega)]
    exact a3 k hk
/-- the tail of a cycle: gates that look at what changed are told -/
theorem LM_wake (ho : isO z) (hx : x + 344 ≤ 6880) {κ3 : Kt} {P : Nat → Bool} {y : Int32} (hPl : hO I π) (hW : WP π) (hL : LB π κ3) (hQ : WQ π κ3) (h3 : κ3 3 0 0 ≤ 8) (hB : κ3 0 0 0 + 20 < 2 ^ 31) (k : ∀ I', FrR x I I' → hR I' x π (tlA π (wk π P) κ3 (π 1 0)) → Q (some (.int y)) z I') : ∀ (r g : Nat) (J : It), g + r = π 1 0 → FrR x I J → hR J x π (tlA π (wk π P) κ3 g) → E mX9_cycle mc ms 291 [some (.ref 308), some (.int (nI x)), none, none, none, some (.int (nI (mk P))), some (.int y), some (.int (nI g)), none, none] [] z J Q := by
  intro r
  have hw0 := hW.1
  have hw1 := hW.2.1
  induction r with
  | zero =>
    intro g J hg hf h
    refine B_X9_cycle_291 ho ?_
    rw [(hPl.to hf).2.1]
    have e : g = π 1 0 := by omega
    subst e
    exact pk_le (π 1 0) (π 1 0) (fun _ => k J hf h) (fun h => absurd h (by omega))
  | succ r ih =>
    intro g J hg hf h
    have hPJ := hPl.to hf
    obtain ⟨hQ', hL'⟩ := tlA_WQ (W := wk π P) hW hL hQ g (by omega)
    refine B_X9_cycle_291 ho ?_
    rw [hPJ.2.1]
    refine pk_le (π 1 0) g (fun h => absurd h (by omega)) (fun _ => ?_)
    have inner : ∀ (s v : Nat), v + s = π 0 0 → E mX9_cycle mc ms 306 [some (.ref 308), some (.int (nI x)), none, none, none, some (.int (nI (mk P))), some (.int y), some (.int (nI g)), some (.int (nI (if wkv π P g v = true then 1 else 0))), some (.int (nI v))] [] z J Q := by
      intro s
      induction s with
      | zero =>
        intro v hv
        have e : v = π 0 0 := by omega
        subst e
        refine B_X9_cycle_306 ho ?_
        rw [hPJ.1, wkv_eq hW (by omega), nI_1]
        refine pk_le (π 0 0) (π 0 0) (fun _ => ?_) (fun h => absurd h (by omega))
        cases hwk : wk π P g with
        | false =>
          refine ⟨fun _ => ?_, fun q => absurd rfl q⟩
          refine ih (g + 1) J (by omega) hf ?_
          have e : tlA π (wk π P) κ3 (g + 1) = tlA π (wk π P) κ3 g := if_neg (by rw [hwk]; decide)
          rw [e]; exact h
        | true =>
          refine ⟨fun q => absurd q (by decide), fun _ => M_tell ho hx h hPJ hW hL' hQ' (by rw [tlA_f (by omega)]; exact h3) (by rw [tlA_f (by omega)]; exact hB) (by omega) (fun I' hf' h' => B_X9_cycle_367 ho ?_)⟩
          rw [nI_1]
          refine ih (g + 1) I' (by omega) (hf.tr hf') ?_
          have e : tlA π (wk π P) κ3 (g + 1) = tl π (tlA π (wk π P) κ3 g) g := if_pos hwk
          rw [e]; exact h'
      | succ s ihs =>
        intro v hv
        have ih' := ihs (v + 1) (by omega)
        refine B_X9_cycle_306 ho ?_
        rw [hPJ.1, nI_1 v, mk_sh _ (by omega : v < 8)]
        refine pk_le (π 0 0) v (fun h => absurd h (by omega)) (fun _ => ?_)
        cases hk : wkv π P g v with
        | true =>
          have e : wkv π P g (v + 1) = true := by show (wkv π P g v || _) = true; rw [hk]; rfl
          rw [e] at ih'
          exact ⟨fun _ => ih', fun q => absurd q (by decide)⟩
        | false =>
          refine ⟨fun q => absurd rfl q, fun _ => ?_⟩
          cases hp : P v with
          | false =>
            have e : wkv π P g (v + 1) = false := by show (wkv π P g v || (P v && _)) = false; rw [hk, hp]; rfl
            rw [e] at ih'
            exact ⟨fun _ => ih', fun q => absurd q (by decide)⟩
          | true =>
            refine ⟨fun q => absurd rfl q, fun _ => M_looksAt ho hPJ hW (by omega) (by omega) (B_X9_cycle_339 ho ?_)⟩
            rw [nI_1 v]
            cases hl : lkb π v g with
            | false =>
              have e : wkv π P g (v + 1) = false := by show (wkv π P g v || (P v && lkb π v g)) = false; rw [hk, hl, Bool.and_false]; rfl
              rw [e] at ih'
              exact ⟨fun _ => ih', fun q => absurd rfl q⟩
            | true =>
              have e : wkv π P g (v + 1) = true := by show (wkv π P g v || (P v && lkb π v g)) = true; rw [hk, hp, hl]; rfl
              rw [e] at ih'
              exact ⟨fun q => absurd q (by decide), fun _ => ih'⟩
    exact inner (π 0 0) 0 (by omega)
theorem cy3_ku : chB (ku (cy2 π κ) 1 (min (κ 1 0 0 + 1) 99999)) (tgt π κ) (fun i => decide (i < π 0 0)) = cy3 π κ := by
  unfold cy3
  funext f i j
  rw [chB_def]
  have e4 : ku (cy2 π κ) 1 (min (κ 1 0 0 + 1) 99999) 4 = cy2 π κ 4 := ku_f (by decide)
  rw [e4]
  by_cases h1 : f = 1
  · subst h1
    have ec : chB (cy2 π κ) (tgt π κ) (fun i => decide (i < π 0 0)) 1 = cy2 π κ 1 := chB_f (by omega)
    unfold ku
    rw [ec]
    split
    · rfl
    · rfl
  · rw [ku_f h1, ku_f h1, chB_def]
    split
    · refine chX_same h1 ?_ ?_
      · exact ku_f (by decide)
      · exact fun f hf => by rw [ku_f hf]
    · rfl
/-- the middle of a cycle: wires become what they are driven to -/
theorem LM_wires (ho : isO z) (hx : x + 344 ≤ 6880) (hPl : hO I π) (hW : WP π) (hK : WK π κ) (h2e : κ 2 0 0 = 0) (hT : κ 0 0 0 + 20 < 2147483647) (k : ∀ I', FrR x I I' → hR I' x π (cy π κ) → Q (some (.int (nI (cn π κ (π 0 0))))) z I') : ∀ (r v : Nat) (J : It), v + r = π 0 0 → FrR x I J → hR J x π (chB (ku (cy2 π κ) 1 (min (κ 1 0 0 + 1) 99999)) (tgt π κ) (fun i => decide (i < v))) → E mX9_cycle mc ms 190 [some (.ref 308), some (.int (nI x)), none, some (.int (if hdu κ = true then nI (κ 16 0 0) else -1)), some (.int (if hdu κ = true then nI (κ 17 0 0) else 2)), some (.int (nI (mk fun i => decide (i < v) && decide (tgt π κ i ≠ κ 4 i 0)))), some (.int (nI (cn π κ v))), some (.int (nI v)), none, none] [] z J Q := by
  intro r
  have hw0 := hW.1
  have hw1 := hW.2.1
  obtain ⟨hL, hQ, hB, hH, hD, hN, hC, hE, hZ⟩ := id hK
  have k4 : ku (cy2 π κ) 1 (min (κ 1 0 0 + 1) 99999) 4 = κ 4 := by rw [ku_f (by decide), cy2_f (by omega)]
  have hcy2h : cy2 π κ 3 0 0 ≤ κ 3 0 0 := by
    have := cy_3 (π := π) (κ := κ)
    rw [cy_f (by omega), cy3_f (by omega)] at this
    rw [this]; split <;> omega
  induction r with
  | zero =>
    intro v J hv hf h
    have e : v = π 0 0 := by omega
    subst e
    rw [cy3_ku] at h
    obtain ⟨hL3, hQ3⟩ := cy3_LQ hL hQ hH
    refine B_X9_cycle_190 ho ?_
    rw [(hPl.to hf).1]
    refine pk_le (π 0 0) (π 0 0) (fun _ => ?_) (fun h => absurd h (by omega))
    exact LM_wake (P := chd π κ) ho hx (hPl.to hf) hW hL3 hQ3 (by rw [cy3_f (by omega)]; have := hH.1; omega) (by rw [cy3_f (by omega), cy2_f (by omega)]; omega) (fun I' hf' h' => k I' (hf.tr hf') h') (π 1 0) 0 J (by omega) FrR.rf h
  | succ r ih =>
    intro v J hv hf h
    have hPJ := hPl.to hf
    have ih' := fun J' => ih (v + 1) J' (by omega)
    have hs4 : chB (ku (cy2 π κ) 1 (min (κ 1 0 0 + 1) 99999)) (tgt π κ) (fun i => decide (i < v)) 4 v 0 = κ 4 v 0 := by rw [chB_i (decide_eq_false (by omega)), k4]
    have hs11 : chB (ku (cy2 π κ) 1 (min (κ 1 0 0 + 1) 99999)) (tgt π κ) (fun i => decide (i < v)) 11 = tkQ κ (π 1 0) 11 := by rw [chB_f (by omega), ku_f (by decide), cy2_q (by omega)]
    have hB' : WB π (chB (ku (cy2 π κ) 1 (min (κ 1 0 0 + 1) 99999)) (tgt π κ) (fun i => decide (i < v))) := WB_chB hB (by rw [ku_f (by decide), cy2_f (by omega)]) (by rw [ku_f (by decide), cy2_f (by omega)]) (by rw [ku_f (by decide), cy2_f (by omega)]) (by rw [ku_f (by decide), cy2_f (by omega)]) (by rw [ku_f (by decide), cy2_f (by omega)]) (fun w hw => tgt_lt hL hQ hH hw) (fun w hw => decide_eq_false (by omega))
    have hL' : LB π (chB (ku (cy2 π κ) 1 (min (κ 1 0 0 + 1) 99999)) (tgt π κ) (fun i => decide (i < v))) := ⟨fun w hw => (hB'.1 w hw).1, fun i hi => by rw [hs11]; exact (tkQ_LB hL hQ).2 i hi⟩
    have hz8' : Z8 π (chB (ku (cy2 π κ) 1 (min (κ 1 0 0 + 1) 99999)) (tgt π κ) (fun i => decide (i < v))) := by
      refine ⟨fun g hg => ?_, ?_⟩
      · rw [chB_f (by omega), ku_f (by decide), cy2_q (by omega)]
        have := tkQ_cnt (κ := κ) (n := π 1 0) (i := g)
        have := (hQ g hg).1
        omega
      · rw [chB_f (by omega), ku_f (by decide)]
        have := hH.1; omega
    have ht0 : chB (ku (cy2 π κ) 1 (min (κ 1 0 0 + 1) 99999)) (tgt π κ) (fun i => decide (i < v)) 0 0 0 = κ 0 0 0 := by rw [chB_f (by omega), ku_f (by decide), cy2_f (by omega)]
    have hvw : v < π 0 0 := by omega
    have htl := tgt_lt hL hQ hH hvw
    have hl4 := hL.1 v hvw
    have e242 : E mX9_cycle mc ms 242 [some (.ref 308), some (.int (nI x)), none, some (.int (if hdu κ = true then nI (κ 16 0 0) else -1)), some (.int (if hdu κ = true then nI (κ 17 0 0) else 2)), some (.int (nI (mk fun i => decide (i < v) && decide (tgt π κ i ≠ κ 4 i 0)))), some (.int (nI (cn π κ v))), some (.int (nI v)), none, none] [.int (nI (tgt π κ v))] z J Q := by
      refine B_X9_cycle_242 ho ⟨x + 8 + v, ix3 x 8 v, by omega, ?_⟩
      rw [(h.2.1 v hvw).1, hs4, nI_1 v]
      refine pk_eq (tgt π κ v) (κ 4 v 0) (fun he => ?_) (fun hne => ?_)
      · have e1 : cn π κ (v + 1) = cn π κ v := if_neg (fun q => q he)
        have e2 : (mk fun i => decide (i < v + 1) && decide (tgt π κ i ≠ κ 4 i 0)) = (mk fun i => decide (i < v) && decide (tgt π κ i ≠ κ 4 i 0)) := mk_ext fun i _ => by
          by_cases e : i = v
          · subst e; simp [he]
          · have : (i < v + 1) ↔ (i < v) := by omega
            simp [this]
        have e3 : chB (ku (cy2 π κ) 1 (min (κ 1 0 0 + 1) 99999)) (tgt π κ) (fun i => decide (i < v)) = chB (ku (cy2 π κ) 1 (min (κ 1 0 0 + 1) 99999)) (tgt π κ) (fun i => decide (i < v + 1)) := chB_eq (fun i hi => by
          rw [k4] at hi
          have : i ≠ v := fun q => hi (by rw [q]; exact he)
          have : (i < v) ↔ (i < v + 1) := by omega
          simp [this])
        have := ih' J hf (by rw [← e3]; exact h)
        rw [e1, e2] at this
        exact this
      · refine M_change ho hx h hW hz8' hB' (by rw [ht0]; omega) hvw (by rw [hs4]; exact hne) (fun I' hf' h' => B_X9_cycle_270 ho (fun v1 e1 => ?_))
        rw [sh1 v (by omega), mk_or _ (by omega : v < 8)] at e1
        have e2 : (mk fun i => decide (i = v) || (decide (i < v) && decide (tgt π κ i ≠ κ 4 i 0))) = (mk fun i => decide (i < v + 1) && decide (tgt π κ i ≠ κ 4 i 0)) := mk_ext fun i _ => by
          by_cases e : i = v
          · subst e; simp [hne]
          · have : (i < v + 1) ↔ (i < v) := by omega
            simp [this, e]
        have e3 : cn π κ (v + 1) = cn π κ v + 1 := if_pos hne
        rw [chB_step (P := fun i => decide (i < v)) (decide_eq_false (by omega))] at h'
        have e4 : (fun i => decide (i = v) || decide (i < v)) = (fun i => decide (i < v + 1)) := by
          funext i
          by_cases e : i = v
          · subst e; simp
          · have : (i < v + 1) ↔ (i < v) := by omega
            simp [this, e]
        rw [e4] at h'
        have := ih' I' (hf.tr hf') h'
        rw [e3, ← e2] at this
        rw [e1, nI_1, nI_1]; exact this
    refine B_X9_cycle_190 ho ?_
    rw [hPJ.1]
    refine pk_le (π 0 0) v (fun h => absurd h (by omega)) (fun _ => M_driversOf ho hPJ hW (by omega) (B_X9_cycle_205 ho ?_))
    have hdl := dc_le π v (π 1 0)
    refine pk_le (dc π v (π 1 0)) 0 (fun hd0 => ?_) (fun hd => ?_)
    · by_cases hq : hdu κ = true ∧ v = κ 16 0 0
      · have et : tgt π κ v = κ 17 0 0 := by unfold tgt; rw [if_neg (by omega), if_pos hq]
        rw [et] at e242
        rw [if_pos hq.1, if_pos hq.1] at e242 ⊢
        refine ⟨fun q => absurd (by rw [hq.2]) q, fun _ => e242⟩
      · have et : tgt π κ v = κ 4 v 0 := by unfold tgt; rw [if_neg (by omega), if_neg hq]
        rw [et] at e242
        have hnn : ¬ nI v = (if hdu κ = true then nI (κ 16 0 0) else -1) := by
          intro q
          cases hh : hdu κ with
          | true =>
            rw [if_pos hh] at q
            have h16 := (hH.2.1 0 (hdu_iff.mp hh).1).2.2.1
            exact hq ⟨hh, (nI_eq (by omega) (by omega)).mp q⟩
          | false =>
            rw [hh, if_neg (by decide)] at q
            exact nI_neg1 (by omega) q
        refine ⟨fun _ => ⟨x + 8 + v, ix3 x 8 v, by omega, ?_⟩, fun q => absurd q hnn⟩
        rw [(h.2.1 v hvw).1, hs4]; exact e242
    · refine M_drivenTo (but := 8) ho hx h hPJ hW hL' (by omega) but_none (B_X9_cycle_216 ho ?_)
      have et : dl π (chB (ku (cy2 π κ) 1 (min (κ 1 0 0 + 1) 99999)) (tgt π κ) (fun i => decide (i < v))) v 8 (π 1 0) = tgt π κ v := by
        rw [dl_congr (κ := tkQ κ (π 1 0)) (fun i _ => by rw [hs11])]
        unfold tgt
        rw [if_pos hd]
      rw [et]; exact e242
theorem XM_158 (ho : isO z) (hx : x + 344 ≤ 6880) (hX : hR J x π (cy2 π κ)) (hf : FrR x I J) (hPl : hO I π) (hW : WP π) (hK : WK π κ) (h2e : κ 2 0 0 = 0) (hT : κ 0 0 0 + 20 < 2147483647) (k : ∀ I', FrR x I I' → hR I' x π (cy π κ) → Q (some (.int (nI (cn π κ (π 0 0))))) z I') : E mX9_cycle mc ms 158 [some (.ref 308), some (.int (nI x)), none, some (.int (if hdu κ = true then nI (κ 16 0 0) else -1)), some (.int (if hdu κ = true then nI (κ 17 0 0) else 2)), none, none, none, none, none] [] z J Q := by
  have hC := hK.2.2.2.2.2.2.1
  obtain ⟨hL, hQ, hB, hH, hD, hN, -⟩ := id hK
  have hz8 : Z8 π (cy2 π κ) := by
    refine ⟨fun g hg => ?_, ?_⟩
    · rw [cy2_q (by omega)]
      have := tkQ_cnt (κ := κ) (n := π 1 0) (i := g)
      have := (hQ g hg).1
      omega
    · have := cy_3 (π := π) (κ := κ)
      rw [cy_f (by omega), cy3_f (by omega)] at this
      rw [this]
      have := hH.1
      split <;> omega
  refine B_X9_cycle_158 ho ⟨x + 1, ix2 x 1, by omega, fun I2 e2 => ?_⟩
  rw [hX.1.2.1, cy2_f (f := 1) (by omega), nI_1, show (99999 : Int32) = nI 99999 from rfl, least_n (by omega) (by omega)] at e2
  have ro : ∀ q, q ≠ x + 1 → I2 309 q = J 309 q := fun q hq => by rw [e2, e_st_k hq]
  have hX2 : hR I2 x π (ku (cy2 π κ) 1 (min (κ 1 0 0 + 1) 99999)) := by
    refine ⟨⟨?_, ?_, ?_, ?_⟩, hX.2.1.to hW.1 (fun q a b => ro q (by omega)) (ku_f (by decide)) (ku_f (by decide)) (ku_f (by decide)) (ku_f (by decide)) (ku_f (by decide)) (ku_f (by decide)), hX.2.2.1.to hW.2.1 hz8.1 (fun q a b => ro q (by omega)) (ku_f (by decide)) (ku_f (by decide)) (ku_f (by decide)) (ku_f (by decide)), hX.2.2.2.to hz8.2 (fun q a b => ro q (by omega)) (by rw [ku_f (by decide)]) (ku_f (by decide)) (ku_f (by decide)) (ku_f (by decide))⟩
    · rw [ro x (by omega), ku_f (by decide)]; exact hX.1.1
    · rw [e2, e_st_same, ku_same]
    · rw [ro (x + 2) (by omega), ku_f (by decide)]; exact hX.1.2.2.1
    · rw [ro (x + 3) (by omega), ku_f (by decide)]; exact hX.1.2.2.2
  have hf2 : FrR x J I2 := ⟨fun a ha => by rw [e2, e_st_a ha], fun q hq => ro q (by omega)⟩
  have := LM_wires (I := I) (mc := mc) (ms := ms) ho hx hPl hW hK h2e hT k (π 0 0) 0 I2 (by omega) (hf.tr hf2) (by rw [chB_none (fun i => decide_eq_false (by omega))]; exact hX2)
  rw [mk_0 (P := fun i => decide (i < 0) && decide (tgt π κ i ≠ κ 4 i 0)) (fun i _ => by simp)] at this
  exact this
theorem LM_take (ho : isO z) (hx : x + 344 ≤ 6880) (hPl : hO I π) (hW : WP π) (hK : WK π κ) (h2e : κ 2 0 0 = 0) (hT : κ 0 0 0 + 20 < 2147483647) (k : ∀ I', FrR x I I' → hR I' x π (cy π κ) → Q (some (.int (nI (cn π κ (π 0 0))))) z I') : ∀ (r g : Nat) (J : It), g + r = π 1 0 → FrR x I J → hR J x π (tkQ κ g) → E mX9_cycle mc ms 17 [some (.ref 308), some (.int (nI x)), some (.int (nI (κ 0 0 0))), some (.int (-1)), some (.int 2), some (.int (nI g)), none, none, none, none] [] z J Q := by
  intro r
  have hw0 := hW.1
  have hw1 := hW.2.1
  obtain ⟨hL, hQ, hB, hH, hD, hN, hC, hE, hZ⟩ := id hK
  have hz8 : Z8 π κ := ⟨fun g hg => (hQ g hg).1, hH.1⟩
  induction r with
  | zero =>
    intro g J hg hf h
    have e : g = π 1 0 := by omega
    subst e
    have hx158 := fun (hh : cy2 π κ = tkQ κ (π 1 0)) => XM_158 (I := I) (J := J) (mc := mc) (ms := ms) (z := z) (Q := Q) ho hx (by rw [hh]; exact h) hf hPl hW hK h2e hT k
    have k3 : tkQ κ (π 1 0) 3 = κ 3 := tkQ_f (by omega)
    have k15 : tkQ κ (π 1 0) 15 = κ 15 := tkQ_f (by omega)
    have k16 : tkQ κ (π 1 0) 16 = κ 16 := tkQ_f (by omega)
    have k17 : tkQ κ (π 1 0) 17 = κ 17 := tkQ_f (by omega)
    have h8 := hH.1
    refine B_X9_cycle_17 ho ?_
    rw [(hPl.to hf).2.1]
    refine pk_le (π 1 0) (π 1 0) (fun _ => ⟨x + 3, ix2 x 3, by omega, ?_⟩) (fun h => absurd h (by omega))
    rw [h.1.2.2.2, k3]
    refine pk_le (κ 3 0 0) 0 (fun h0 => ?_) (fun h0 => ⟨x + 320, ix2 x 320, by omega, ?_⟩)
    · have hd : hdu κ = false := by
        cases hh : hdu κ with
        | false => rfl
        | true => have := (hdu_iff.mp hh).1; omega
      have := hx158 (by unfold cy2; rw [hd, if_neg (by decide)])
      rw [hd] at this
      exact this
    · obtain ⟨a1, a2, a3⟩ := h.2.2.2 0 (by rw [k3]; exact h0)
      rw [k15] at a1
      rw [k16] at a2
      rw [k17] at a3
      have a1' : J 309 (x + 320) = nI (κ 15 0 0) := a1
      rw [a1']
      have h15 := (hH.2.1 0 h0).2.1
      refine pk_ne (κ 15 0 0) (κ 0 0 0) (fun hne => ?_) (fun he => ⟨x + 328, ix2 x 328, by omega, fun v4 e4 => ⟨x + 336, ix2 x 336, by omega, fun v6 e6 => ?_⟩⟩)
      · have hd : hdu κ = false := by
          cases hh : hdu κ with
          | false => rfl
          | true => exact absurd (hdu_iff.mp hh).2 hne
        have := hx158 (by unfold cy2; rw [hd, if_neg (by decide)])
        rw [hd] at this
        exact this
      · have hd : hdu κ = true := hdu_iff.mpr ⟨h0, he⟩
        have e4' : v4 = nI (κ 16 0 0) := by rw [e4]; exact a2
        have e6' : v6 = nI (κ 17 0 0) := by rw [e6]; exact a3
        subst e4' e6'
        have hz8q : Z8 π (tkQ κ (π 1 0)) := ⟨fun g hg => by have := tkQ_cnt (κ := κ) (n := π 1 0) (i := g); have := (hQ g hg).1; omega, by rw [k3]; exact h8⟩
        refine M_dropHand ho hx h hW hz8q (by rw [k3]; exact h0) (fun I' hf' h' => ?_)
        have := XM_158 (I := I) (J := I') (mc := mc) (ms := ms) (z := z) (Q := Q) (κ := κ) ho hx (by unfold cy2; rw [hd, if_pos rfl]; exact h') (hf.tr hf') hPl hW hK h2e hT k
        rw [hd] at this
        exact this
  | succ r ih =>
    intro g J hg hf h
    have hgi : ∀ f, tkQ κ g f g = κ f g := fun f => tkQ_i (Nat.le_refl _)
    have hgg : g < π 1 0 := by omega
    obtain ⟨a1, a2, a3⟩ := h.2.2.1 g hgg
    rw [hgi] at a1 a2
    rw [hgi, hgi, hgi] at a3
    obtain ⟨q1, q2, q3⟩ := hQ g hgg
    refine B_X9_cycle_17 ho ?_
    rw [(hPl.to hf).2.1]
    refine pk_le (π 1 0) g (fun h => absurd h (by omega)) (fun _ => ⟨x + 184 + g, ix3 x 184 g, by omega, ?_⟩)
    rw [a2, nI_1]
    refine pk_le (κ 12 g 0) 0 (fun h0 => ?_) (fun h0 => ⟨x + 192 + 8 * g, ix4 x 192 g, by omega, ?_⟩)
    · have hd : due κ g = false := by
        cases hh : due κ g with
        | false => rfl
        | true => have := (due_iff.mp hh).1; omega
      exact ih (g + 1) J (by omega) hf (by rw [tkQ_no hd]; exact h)
    · have a3' : J 309 (x + 192 + 8 * g) = nI (κ 13 g 0) := (a3 0 h0).1
      have a4' : J 309 (x + 256 + 8 * g) = nI (κ 14 g 0) := (a3 0 h0).2
      rw [a3']
      have := (q2 0 h0).2.1
      refine pk_ne (κ 13 g 0) (κ 0 0 0) (fun hne => ?_) (fun he => ⟨x + 256 + 8 * g, ix4 x 256 g, by omega, x + 176 + g, ix3 x 176 g, by omega, fun I5 e5 => ?_⟩)
      · have hd : due κ g = false := by
          cases hh : due κ g with
          | false => rfl
          | true => exact absurd (due_iff.mp hh).2 hne
        exact ih (g + 1) J (by omega) hf (by rw [tkQ_no hd]; exact h)
      · have hd : due κ g = true := due_iff.mpr ⟨h0, he⟩
        rw [a4'] at e5
        have hq : qR x g (κ 12 g 0) 0 κ I5 I5 := ⟨GF.rf, by rw [e5, e_st_k (by omega)]; exact a2, fun j hj => by rw [e5, e_st_k (by omega), e_st_k (by omega)]; exact a3 j hj⟩
        refine M_dropFirst (c := 1) ho hx (by omega) q1 (by omega) hq (fun I' hq' => B_X9_cycle_99 ho ?_)
        rw [nI_1]
        obtain ⟨b1, b2⟩ := h.tk hW hgg hz8 hd e5 hq'
        exact ih (g + 1) I' (by omega) (hf.tr b1) b2
theorem M_cycle (ho : isO z) (hx : x + 344 ≤ 6880) (hX : hR I x π κ) (hPl : hO I π) (hW : WP π) (hK : WK π κ) (h2e : κ 2 0 0 = 0) (hT : κ 0 0 0 + 20 < 2147483647) (k : ∀ I', FrR x I I' → hR I' x π (cy π κ) → Q (some (.int (nI (cn π κ (π 0 0))))) z I') : E mX9_cycle mc ms 0 [some (.ref 308), some (.int (nI x)), none, none, none, none, none, none, none, none] [] z I Q := by
  refine B_X9_cycle_0 ho ⟨x, ix2 x 0, by omega, fun v2 e2 => ?_⟩
  rw [hX.1.1] at e2
  subst e2
  exact LM_take ho hx hPl hW hK h2e hT k (π 1 0) 0 I (by omega) FrR.rf (by rw [tkQ_0]; exact hX)
end M3
