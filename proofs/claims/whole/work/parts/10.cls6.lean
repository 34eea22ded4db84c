/-! ===== a cycle, by the class ===== -/
theorem ku_f {κ : Kt} {f v f' : Nat} (h : f' ≠ f) : ku κ f v f' = κ f' := by
  funext i j
  unfold ku
  rw [if_neg (fun q => h q.1)]
theorem ku_same {κ : Kt} {f v : Nat} : ku κ f v f 0 0 = v := by unfold ku; rw [if_pos ⟨rfl, rfl, rfl⟩]
theorem dl_congr {π : Pt} {κ κ' : Kt} {w but : Nat} (h : ∀ g, π 5 g = w → κ' 11 g 0 = κ 11 g 0) : ∀ n, dl π κ' w but n = dl π κ w but n
  | 0 => rfl
  | n + 1 => by
    unfold dl
    rw [dl_congr h n]
    by_cases e : π 5 n = w
    · rw [h n e]
    · rw [if_neg (fun q => e q.1), if_neg (fun q => e q.1)]
theorem dl_congrN {π : Pt} {κ κ' : Kt} {w but : Nat} : ∀ n, (∀ g, g < n → π 5 g = w → κ' 11 g 0 = κ 11 g 0) → dl π κ' w but n = dl π κ w but n
  | 0, _ => rfl
  | n + 1, h => by
    unfold dl
    rw [dl_congrN n (fun g hg => h g (by omega))]
    by_cases e : π 5 n = w
    · rw [h n (by omega) e]
    · rw [if_neg (fun q => e q.1), if_neg (fun q => e q.1)]
theorem tb_iff {π : Pt} {κ : Kt} {w : Nat} : ∀ n, tb π κ n w = true ↔ ∃ g, g < n ∧ due κ g = true ∧ π 5 g = w
  | 0 => ⟨fun h => by simp [tb] at h, fun ⟨g, h, _⟩ => by omega⟩
  | n + 1 => by
    have ih := tb_iff n (π := π) (κ := κ) (w := w)
    unfold tb
    rw [Bool.or_eq_true, ih, Bool.and_eq_true, decide_eq_true_eq]
    constructor
    · rintro (⟨h1, h2⟩ | ⟨g, h1, h2, h3⟩)
      · exact ⟨n, by omega, h1, h2.symm⟩
      · exact ⟨g, by omega, h2, h3⟩
    · rintro ⟨g, h1, h2, h3⟩
      by_cases e : g = n
      · subst e; exact Or.inl ⟨h2, h3.symm⟩
      · exact Or.inr ⟨g, by omega, h2, h3⟩
theorem dc_pos {π : Pt} {w : Nat} : ∀ n, 0 < dc π w n ↔ ∃ g, g < n ∧ π 5 g = w
  | 0 => ⟨fun h => by simp [dc] at h, fun ⟨g, h, _⟩ => by omega⟩
  | n + 1 => by
    have ih := dc_pos n (π := π) (w := w)
    unfold dc
    by_cases e : π 5 n = w
    · rw [if_pos e]
      exact ⟨fun _ => ⟨n, by omega, e⟩, fun _ => by omega⟩
    · rw [if_neg e, ih]
      constructor
      · rintro ⟨g, h1, h2⟩; exact ⟨g, by omega, h2⟩
      · rintro ⟨g, h1, h2⟩
        by_cases e2 : g = n
        · subst e2; exact absurd h2 e
        · exact ⟨g, by omega, h2⟩
theorem tkQ_drv {κ : Kt} {n g : Nat} : tkQ κ n 11 g 0 = if g < n ∧ due κ g = true then κ 14 g 0 else κ 11 g 0 := by
  unfold tkQ
  by_cases h : g < n ∧ 0 < κ 12 g 0 ∧ κ 13 g 0 = κ 0 0 0
  · rw [if_pos h, if_pos (show g < n ∧ due κ g = true from ⟨h.1, due_iff.mpr h.2⟩)]; rfl
  · rw [if_neg h, if_neg (fun q => h ⟨q.1, due_iff.mp q.2⟩)]
theorem tkQ_LB {π : Pt} {κ : Kt} {n : Nat} (hL : LB π κ) (hQ : WQ π κ) : LB π (tkQ κ n) := by
  refine ⟨fun w hw => by rw [tkQ_f (by omega)]; exact hL.1 w hw, fun g hg => ?_⟩
  rw [tkQ_drv]
  split
  next h => exact ((hQ g hg).2.1 0 (due_iff.mp h.2).1).2.2
  next => exact hL.2 g hg
theorem tkQ_WQ {π : Pt} {κ : Kt} {n : Nat} (hQ : WQ π κ) : WQ π (tkQ κ n) := by
  intro g hg
  obtain ⟨h1, h2, h3⟩ := hQ g hg
  have h0 : tkQ κ n 0 = κ 0 := tkQ_f (by omega)
  rw [h0]
  by_cases h : g < n ∧ 0 < κ 12 g 0 ∧ κ 13 g 0 = κ 0 0 0
  · have e12 : tkQ κ n 12 g 0 = κ 12 g 0 - 1 := by unfold tkQ; rw [if_pos h]; rfl
    have e13 : ∀ k, tkQ κ n 13 g k = κ 13 g (k + 1) := fun k => by unfold tkQ; rw [if_pos h]; rfl
    have e14 : ∀ k, tkQ κ n 14 g k = κ 14 g (k + 1) := fun k => by unfold tkQ; rw [if_pos h]; rfl
    rw [e12]
    refine ⟨by omega, fun k hk => by rw [e13, e14]; exact h2 (k + 1) (by omega), fun k hk => by rw [e13, e13]; exact h3 (k + 1) (by omega)⟩
  · have e : ∀ f k, tkQ κ n f g k = κ f g k := fun f k => by unfold tkQ; rw [if_neg h]
    rw [e]
    refine ⟨h1, fun k hk => by rw [e, e]; exact h2 k hk, fun k hk => by rw [e, e]; exact h3 k hk⟩
/-- what is driven is what the gates drive -/
def DI (π : Pt) (κ : Kt) : Prop := ∀ w, w < π 0 0 → 0 < dc π w (π 1 0) → κ 4 w 0 = dl π κ w 8 (π 1 0)
theorem tgt_lt {π : Pt} {κ : Kt} (hL : LB π κ) (hQ : WQ π κ) (hH : WH π κ) {w : Nat} (hw : w < π 0 0) : tgt π κ w < 4 := by
  unfold tgt
  split
  · exact dl_lt (tkQ_LB hL hQ) _ (Nat.le_refl _)
  · split
    next h => exact (hH.2.1 0 (hdu_iff.mp h.1).1).2.2.2.2
    next => exact hL.1 w hw
theorem tgt_same {π : Pt} {κ : Kt} (hD : DI π κ) {w : Nat} (hw : w < π 0 0) (h1 : tb π κ (π 1 0) w = false) (h2 : ¬ (hdu κ = true ∧ w = κ 16 0 0)) : tgt π κ w = κ 4 w 0 := by
  unfold tgt
  split
  next h =>
    rw [hD w hw h]
    refine dl_congrN _ (fun g hg hg2 => ?_)
    rw [tkQ_drv, if_neg (fun q => ?_)]
    rw [(tb_iff _).mpr ⟨g, hg, q.2, hg2⟩] at h1
    cases h1
  next => first | rfl | rw [if_neg h2]
theorem WB_chB {π : Pt} {κ κ2 : Kt} {P : Nat → Bool} {t : Nat → Nat} (hB : WB π κ) (h0 : κ2 0 = κ 0) (h4 : κ2 4 = κ 4) (h5 : κ2 5 = κ 5) (h6 : κ2 6 = κ 6) (h7 : κ2 7 = κ 7) (ht : ∀ w, w < π 0 0 → t w < 4) (hP : ∀ w, π 0 0 ≤ w → P w = false) : WB π (chB κ2 t P) := by
  have hc0 : chB κ2 t P 0 = κ 0 := by rw [chB_f (by omega), h0]
  refine ⟨fun w hw => ?_, fun w hw => ?_⟩
  · have hb := hB.1 w hw
    rw [hc0]
    by_cases hc : P w = true ∧ t w ≠ κ2 4 w 0
    · have e4 : chB κ2 t P 4 w 0 = t w := by rw [chB_def, if_pos hc]; rfl
      have e5 : chB κ2 t P 5 w 0 = min (κ2 5 w 0 + 1) 9999 := by rw [chB_def, if_pos hc]; rfl
      have e6 : chB κ2 t P 6 w 0 = κ2 0 0 0 + 1 := by rw [chB_def, if_pos hc]; rfl
      rw [e4, e5, e6, h0]
      exact ⟨ht w hw, Nat.min_le_right _ _, Nat.le_refl _⟩
    · have e : ∀ f, chB κ2 t P f w 0 = κ2 f w 0 := fun f => by rw [chB_def, if_neg hc]
      rw [e, e, e, h4, h5, h6]
      exact hb
  · have hb := hB.2 w hw
    by_cases hc : P w = true ∧ t w ≠ κ2 4 w 0
    · have e7 : chB κ2 t P 7 w 0 = if κ2 6 w 0 = κ2 0 0 0 + 1 then 1 else κ2 7 w 0 := by rw [chB_def, if_pos hc]; rfl
      rw [e7, h7]
      refine ⟨by split <;> omega, fun h => ?_⟩
      rw [hP w h] at hc
      exact absurd hc.1 (by decide)
    · have e : ∀ f, chB κ2 t P f w 0 = κ2 f w 0 := fun f => by rw [chB_def, if_neg hc]
      rw [e, h7]; exact hb
section C6
variable {mc ms : Nat} {z : Zt} {I : It} {Q : Option Value → Zt → It → Prop} {m p : Nat} {π : Pt} {κ : Kt}
/-- which wires have been looked at -/
def Pv (π : Pt) (κ : Kt) (v i : Nat) : Bool := (hdu κ && decide (i = κ 16 0 0)) || (decide (i < v) && tb π κ (π 1 0) i)
theorem Pv_nw (hW : WP π) (hH : WH π κ) (v : Nat) : ∀ w, π 0 0 ≤ w → Pv π κ v w = false := by
  intro w hw
  cases h : Pv π κ v w with
  | false => rfl
  | true =>
    unfold Pv at h
    rw [Bool.or_eq_true, Bool.and_eq_true, Bool.and_eq_true, decide_eq_true_eq, decide_eq_true_eq] at h
    rcases h with ⟨h1, h2⟩ | ⟨h1, h2⟩
    · have := (hH.2.1 0 (hdu_iff.mp h1).1).2.2.1; omega
    · obtain ⟨g, a, -, c⟩ := (tb_iff _).mp h2
      have := (hW.2.2 g a).2.2.2.1; omega
theorem cy_P (hD : DI π κ) (hW : WP π) (hH : WH π κ) {i : Nat} (h : tgt π κ i ≠ κ 4 i 0) : Pv π κ (π 0 0) i = decide (i < π 0 0) := by
  rcases Nat.lt_or_ge i (π 0 0) with hi | hi
  · rw [decide_eq_true hi]
    cases hb : tb π κ (π 1 0) i with
    | true => unfold Pv; rw [hb, decide_eq_true hi]; simp
    | false =>
      by_cases hh : hdu κ = true ∧ i = κ 16 0 0
      · unfold Pv; rw [hh.1, decide_eq_true hh.2]; rfl
      · exact absurd (tgt_same hD hi hb hh) h
  · rw [Pv_nw hW hH _ i hi, decide_eq_false (by omega)]
theorem hM.cyc {J I1 : It} (h : hM J m π κ) {c : Nat} (e : I1 = e_st J m 1 (nI c)) : hM I1 m π (ku κ 1 c) := by
  obtain ⟨x1, x2, x3, x4⟩ := h
  have ro : ∀ a, a ≠ m → I1 a = J a := fun a ha => by rw [e, e_st_a ha]
  refine ⟨⟨?_, ?_, ?_, ?_⟩, x2.to (by rw [e, e_st_k (by decide)]) (ro _ (by omega)) (ro _ (by omega)) (ro _ (by omega)) (ro _ (by omega)) (ro _ (by omega)) (ro _ (by omega)) (ku_f (by decide)) (ku_f (by decide)) (ku_f (by decide)) (ku_f (by decide)) (ku_f (by decide)) (ku_f (by decide)), x3.to (ro _ (by omega)) (ro _ (by omega)) (ro _ (by omega)) (ro _ (by omega)) (ku_f (by decide)) (ku_f (by decide)) (ku_f (by decide)) (ku_f (by decide)), x4.to (ro _ (by omega)) (ro _ (by omega)) (ro _ (by omega)) (by rw [ku_f (by decide)]) (ku_f (by decide)) (ku_f (by decide)) (ku_f (by decide))⟩
  · rw [e, e_st_k (by decide), ku_f (by decide)]; exact x1.1
  · rw [e, e_st_same, ku_same]
  · rw [e, e_st_k (by decide), ku_f (by decide)]; exact x1.2.2.1
  · rw [e, e_st_k (by decide), ku_f (by decide)]; exact x1.2.2.2
theorem cy3_LQ (hL : LB π κ) (hQ : WQ π κ) (hH : WH π κ) : LB π (cy3 π κ) ∧ WQ π (cy3 π κ) := by
  have hLq := tkQ_LB (n := π 1 0) hL hQ
  have hQq := tkQ_WQ (n := π 1 0) hQ
  have e : ∀ f, f ≠ 1 ∧ f ≠ 4 ∧ f ≠ 5 ∧ f ≠ 6 ∧ f ≠ 7 ∧ f ≠ 9 ∧ f ≠ 10 ∧ f ≠ 3 ∧ f ≠ 15 ∧ f ≠ 16 ∧ f ≠ 17 → cy3 π κ f = tkQ κ (π 1 0) f := fun f hf => by
    unfold cy3
    rw [ku_f hf.1, chB_f (by omega), cy2_q (by omega)]
  refine ⟨⟨fun w hw => ?_, fun g hg => by rw [e _ (by omega)]; exact hLq.2 g hg⟩, ?_⟩
  · unfold cy3
    rw [ku_f (by decide), chB_def]
    split
    · exact tgt_lt hL hQ hH hw
    · rw [cy2_f (by omega)]; exact hL.1 w hw
  · intro g hg
    rw [e 12 (by omega), e 13 (by omega), e 14 (by omega), e 0 (by omega)]
    exact hQq g hg
theorem L_makeCycle (hm : isM z m) (hp : isP z p) (hpm : p + 7 < m) (hPl : hP I p π) (hW : WP π) (hL : LB π κ) (hQ : WQ π κ) (hB : WB π κ) (hH : WH π κ) (hD : DI π κ) (hT : κ 0 0 0 + 20 < 2147483647) (hC : κ 1 0 0 ≤ 99999) (k : ∀ I', FrM m I I' → hM I' m π (cy π κ) → Q (some (.int (if mk (chd π κ) = 0 then 0 else 1))) z I') : ∀ (r v : Nat) (J : It), v + r = π 0 0 → FrM m I J → hM J m π (chB (cy2 π κ) (tgt π κ) (Pv π κ v)) → E mX4_makeCycle mc ms 14 [some (.ref m), some (.ref p), some (.int (nI (mk (tb π κ (π 1 0))))), some (.int (nI (mk fun i => Pv π κ v i && decide (tgt π κ i ≠ κ 4 i 0)))), some (.int (nI v))] [] z J Q := by
  intro r
  have hw1 := hW.2.1
  have hw0 := hW.1
  have h24 : cy2 π κ 4 = κ 4 := cy2_f (by omega)
  induction r with
  | zero =>
    intro v J hv hf h
    have hPJ := hPl.to hf hpm
    refine B_X4_makeCycle_14 hm hp ?_
    rw [hPJ.1]
    have e : v = π 0 0 := by omega
    subst e
    refine pk_le (π 0 0) (π 0 0) (fun _ I1 e1 => ?_) (fun h => absurd h (by omega))
    have hcJ : J m 1 = nI (κ 1 0 0) := by rw [h.1.2.1, chB_f (by omega), cy2_f (by omega)]
    have e1' : I1 = e_st J m 1 (nI (min (κ 1 0 0 + 1) 99999)) := by
      rw [e1, hcJ, nI_1]
      exact congrArg (e_st J m 1) (nmin 99999 (by omega) (by omega))
    have h1 := h.cyc e1'
    have ecy : ku (chB (cy2 π κ) (tgt π κ) (Pv π κ (π 0 0))) 1 (min (κ 1 0 0 + 1) 99999) = cy3 π κ := by
      unfold cy3
      rw [chB_eq (P' := fun i => decide (i < π 0 0)) (fun i hi => cy_P hD hW hH (by rw [h24] at hi; exact hi))]
    rw [ecy] at h1
    have emk : (mk fun i => Pv π κ (π 0 0) i && decide (tgt π κ i ≠ κ 4 i 0)) = mk (chd π κ) := by
      refine mk_ext fun i _ => ?_
      unfold chd
      by_cases hi : tgt π κ i ≠ κ 4 i 0
      · rw [cy_P hD hW hH hi]
      · rw [decide_eq_false hi]; simp
    rw [emk]
    obtain ⟨hL3, hQ3⟩ := cy3_LQ hL hQ hH
    have hf1 : FrM m J I1 := fun a ha => by rw [e1', e_st_a (by omega)]
    have ht3 : cy3 π κ 0 0 0 = κ 0 0 0 := by unfold cy3; rw [ku_f (by decide), chB_f (by omega), cy2_f (by omega)]
    refine C_tellLookers hm hp hpm h1 (hPJ.to hf1 hpm) hW hL3 hQ3 (by rw [ht3]; omega) (fun I' hf' h' => ?_)
    have hk := k I' ((hf.tr hf1).tr hf') h'
    refine B_X4_makeCycle_77 (pk_eq (mk (chd π κ)) 0 (fun h0 => ?_) (fun h0 => ?_) rfl rfl (by have := mk_lt (chd π κ); omega))
    · rw [if_pos h0] at hk; exact hk
    · rw [if_neg h0] at hk; exact hk
  | succ r ih =>
    intro v J hv hf h
    have hPJ := hPl.to hf hpm
    have hs : nI v + 1 = nI (v + 1) := nI_1 v
    refine B_X4_makeCycle_14 hm hp ?_
    rw [hPJ.1, mk_sh _ (by omega : v < 8)]
    refine pk_le (π 0 0) v (fun h => absurd h (by omega)) (fun hvn => ?_)
    cases hb : tb π κ (π 1 0) v with
    | false =>
      have eP : ∀ i, Pv π κ v i = Pv π κ (v + 1) i := fun i => by
        unfold Pv
        by_cases e : i = v
        · subst e; rw [hb]; simp
        · have : (i < v) ↔ (i < v + 1) := by omega
          simp [this]
      have eP' : Pv π κ v = Pv π κ (v + 1) := funext eP
      refine ⟨fun _ => ?_, fun q => absurd q (by decide)⟩
      rw [hs, eP']
      exact ih (v + 1) J (by omega) hf (by rw [← eP']; exact h)
    | true =>
      refine ⟨fun q => absurd rfl q, fun _ => ?_⟩
      obtain ⟨g, hg1, hg2, hg3⟩ := (tb_iff _).mp hb
      have hdc : 0 < dc π v (π 1 0) := (dc_pos _).mpr ⟨g, hg1, hg3⟩
      have hPv : Pv π κ v v = false := by
        unfold Pv
        cases hh : hdu κ with
        | false => simp
        | true =>
          have := (hH.2.1 0 (hdu_iff.mp hh).1).2.2.2.1
          have hne : v ≠ κ 16 0 0 := fun q => by rw [← q] at this; omega
          simp [hne]
      have h11 : chB (cy2 π κ) (tgt π κ) (Pv π κ v) 11 = tkQ κ (π 1 0) 11 := by rw [chB_f (by omega), cy2_q (by omega)]
      have hB' : WB π (chB (cy2 π κ) (tgt π κ) (Pv π κ v)) := WB_chB hB (cy2_f (by omega)) (cy2_f (by omega)) (cy2_f (by omega)) (cy2_f (by omega)) (cy2_f (by omega)) (fun w hw => tgt_lt hL hQ hH hw) (Pv_nw hW hH v)
      have hL' : LB π (chB (cy2 π κ) (tgt π κ) (Pv π κ v)) := ⟨fun w hw => (hB'.1 w hw).1, fun i hi => by rw [h11]; exact (tkQ_LB hL hQ).2 i hi⟩
      refine C_drivenLevel (but := 8) hm hp h hPJ hW hL' (by omega) but_none ?_
      have et : dl π (chB (cy2 π κ) (tgt π κ) (Pv π κ v)) v 8 (π 1 0) = tgt π κ v := by
        rw [dl_congr (κ := tkQ κ (π 1 0)) (fun i _ => by rw [h11])]
        unfold tgt
        rw [if_pos hdc]
      rw [et]
      refine B_X4_makeCycle_45 hm hp ?_
      have ht0 : chB (cy2 π κ) (tgt π κ) (Pv π κ v) 0 0 0 = κ 0 0 0 := by rw [chB_f (by omega), cy2_f (by omega)]
      refine C_changeWire hm h hW hB' (by rw [ht0]; omega) hvn (tgt_lt hL hQ hH hvn) (fun I' hf' h' => ?_)
      refine B_X4_makeCycle_48 hm hp (fun v1 e1 => ?_)
      have e4 : chB (cy2 π κ) (tgt π κ) (Pv π κ v) 4 v 0 = κ 4 v 0 := by rw [chB_i hPv, h24]
      rw [e4] at e1
      have eP' : (fun i => decide (i = v) || Pv π κ v i) = Pv π κ (v + 1) := by
        funext i
        unfold Pv
        by_cases e : i = v
        · subst e; rw [hb]; simp
        · have : (i < v) ↔ (i < v + 1) := by omega
          simp [this, e]
      rw [chB_step hPv, eP'] at h'
      have e1' : v1 = nI (mk fun i => Pv π κ (v + 1) i && decide (tgt π κ i ≠ κ 4 i 0)) := by
        rw [e1]
        by_cases hc : tgt π κ v = κ 4 v 0
        · rw [if_pos hc, show nI 0 = 0 from rfl, Int32.or_zero]
          refine congrArg nI (mk_ext fun i _ => ?_)
          rw [← eP']
          by_cases e : i = v
          · subst e; simp [hc]
          · simp [e]
        · rw [if_neg hc, mk_or _ (by omega : v < 8)]
          refine congrArg nI (mk_ext fun i _ => ?_)
          rw [← eP']
          by_cases e : i = v
          · subst e; simp [hc]
          · simp [e]
      rw [e1', hs]
      exact ih (v + 1) I' (by omega) (hf.tr hf') h'
theorem C_makeCycle (hm : isM z m) (hp : isP z p) (hpm : p + 7 < m) (hX : hM I m π κ) (hPl : hP I p π) (hW : WP π) (hL : LB π κ) (hQ : WQ π κ) (hB : WB π κ) (hH : WH π κ) (hD : DI π κ) (hT : κ 0 0 0 + 20 < 2147483647) (hC : κ 1 0 0 ≤ 99999) (k : ∀ I', FrM m I I' → hM I' m π (cy π κ) → Q (some (.int (if mk (chd π κ) = 0 then 0 else 1))) z I') : E mX4_makeCycle mc ms 0 [some (.ref m), some (.ref p), none, none, none] [] z I Q := by
  have hw0 := hW.1
  refine B_X4_makeCycle_0 hm hp (C_takeFromQueues hm hp hpm hX hPl hW hQ (by omega) (fun J hf h => ?_))
  refine B_X4_makeCycle_5 hm hp ?_
  have hBq : WB π (tkQ κ (π 1 0)) := by
    unfold WB
    rw [tkQ_f (by omega), tkQ_f (by omega), tkQ_f (by omega), tkQ_f (by omega), tkQ_f (by omega)]
    exact hB
  have hHq : WH π (tkQ κ (π 1 0)) := by
    unfold WH
    rw [tkQ_f (by omega), tkQ_f (by omega), tkQ_f (by omega), tkQ_f (by omega), tkQ_f (by omega)]
    exact hH
  have hq : hdu (tkQ κ (π 1 0)) = hdu κ := by
    unfold hdu
    rw [tkQ_f (by omega), tkQ_f (by omega), tkQ_f (by omega)]
  have h16 : tkQ κ (π 1 0) 16 = κ 16 := tkQ_f (by omega)
  have h17 : tkQ κ (π 1 0) 17 = κ 17 := tkQ_f (by omega)
  have h4 : tkQ κ (π 1 0) 4 = κ 4 := tkQ_f (by omega)
  refine C_takeByHand hm h hW hBq hHq (by rw [tkQ_f (by omega)]; exact hT) (fun h0 => ?_) (fun h1 I' hf' h' => ?_)
  · rw [hq] at h0
    refine B_X4_makeCycle_10 hm hp ?_
    have e2 : cy2 π κ = tkQ κ (π 1 0) := by unfold cy2; rw [if_neg (by rw [h0]; decide)]
    have hP0 : ∀ i, Pv π κ 0 i = false := fun i => by unfold Pv; rw [h0]; simp
    have := L_makeCycle (I := I) (mc := mc) (ms := ms) hm hp hpm hPl hW hL hQ hB hH hD hT hC k (π 0 0) 0 J (by omega) hf (by rw [chB_none hP0, e2]; exact h)
    rw [mk_0 (P := fun i => Pv π κ 0 i && decide (tgt π κ i ≠ κ 4 i 0)) (fun i _ => by show (Pv π κ 0 i && _) = false; rw [hP0 i]; rfl)] at this
    exact this
  · rw [hq] at h1
    rw [h16, h17] at h' ⊢
    rw [h4]
    refine B_X4_makeCycle_10 hm hp ?_
    obtain ⟨v1, v2, v3, v4, v5⟩ := hH.2.1 0 (hdu_iff.mp h1).1
    have e2 : cy2 π κ = tkH (tkQ κ (π 1 0)) := by unfold cy2; rw [if_pos h1]
    have et : tgt π κ (κ 16 0 0) = κ 17 0 0 := by
      unfold tgt
      rw [if_neg (by omega), if_pos ⟨h1, rfl⟩]
    have hP0 : (fun i => decide (i = κ 16 0 0) || (fun _ => false) i) = Pv π κ 0 := by
      funext i
      unfold Pv
      rw [h1]
      simp
    have h'' : hM I' m π (chB (cy2 π κ) (tgt π κ) (Pv π κ 0)) := by
      rw [← hP0, ← chB_step (P := fun _ => false) rfl, chB_none (fun _ => rfl), et, e2]
      exact h'
    have := L_makeCycle (I := I) (mc := mc) (ms := ms) hm hp hpm hPl hW hL hQ hB hH hD hT hC k (π 0 0) 0 I' (by omega) (hf.tr hf') h''
    have emk : (mk fun i => Pv π κ 0 i && decide (tgt π κ i ≠ κ 4 i 0)) = if κ 17 0 0 = κ 4 (κ 16 0 0) 0 then 0 else 2 ^ κ 16 0 0 := by
      by_cases hc : κ 17 0 0 = κ 4 (κ 16 0 0) 0
      · rw [if_pos hc]
        refine mk_0 fun i _ => ?_
        rw [← hP0]
        by_cases e : i = κ 16 0 0
        · subst e; rw [et]; simp [hc]
        · simp [e]
      · rw [if_neg hc]
        have hw8 : κ 16 0 0 < 8 := by omega
        have : mk (fun i => Pv π κ 0 i && decide (tgt π κ i ≠ κ 4 i 0)) = mk (fun i => decide (i = κ 16 0 0)) := mk_ext fun i _ => by
          rw [← hP0]
          by_cases e : i = κ 16 0 0
          · subst e; rw [et]; simp [hc]
          · simp [e]
        rw [this]
        exact (by decide +kernel : ∀ w, w < 8 → mk (fun i => decide (i = w)) = 2 ^ w) _ hw8
    rw [emk] at this
    exact this
end C6
