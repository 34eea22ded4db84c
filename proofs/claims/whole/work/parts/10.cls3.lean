/-! ===== the class's moments: what is asked of levels; all are told ===== -/
section C3
variable {mc ms : Nat} {z : Zt} {I : It} {Q : Option Value → Zt → It → Prop} {m p : Nat} {π : Pt} {κ : Kt}
theorem qD.fr {g n s : Nat} {κ' : Kt} {J : It} (h : qD m g n s κ' I J) : FrM m I J := fun a ha => h.1 a (by omega) (by omega) (by omega)
theorem hM.te {g d md lv : Nat} {J : It} (h : hM I m π κ) (hg : g < π 1 0) (hc : WQ π κ) (hq : qD m g (te κ g d md lv 12 g 0) 0 (te κ g d md lv) I J) : hM J m π (te κ g d md lv) := by
  obtain ⟨h1, h2, h3, h4⟩ := h
  refine ⟨h1.to (hq.1 m (by omega) (by omega) (by omega)) (by rw [te_f (by omega)]) (by rw [te_f (by omega)]) (by rw [te_f (by omega)]) (by rw [te_f (by omega)]), h2.to (by rw [hq.1 m (by omega) (by omega) (by omega)]) (hq.1 _ (by omega) (by omega) (by omega)) (hq.1 _ (by omega) (by omega) (by omega)) (hq.1 _ (by omega) (by omega) (by omega)) (hq.1 _ (by omega) (by omega) (by omega)) (hq.1 _ (by omega) (by omega) (by omega)) (hq.1 _ (by omega) (by omega) (by omega)) (te_f (by omega)) (te_f (by omega)) (te_f (by omega)) (te_f (by omega)) (te_f (by omega)) (te_f (by omega)), ?_, h4.to (hq.1 _ (by omega) (by omega) (by omega)) (hq.1 _ (by omega) (by omega) (by omega)) (hq.1 _ (by omega) (by omega) (by omega)) (by rw [te_f (by omega)]) (te_f (by omega)) (te_f (by omega)) (te_f (by omega))⟩
  refine ⟨fun i hi => ?_, fun i hi => ?_, fun i hi k hk => ?_⟩
  · rw [hq.1 (m + 7) (by omega) (by omega) (by omega), te_f (by omega)]; exact h3.1 i hi
  · rw [hq.2.1]
    unfold upd
    split
    next e => rw [e]
    next e => rw [te_g e]; exact h3.2.1 i hi
  · by_cases e : i = g
    · subst e
      simpa using hq.2.2.2 k hk
    · rw [te_g e] at hk
      rw [te_g e, te_g e]
      have h8 := (hc i hi).1
      have hb : 8 * i + k < 8 * g ∨ 8 * g + 8 ≤ 8 * i + k := by omega
      rw [(hq.2.2.1 _ hb).1, (hq.2.2.1 _ hb).2]
      exact h3.2.2 i hi k hk
theorem C_outcomeOf (hm : isM z m) (hp : isP z p) (hX : hM I m π κ) (hPl : hP I p π) (hW : WP π) (hL : LB π κ) {g : Nat} (hg : g < π 1 0) (k : Q (some (.int (nI (ocK π κ g)))) z I) : E mX4_outcomeOf mc ms 0 [some (.ref m), some (.ref p), some (.int (nI g))] [] z I Q := by
  obtain ⟨hw0, hw1, hw⟩ := hW
  obtain ⟨w2, w3, w4, w5, w6, w7⟩ := hw g hg
  obtain ⟨p2, p3, p4, p5, p6, p7⟩ := hPl.2.2 g hg
  refine B_X4_outcomeOf_0 hm hp ⟨g, rfl, by omega, π 3 g, p3, by omega, π 4 g, p4, by omega, ?_⟩
  rw [p2, (hX.2.1.2 _ w3).1, (hX.2.1.2 _ w4).1, hX.2.2.1.1 g hg, oc_c _ w2 _ (hL.1 _ w3) _ (hL.1 _ w4) _ (hL.2 g hg)]
  exact k
/-- one gate more is told -/
theorem X_tell1 (hm : isM z m) (hp : isP z p) (hpm : p + 7 < m) (hX : hM I m π κ) (hPl : hP I p π) (hW : WP π) (hL : LB π κ) (hQ : WQ π κ) (hB : κ 0 0 0 + 20 < 2 ^ 31) {g : Nat} (hg : g < π 1 0) (k : ∀ I', FrM m I I' → hM I' m π (tl π κ g) → Q none z I') : E mX4_tellGate mc ms 0 [some (.ref m), some (.ref p), some (.int (nI g)), some (.int (nI (ocK π κ g))), none, none] [] z I Q := by
  obtain ⟨hw0, hw1, hw⟩ := id hW
  obtain ⟨w2, w3, w4, w5, w6, w7⟩ := hw g hg
  obtain ⟨p2, p3, p4, p5, p6, p7⟩ := hPl.2.2 g hg
  obtain ⟨q1, q2, q3⟩ := hQ g hg
  exact C_tellGate (κ := κ) hm hp (by omega) q1 (ocK_lt hW hL hg) (by omega) (fun i hi => by have := q2 i hi; omega) (fun i hi => (q2 i hi).2.2) hpm p7 w7 p6 hX.1.1 (hX.2.2.1.2.1 g (by omega)) (hX.2.2.1.2.2 g hg) (fun I' h => k I' h.fr (hX.te hg hQ h))
theorem L_tellAll (hm : isM z m) (hp : isP z p) (hpm : p + 7 < m) (hPl : hP I p π) (hW : WP π) (hL : LB π κ) (hQ : WQ π κ) (hB : κ 0 0 0 + 20 < 2 ^ 31) (k : ∀ I', FrM m I I' → hM I' m π (tlA π (fun _ => true) κ (π 1 0)) → Q none z I') : ∀ (r g : Nat) (J : It), g + r = π 1 0 → FrM m I J → hM J m π (tlA π (fun _ => true) κ g) → E mX4_tellAll mc ms 2 [some (.ref m), some (.ref p), some (.int (nI g))] [] z J Q := by
  intro r
  have hw1 := hW.2.1
  induction r with
  | zero =>
    intro g J hg hf h
    have hPJ := hPl.to hf hpm
    refine B_X4_tellAll_2 hm hp ?_
    rw [hPJ.2.1]
    have e : g = π 1 0 := by omega
    subst e
    exact pk_le (π 1 0) (π 1 0) (fun _ => k J hf h) (fun h => absurd h (by omega))
  | succ r ih =>
    intro g J hg hf h
    have hPJ := hPl.to hf hpm
    obtain ⟨hQ', hL'⟩ := tlA_WQ (W := fun _ => true) hW hL hQ g (by omega)
    have ht : tlA π (fun _ => true) κ g 0 0 0 = κ 0 0 0 := by rw [tlA_f (by omega)]
    refine B_X4_tellAll_2 hm hp ?_
    rw [hPJ.2.1]
    refine pk_le (π 1 0) g (fun h => absurd h (by omega)) (fun _ => ?_)
    refine C_outcomeOf hm hp h hPJ hW hL' (by omega) ?_
    refine B_X4_tellAll_19 hm hp ?_
    refine X_tell1 hm hp hpm h hPJ hW hL' hQ' (by rw [ht]; exact hB) (by omega) (fun I' hf' h' => ?_)
    refine B_X4_tellAll_22 hm hp ?_
    rw [show nI g + 1 = nI (g + 1) from nI_1 g]
    exact ih (g + 1) I' (by omega) (hf.tr hf') h'
theorem C_tellAll (hm : isM z m) (hp : isP z p) (hpm : p + 7 < m) (hX : hM I m π κ) (hPl : hP I p π) (hW : WP π) (hL : LB π κ) (hQ : WQ π κ) (hB : κ 0 0 0 + 20 < 2 ^ 31) (k : ∀ I', FrM m I I' → hM I' m π (tlA π (fun _ => true) κ (π 1 0)) → Q none z I') : E mX4_tellAll mc ms 0 [some (.ref m), some (.ref p), none] [] z I Q :=
  B_X4_tellAll_0 hm hp (L_tellAll hm hp hpm hPl hW hL hQ hB k (π 1 0) 0 I (by omega) FrM.rf hX)
/-- which wires a gate looks at -/
theorem C_looks (hp : isP z p) (hPl : hP I p π) (hW : WP π) {g : Nat} (hg : g < π 1 0) (k : Q (some (.int (if π 2 g = 0 then nI (2 ^ π 3 g) else nI (2 ^ π 3 g) ||| nI (2 ^ π 4 g)))) z I) : E mX6_looks mc ms 0 [some (.ref p), some (.int (nI g)), none] [] z I Q := by
  obtain ⟨hw0, hw1, hw⟩ := hW
  obtain ⟨w2, w3, w4, w5, w6, w7⟩ := hw g hg
  obtain ⟨p2, p3, p4, p5, p6, p7⟩ := hPl.2.2 g hg
  refine B_X6_looks_0 hp ⟨g, rfl, by omega, fun v2 e2 => ?_⟩
  rw [p3, sh1 _ (by omega)] at e2
  subst e2
  rw [p4, p2, sh1 _ (by omega)]
  refine pk_ne (π 2 g) 0 (fun h => ?_) (fun h => ?_)
  · rw [if_neg h] at k; exact k
  · rw [if_pos h] at k; exact k
/-- whom a set of wires wakes -/
def wk (π : Pt) (P : Nat → Bool) (g : Nat) : Bool := P (π 3 g) || (decide (π 2 g ≠ 0) && P (π 4 g))
theorem wk_an {P : Nat → Bool} (hW : WP π) {g : Nat} (hg : g < π 1 0) : ((if π 2 g = 0 then nI (2 ^ π 3 g) else nI (2 ^ π 3 g) ||| nI (2 ^ π 4 g)) &&& nI (mk P) = 0) ↔ wk π P g = false := by
  obtain ⟨hw0, hw1, hw⟩ := hW
  obtain ⟨w2, w3, w4, w5, w6, w7⟩ := hw g hg
  unfold wk
  split
  next h =>
    rw [an1 _ (mk_lt P) _ (by omega), mk_bit P (by omega)]
    cases hP : P (π 3 g) <;> simp [h]
  next h =>
    rw [an2 _ (by omega) _ (by omega) _ (mk_lt P), mk_bit P (by omega), mk_bit P (by omega)]
    cases hP : P (π 3 g) <;> cases hP' : P (π 4 g) <;> simp [h]
theorem L_tellLookers {P : Nat → Bool} (hm : isM z m) (hp : isP z p) (hpm : p + 7 < m) (hPl : hP I p π) (hW : WP π) (hL : LB π κ) (hQ : WQ π κ) (hB : κ 0 0 0 + 20 < 2 ^ 31) (k : ∀ I', FrM m I I' → hM I' m π (tlA π (wk π P) κ (π 1 0)) → Q none z I') : ∀ (r g : Nat) (J : It), g + r = π 1 0 → FrM m I J → hM J m π (tlA π (wk π P) κ g) → E mX4_tellLookers mc ms 2 [some (.ref m), some (.ref p), some (.int (nI (mk P))), some (.int (nI g))] [] z J Q := by
  intro r
  have hw1 := hW.2.1
  induction r with
  | zero =>
    intro g J hg hf h
    have hPJ := hPl.to hf hpm
    refine B_X4_tellLookers_2 hm hp ?_
    rw [hPJ.2.1]
    have e : g = π 1 0 := by omega
    subst e
    exact pk_le (π 1 0) (π 1 0) (fun _ => k J hf h) (fun h => absurd h (by omega))
  | succ r ih =>
    intro g J hg hf h
    have hPJ := hPl.to hf hpm
    obtain ⟨hQ', hL'⟩ := tlA_WQ (W := wk π P) hW hL hQ g (by omega)
    have ht : tlA π (wk π P) κ g 0 0 0 = κ 0 0 0 := by rw [tlA_f (by omega)]
    have hs : nI g + 1 = nI (g + 1) := nI_1 g
    refine B_X4_tellLookers_2 hm hp ?_
    rw [hPJ.2.1]
    refine pk_le (π 1 0) g (fun h => absurd h (by omega)) (fun _ => ?_)
    refine C_looks hp hPJ hW (by omega) ?_
    refine B_X4_tellLookers_15 hm hp ⟨fun h0 => ?_, fun h0 => ?_⟩
    · rw [hs]
      refine ih (g + 1) J (by omega) hf ?_
      have := (wk_an hW (by omega)).mp h0
      unfold tlA
      rw [if_neg (by rw [this]; decide)]
      exact h
    · refine C_outcomeOf hm hp h hPJ hW hL' (by omega) ?_
      refine B_X4_tellLookers_29 hm hp ?_
      refine X_tell1 hm hp hpm h hPJ hW hL' hQ' (by rw [ht]; exact hB) (by omega) (fun I' hf' h' => ?_)
      refine B_X4_tellLookers_32 hm hp ?_
      rw [hs]
      refine ih (g + 1) I' (by omega) (hf.tr hf') ?_
      have hw : wk π P g = true := by
        cases hb : wk π P g with
        | true => rfl
        | false => exact absurd ((wk_an hW (by omega)).mpr hb) h0
      unfold tlA
      rw [if_pos hw]
      exact h'
theorem C_tellLookers {P : Nat → Bool} (hm : isM z m) (hp : isP z p) (hpm : p + 7 < m) (hX : hM I m π κ) (hPl : hP I p π) (hW : WP π) (hL : LB π κ) (hQ : WQ π κ) (hB : κ 0 0 0 + 20 < 2 ^ 31) (k : ∀ I', FrM m I I' → hM I' m π (tlA π (wk π P) κ (π 1 0)) → Q none z I') : E mX4_tellLookers mc ms 0 [some (.ref m), some (.ref p), some (.int (nI (mk P))), none] [] z I Q :=
  B_X4_tellLookers_0 hm hp (L_tellLookers hm hp hpm hPl hW hL hQ hB k (π 1 0) 0 I (by omega) FrM.rf hX)
theorem dl_lt {w but : Nat} (hL : LB π κ) : ∀ n, n ≤ π 1 0 → dl π κ w but n < 4
  | 0, _ => by show 2 < 4; omega
  | n + 1, h => by
    have := dl_lt hL n (by omega) (w := w) (but := but)
    unfold dl
    split
    · exact jn_lt _ this _ (hL.2 n (by omega))
    · exact this
theorem L_drivenLevel (hm : isM z m) (hp : isP z p) (hX : hM I m π κ) (hPl : hP I p π) (hW : WP π) (hL : LB π κ) {w but : Nat} {xb : Int32} (hw : w < 8) (hb : ∀ n, n < 8 → (nI n = xb ↔ n = but)) (k : Q (some (.int (nI (dl π κ w but (π 1 0))))) z I) : ∀ (r g : Nat), g + r = π 1 0 → E mX4_drivenLevel mc ms 6 [some (.ref m), some (.ref p), some (.int (nI w)), some (.int xb), some (.int (nI (dl π κ w but g))), some (.int (nI g))] [] z I Q := by
  intro r
  have hw1 := hW.2.1
  have hw0 := hW.1
  induction r with
  | zero =>
    intro g hg
    refine B_X4_drivenLevel_6 hm hp ?_
    rw [hPl.2.1]
    have e : g = π 1 0 := by omega
    subst e
    exact pk_le (π 1 0) (π 1 0) (fun _ => k) (fun h => absurd h (by omega))
  | succ r ih =>
    intro g hg
    have hs : nI g + 1 = nI (g + 1) := nI_1 g
    have hgg : g < π 1 0 := by omega
    obtain ⟨w2, w3, w4, w5, w6, w7⟩ := hW.2.2 g hgg
    refine B_X4_drivenLevel_6 hm hp ?_
    rw [hPl.2.1, hs]
    refine pk_le (π 1 0) g (fun h => absurd h (by omega)) (fun _ => ⟨g, rfl, by omega, ?_⟩)
    rw [(hPl.2.2 g hgg).2.2.2.1]
    refine pk_ne (π 5 g) w (fun h => ?_) (fun h => ⟨fun h' => ?_, fun h' v2 e2 => ?_⟩)
    · have e : dl π κ w but (g + 1) = dl π κ w but g := by simp [dl, h]
      rw [← e]; exact ih (g + 1) (by omega)
    · have hgb := (hb g (by omega)).mp h'
      have e : dl π κ w but (g + 1) = dl π κ w but g := by simp [dl, hgb]
      rw [← e]; exact ih (g + 1) (by omega)
    · have hgb : g ≠ but := fun q => h' ((hb g (by omega)).mpr q)
      have e : dl π κ w but (g + 1) = jn (dl π κ w but g) (κ 11 g 0) := by simp [dl, h, hgb]
      rw [hX.2.2.1.1 g hgg, jn_c _ (dl_lt hL g (by omega)) _ (hL.2 g hgg), ← e] at e2
      subst e2
      exact ih (g + 1) (by omega)
theorem C_drivenLevel (hm : isM z m) (hp : isP z p) (hX : hM I m π κ) (hPl : hP I p π) (hW : WP π) (hL : LB π κ) {w but : Nat} {xb : Int32} (hw : w < 8) (hb : ∀ n, n < 8 → (nI n = xb ↔ n = but)) (k : Q (some (.int (nI (dl π κ w but (π 1 0))))) z I) : E mX4_drivenLevel mc ms 0 [some (.ref m), some (.ref p), some (.int (nI w)), some (.int xb), none, none] [] z I Q :=
  B_X4_drivenLevel_0 hm hp (L_drivenLevel hm hp hX hPl hW hL hw hb k (π 1 0) 0 (by omega))
theorem but_none : ∀ n, n < 8 → (nI n = (-1) ↔ n = 8) := fun n hn => ⟨fun h => absurd h (nI_neg1 (by omega)), fun h => absurd h (by omega)⟩
theorem but_g {g : Nat} (hg : g < 8) : ∀ n, n < 8 → (nI n = nI g ↔ n = g) := fun n hn => nI_eq (by omega) (by omega)
theorem dc_le (π : Pt) (w n : Nat) : dc π w n ≤ n := by
  induction n with
  | zero => exact Nat.le_refl _
  | succ n ih => unfold dc; split <;> omega
theorem L_driversOf (hp : isP z p) (hPl : hP I p π) (hW : WP π) {w : Nat} (hw : w < 8) (k : Q (some (.int (nI (dc π w (π 1 0))))) z I) : ∀ (r g : Nat), g + r = π 1 0 → E mX6_driversOf mc ms 4 [some (.ref p), some (.int (nI w)), some (.int (nI (dc π w g))), some (.int (nI g))] [] z I Q := by
  intro r
  have hw1 := hW.2.1
  have hw0 := hW.1
  induction r with
  | zero =>
    intro g hg
    refine B_X6_driversOf_4 hp ?_
    rw [hPl.2.1]
    have e : g = π 1 0 := by omega
    subst e
    exact pk_le (π 1 0) (π 1 0) (fun _ => k) (fun h => absurd h (by omega))
  | succ r ih =>
    intro g hg
    have hs : nI g + 1 = nI (g + 1) := nI_1 g
    have hgg : g < π 1 0 := by omega
    obtain ⟨w2, w3, w4, w5, w6, w7⟩ := hW.2.2 g hgg
    refine B_X6_driversOf_4 hp ?_
    rw [hPl.2.1, hs]
    refine pk_le (π 1 0) g (fun h => absurd h (by omega)) (fun _ => ⟨g, rfl, by omega, ?_⟩)
    rw [(hPl.2.2 g hgg).2.2.2.1]
    refine pk_ne (π 5 g) w (fun h => ?_) (fun h => ?_)
    · have e : dc π w (g + 1) = dc π w g := by simp [dc, h]
      rw [← e]; exact ih (g + 1) (by omega)
    · have e : dc π w (g + 1) = dc π w g + 1 := by simp [dc, h]
      rw [show nI (dc π w g) + 1 = nI (dc π w g + 1) from nI_1 _, ← e]; exact ih (g + 1) (by omega)
theorem C_driversOf (hp : isP z p) (hPl : hP I p π) (hW : WP π) {w : Nat} (hw : w < 8) (k : Q (some (.int (nI (dc π w (π 1 0))))) z I) : E mX6_driversOf mc ms 0 [some (.ref p), some (.int (nI w)), none, none] [] z I Q :=
  B_X6_driversOf_0 hp (L_driversOf hp hPl hW hw k (π 1 0) 0 (by omega))
/-- how many look at a wire -/
def lkb (π : Pt) (w g : Nat) : Bool := decide (π 3 g = w) || (decide (π 2 g ≠ 0) && decide (π 4 g = w))
def lc (π : Pt) (w : Nat) : Nat → Nat
  | 0 => 0
  | n + 1 => if lkb π w n = true then lc π w n + 1 else lc π w n
theorem lc_le (π : Pt) (w n : Nat) : lc π w n ≤ n := by
  induction n with
  | zero => exact Nat.le_refl _
  | succ n ih => unfold lc; split <;> omega
theorem lk_bit (hW : WP π) {g w : Nat} (hg : g < π 1 0) (hw : w < 8) : ((((if π 2 g = 0 then nI (2 ^ π 3 g) else nI (2 ^ π 3 g) ||| nI (2 ^ π 4 g)) >>> (nI w &&& 31)) &&& 1) = 1) ↔ lkb π w g = true := by
  obtain ⟨hw0, hw1, hw'⟩ := hW
  obtain ⟨w2, w3, w4, w5, w6, w7⟩ := hw' g hg
  unfold lkb
  split
  next h => rw [bt3 _ (by omega) _ hw]; simp [h]
  next h => rw [bt2 _ (by omega) _ (by omega) _ hw]; simp [h]
theorem L_lookersAt (hp : isP z p) (hPl : hP I p π) (hW : WP π) {w : Nat} (hw : w < 8) (k : Q (some (.int (nI (lc π w (π 1 0))))) z I) : ∀ (r g : Nat), g + r = π 1 0 → E mX6_lookersAt mc ms 4 [some (.ref p), some (.int (nI w)), some (.int (nI (lc π w g))), some (.int (nI g))] [] z I Q := by
  intro r
  have hw1 := hW.2.1
  have hw0 := hW.1
  induction r with
  | zero =>
    intro g hg
    refine B_X6_lookersAt_4 hp ?_
    rw [hPl.2.1]
    have e : g = π 1 0 := by omega
    subst e
    exact pk_le (π 1 0) (π 1 0) (fun _ => k) (fun h => absurd h (by omega))
  | succ r ih =>
    intro g hg
    have hs : nI g + 1 = nI (g + 1) := nI_1 g
    have hgg : g < π 1 0 := by omega
    refine B_X6_lookersAt_4 hp ?_
    rw [hPl.2.1]
    refine pk_le (π 1 0) g (fun h => absurd h (by omega)) (fun _ => ?_)
    refine C_looks hp hPl hW hgg ?_
    refine B_X6_lookersAt_17 hp ⟨fun h0 => ?_, fun h0 => ?_⟩
    · have hb : ¬ lkb π w g = true := fun q => h0 ((lk_bit hW hgg hw).mpr q)
      have e : lc π w (g + 1) = lc π w g := by simp [lc, hb]
      rw [← e, hs]; exact ih (g + 1) (by omega)
    · have hb := (lk_bit hW hgg hw).mp h0
      have e : lc π w (g + 1) = lc π w g + 1 := by simp [lc, hb]
      rw [show nI (lc π w g) + 1 = nI (lc π w g + 1) from nI_1 _, ← e, hs]; exact ih (g + 1) (by omega)
theorem C_lookersAt (hp : isP z p) (hPl : hP I p π) (hW : WP π) {w : Nat} (hw : w < 8) (k : Q (some (.int (nI (lc π w (π 1 0))))) z I) : E mX6_lookersAt mc ms 0 [some (.ref p), some (.int (nI w)), none, none] [] z I Q :=
  B_X6_lookersAt_0 hp (L_lookersAt hp hPl hW hw k (π 1 0) 0 (by omega))
/-- which gates hold -/
theorem L_holdingGates (hm : isM z m) (hp : isP z p) (hX : hM I m π κ) (hPl : hP I p π) (hW : WP π) (hL : LB π κ) (k : Q (some (.int (nI (mk fun g => decide (g < π 1 0) && decide (κ 11 g 0 = ocK π κ g))))) z I) : ∀ (r g : Nat), g + r = π 1 0 → E mX4_holdingGates mc ms 4 [some (.ref m), some (.ref p), some (.int (nI (mk fun i => decide (i < g) && decide (κ 11 i 0 = ocK π κ i)))), some (.int (nI g))] [] z I Q := by
  intro r
  have hw1 := hW.2.1
  induction r with
  | zero =>
    intro g hg
    refine B_X4_holdingGates_4 hm hp ?_
    rw [hPl.2.1]
    have e : g = π 1 0 := by omega
    subst e
    exact pk_le (π 1 0) (π 1 0) (fun _ => k) (fun h => absurd h (by omega))
  | succ r ih =>
    intro g hg
    have hs : nI g + 1 = nI (g + 1) := nI_1 g
    have hgg : g < π 1 0 := by omega
    refine B_X4_holdingGates_4 hm hp ?_
    rw [hPl.2.1]
    refine pk_le (π 1 0) g (fun h => absurd h (by omega)) (fun _ => ⟨g, rfl, by omega, ?_⟩)
    refine C_outcomeOf hm hp hX hPl hW hL hgg ?_
    have ho := ocK_lt hW hL hgg
    have hd := hL.2 g hgg
    rw [hX.2.2.1.1 g hgg]
    refine B_X4_holdingGates_24 hm hp ?_
    rw [hs]
    refine pk_ne (κ 11 g 0) (ocK π κ g) (fun h => ?_) (fun h v1 e1 => ?_)
    · rw [mk_ext (P' := fun i => decide (i < g + 1) && decide (κ 11 i 0 = ocK π κ i)) (fun i hi => by
        by_cases e : i = g
        · subst e; simp [h]
        · have : (i < g) ↔ (i < g + 1) := by omega
          simp [this])]
      exact ih (g + 1) (by omega)
    · rw [sh1 _ (by omega), mk_or _ (by omega), mk_ext (P' := fun i => decide (i < g + 1) && decide (κ 11 i 0 = ocK π κ i)) (fun i hi => by
        by_cases e : i = g
        · subst e; simp [h]
        · have : (i < g) ↔ (i < g + 1) := by omega
          simp [this, e])] at e1
      subst e1
      exact ih (g + 1) (by omega)
theorem C_holdingGates (hm : isM z m) (hp : isP z p) (hX : hM I m π κ) (hPl : hP I p π) (hW : WP π) (hL : LB π κ) (k : Q (some (.int (nI (mk fun g => decide (g < π 1 0) && decide (κ 11 g 0 = ocK π κ g))))) z I) : E mX4_holdingGates mc ms 0 [some (.ref m), some (.ref p), none, none] [] z I Q := by
  refine B_X4_holdingGates_0 hm hp ?_
  have := L_holdingGates (mc := mc) (ms := ms) hm hp hX hPl hW hL k (π 1 0) 0 (by omega)
  rw [mk_0 (fun i _ => by simp)] at this
  exact this
end C3
