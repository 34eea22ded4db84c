/-! ===== the class's moments: what waits; a wire changes ===== -/
def er (κ : Kt) : Nat → Nat
  | 0 => if 0 < κ 3 0 0 then κ 15 0 0 else 2147483647
  | n + 1 => if 0 < κ 12 n 0 then (if κ 13 n 0 < er κ n then κ 13 n 0 else er κ n) else er κ n
def emq (κ : Kt) : Kt := fun f i j => if f = 12 then 0 else if f = 3 ∧ i = 0 ∧ j = 0 then 0 else κ f i j
/-- all times are small -/
def TB (π : Pt) (κ : Kt) : Prop := (∀ g, g < π 1 0 → ∀ k, k < κ 12 g 0 → κ 13 g k < 2147483647) ∧ (∀ g, g < 8 → κ 12 g 0 ≤ 8 ∧ (π 1 0 ≤ g → κ 12 g 0 = 0)) ∧ κ 3 0 0 ≤ 8 ∧ ∀ k, k < κ 3 0 0 → κ 15 k 0 < 2147483647
theorem er_le {π : Pt} {κ : Kt} (h : TB π κ) : ∀ n, n ≤ 8 → er κ n ≤ 2147483647
  | 0, _ => by
    unfold er
    split
    next h0 => have := h.2.2.2 0 h0; omega
    next => omega
  | n + 1, hn => by
    have := er_le h n (by omega)
    unfold er
    split
    · split <;> omega
    · exact this
theorem nmin {a : Nat} (b : Nat) (ha : a < 2 ^ 31) (hb : b < 2 ^ 31) : (if nI b < nI a then nI b else nI a) = nI (min a b) := by
  by_cases hq : b < a
  · rw [if_pos ((nI_ltI hb ha).mpr hq), Nat.min_eq_right (by omega)]
  · rw [if_neg (fun q => hq ((nI_ltI hb ha).mp q)), Nat.min_eq_left (by omega)]
section C4
variable {mc ms : Nat} {z : Zt} {I : It} {Q : Option Value → Zt → It → Prop} {m p : Nat} {π : Pt} {κ : Kt}
theorem L_earliest (hm : isM z m) (hX : hM I m π κ) (hT : TB π κ) (k : Q (some (.int (nI (er κ 8)))) z I) : ∀ (r g : Nat), g + r = 8 → E mX4_earliest mc ms 21 [some (.ref m), some (.int (nI (er κ g))), some (.int (nI g))] [] z I Q := by
  intro r
  induction r with
  | zero =>
    intro g hg
    have e : g = 8 := by omega
    subst e
    exact B_X4_earliest_21 hm (pk_le 8 8 (fun _ => k) (fun h => absurd h (by omega)))
  | succ r ih =>
    intro g hg
    have hs : nI g + 1 = nI (g + 1) := nI_1 g
    obtain ⟨h8, hz⟩ := hT.2.1 g (by omega)
    refine B_X4_earliest_21 hm (pk_le 8 g (fun h => absurd h (by omega)) (fun _ => ⟨g, rfl, by omega, ?_⟩))
    rw [hX.2.2.1.2.1 g (by omega), hs]
    refine pk_le (κ 12 g 0) 0 (fun h => ?_) (fun h => ⟨8 * g, by rw [Nat.mul_comm]; exact pk_mul g 8, by omega, fun v3 e3 => ?_⟩)
    · have e : er κ (g + 1) = er κ g := by
        have : ¬ 0 < κ 12 g 0 := by omega
        simp [er, this]
      rw [← e]; exact ih (g + 1) (by omega)
    · have hgg : g < π 1 0 := by
        rcases Nat.lt_or_ge g (π 1 0) with q | q
        · exact q
        · have := hz q; omega
      have hd := (hX.2.2.1.2.2 g hgg 0 h).1
      have ht := hT.1 g hgg 0 h
      have hl := er_le hT g (by omega)
      rw [show 8 * g = 8 * g + 0 from rfl, hd] at e3
      have e : v3 = nI (er κ (g + 1)) := by
        rw [e3]
        have : er κ (g + 1) = if κ 13 g 0 < er κ g then κ 13 g 0 else er κ g := by simp [er, h]
        rw [this]
        by_cases hc : κ 13 g 0 < er κ g
        · rw [if_pos ((nI_ltI (by omega) (by omega)).mpr hc), if_pos hc]
        · rw [if_neg (fun q => hc ((nI_ltI (by omega) (by omega)).mp q)), if_neg hc]
      rw [e]; exact ih (g + 1) (by omega)
theorem C_earliest (hm : isM z m) (hX : hM I m π κ) (hT : TB π κ) (k : Q (some (.int (nI (er κ 8)))) z I) : E mX4_earliest mc ms 0 [some (.ref m), none, none] [] z I Q := by
  refine B_X4_earliest_0 hm ?_
  rw [hX.1.2.2.2]
  have := hT.2.2.1
  refine pk_le (κ 3 0 0) 0 (fun h => ?_) (fun h v1 e1 => ?_)
  · have e : er κ 0 = 2147483647 := by
      have : ¬ 0 < κ 3 0 0 := by omega
      simp [er, this]
    have := L_earliest (mc := mc) (ms := ms) hm hX hT k 8 0 (by omega)
    rw [e] at this; exact this
  · have e : er κ 0 = κ 15 0 0 := by simp [er, h]
    rw [(hX.2.2.2 0 h).1, ← e] at e1
    subst e1
    exact L_earliest hm hX hT k 8 0 (by omega)
/-- the queues are emptied: what is so behind it -/
theorem L_emptyQueues (hm : isM z m) (k : ∀ I', FrM m I I' → (∀ a, a ≠ m → a ≠ m + 8 → I' a = I a) → (∀ q, q ≠ 14 → I' m q = I m q) → I' m 14 = 0 → (∀ g, g < 8 → I' (m + 8) g = 0) → Q none z I') : ∀ (r g : Nat) (J : It), g + r = 8 → (∀ a, a ≠ m + 8 → J a = I a) → (∀ i, i < g → J (m + 8) i = 0) → E mX4_emptyQueues mc ms 2 [some (.ref m), some (.int (nI g))] [] z J Q := by
  intro r
  induction r with
  | zero =>
    intro g J hg h1 h2
    have e : g = 8 := by omega
    subst e
    refine B_X4_emptyQueues_2 hm (pk_le 8 8 (fun _ I1 e1 => ?_) (fun h => absurd h (by omega)))
    subst e1
    refine k _ (fun a ha => ?_) (fun a ha ha' => ?_) (fun q hq => ?_) ?_ (fun i hi => ?_)
    · rw [e_st_a (by omega)]; exact h1 a (by omega)
    · rw [e_st_a ha]; exact h1 a ha'
    · rw [e_st_k hq, h1 m (by omega)]
    · rw [e_st_same]
    · rw [e_st_a (by omega)]; exact h2 i hi
  | succ r ih =>
    intro g J hg h1 h2
    refine B_X4_emptyQueues_2 hm (pk_le 8 g (fun h => absurd h (by omega)) (fun _ => ⟨g, rfl, by omega, fun I2 e2 => ?_⟩))
    rw [show nI g + 1 = nI (g + 1) from nI_1 g]
    subst e2
    refine ih (g + 1) _ (by omega) (fun a ha => ?_) (fun i hi => ?_)
    · rw [e_st_a ha]; exact h1 a ha
    · by_cases e : i = g
      · subst e; rw [e_st_same]
      · rw [e_st_k e]; exact h2 i (by omega)
theorem C_emptyQueues0 (hm : isM z m) (k : ∀ I', FrM m I I' → (∀ a, a ≠ m → a ≠ m + 8 → I' a = I a) → (∀ q, q ≠ 14 → I' m q = I m q) → I' m 14 = 0 → (∀ g, g < 8 → I' (m + 8) g = 0) → Q none z I') : E mX4_emptyQueues mc ms 0 [some (.ref m), none] [] z I Q :=
  B_X4_emptyQueues_0 hm (L_emptyQueues hm k 8 0 I (by omega) (fun _ _ => rfl) (fun _ h => absurd h (by omega)))
theorem C_emptyQueues (hm : isM z m) (hX : hM I m π κ) (k : ∀ I', FrM m I I' → hM I' m π (emq κ) → Q none z I') : E mX4_emptyQueues mc ms 0 [some (.ref m), none] [] z I Q := by
  refine C_emptyQueues0 hm (fun I' hf h1 h2 h3 h4 => k I' hf ?_)
  obtain ⟨x1, x2, x3, x4⟩ := hX
  refine ⟨⟨?_, ?_, ?_, ?_⟩, x2.to (h2 3 (by decide)) (h1 _ (by omega) (by omega)) (h1 _ (by omega) (by omega)) (h1 _ (by omega) (by omega)) (h1 _ (by omega) (by omega)) (h1 _ (by omega) (by omega)) (h1 _ (by omega) (by omega)) (by funext i j; simp [emq]) (by funext i j; simp [emq]) (by funext i j; simp [emq]) (by funext i j; simp [emq]) (by funext i j; simp [emq]) (by funext i j; simp [emq]), ⟨fun g hg => ?_, fun g hg => ?_, fun g hg q hq => ?_⟩, fun q hq => ?_⟩
  · rw [h2 0 (by decide)]; exact x1.1
  · rw [h2 1 (by decide)]; exact x1.2.1
  · rw [h2 2 (by decide)]; exact x1.2.2.1
  · rw [h3]; rfl
  · rw [h1 _ (by omega) (by omega)]; exact x3.1 g hg
  · rw [h4 g hg]; rfl
  · exact absurd hq (by simp [emq])
  · exact absurd hq (by simp [emq])
theorem last_eq {a b : Nat} (ha : a < 2147483647) (hb : b < 2147483647) : nI a - 1 = nI b ↔ a = b + 1 := by
  rcases Nat.eq_zero_or_pos a with e | e
  · subst e
    constructor
    · intro h
      have : nI 0 - 1 = -1 := by decide
      rw [this] at h
      exact absurd h.symm (nI_neg1 (by omega))
    · intro h; omega
  · rw [nI_dec e, nI_eq (by omega) (by omega)]
    omega
/-- one wire becomes l -/
def ch1 (κ : Kt) (w l : Nat) : Kt := chA κ (fun _ => l) (fun i => i = w)
theorem ch1_same {κ : Kt} {w l : Nat} (h : l = κ 4 w 0) : ch1 κ w l = κ := by
  funext f i j
  unfold ch1 chA
  split
  next q => exact absurd h (by rw [← q.1]; exact q.2)
  next => rfl
theorem ch1_f {κ : Kt} {w l f : Nat} (h : f ≠ 4 ∧ f ≠ 5 ∧ f ≠ 6 ∧ f ≠ 7 ∧ f ≠ 9 ∧ f ≠ 10) : ch1 κ w l f = κ f := by
  funext i j
  unfold ch1 chA
  simp [h.1, h.2.1, h.2.2.1, h.2.2.2.1, h.2.2.2.2.1, h.2.2.2.2.2]
theorem ch1_i {κ : Kt} {w l f i : Nat} (h : i ≠ w) : ch1 κ w l f i = κ f i := by
  funext j
  unfold ch1 chA
  simp [h]
def WB (π : Pt) (κ : Kt) : Prop := (∀ w, w < π 0 0 → κ 4 w 0 < 4 ∧ κ 5 w 0 ≤ 9999 ∧ κ 6 w 0 ≤ κ 0 0 0 + 1) ∧ ∀ w, w < 8 → κ 7 w 0 ≤ 1 ∧ (π 0 0 ≤ w → κ 7 w 0 = 0)
theorem C_changeWire37 (hm : isM z m) (hX : hM I m π κ) (hW : WP π) (hB : WB π κ) {w l : Nat} (hw : w < π 0 0) (hl : l ≠ κ 4 w 0) (hl4 : l < 4) {J : It} (hJ1 : ∀ a, a ≠ m → J a = I a) (hJ2 : ∀ q, q ≠ 3 → J m q = I m q) (hJ3 : J m 3 = nI (bsum fun i => ch1 κ w l 7 i 0)) (k : ∀ I', FrM m I I' → hM I' m π (ch1 κ w l) → Q (some (.int (nI (2 ^ w)))) z I') : E mX4_changeWire mc ms 37 [some (.ref m), some (.int (nI w)), some (.int (nI l))] [] z J Q := by
  have hw8 := hW.1
  obtain ⟨x1, x2, x3, x4⟩ := id hX
  obtain ⟨y1, y2, y3, e, he, y4, y5⟩ := x2.2 w hw
  have ht : J m 0 = nI (κ 0 0 0) := by rw [hJ2 0 (by decide)]; exact x1.1
  have hb := hB.1 w hw
  refine B_X4_changeWire_37 hm ⟨w, rfl, by omega, fun I2 e2 I3 e3 I4 e4 => ⟨8 * w + e, ?_, by omega, fun I6 e6 => ⟨8 * w + e, ?_, by omega, fun I8 e8 I9 e9 => ?_⟩⟩⟩
  · have : I4 (m + 4) w = nI e := by rw [e4, e_st_a (by omega), e3, e_st_a (by omega), e2, e_st_a (by omega), hJ1 _ (by omega), y4]
    rw [this, Nat.mul_comm, show nI w * 8 = nI (w * 8) from pk_mul w 8, nI_add]
  · have : I6 (m + 4) w = nI e := by rw [e6, e_st_a (by omega), e4, e_st_a (by omega), e3, e_st_a (by omega), e2, e_st_a (by omega), hJ1 _ (by omega), y4]
    rw [this, Nat.mul_comm, show nI w * 8 = nI (w * 8) from pk_mul w 8, nI_add]
  have h84 : I8 (m + 4) = I (m + 4) := by rw [e8, e_st_a (by omega), e6, e_st_a (by omega), e4, e_st_a (by omega), e3, e_st_a (by omega), e2, e_st_a (by omega), hJ1 _ (by omega)]
  have h32 : I3 (m + 2) = I (m + 2) := by rw [e3, e_st_a (by omega), e2, e_st_a (by omega), hJ1 _ (by omega)]
  have hc : (if 9999 < I3 (m + 2) w + 1 then 9999 else I3 (m + 2) w + 1) = nI (min (κ 5 w 0 + 1) 9999) := by
    rw [h32, y2, nI_1]
    exact nmin 9999 (by omega) (by omega)
  have hr : I8 (m + 4) w + 1 - (I8 (m + 4) w + 1) / 8 * 8 = nI ((e + 1) % 8) := by
    rw [h84, y4, nI_1]
    exact pk_rem (a := e + 1) (d := 8) (by omega) (by omega) (by omega)
  have ht4 : I4 m 0 = nI (κ 0 0 0) := by rw [e4, e_st_a (by omega), e3, e_st_a (by omega), e2, e_st_a (by omega), ht]
  rw [hr] at e9
  rw [ht4] at e6
  rw [hc] at e4
  rw [ht] at e2
  -- the rows behind it
  have r0 : I9 m = J m := by rw [e9, e_st_a (by omega), e8, e_st_a (by omega), e6, e_st_a (by omega), e4, e_st_a (by omega), e3, e_st_a (by omega), e2, e_st_a (by omega)]
  have r1 : I9 (m + 1) = upd (I (m + 1)) w (nI l) := by rw [e9, e_st_a (by omega), e8, e_st_a (by omega), e6, e_st_a (by omega), e4, e_st_a (by omega), e3, e_st_row, e2, e_st_a (by omega), hJ1 _ (by omega)]
  have r2 : I9 (m + 2) = upd (I (m + 2)) w (nI (min (κ 5 w 0 + 1) 9999)) := by rw [e9, e_st_a (by omega), e8, e_st_a (by omega), e6, e_st_a (by omega), e4, e_st_row, h32]
  have r3 : I9 (m + 3) = upd (I (m + 3)) w (nI (κ 0 0 0)) := by rw [e9, e_st_a (by omega), e8, e_st_a (by omega), e6, e_st_a (by omega), e4, e_st_a (by omega), e3, e_st_a (by omega), e2, e_st_row, hJ1 _ (by omega)]
  have r4 : I9 (m + 4) = upd (I (m + 4)) w (nI ((e + 1) % 8)) := by rw [e9, e_st_row, h84]
  have r5 : I9 (m + 5) = upd (I (m + 5)) (8 * w + e) (nI (κ 0 0 0)) := by rw [e9, e_st_a (by omega), e8, e_st_a (by omega), e6, e_st_row, e4, e_st_a (by omega), e3, e_st_a (by omega), e2, e_st_a (by omega), hJ1 _ (by omega)]
  have r6 : I9 (m + 6) = upd (I (m + 6)) (8 * w + e) (nI l) := by rw [e9, e_st_a (by omega), e8, e_st_row, e6, e_st_a (by omega), e4, e_st_a (by omega), e3, e_st_a (by omega), e2, e_st_a (by omega), hJ1 _ (by omega)]
  have ro : ∀ a, a ≠ m → a ≠ m + 1 → a ≠ m + 2 → a ≠ m + 3 → a ≠ m + 4 → a ≠ m + 5 → a ≠ m + 6 → I9 a = I a := fun a a0 a1 a2 a3 a4 a5 a6 => by rw [e9, e_st_a a4, e8, e_st_a a6, e6, e_st_a a5, e4, e_st_a a2, e3, e_st_a a1, e2, e_st_a a3, hJ1 _ a0]
  rw [sh1 w (by omega)]
  refine k I9 (fun a ha => ro a (by omega) (by omega) (by omega) (by omega) (by omega) (by omega) (by omega)) ⟨?_, ⟨?_, fun i hi => ?_⟩, x3.to (ro _ (by omega) (by omega) (by omega) (by omega) (by omega) (by omega) (by omega)) (ro _ (by omega) (by omega) (by omega) (by omega) (by omega) (by omega) (by omega)) (ro _ (by omega) (by omega) (by omega) (by omega) (by omega) (by omega) (by omega)) (ro _ (by omega) (by omega) (by omega) (by omega) (by omega) (by omega) (by omega)) (ch1_f (by omega)) (ch1_f (by omega)) (ch1_f (by omega)) (ch1_f (by omega)), x4.to (ro _ (by omega) (by omega) (by omega) (by omega) (by omega) (by omega) (by omega)) (ro _ (by omega) (by omega) (by omega) (by omega) (by omega) (by omega) (by omega)) (ro _ (by omega) (by omega) (by omega) (by omega) (by omega) (by omega) (by omega)) (by rw [ch1_f (by omega)]) (ch1_f (by omega)) (ch1_f (by omega)) (ch1_f (by omega))⟩
  · unfold hMs
    rw [r0, hJ2 0 (by decide), hJ2 1 (by decide), hJ2 2 (by decide), hJ2 14 (by decide), ch1_f (by omega), ch1_f (by omega), ch1_f (by omega), ch1_f (by omega)]
    exact x1
  · rw [r0]; exact hJ3
  · rw [r1, r2, r3, r4, r5, r6]
    by_cases ei : i = w
    · subst ei
      have hc : (i = i ∧ l ≠ κ 4 i 0) := ⟨rfl, hl⟩
      have k4 : ch1 κ i l 4 i 0 = l := by unfold ch1 chA; rw [if_pos hc]; rfl
      have k5 : ch1 κ i l 5 i 0 = min (κ 5 i 0 + 1) 9999 := by unfold ch1 chA; rw [if_pos hc]; rfl
      have k6 : ch1 κ i l 6 i 0 = κ 0 0 0 + 1 := by unfold ch1 chA; rw [if_pos hc]; rfl
      have k9 : ∀ q, ch1 κ i l 9 i q = if q = 0 then κ 0 0 0 else κ 9 i (q - 1) := fun q => by unfold ch1 chA; rw [if_pos hc]; rfl
      have k10 : ∀ q, ch1 κ i l 10 i q = if q = 0 then l else κ 10 i (q - 1) := fun q => by unfold ch1 chA; rw [if_pos hc]; rfl
      rw [k4, k5, k6, pk_us, pk_us, pk_us, pk_us]
      refine ⟨rfl, rfl, (nI_pred _).symm, (e + 1) % 8, by omega, rfl, fun q hq1 hq2 => ?_⟩
      rw [k9, k10]
      by_cases hq0 : q = 0
      · subst hq0
        rw [if_pos rfl, if_pos rfl, show 8 * i + ((e + 1) % 8 + 7 - 0) % 8 = 8 * i + e by omega, pk_us, pk_us]
        exact ⟨rfl, rfl⟩
      · rw [if_neg hq0, if_neg hq0, pk_un (by omega), pk_un (by omega), show 8 * i + ((e + 1) % 8 + 7 - q) % 8 = 8 * i + (e + 7 - (q - 1)) % 8 by omega]
        have hq3 : q < κ 5 i 0 + 1 := Nat.lt_of_lt_of_le hq2 (Nat.min_le_left _ _)
        exact y5 (q - 1) (by clear hq2; omega) (by clear hq2; omega)
    · rw [ch1_i ei, ch1_i ei, ch1_i ei, ch1_i ei, ch1_i ei, pk_un ei, pk_un ei, pk_un ei, pk_un ei]
      obtain ⟨z1, z2, z3, e', he', z4, z5⟩ := x2.2 i hi
      refine ⟨z1, z2, z3, e', he', z4, fun q hq1 hq2 => ?_⟩
      rw [pk_un (by omega), pk_un (by omega)]
      exact z5 q hq1 hq2
theorem C_changeWire (hm : isM z m) (hX : hM I m π κ) (hW : WP π) (hB : WB π κ) (hT : κ 0 0 0 + 1 < 2147483647) {w l : Nat} (hw : w < π 0 0) (hl4 : l < 4) (k : ∀ I', FrM m I I' → hM I' m π (ch1 κ w l) → Q (some (.int (nI (if l = κ 4 w 0 then 0 else 2 ^ w)))) z I') : E mX4_changeWire mc ms 0 [some (.ref m), some (.int (nI w)), some (.int (nI l))] [] z I Q := by
  have hw8 := hW.1
  obtain ⟨x1, x2, x3, x4⟩ := id hX
  obtain ⟨y1, y2, y3, -⟩ := x2.2 w hw
  have hb := hB.1 w hw
  refine B_X4_changeWire_0 hm ⟨w, rfl, by omega, ?_⟩
  rw [y1]
  refine pk_ne (κ 4 w 0) l (fun hne => ?_) (fun he => ?_)
  · have hne' : l ≠ κ 4 w 0 := fun q => hne q.symm
    rw [y3, x1.1]
    refine ⟨fun h => ?_, fun h I2 e2 => ?_⟩
    · have hq : ¬ κ 6 w 0 = κ 0 0 0 + 1 := fun q => h ((last_eq (by omega) (by omega)).mpr q)
      refine C_changeWire37 hm hX hW hB hw hne' hl4 (J := I) (fun _ _ => rfl) (fun _ _ => rfl) ?_ (fun I' hf h' => by have := k I' hf h'; rw [if_neg hne'] at this; exact this)
      rw [x2.1]
      refine congrArg nI (bsum_ext fun i _ => ?_)
      unfold ch1 chA
      split
      next q => obtain ⟨rfl, -⟩ := q; simp [hq]
      next => rfl
    · have hq := (last_eq (by omega) (by omega)).mp h
      refine C_changeWire37 hm hX hW hB hw hne' hl4 (J := I2) (fun a ha => by rw [e2, e_st_a ha]) (fun q hq => by rw [e2, e_st_k hq]) ?_ (fun I' hf h' => by have := k I' hf h'; rw [if_neg hne'] at this; exact this)
      rw [e2, e_st_same, x2.1, sh1 w (by omega), bsum_or (fun i hi => (hB.2 i hi).1) (by omega)]
      refine congrArg nI (bsum_ext fun i _ => ?_)
      unfold ch1 chA
      by_cases ei : i = w
      · subst ei; rw [if_pos rfl, if_pos ⟨rfl, hne'⟩]; simp [hq]
      · rw [if_neg ei, if_neg (fun q => ei q.1)]
  · have := k I FrM.rf (by rw [ch1_same he.symm]; exact hX)
    rw [if_pos he.symm] at this
    exact this
end C4
