/-! ===== a cycle, mathematically ===== -/
def due (κ : Kt) (g : Nat) : Bool := decide (0 < κ 12 g 0) && decide (κ 13 g 0 = κ 0 0 0)
/-- the wires that gates below n, being due, drive -/
def tb (π : Pt) (κ : Kt) : Nat → Nat → Bool
  | 0, _ => false
  | n + 1, w => (due κ n && decide (w = π 5 n)) || tb π κ n w
theorem tkQ_f {κ : Kt} {n f : Nat} (h : f ≠ 11 ∧ f ≠ 12 ∧ f ≠ 13 ∧ f ≠ 14) : tkQ κ n f = κ f := by
  funext i j
  unfold tkQ
  split
  · rw [if_neg h.1, if_neg h.2.1, if_neg h.2.2.1, if_neg h.2.2.2]
  · rfl
theorem tkQ_i {κ : Kt} {n f i : Nat} (h : n ≤ i) : tkQ κ n f i = κ f i := by
  funext j
  unfold tkQ
  rw [if_neg (fun q => by omega)]
theorem tkQ_0 {κ : Kt} : tkQ κ 0 = κ := by
  funext f i j
  unfold tkQ
  rw [if_neg (fun q => by omega)]
theorem due_iff {κ : Kt} {g : Nat} : due κ g = true ↔ 0 < κ 12 g 0 ∧ κ 13 g 0 = κ 0 0 0 := by unfold due; simp
theorem tkQ_no {κ : Kt} {n : Nat} (h : due κ n = false) : tkQ κ (n + 1) = tkQ κ n := by
  have h' : ¬ (0 < κ 12 n 0 ∧ κ 13 n 0 = κ 0 0 0) := fun q => by rw [due_iff.mpr q] at h; cases h
  funext f i j
  unfold tkQ
  by_cases e : i = n
  · subst e
    rw [if_neg (fun q => h' q.2), if_neg (fun q => h' q.2)]
  · by_cases hi : i < n
    · simp only [hi, show i < n + 1 by omega]
    · rw [if_neg (fun q => by omega), if_neg (fun q => hi q.1)]
theorem tkQ_yes {κ : Kt} {n : Nat} (h : due κ n = true) (f i j : Nat) : tkQ κ (n + 1) f i j = if i = n then (if f = 11 then κ 14 n 0 else if f = 12 then κ 12 n 0 - 1 else if f = 13 then κ 13 n (j + 1) else if f = 14 then κ 14 n (j + 1) else κ f n j) else tkQ κ n f i j := by
  have h' := due_iff.mp h
  by_cases e : i = n
  · subst e
    rw [if_pos rfl]
    unfold tkQ
    rw [if_pos ⟨by omega, h'⟩]
  · rw [if_neg e]
    unfold tkQ
    by_cases hi : i < n
    · simp only [hi, show i < n + 1 by omega]
    · rw [if_neg (fun q => by omega), if_neg (fun q => hi q.1)]
theorem tkQ_cnt {κ : Kt} {n i : Nat} : tkQ κ n 12 i 0 ≤ κ 12 i 0 := by
  unfold tkQ
  split
  · simp
  · exact Nat.le_refl _
theorem tkH_f {κ : Kt} {f : Nat} (h : f ≠ 3 ∧ f ≠ 15 ∧ f ≠ 16 ∧ f ≠ 17) : tkH κ f = κ f := by
  funext i j
  unfold tkH
  rw [if_neg (fun q => h.1 q.1), if_neg h.2.1, if_neg h.2.2.1, if_neg h.2.2.2]
def chB (κ : Kt) (t : Nat → Nat) (P : Nat → Bool) : Kt := chA κ t (fun i => P i = true)
theorem chB_f {κ : Kt} {t : Nat → Nat} {P : Nat → Bool} {f : Nat} (h : f ≠ 4 ∧ f ≠ 5 ∧ f ≠ 6 ∧ f ≠ 7 ∧ f ≠ 9 ∧ f ≠ 10) : chB κ t P f = κ f := by
  funext i j
  unfold chB chA
  simp [h.1, h.2.1, h.2.2.1, h.2.2.2.1, h.2.2.2.2.1, h.2.2.2.2.2]
theorem chB_i {κ : Kt} {t : Nat → Nat} {P : Nat → Bool} {f i : Nat} (h : P i = false) : chB κ t P f i = κ f i := by
  funext j
  unfold chB chA
  simp [h]
theorem chB_none {κ : Kt} {t : Nat → Nat} {P : Nat → Bool} (h : ∀ i, P i = false) : chB κ t P = κ := by
  funext f i
  exact chB_i (h i)
def chX (κ : Kt) (l i f j : Nat) : Nat := if f = 4 then l else if f = 5 then min (κ 5 i 0 + 1) 9999 else if f = 6 then κ 0 0 0 + 1 else if f = 7 then (if κ 6 i 0 = κ 0 0 0 + 1 then 1 else κ 7 i 0) else if f = 9 then (if j = 0 then κ 0 0 0 else κ 9 i (j - 1)) else if f = 10 then (if j = 0 then l else κ 10 i (j - 1)) else κ f i j
theorem chB_def {κ : Kt} {t : Nat → Nat} {P : Nat → Bool} {f i j : Nat} : chB κ t P f i j = if P i = true ∧ t i ≠ κ 4 i 0 then chX κ (t i) i f j else κ f i j := rfl
theorem ch1_def {κ : Kt} {w l f i j : Nat} : ch1 κ w l f i j = if i = w ∧ l ≠ κ 4 i 0 then chX κ l i f j else κ f i j := rfl
theorem chX_eq {κ κ' : Kt} {l i f j : Nat} (h0 : κ' 0 = κ 0) (h : ∀ f, κ' f i = κ f i) : chX κ' l i f j = chX κ l i f j := by
  unfold chX
  rw [h0, h 5, h 6, h 7, h 9, h 10, h f]
theorem chB_step {κ : Kt} {t : Nat → Nat} {P : Nat → Bool} {v : Nat} (h : P v = false) : ch1 (chB κ t P) v (t v) = chB κ t (fun i => decide (i = v) || P i) := by
  have h0 : chB κ t P 0 = κ 0 := chB_f (by omega)
  have hv : ∀ f, chB κ t P f v = κ f v := fun f => chB_i h
  funext f i j
  by_cases e : i = v
  · subst e
    rw [ch1_def, chB_def (P := fun q => decide (q = i) || P q), hv 4, hv f, chX_eq h0 hv]
    simp
  · rw [ch1_i e, chB_def, chB_def]
    simp only [e, decide_false, Bool.false_or]
/-- only those that differ count -/
theorem chB_eq {κ : Kt} {t : Nat → Nat} {P P' : Nat → Bool} (h : ∀ i, t i ≠ κ 4 i 0 → P i = P' i) : chB κ t P = chB κ t P' := by
  funext f i j
  show (if P i = true ∧ t i ≠ κ 4 i 0 then _ else _) = (if P' i = true ∧ t i ≠ κ 4 i 0 then _ else _)
  by_cases hc : t i ≠ κ 4 i 0
  · rw [h i hc]
  · rw [if_neg (fun q => hc q.2), if_neg (fun q => hc q.2)]
def hdu (κ : Kt) : Bool := decide (0 < κ 3 0 0) && decide (κ 15 0 0 = κ 0 0 0)
theorem hdu_iff {κ : Kt} : hdu κ = true ↔ 0 < κ 3 0 0 ∧ κ 15 0 0 = κ 0 0 0 := by unfold hdu; simp
/-- behind what is taken -/
def cy2 (π : Pt) (κ : Kt) : Kt := if hdu κ = true then tkH (tkQ κ (π 1 0)) else tkQ κ (π 1 0)
/-- what each wire becomes -/
def tgt (π : Pt) (κ : Kt) (w : Nat) : Nat := if 0 < dc π w (π 1 0) then dl π (tkQ κ (π 1 0)) w 8 (π 1 0) else if hdu κ = true ∧ w = κ 16 0 0 then κ 17 0 0 else κ 4 w 0
def chd (π : Pt) (κ : Kt) (w : Nat) : Bool := decide (w < π 0 0) && decide (tgt π κ w ≠ κ 4 w 0)
def cy3 (π : Pt) (κ : Kt) : Kt := ku (chB (cy2 π κ) (tgt π κ) (fun i => decide (i < π 0 0))) 1 (min (κ 1 0 0 + 1) 99999)
def cy (π : Pt) (κ : Kt) : Kt := tlA π (wk π (chd π κ)) (cy3 π κ) (π 1 0)
theorem cy2_f {π : Pt} {κ : Kt} {f : Nat} (h : f ≠ 3 ∧ f ≠ 15 ∧ f ≠ 16 ∧ f ≠ 17 ∧ f ≠ 11 ∧ f ≠ 12 ∧ f ≠ 13 ∧ f ≠ 14) : cy2 π κ f = κ f := by
  unfold cy2
  split
  · rw [tkH_f (by omega), tkQ_f (by omega)]
  · rw [tkQ_f (by omega)]
theorem cy2_q {π : Pt} {κ : Kt} {f : Nat} (h : f ≠ 3 ∧ f ≠ 15 ∧ f ≠ 16 ∧ f ≠ 17) : cy2 π κ f = tkQ κ (π 1 0) f := by
  unfold cy2
  split
  · rw [tkH_f (by omega)]
  · rfl
/-! the class takes what is due -/
section C5
variable {mc ms : Nat} {z : Zt} {I : It} {Q : Option Value → Zt → It → Prop} {m p : Nat} {π : Pt} {κ : Kt}
theorem hM.tk {g : Nat} {J J3 J' : It} (h : hM J m π (tkQ κ g)) (hg : g < π 1 0) (hg8 : π 1 0 ≤ 8) (hc : WQ π κ) (hd : due κ g = true) (e3 : J3 = e_st J (m + 7) g (nI (κ 14 g 0))) (hdr : dF m g 1 (κ 12 g 0) J3 J') : FrM m J J' ∧ hM J' m π (tkQ κ (g + 1)) := by
  obtain ⟨x1, x2, x3, x4⟩ := h
  have ro : ∀ a, a ≠ m + 7 → a ≠ m + 8 → a ≠ m + 9 → a ≠ m + 10 → J' a = J a := fun a a7 a8 a9 a10 => by rw [hdr.1 a a8 a9 a10, e3, e_st_a a7]
  have r7 : J' (m + 7) = upd (J (m + 7)) g (nI (κ 14 g 0)) := by rw [hdr.1 _ (by omega) (by omega) (by omega), e3, e_st_row]
  have r8 : J' (m + 8) = upd (J (m + 8)) g (nI (κ 12 g 0 - 1)) := by rw [hdr.2.1, e3, e_st_a (by omega)]
  have h9 : J3 (m + 9) = J (m + 9) := by rw [e3, e_st_a (by omega)]
  have h10 : J3 (m + 10) = J (m + 10) := by rw [e3, e_st_a (by omega)]
  have hdu := due_iff.mp hd
  have kf : ∀ f, f ≠ 11 ∧ f ≠ 12 ∧ f ≠ 13 ∧ f ≠ 14 → tkQ κ (g + 1) f = tkQ κ g f := fun f hf => by rw [tkQ_f hf, tkQ_f hf]
  refine ⟨fun a ha => ro a (by omega) (by omega) (by omega) (by omega), x1.to (ro _ (by omega) (by omega) (by omega) (by omega)) (by rw [kf _ (by omega)]) (by rw [kf _ (by omega)]) (by rw [kf _ (by omega)]) (by rw [kf _ (by omega)]), x2.to (by rw [ro _ (by omega) (by omega) (by omega) (by omega)]) (ro _ (by omega) (by omega) (by omega) (by omega)) (ro _ (by omega) (by omega) (by omega) (by omega)) (ro _ (by omega) (by omega) (by omega) (by omega)) (ro _ (by omega) (by omega) (by omega) (by omega)) (ro _ (by omega) (by omega) (by omega) (by omega)) (ro _ (by omega) (by omega) (by omega) (by omega)) (kf _ (by omega)) (kf _ (by omega)) (kf _ (by omega)) (kf _ (by omega)) (kf _ (by omega)) (kf _ (by omega)), ⟨fun i hi => ?_, fun i hi => ?_, fun i hi q hq => ?_⟩, x4.to (ro _ (by omega) (by omega) (by omega) (by omega)) (ro _ (by omega) (by omega) (by omega) (by omega)) (ro _ (by omega) (by omega) (by omega) (by omega)) (by rw [kf _ (by omega)]) (kf _ (by omega)) (kf _ (by omega)) (kf _ (by omega))⟩
  · rw [r7, tkQ_yes hd]
    by_cases e : i = g
    · subst e; rw [pk_us, if_pos rfl]; rfl
    · rw [pk_un e, if_neg e]; exact x3.1 i hi
  · rw [r8, tkQ_yes hd]
    by_cases e : i = g
    · subst e; rw [pk_us, if_pos rfl]; rfl
    · rw [pk_un e, if_neg e]; exact x3.2.1 i hi
  · rw [tkQ_yes hd] at hq
    rw [tkQ_yes hd, tkQ_yes hd]
    by_cases e : i = g
    · subst e
      rw [if_pos rfl] at hq
      have hq : q < κ 12 i 0 - 1 := hq
      rw [(hdr.2.2.2 q hq).1, (hdr.2.2.2 q hq).2, h9, h10]
      have := x3.2.2 i hi (q + 1) (by rw [tkQ_i (Nat.le_refl _)]; omega)
      rw [tkQ_i (Nat.le_refl _), tkQ_i (Nat.le_refl _)] at this
      simpa [Nat.add_assoc] using this
    · rw [if_neg e] at hq
      rw [if_neg e, if_neg e]
      have h8 := (hc i hi).1
      have hle := tkQ_cnt (κ := κ) (n := g) (i := i)
      have hb : 8 * i + q < 8 * g ∨ 8 * g + 8 ≤ 8 * i + q := by omega
      rw [(hdr.2.2.1 _ hb).1, (hdr.2.2.1 _ hb).2, h9, h10]
      exact x3.2.2 i hi q hq
theorem L_takeFromQueues (hm : isM z m) (hp : isP z p) (hpm : p + 7 < m) (hPl : hP I p π) (hW : WP π) (hQ : WQ π κ) (hB : κ 0 0 0 + 20 < 2 ^ 31) (k : ∀ I', FrM m I I' → hM I' m π (tkQ κ (π 1 0)) → Q (some (.int (nI (mk (tb π κ (π 1 0)))))) z I') : ∀ (r g : Nat) (J : It), g + r = π 1 0 → FrM m I J → hM J m π (tkQ κ g) → E mX4_takeFromQueues mc ms 4 [some (.ref m), some (.ref p), some (.int (nI (mk (tb π κ g)))), some (.int (nI g))] [] z J Q := by
  intro r
  have hw1 := hW.2.1
  have hw0 := hW.1
  induction r with
  | zero =>
    intro g J hg hf h
    have hPJ := hPl.to hf hpm
    refine B_X4_takeFromQueues_4 hm hp ?_
    rw [hPJ.2.1]
    have e : g = π 1 0 := by omega
    subst e
    exact pk_le (π 1 0) (π 1 0) (fun _ => k J hf h) (fun h => absurd h (by omega))
  | succ r ih =>
    intro g J hg hf h
    have hPJ := hPl.to hf hpm
    have hs : nI g + 1 = nI (g + 1) := nI_1 g
    have hgg : g < π 1 0 := by omega
    obtain ⟨w2, w3, w4, w5, w6, w7⟩ := hW.2.2 g hgg
    obtain ⟨q1, q2, q3⟩ := hQ g hgg
    have hno : due κ g = false → E mX4_takeFromQueues mc ms 4 [some (.ref m), some (.ref p), some (.int (nI (mk (tb π κ g)))), some (.int (nI (g + 1)))] [] z J Q := fun hd => by
      have e : mk (tb π κ g) = mk (tb π κ (g + 1)) := mk_ext fun i _ => by simp [tb, hd]
      rw [e]
      exact ih (g + 1) J (by omega) hf (by rw [tkQ_no hd]; exact h)
    have hcn : J (m + 8) g = nI (κ 12 g 0) := by rw [h.2.2.1.2.1 g (by omega), tkQ_i (Nat.le_refl _)]
    refine B_X4_takeFromQueues_4 hm hp ?_
    rw [hPJ.2.1]
    refine pk_le (π 1 0) g (fun h => absurd h (by omega)) (fun _ => ⟨g, rfl, by omega, ?_⟩)
    rw [hcn, hs]
    refine pk_le (κ 12 g 0) 0 (fun h0 => ?_) (fun h0 => ⟨8 * g, by rw [Nat.mul_comm]; exact pk_mul g 8, by omega, ?_⟩)
    · exact hno (by unfold due; simp; omega)
    · have hv := h.2.2.1.2.2 g hgg 0 (by rw [tkQ_i (Nat.le_refl _)]; exact h0)
      rw [tkQ_i (Nat.le_refl _), tkQ_i (Nat.le_refl _)] at hv
      simp only [Nat.add_zero] at hv
      have ht : J m 0 = nI (κ 0 0 0) := by rw [h.1.1, tkQ_f (by omega)]
      have hq := q2 0 h0
      rw [ht, hv.1, hv.2]
      refine pk_lt (κ 0 0 0) (κ 13 g 0) (fun h1 => ?_) (fun h1 I3 e3 => ?_)
      · exact hno (by unfold due; simp; omega)
      · have hd : due κ g = true := due_iff.mpr ⟨h0, by omega⟩
        refine C_dropFirst (c := 1) hm (by omega) q1 (by omega) (by rw [e3, e_st_a (by omega)]; exact hcn) (fun J' hdr => ?_)
        obtain ⟨hf', h'⟩ := h.tk hgg hw1 hQ hd e3 hdr
        have hPJ' := hPJ.to hf' hpm
        refine B_X4_takeFromQueues_58 hm hp ⟨g, rfl, by omega, fun v2 e2 => ?_⟩
        rw [(hPJ'.2.2 g hgg).2.2.2.1, sh1 _ (by omega), mk_or _ (by omega)] at e2
        have e : (mk fun i => decide (i = π 5 g) || tb π κ g i) = mk (tb π κ (g + 1)) := mk_ext fun i _ => by simp [tb, hd]
        rw [e] at e2
        subst e2
        rw [hs]
        exact ih (g + 1) J' (by omega) (hf.tr hf') h'
theorem C_takeFromQueues (hm : isM z m) (hp : isP z p) (hpm : p + 7 < m) (hX : hM I m π κ) (hPl : hP I p π) (hW : WP π) (hQ : WQ π κ) (hB : κ 0 0 0 + 20 < 2 ^ 31) (k : ∀ I', FrM m I I' → hM I' m π (tkQ κ (π 1 0)) → Q (some (.int (nI (mk (tb π κ (π 1 0)))))) z I') : E mX4_takeFromQueues mc ms 0 [some (.ref m), some (.ref p), none, none] [] z I Q := by
  refine B_X4_takeFromQueues_0 hm hp ?_
  have := L_takeFromQueues (mc := mc) (ms := ms) hm hp hpm hPl hW hQ hB k (π 1 0) 0 I (by omega) FrM.rf (by rw [tkQ_0]; exact hX)
  rw [mk_0 (P := tb π κ 0) (fun i _ => rfl)] at this
  exact this
/-- what waits by hand is in order -/
def WH (π : Pt) (κ : Kt) : Prop := κ 3 0 0 ≤ 8 ∧ (∀ k, k < κ 3 0 0 → κ 0 0 0 ≤ κ 15 k 0 ∧ κ 15 k 0 ≤ κ 0 0 0 + 20 ∧ κ 16 k 0 < π 0 0 ∧ dc π (κ 16 k 0) (π 1 0) = 0 ∧ κ 17 k 0 < 4) ∧ ∀ k, k + 1 < κ 3 0 0 → κ 15 k 0 ≤ κ 15 (k + 1) 0
theorem L_takeByHand (hm : isM z m) {κ : Kt} (hX : hM I m π κ) (hW : WP π) (hB : WB π κ) (hT : κ 0 0 0 + 1 < 2147483647) (h0 : 0 < κ 3 0 0) (h8 : κ 3 0 0 ≤ 8) (hw : κ 16 0 0 < π 0 0) (hl : κ 17 0 0 < 4) (k : ∀ I', FrM m I I' → hM I' m π (ch1 (tkH κ) (κ 16 0 0) (κ 17 0 0)) → Q (some (.int (nI (if κ 17 0 0 = κ 4 (κ 16 0 0) 0 then 0 else 2 ^ κ 16 0 0)))) z I') : ∀ (r i : Nat) (J : It), i + r = κ 3 0 0 - 1 → (∀ a, a ≠ m → a ≠ m + 11 → a ≠ m + 12 → a ≠ m + 13 → J a = I a) → (∀ q, q ≠ 14 → J m q = I m q) → J m 14 = nI (κ 3 0 0 - 1) → (∀ q, i ≤ q → J (m + 11) q = I (m + 11) q ∧ J (m + 12) q = I (m + 12) q ∧ J (m + 13) q = I (m + 13) q) → (∀ q, q < i → J (m + 11) q = I (m + 11) (q + 1) ∧ J (m + 12) q = I (m + 12) (q + 1) ∧ J (m + 13) q = I (m + 13) (q + 1)) →
    E mX4_takeByHand mc ms 48 [some (.ref m), some (.int (nI (κ 16 0 0))), some (.int (nI (κ 17 0 0))), some (.int (nI i))] [] z J Q := by
  intro r
  induction r with
  | zero =>
    intro i J hi a1 a2 a3 a4 a5
    refine B_X4_takeByHand_48 hm ?_
    rw [a3]
    have e : i = κ 3 0 0 - 1 := by omega
    subst e
    refine pk_le (κ 3 0 0 - 1) (κ 3 0 0 - 1) (fun _ => ?_) (fun h => absurd h (by omega))
    obtain ⟨x1, x2, x3, x4⟩ := id hX
    have hJ : hM J m π (tkH κ) := by
      refine ⟨⟨?_, ?_, ?_, ?_⟩, x2.to (a2 3 (by decide)) (a1 _ (by omega) (by omega) (by omega) (by omega)) (a1 _ (by omega) (by omega) (by omega) (by omega)) (a1 _ (by omega) (by omega) (by omega) (by omega)) (a1 _ (by omega) (by omega) (by omega) (by omega)) (a1 _ (by omega) (by omega) (by omega) (by omega)) (a1 _ (by omega) (by omega) (by omega) (by omega)) (tkH_f (by omega)) (tkH_f (by omega)) (tkH_f (by omega)) (tkH_f (by omega)) (tkH_f (by omega)) (tkH_f (by omega)), x3.to (a1 _ (by omega) (by omega) (by omega) (by omega)) (a1 _ (by omega) (by omega) (by omega) (by omega)) (a1 _ (by omega) (by omega) (by omega) (by omega)) (a1 _ (by omega) (by omega) (by omega) (by omega)) (tkH_f (by omega)) (tkH_f (by omega)) (tkH_f (by omega)) (tkH_f (by omega)), fun q hq => ?_⟩
      · rw [a2 0 (by decide), tkH_f (by omega)]; exact x1.1
      · rw [a2 1 (by decide), tkH_f (by omega)]; exact x1.2.1
      · rw [a2 2 (by decide), tkH_f (by omega)]; exact x1.2.2.1
      · rw [a3]; rfl
      · have hq : q < κ 3 0 0 - 1 := hq
        rw [(a5 q hq).1, (a5 q hq).2.1, (a5 q hq).2.2]
        exact x4 (q + 1) (by omega)
    have hBt : WB π (tkH κ) := by
      unfold WB
      rw [tkH_f (by omega), tkH_f (by omega), tkH_f (by omega), tkH_f (by omega), tkH_f (by omega)]
      exact hB
    have hfr : FrM m I J := fun a ha => a1 a (by omega) (by omega) (by omega) (by omega)
    refine C_changeWire hm hJ hW hBt (by rw [tkH_f (by omega)]; exact hT) hw hl (fun I' hf h' => ?_)
    refine B_X4_takeByHand_110 ?_
    have := k I' (hfr.tr hf) h'
    rw [tkH_f (by omega)]
    exact this
  | succ r ih =>
    intro i J hi a1 a2 a3 a4 a5
    refine B_X4_takeByHand_48 hm ?_
    rw [a3]
    have hs : nI i + 1 = nI (i + 1) := nI_1 i
    rw [hs]
    refine pk_le (κ 3 0 0 - 1) i (fun h => absurd h (by omega)) (fun _ => ⟨i + 1, rfl, by omega, i, rfl, by omega, fun I3 e3 I4 e4 I5 e5 => ?_⟩)
    refine ih (i + 1) I5 (by omega) (fun a b0 b1 b2 b3 => ?_) (fun q hq => ?_) ?_ (fun q hq => ?_) (fun q hq => ?_)
    · rw [e5, e_st_a b3, e4, e_st_a b2, e3, e_st_a b1]; exact a1 a b0 b1 b2 b3
    · rw [e5, e_st_a (by omega), e4, e_st_a (by omega), e3, e_st_a (by omega)]; exact a2 q hq
    · rw [e5, e_st_a (by omega), e4, e_st_a (by omega), e3, e_st_a (by omega)]; exact a3
    · have := a4 q (by omega)
      refine ⟨?_, ?_, ?_⟩
      · rw [e5, e_st_a (by omega), e4, e_st_a (by omega), e3, e_st_k (by omega)]; exact this.1
      · rw [e5, e_st_a (by omega), e4, e_st_k (by omega), e3, e_st_a (by omega)]; exact this.2.1
      · rw [e5, e_st_k (by omega), e4, e_st_a (by omega), e3, e_st_a (by omega)]; exact this.2.2
    · by_cases e : q = i
      · subst e
        have := a4 (q + 1) (by omega)
        refine ⟨?_, ?_, ?_⟩
        · rw [e5, e_st_a (by omega), e4, e_st_a (by omega), e3, e_st_same]; exact this.1
        · rw [e5, e_st_a (by omega), e4, e_st_same, e3, e_st_a (by omega)]; exact this.2.1
        · rw [e5, e_st_same, e4, e_st_a (by omega), e3, e_st_a (by omega)]; exact this.2.2
      · have := a5 q (by omega)
        refine ⟨?_, ?_, ?_⟩
        · rw [e5, e_st_a (by omega), e4, e_st_a (by omega), e3, e_st_k e]; exact this.1
        · rw [e5, e_st_a (by omega), e4, e_st_k e, e3, e_st_a (by omega)]; exact this.2.1
        · rw [e5, e_st_k e, e4, e_st_a (by omega), e3, e_st_a (by omega)]; exact this.2.2
theorem C_takeByHand (hm : isM z m) (hX : hM I m π κ) (hW : WP π) (hB : WB π κ) (hH : WH π κ) (hT : κ 0 0 0 + 20 < 2147483647) (k0 : hdu κ = false → Q (some (.int (nI 0))) z I) (k : hdu κ = true → ∀ I', FrM m I I' → hM I' m π (ch1 (tkH κ) (κ 16 0 0) (κ 17 0 0)) → Q (some (.int (nI (if κ 17 0 0 = κ 4 (κ 16 0 0) 0 then 0 else 2 ^ κ 16 0 0)))) z I') : E mX4_takeByHand mc ms 0 [some (.ref m), none, none, none] [] z I Q := by
  obtain ⟨x1, x2, x3, x4⟩ := id hX
  have h8 := hH.1
  refine B_X4_takeByHand_0 hm ?_
  rw [x1.2.2.2]
  refine pk_eq (κ 3 0 0) 0 (fun h => ?_) (fun h => ?_)
  · exact k0 (by unfold hdu; simp; omega)
  · have h0 : 0 < κ 3 0 0 := by omega
    obtain ⟨y1, y2, y3⟩ := x4 0 h0
    obtain ⟨v1, v2, v3, v4, v5⟩ := hH.2.1 0 h0
    rw [y1, x1.1, y2, y3]
    refine pk_le (κ 15 0 0) (κ 0 0 0) (fun hle v1 e1 v2 e2 I3 e3 => ?_) (fun hlt => ?_)
    · subst e1 e2
      have hd : hdu κ = true := hdu_iff.mpr ⟨h0, by omega⟩
      rw [nI_dec h0] at e3
      refine L_takeByHand (I := I) hm hX hW hB (by omega) h0 h8 v3 v5 (k hd) (κ 3 0 0 - 1) 0 I3 (by omega) (fun a b0 b1 b2 b3 => by rw [e3, e_st_a b0]) (fun q hq => by rw [e3, e_st_k hq]) (by rw [e3, e_st_same]) (fun q hq => ?_) (fun q hq => absurd hq (by omega))
      rw [e3, e_st_a (by omega), e_st_a (by omega), e_st_a (by omega)]
      exact ⟨rfl, rfl, rfl⟩
    · exact k0 (by unfold hdu; simp; omega)
end C5
