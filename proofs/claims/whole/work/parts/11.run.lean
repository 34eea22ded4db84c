theorem xd_ne {f : Nat → Int32} {k k' : Nat} {v : Int32} (h : k' ≠ k) : upd f k v k' = f k' := by unfold upd; rw [if_neg h]
theorem xd_same {f : Nat → Int32} {k : Nat} {v : Int32} : upd f k v k = v := by unfold upd; rw [if_pos rfl]
/-! ===== steps up to a time ===== -/
def rk (π : Pt) (e : Nat) : Nat → Kt → Kt
  | 0, κ => κ
  | n + 1, κ => if κ 2 0 0 = 0 ∧ er κ 8 ≤ e then rk π e n (sp π κ) else κ
def rc (π : Pt) (e : Nat) : Nat → Kt → Nat
  | 0, _ => 0
  | n + 1, κ => if κ 2 0 0 = 0 ∧ er κ 8 ≤ e then rc π e n (sp π κ) + 1 else 0
def re (π : Pt) (e : Nat) (κ : Kt) : Kt := if rk π e 201 κ 2 0 0 = 0 then ku (rk π e 201 κ) 0 e else rk π e 201 κ
section I3
variable {π : Pt}
theorem rk_no {e : Nat} {κ : Kt} (h : ¬ (κ 2 0 0 = 0 ∧ er κ 8 ≤ e)) (n : Nat) : rk π e (n + 1) κ = κ ∧ rc π e (n + 1) κ = 0 := ⟨if_neg h, if_neg h⟩
theorem rk_go {e : Nat} {κ : Kt} (h : κ 2 0 0 = 0 ∧ er κ 8 ≤ e) (n : Nat) : rk π e (n + 1) κ = rk π e n (sp π κ) ∧ rc π e (n + 1) κ = rc π e n (sp π κ) + 1 := ⟨if_pos h, if_pos h⟩
theorem rk_WK (hW : WP π) {e : Nat} (he : e + 40 < 2147483647) : ∀ n κ, WK π κ → κ 0 0 0 ≤ e → WK π (rk π e n κ) ∧ rk π e n κ 0 0 0 ≤ e
  | 0, κ, h, h0 => ⟨h, h0⟩
  | n + 1, κ, h, h0 => by
    unfold rk
    split
    next hc => exact rk_WK hW he n _ (sp_WK hW h hc.1 (by omega)) (by rw [sp_time]; exact hc.2)
    next => exact ⟨h, h0⟩
theorem rk_end (hW : WP π) {e : Nat} (he : e + 40 < 2147483647) : ∀ n κ, WK π κ → κ 0 0 0 ≤ e → (κ 2 0 0 = 1 ∨ e < er κ 8 + n) → rk π e n κ 2 0 0 = 1 ∨ e < er (rk π e n κ) 8
  | 0, κ, h, h0, hn => by unfold rk; rcases hn with q | q <;> omega
  | n + 1, κ, h, h0, hn => by
    unfold rk
    by_cases hc : κ 2 0 0 = 0 ∧ er κ 8 ≤ e
    · rw [if_pos hc]
      have hs := sp_end hW h hc.1 (by omega) (by omega)
      refine rk_end hW he n _ (sp_WK hW h hc.1 (by omega)) (by rw [sp_time]; exact hc.2) ?_
      rcases hs with q | q
      · exact Or.inl q
      · right; rcases hn with q' | q' <;> omega
    · rw [if_neg hc]
      have := h.2.2.2.2.2.2.2.1
      by_cases h2 : κ 2 0 0 = 0
      · right
        rcases Nat.lt_or_ge e (er κ 8) with q | q
        · exact q
        · exact absurd ⟨h2, q⟩ hc
      · left; omega
theorem rc_le {e : Nat} : ∀ n κ, rc π e n κ ≤ n
  | 0, _ => Nat.le_refl _
  | n + 1, κ => by
    unfold rc
    split
    · have := rc_le (e := e) n (sp π κ); omega
    · omega
theorem re_WK (hW : WP π) {e : Nat} {κ : Kt} (he : e + 40 < 2147483647) (h : WK π κ) (h0 : κ 0 0 0 ≤ e) (h1 : e ≤ κ 0 0 0 + 200) : WK π (re π e κ) ∧ re π e κ 0 0 0 ≤ e := by
  obtain ⟨a, b⟩ := rk_WK hW he 201 κ h h0
  have hg := h.er_ge (by omega)
  have hE := rk_end hW he 201 κ h h0 (Or.inr (by omega))
  unfold re
  split
  next hz =>
    rw [ku_same]
    refine ⟨a.time hW b ?_, Nat.le_refl _⟩
    rcases hE with q | q <;> omega
  next => exact ⟨a, b⟩
end I3
section C8
variable {mc ms : Nat} {z : Zt} {I : It} {Q : Option Value → Zt → It → Prop} {m p : Nat} {π : Pt} {κ : Kt}
theorem L_advanceTo (hm : isM z m) (hp : isP z p) (hpm : p + 7 < m) (hPl : hP I p π) (hW : WP π) {e : Nat} (he : e + 40 < 2147483647) : ∀ (n s : Nat) (J : It) (κ : Kt), s + n = 201 → FrM m I J → hM J m π κ → WK π κ → κ 0 0 0 ≤ e → (∀ I', FrM m I I' → hM I' m π (if rk π e n κ 2 0 0 = 0 then ku (rk π e n κ) 0 e else rk π e n κ) → Q (some (.int (nI (s + rc π e n κ)))) z I') → E mX4_advanceTo mc ms 2 [some (.ref m), some (.ref p), some (.int (nI e)), some (.int (nI s))] [] z J Q := by
  intro n
  induction n with
  | zero =>
    intro s J κ hs hf h hK h0 k
    refine B_X4_advanceTo_2 hm hp (pk_lt 200 s (fun _ => ?_) (fun h => absurd h (by omega)))
    rw [h.1.2.2.1]
    have hb := hK.2.2.2.2.2.2.2.1
    unfold rk rc at k
    refine pk_ne (κ 2 0 0) 0 (fun q => ?_) (fun q I1 e1 => ?_)
    · rw [if_neg q] at k; exact k J hf h
    · rw [if_pos q] at k
      exact k I1 (hf.tr (FrM.sc e1)) (h.sc (Or.inl ⟨rfl, rfl⟩) e1)
  | succ n ih =>
    intro s J κ hs hf h hK h0 k
    have hPJ := hPl.to hf hpm
    have hTB := hK.tb (by omega)
    have hle := er_le hTB 8 (by omega)
    have hb := hK.2.2.2.2.2.2.2.1
    refine B_X4_advanceTo_2 hm hp (pk_lt 200 s (fun h => absurd h (by omega)) (fun _ => ?_))
    rw [h.1.2.2.1]
    refine pk_ne (κ 2 0 0) 0 (fun q => ?_) (fun q => C_earliest hm h hTB ?_)
    · obtain ⟨e1, e2⟩ := rk_no (π := π) (e := e) (κ := κ) (fun q' => q q'.1) n
      rw [e1, e2, if_neg q] at k
      refine pk_ne (κ 2 0 0) 0 (fun _ => k J hf h) (fun q' => absurd q' q)
    · refine B_X4_advanceTo_20 hm hp (pk_lt e (er κ 8) (fun hlt => ?_) (fun hge => ?_))
      · obtain ⟨e1, e2⟩ := rk_no (π := π) (e := e) (κ := κ) (fun q' => absurd q'.2 (by omega)) n
        rw [e1, e2, if_pos q] at k
        rw [h.1.2.2.1, q]
        exact ⟨fun q' => absurd rfl q', fun _ I1 e1 => k I1 (hf.tr (FrM.sc e1)) (h.sc (Or.inl ⟨rfl, rfl⟩) e1)⟩
      · obtain ⟨e1, e2⟩ := rk_go (π := π) (e := e) (κ := κ) ⟨q, by omega⟩ n
        rw [e1, e2] at k
        refine C_advance hm hp hpm h hPJ hW hK q (by omega) (by omega) (fun I' hf' h' => ?_)
        refine B_X4_advanceTo_29 hm hp ?_
        rw [nI_1 s]
        refine ih (s + 1) I' (sp π κ) (by omega) (hf.tr hf') h' (sp_WK hW hK q (by omega)) (by rw [sp_time]; omega) (fun I2 hf2 h2 => ?_)
        have := k I2 hf2 h2
        rw [show s + (rc π e n (sp π κ) + 1) = s + 1 + rc π e n (sp π κ) by omega] at this
        exact this
theorem C_advanceTo (hm : isM z m) (hp : isP z p) (hpm : p + 7 < m) (hX : hM I m π κ) (hPl : hP I p π) (hW : WP π) (hK : WK π κ) {e : Nat} (he : e + 40 < 2147483647) (h0 : κ 0 0 0 ≤ e) (k : ∀ I', FrM m I I' → hM I' m π (re π e κ) → Q (some (.int (nI (rc π e 201 κ)))) z I') : E mX4_advanceTo mc ms 0 [some (.ref m), some (.ref p), some (.int (nI e)), none] [] z I Q :=
  B_X4_advanceTo_0 hm hp (L_advanceTo hm hp hpm hPl hW he 201 0 I κ (by omega) FrM.rf hX hK h0 (fun I' hf h => by
    have := k I' hf h
    rw [Nat.zero_add]; exact this))
end C8
/-! ===== by hand ===== -/
def hq (t : Nat → Nat) (w : Nat) : Nat → Nat
  | 0 => 0
  | n + 1 => if t n ≤ w then n + 1 else hq t w n
theorem hq_le (t : Nat → Nat) (w n : Nat) : hq t w n ≤ n := by
  induction n with
  | zero => exact Nat.le_refl _
  | succ n ih => unfold hq; split <;> omega
def hpos (κ : Kt) (t : Nat) : Nat := hq (fun k => κ 15 k 0) t (κ 3 0 0)
def ah (κ : Kt) (w l t : Nat) : Kt := fun f i j =>
  if f = 3 ∧ i = 0 ∧ j = 0 then κ 3 0 0 + 1
  else if f = 15 then (if i < hpos κ t then κ 15 i j else if i = hpos κ t then t else κ 15 (i - 1) j)
  else if f = 16 then (if i < hpos κ t then κ 16 i j else if i = hpos κ t then w else κ 16 (i - 1) j)
  else if f = 17 then (if i < hpos κ t then κ 17 i j else if i = hpos κ t then l else κ 17 (i - 1) j)
  else κ f i j
theorem ah_f {κ : Kt} {w l t f : Nat} (h : f ≠ 3 ∧ f ≠ 15 ∧ f ≠ 16 ∧ f ≠ 17) : ah κ w l t f = κ f := by
  funext i j
  unfold ah
  rw [if_neg (fun q => h.1 q.1), if_neg h.2.1, if_neg h.2.2.1, if_neg h.2.2.2]
theorem ah_3 {κ : Kt} {w l t : Nat} : ah κ w l t 3 0 0 = κ 3 0 0 + 1 := by unfold ah; rw [if_pos ⟨rfl, rfl, rfl⟩]
theorem hq_lt {t : Nat → Nat} {w : Nat} : ∀ n, 0 < hq t w n → t (hq t w n - 1) ≤ w
  | 0, h => absurd h (by simp [hq])
  | n + 1, h => by
    unfold hq at h ⊢
    split
    next hl => simpa using hl
    next hl => rw [if_neg hl] at h; exact hq_lt n h
theorem hq_gt {t : Nat → Nat} {w : Nat} : ∀ n k, hq t w n ≤ k → k < n → w < t k
  | 0, k, _, h => by omega
  | n + 1, k, h1, h2 => by
    unfold hq at h1
    by_cases hl : t n ≤ w
    · rw [if_pos hl] at h1; omega
    · rw [if_neg hl] at h1
      by_cases e : k = n
      · subst e; omega
      · exact hq_gt n k h1 (by omega)
theorem ah_WK {π : Pt} {κ : Kt} {w l t : Nat} (h : WK π κ) (h2 : κ 2 0 0 = 0) (hn : κ 3 0 0 < 8) (hw : w < π 0 0) (hd : dc π w (π 1 0) = 0) (hl : l < 4) (ht1 : κ 0 0 0 ≤ t) (ht2 : t ≤ κ 0 0 0 + 20) : WK π (ah κ w l t) := by
  obtain ⟨hL, hQ, hB, hH, hD, hN, hC, hE, hZ⟩ := h
  have hp := hq_le (fun k => κ 15 k 0) t (κ 3 0 0)
  have hp' : hpos κ t ≤ κ 3 0 0 := hp
  refine ⟨?_, ?_, ?_, ?_, fun v hv hdv => ?_, fun g hg => ?_, ?_, ?_, fun q => ?_⟩
  · unfold LB at *; rw [ah_f (by omega), ah_f (by omega)]; exact hL
  · unfold WQ at *; rw [ah_f (by omega), ah_f (by omega), ah_f (by omega), ah_f (by omega)]; exact hQ
  · unfold WB at *; rw [ah_f (by omega), ah_f (by omega), ah_f (by omega), ah_f (by omega), ah_f (by omega)]; exact hB
  · unfold WH
    rw [ah_3, ah_f (f := 0) (by omega)]
    have e15 : ∀ i, ah κ w l t 15 i 0 = if i < hpos κ t then κ 15 i 0 else if i = hpos κ t then t else κ 15 (i - 1) 0 := fun i => by unfold ah; rw [if_neg (by omega), if_pos rfl]
    have e16 : ∀ i, ah κ w l t 16 i 0 = if i < hpos κ t then κ 16 i 0 else if i = hpos κ t then w else κ 16 (i - 1) 0 := fun i => by unfold ah; rw [if_neg (by omega), if_neg (by omega), if_pos rfl]
    have e17 : ∀ i, ah κ w l t 17 i 0 = if i < hpos κ t then κ 17 i 0 else if i = hpos κ t then l else κ 17 (i - 1) 0 := fun i => by unfold ah; rw [if_neg (by omega), if_neg (by omega), if_neg (by omega), if_pos rfl]
    refine ⟨by omega, fun k hk => ?_, fun k hk => ?_⟩
    · rw [e15, e16, e17]
      by_cases c1 : k < hpos κ t
      · rw [if_pos c1, if_pos c1, if_pos c1]; exact hH.2.1 k (by omega)
      · rw [if_neg c1, if_neg c1, if_neg c1]
        by_cases c2 : k = hpos κ t
        · rw [if_pos c2, if_pos c2, if_pos c2]; exact ⟨ht1, ht2, hw, hd, hl⟩
        · rw [if_neg c2, if_neg c2, if_neg c2]; exact hH.2.1 (k - 1) (by omega)
    · rw [e15, e15]
      by_cases c1 : k + 1 < hpos κ t
      · rw [if_pos c1, if_pos (by omega)]; exact hH.2.2 k (by omega)
      · rw [if_neg c1]
        by_cases c2 : k + 1 = hpos κ t
        · rw [if_pos c2, if_pos (by omega)]
          have := hq_lt (t := fun k => κ 15 k 0) (w := t) (κ 3 0 0) (by have : hpos κ t = hq (fun k => κ 15 k 0) t (κ 3 0 0) := rfl; omega)
          have e : hq (fun k => κ 15 k 0) t (κ 3 0 0) - 1 = k := by have : hpos κ t = hq (fun k => κ 15 k 0) t (κ 3 0 0) := rfl; omega
          rw [e] at this; exact this
        · rw [if_neg c2, if_neg (by omega)]
          by_cases c3 : k = hpos κ t
          · rw [if_pos c3]
            have := hq_gt (t := fun k => κ 15 k 0) (w := t) (κ 3 0 0) k (by have : hpos κ t = hq (fun k => κ 15 k 0) t (κ 3 0 0) := rfl; omega) (by omega)
            rw [show k + 1 - 1 = k by omega]; exact Nat.le_of_lt this
          · rw [if_neg c3]
            have := hH.2.2 (k - 1) (by omega)
            rw [show k - 1 + 1 = k by omega] at this
            rw [show k + 1 - 1 = k by omega]; exact this
  · rw [ah_f (by omega), hD v hv hdv]
    exact (dl_congr (fun i _ => by rw [ah_f (by omega)]) _).symm
  · rw [ah_f (by omega)]; exact hN g hg
  · rw [ah_f (by omega)]; exact hC
  · rw [ah_f (by omega)]; exact hE
  · rw [ah_f (by omega)] at q; omega
section C9
variable {mc ms : Nat} {z : Zt} {I : It} {Q : Option Value → Zt → It → Prop} {m p : Nat} {π : Pt} {κ : Kt}
theorem T_addByHand (hm : isM z m) (hX : hM I m π κ) {w l t : Nat} (hn : κ 3 0 0 < 8) (k : ∀ I', FrM m I I' → hM I' m π (ah κ w l t) → Q none z I') (a : Nat) (J : It) (h2 : a ≤ κ 3 0 0) (hpe : hpos κ t = a) (h4 : ∀ b, b ≠ m + 11 → b ≠ m + 12 → b ≠ m + 13 → J b = I b) (h5 : ∀ q, q < a → J (m + 11) q = I (m + 11) q ∧ J (m + 12) q = I (m + 12) q ∧ J (m + 13) q = I (m + 13) q) (h6 : ∀ q, a < q → q ≤ κ 3 0 0 → J (m + 11) q = I (m + 11) (q - 1) ∧ J (m + 12) q = I (m + 12) (q - 1) ∧ J (m + 13) q = I (m + 13) (q - 1)) : E mX4_addByHand mc ms 86 [some (.ref m), some (.int (nI w)), some (.int (nI l)), some (.int (nI t)), some (.int (nI a))] [] z J Q := by
  refine B_X4_addByHand_86 hm ⟨a, rfl, by omega, fun I2 e2 I3 e3 I4 e4 I5 e5 => ?_⟩
  have x4 := hX.2.2.2
  have r11 : I5 (m + 11) = upd (J (m + 11)) a (nI t) := by
    rw [e5, e_st_a (by omega), e4, e_st_a (by omega), e3, e_st_a (by omega), e2, e_st_row]
  have r12 : I5 (m + 12) = upd (J (m + 12)) a (nI w) := by
    rw [e5, e_st_a (by omega), e4, e_st_a (by omega), e3, e_st_row, e2, e_st_a (by omega)]
  have r13 : I5 (m + 13) = upd (J (m + 13)) a (nI l) := by
    rw [e5, e_st_a (by omega), e4, e_st_row, e3, e_st_a (by omega), e2, e_st_a (by omega)]
  have ro : ∀ b, b ≠ m → b ≠ m + 11 → b ≠ m + 12 → b ≠ m + 13 → I5 b = I b := fun b b0 b1 b2 b3 => by
    rw [e5, e_st_a (by omega), e4, e_st_a (by omega), e3, e_st_a (by omega), e2, e_st_a (by omega)]; exact h4 b b1 b2 b3
  have rm : I4 m = I m := by rw [e4, e_st_a (by omega), e3, e_st_a (by omega), e2, e_st_a (by omega)]; exact h4 m (by omega) (by omega) (by omega)
  have rs : ∀ q, q ≠ 14 → I5 m q = I m q := fun q hq => by rw [e5, e_st_k hq, rm]
  have kf : ∀ f, f ≠ 3 ∧ f ≠ 15 ∧ f ≠ 16 ∧ f ≠ 17 → ah κ w l t f = κ f := fun f hf => ah_f hf
  refine k I5 (fun b hb => ro b (by omega) (by omega) (by omega) (by omega)) ⟨⟨?_, ?_, ?_, ?_⟩, hX.2.1.to (rs 3 (by decide)) (ro _ (by omega) (by omega) (by omega) (by omega)) (ro _ (by omega) (by omega) (by omega) (by omega)) (ro _ (by omega) (by omega) (by omega) (by omega)) (ro _ (by omega) (by omega) (by omega) (by omega)) (ro _ (by omega) (by omega) (by omega) (by omega)) (ro _ (by omega) (by omega) (by omega) (by omega)) (kf _ (by omega)) (kf _ (by omega)) (kf _ (by omega)) (kf _ (by omega)) (kf _ (by omega)) (kf _ (by omega)), hX.2.2.1.to (ro _ (by omega) (by omega) (by omega) (by omega)) (ro _ (by omega) (by omega) (by omega) (by omega)) (ro _ (by omega) (by omega) (by omega) (by omega)) (ro _ (by omega) (by omega) (by omega) (by omega)) (kf _ (by omega)) (kf _ (by omega)) (kf _ (by omega)) (kf _ (by omega)), fun q hq => ?_⟩
  · rw [rs 0 (by decide), kf 0 (by omega)]; exact hX.1.1
  · rw [rs 1 (by decide), kf 1 (by omega)]; exact hX.1.2.1
  · rw [rs 2 (by decide), kf 2 (by omega)]; exact hX.1.2.2.1
  · rw [e5, e_st_same, rm, hX.1.2.2.2, ah_3]; exact nI_1 _
  · rw [ah_3] at hq
    have e15 : ah κ w l t 15 q 0 = if q < a then κ 15 q 0 else if q = a then t else κ 15 (q - 1) 0 := by unfold ah; rw [if_neg (by omega), if_pos rfl, hpe]
    have e16 : ah κ w l t 16 q 0 = if q < a then κ 16 q 0 else if q = a then w else κ 16 (q - 1) 0 := by unfold ah; rw [if_neg (by omega), if_neg (by omega), if_pos rfl, hpe]
    have e17 : ah κ w l t 17 q 0 = if q < a then κ 17 q 0 else if q = a then l else κ 17 (q - 1) 0 := by unfold ah; rw [if_neg (by omega), if_neg (by omega), if_neg (by omega), if_pos rfl, hpe]
    rw [r11, r12, r13, e15, e16, e17]
    by_cases c1 : q < a
    · rw [if_pos c1, if_pos c1, if_pos c1, xd_ne (by omega), xd_ne (by omega), xd_ne (by omega)]
      obtain ⟨y1, y2, y3⟩ := h5 q c1
      rw [y1, y2, y3]; exact x4 q (by omega)
    · rw [if_neg c1, if_neg c1, if_neg c1]
      by_cases c2 : q = a
      · subst c2
        rw [if_pos rfl, if_pos rfl, if_pos rfl, xd_same, xd_same, xd_same]; exact ⟨rfl, rfl, rfl⟩
      · rw [if_neg c2, if_neg c2, if_neg c2, xd_ne (by omega), xd_ne (by omega), xd_ne (by omega)]
        obtain ⟨y1, y2, y3⟩ := h6 q (by omega) (by omega)
        rw [y1, y2, y3]; exact x4 (q - 1) (by omega)
theorem L_addByHand (hm : isM z m) (hX : hM I m π κ) (hK : WH π κ) {w l t : Nat} (hn : κ 3 0 0 < 8) (hT : κ 0 0 0 + 20 < 2147483647) (ht : t < 2147483647) (k : ∀ I', FrM m I I' → hM I' m π (ah κ w l t) → Q none z I') : ∀ (a : Nat) (J : It), hpos κ t ≤ a → a ≤ κ 3 0 0 → hq (fun k => κ 15 k 0) t a = hpos κ t → (∀ b, b ≠ m + 11 → b ≠ m + 12 → b ≠ m + 13 → J b = I b) → (∀ q, q < a → J (m + 11) q = I (m + 11) q ∧ J (m + 12) q = I (m + 12) q ∧ J (m + 13) q = I (m + 13) q) → (∀ q, a < q → q ≤ κ 3 0 0 → J (m + 11) q = I (m + 11) (q - 1) ∧ J (m + 12) q = I (m + 12) (q - 1) ∧ J (m + 13) q = I (m + 13) (q - 1)) → E mX4_addByHand mc ms 14 [some (.ref m), some (.int (nI w)), some (.int (nI l)), some (.int (nI t)), some (.int (nI a))] [] z J Q := by
  intro a
  induction a with
  | zero =>
    intro J h1 h2 h3 h4 h5 h6
    exact B_X4_addByHand_14 hm (pk_le 0 0 (fun _ => T_addByHand hm hX hn k 0 J h2 (by omega) h4 h5 h6) (fun h => absurd h (by omega)))
  | succ a ih =>
    intro J h1 h2 h3 h4 h5 h6
    refine B_X4_addByHand_14 hm (pk_le (a + 1) 0 (fun h => absurd h (by omega)) (fun _ => ⟨a, nI_dec (by omega), by omega, ?_⟩))
    rw [(h5 a (by omega)).1, (hX.2.2.2 a (by omega)).1]
    have hta := (hK.2.1 a (by omega)).2.1
    refine pk_le (κ 15 a 0) t (fun hle => ?_) (fun hgt => ⟨a + 1, rfl, by omega, fun I3 e3 I4 e4 I5 e5 => ?_⟩)
    · refine T_addByHand hm hX hn k (a + 1) J h2 ?_ h4 h5 h6
      rw [← h3]
      unfold hq
      rw [if_pos (show κ 15 a 0 ≤ t from hle)]
    · rw [nI_m1 (by omega : 0 < a + 1)]
      have h3' : hq (fun k => κ 15 k 0) t a = hpos κ t := by
        unfold hq at h3
        rw [if_neg (by show ¬ κ 15 a 0 ≤ t; omega)] at h3; exact h3
      have hle2 := hq_le (fun k => κ 15 k 0) t a
      have r11 : I5 (m + 11) = upd (J (m + 11)) (a + 1) (J (m + 11) a) := by
        rw [e5, e_st_a (by omega), e4, e_st_a (by omega), e3, e_st_row, (h5 a (by omega)).1, (hX.2.2.2 a (by omega)).1]
      have r12 : I5 (m + 12) = upd (J (m + 12)) (a + 1) (J (m + 12) a) := by
        rw [e5, e_st_a (by omega), e4, e_st_row, e3, e_st_a (by omega)]
      have r13 : I5 (m + 13) = upd (J (m + 13)) (a + 1) (J (m + 13) a) := by
        rw [e5, e_st_row, e4, e_st_a (by omega), e3, e_st_a (by omega)]
      refine ih I5 (by omega) (by omega) h3' (fun b b1 b2 b3 => ?_) (fun q hq => ?_) (fun q hq1 hq2 => ?_)
      · rw [e5, e_st_a (by omega), e4, e_st_a (by omega), e3, e_st_a (by omega)]; exact h4 b b1 b2 b3
      · rw [r11, r12, r13, xd_ne (by omega), xd_ne (by omega), xd_ne (by omega)]; exact h5 q (by omega)
      · rw [r11, r12, r13]
        by_cases e : q = a + 1
        · subst e
          rw [xd_same, xd_same, xd_same]; exact h5 a (by omega)
        · rw [xd_ne (by omega), xd_ne (by omega), xd_ne (by omega)]; exact h6 q (by omega) hq2
theorem C_addByHand (hm : isM z m) (hX : hM I m π κ) (hK : WH π κ) {w l t : Nat} (hn : κ 3 0 0 < 8) (hT : κ 0 0 0 + 20 < 2147483647) (ht : t < 2147483647) (k : ∀ I', FrM m I I' → hM I' m π (ah κ w l t) → Q none z I') : E mX4_addByHand mc ms 0 [some (.ref m), some (.int (nI w)), some (.int (nI l)), some (.int (nI t)), none] [] z I Q := by
  refine B_X4_addByHand_0 hm ?_
  rw [hX.1.2.2.2]
  refine pk_lt (κ 3 0 0) 8 (fun _ v1 e1 => ?_) (fun h => absurd h (by omega))
  subst e1
  exact L_addByHand hm hX hK hn hT ht k (κ 3 0 0) I (hq_le _ _ _) (Nat.le_refl _) rfl (fun _ _ _ _ => rfl) (fun _ _ => ⟨rfl, rfl, rfl⟩) (fun _ h1 h2 => absurd h1 (by omega))
end C9
