/-! ===== draws ===== -/
def dS (s : Nat) : Nat := (s * 1103515245 + 12345) % 2147483648
theorem dS_lt (s : Nat) : dS s < 2147483648 := Nat.mod_lt _ (by omega)
theorem dr64 {s : Nat} (h : s < 2147483648) : (nI s).toInt64 * 1103515245 + 12345 = Int64.ofNat (s * 1103515245 + 12345) := by
  unfold nI
  rw [Int32.toInt64_ofNat' (by show (s : Int) ≤ 2147483647; omega), Int64.ofNat_add, Int64.ofNat_mul]
  rfl
theorem dr_c {s : Nat} (h : s < 2147483648) : (((nI s).toInt64 * 1103515245 + 12345) &&& 2147483647).toInt32 = nI (dS s) := by
  rw [dr64 h]
  have : Int64.ofNat (s * 1103515245 + 12345) &&& 2147483647 = Int64.ofNat (dS s) := by
    refine Int64.toBitVec_inj.1 ?_
    rw [Int64.toBitVec_and]
    show BitVec.ofNat 64 _ &&& BitVec.ofNat 64 2147483647 = BitVec.ofNat 64 _
    rw [← BitVec.ofNat_and]
    have e := Nat.and_two_pow_sub_one_eq_mod (s * 1103515245 + 12345) 31
    rw [show 2 ^ 31 - 1 = 2147483647 from rfl] at e
    rw [e]; rfl
  rw [this, Int64.toInt32_ofNat']
  rfl
theorem dr_m {s : Nat} (h : s < 2147483648) : (((nI s).toInt64 * 1103515245 + 12345) - ((nI s).toInt64 * 1103515245 + 12345) / 2147483648 * 2147483648).toInt32 = nI (dS s) := by
  rw [dr64 h]
  have e1 : (2147483648 : Int64) = Int64.ofInt 2147483648 := rfl
  rw [← Int64.ofInt_eq_ofNat, e1, ← Int64.ofInt_tdiv (by show (-9223372036854775808 : Int) ≤ _; omega) (by show _ ≤ (9223372036854775807 : Int); omega) (by show (-9223372036854775808 : Int) ≤ _; omega) (by show _ ≤ (9223372036854775807 : Int); omega), ← Int64.ofInt_mul, ← Int64.ofInt_sub, Int64.toInt32_ofInt]
  have : ((s * 1103515245 + 12345 : Nat) : Int) - Int.tdiv ((s * 1103515245 + 12345 : Nat) : Int) 2147483648 * 2147483648 = ((dS s : Nat) : Int) := by
    rw [Int.tdiv_eq_ediv_of_nonneg (by omega)]
    unfold dS
    omega
  rw [this, Int32.ofInt_eq_ofNat]
  rfl
theorem nI_div {a b : Nat} (ha : a < 2147483648) (hb : b < 2147483648) : nI a / nI b = nI (a / b) := by
  show Int32.ofNat a / Int32.ofNat b = Int32.ofNat (a / b)
  rw [← Int32.ofInt_eq_ofNat, ← Int32.ofInt_eq_ofNat, ← Int32.ofInt_tdiv (by show (-2147483648 : Int) ≤ _; omega) (by show _ ≤ (2147483647 : Int); omega) (by show (-2147483648 : Int) ≤ _; omega) (by show _ ≤ (2147483647 : Int); omega), Int.tdiv_eq_ediv_of_nonneg (by omega)]
  rw [← Int32.ofInt_eq_ofNat]
  rfl
theorem nI_rem {a b : Nat} (ha : a < 2147483648) (hb : b < 2147483648) : nI a - nI a / nI b * nI b = nI (a % b) := by
  have e : a / b * b ≤ a := Nat.div_mul_le_self a b
  rw [nI_div ha hb, pk_mul, pk_sub e]
  refine congrArg nI ?_
  have := Nat.div_add_mod a b
  rw [Nat.mul_comm] at this
  omega
theorem dr_q {s n : Nat} (h : s < 2147483648) (hn : n < 2147483648) : (nI s / 65536) - (nI s / 65536) / nI n * nI n = nI (s / 65536 % n) := by
  have e : nI s / 65536 = nI (s / 65536) := nI_div (b := 65536) h (by omega)
  rw [e]
  exact nI_rem (Nat.lt_of_le_of_lt (Nat.div_le_self _ _) h) hn
/-- the first of some that is so -/
def fw (P : Nat → Bool) : Nat → Nat → Int32
  | 0, _ => -1
  | r + 1, i => if P i = true then nI i else fw P r (i + 1)
def wrg (π : Pt) (κ : Kt) (μ : Nat → Nat → Nat) (i : Nat) : Bool := decide (κ 4 (μ 5 i) 0 ≠ μ 6 i)
def hBk (I : It) (μ : Nat → Nat → Nat) : Prop := I 304 2 = nI (μ 4 0) ∧ ∀ k, k < μ 4 0 → I 305 k = nI (μ 5 k) ∧ I 306 k = nI (μ 6 k)
def WBk (π : Pt) (μ : Nat → Nat → Nat) : Prop := μ 4 0 ≤ 20 ∧ ∀ k, k < μ 4 0 → μ 5 k < π 0 0 ∧ μ 6 k < 4
section C13
variable {mc ms : Nat} {z : Zt} {I : It} {Q : Option Value → Zt → It → Prop} {m p : Nat} {π : Pt} {κ : Kt} {μ : Nat → Nat → Nat}
theorem C_draw (hd : isDr z) {s n : Nat} (hs : I 307 0 = nI s) (h : s < 2147483648) (hn0 : 0 < n) (hn : n < 2147483648) (k : ∀ I', (∀ a, a ≠ 307 → I' a = I a) → I' 307 0 = nI (dS s) → Q (some (.int (nI (dS s / 65536 % n)))) z I') : E mX1_draw mc ms 0 [some (.ref 307), some (.int (nI n))] [] z I Q := by
  refine B_X1_draw_0 hd (fun I1 e1 => ?_)
  rw [hs, dr_c h] at e1
  have h1 : I1 307 0 = nI (dS s) := by rw [e1, e_st_same]
  rw [h1, dr_q (dS_lt s) hn]
  refine pk_le n 0 (fun q => absurd q (by omega)) (fun _ => ⟨?_, k I1 (fun a ha => by rw [e1, e_st_a ha]) h1⟩)
  rw [show (0 : Int32) = nI 0 from rfl, nI_eq (by omega) (by omega)]
  omega
theorem L_firstWrong (hk : isBk z) (hp : isP z p) (hm : isM z m) (hX : hM I m π κ) (hPl : hP I p π) (hW : WP π) (hL : LB π κ) (hB : hBk I μ) (hWB : WBk π μ) (k : Q (some (.int (fw (wrg π κ μ) (μ 4 0) 0))) z I) : ∀ r i, i + r = μ 4 0 → fw (wrg π κ μ) (μ 4 0) 0 = fw (wrg π κ μ) r i → E mX0_firstWrong mc ms 2 [some (.ref 304), some (.ref p), some (.ref m), some (.int (nI i)), none] [] z I Q := by
  intro r
  have h20 := hWB.1
  have hw0 := hW.1
  induction r with
  | zero =>
    intro i hi he
    refine B_X0_firstWrong_2 hk hp hm ?_
    rw [hB.1]
    rw [he] at k
    exact pk_le (μ 4 0) i (fun _ => k) (fun h => absurd h (by omega))
  | succ r ih =>
    intro i hi he
    obtain ⟨b1, b2⟩ := hWB.2 i (by omega)
    obtain ⟨c1, c2⟩ := hB.2 i (by omega)
    refine B_X0_firstWrong_2 hk hp hm ?_
    rw [hB.1]
    refine pk_le (μ 4 0) i (fun h => absurd h (by omega)) (fun _ => ⟨i, rfl, by omega, fun v2 e2 => ?_⟩)
    rw [c1] at e2
    subst e2
    refine pk_lt (μ 5 i) 0 (fun h => absurd h (by omega)) (fun _ => ?_)
    rw [hPl.1]
    refine pk_le (π 0 0) (μ 5 i) (fun h => absurd h (by omega)) (fun _ => ⟨μ 5 i, rfl, by omega, ?_⟩)
    rw [(hX.2.1.2 _ b1).1, c2]
    have := hL.1 _ b1
    refine pk_eq (κ 4 (μ 5 i) 0) (μ 6 i) (fun h => ?_) (fun h => ?_)
    · rw [nI_1]
      refine ih (i + 1) (by omega) ?_
      rw [he]
      show (if wrg π κ μ i = true then _ else _) = _
      unfold wrg
      rw [if_neg (by simpa using h)]
    · rw [he] at k
      have e : fw (wrg π κ μ) (r + 1) i = nI i := by
        show (if wrg π κ μ i = true then _ else _) = _
        unfold wrg
        rw [if_pos (by simpa using h)]
      rw [e] at k; exact k
theorem C_firstWrong (hk : isBk z) (hp : isP z p) (hm : isM z m) (hX : hM I m π κ) (hPl : hP I p π) (hW : WP π) (hL : LB π κ) (hB : hBk I μ) (hWB : WBk π μ) (k : Q (some (.int (fw (wrg π κ μ) (μ 4 0) 0))) z I) : E mX0_firstWrong mc ms 0 [some (.ref 304), some (.ref p), some (.ref m), none, none] [] z I Q :=
  B_X0_firstWrong_0 hk hp hm (L_firstWrong hk hp hm hX hPl hW hL hB hWB k (μ 4 0) 0 (by omega) rfl)
end C13
/-! ===== a text is begun ===== -/
def bg (π : Pt) (lv : Nat → Nat) : Kt := fun f i _ => if f = 4 then lv i else if f = 11 then lv (π 5 i) else 0
def bgn (π : Pt) (lv : Nat → Nat) : Kt := tlA π (fun _ => true) (bg π lv) (π 1 0)
section I4
variable {π : Pt} {κ : Kt} {lv : Nat → Nat}
theorem tlA_WK (hW : WP π) {W : Nat → Bool} (h : WK π κ) (h2 : κ 2 0 0 = 0) : WK π (tlA π W κ (π 1 0)) := by
  obtain ⟨hL, hQ, hB, hH, hD, hN, hC, hE, hZ⟩ := h
  obtain ⟨hQ4, hL4⟩ := tlA_WQ (W := W) hW hL hQ (π 1 0) (Nat.le_refl _)
  refine ⟨hL4, hQ4, ?_, ?_, fun w hw hd => ?_, fun g hg => ?_, ?_, ?_, fun q => ?_⟩
  · unfold WB at *
    rw [tlA_f (by omega), tlA_f (by omega), tlA_f (by omega), tlA_f (by omega), tlA_f (by omega)]; exact hB
  · unfold WH at *
    rw [tlA_f (by omega), tlA_f (by omega), tlA_f (by omega), tlA_f (by omega), tlA_f (by omega)]; exact hH
  · rw [tlA_f (by omega), hD w hw hd]
    exact (dl_congr (fun i _ => by rw [tlA_f (by omega)]) _).symm
  · rw [tlA_g _ hg]; exact hN g hg
  · rw [tlA_f (by omega)]; exact hC
  · rw [tlA_f (by omega)]; exact hE
  · rw [tlA_f (by omega)] at q; omega
theorem bg_dl {w : Nat} (hl : lv w < 4) : ∀ n, dl π (bg π lv) w 8 n = if 0 < dc π w n ∧ n ≤ 8 then lv w else dl π (bg π lv) w 8 n
  | 0 => by simp [dc]
  | n + 1 => by
    split
    next hc =>
      obtain ⟨h1, h2⟩ := hc
      have ih := bg_dl hl n
      unfold dl
      have hb : bg π lv 11 n 0 = lv (π 5 n) := rfl
      by_cases e : π 5 n = w
      · rw [if_pos ⟨e, by omega⟩, hb, e]
        have hj : dl π (bg π lv) w 8 n = lv w ∨ dl π (bg π lv) w 8 n = 2 := by
          by_cases hd : 0 < dc π w n
          · rw [if_pos ⟨hd, by omega⟩] at ih; exact Or.inl ih
          · right
            have : ∀ k, dc π w k = 0 → dl π (bg π lv) w 8 k = 2 := by
              intro k
              induction k with
              | zero => intro _; rfl
              | succ k ihk =>
                intro hk
                unfold dc at hk
                unfold dl
                by_cases e' : π 5 k = w
                · rw [if_pos e'] at hk; omega
                · rw [if_neg e'] at hk
                  rw [if_neg (fun q => e' q.1)]; exact ihk hk
            exact this n (by omega)
        rcases hj with q | q
        · rw [q]; unfold jn; rw [if_pos (Or.inr rfl)]
        · rw [q]; unfold jn; rw [if_pos (Or.inl rfl)]
      · rw [if_neg (fun q => e q.1)]
        unfold dc at h1
        rw [if_neg e] at h1
        rw [if_pos ⟨h1, by omega⟩] at ih; exact ih
    next => rfl
theorem bg_WK (hW : WP π) (hl : ∀ w, w < π 0 0 → lv w < 4) : WK π (bg π lv) := by
  have hw1 := hW.2.1
  refine ⟨⟨fun w hw => hl w hw, fun g hg => hl _ (hW.2.2 g hg).2.2.2.1⟩, fun g hg => ?_, ⟨fun w hw => ⟨hl w hw, ?_, ?_⟩, fun w hw => ?_⟩, ?_, fun w hw hd => ?_, fun g hg => rfl, ?_, ?_, fun q => ?_⟩
  · exact ⟨Nat.zero_le _, fun k hk => absurd hk (Nat.not_lt_zero _), fun k hk => absurd hk (Nat.not_lt_zero _)⟩
  · exact Nat.zero_le _
  · exact Nat.zero_le _
  · exact ⟨Nat.zero_le _, fun _ => rfl⟩
  · exact ⟨Nat.zero_le _, fun k hk => absurd hk (Nat.not_lt_zero _), fun k hk => absurd hk (Nat.not_lt_zero _)⟩
  · rw [bg_dl (hl w hw), if_pos ⟨hd, hw1⟩]; rfl
  · exact Nat.zero_le _
  · exact Nat.zero_le _
  · exact absurd q (by show ¬ (0 : Nat) = 1; omega)
theorem bgn_WK (hW : WP π) (hl : ∀ w, w < π 0 0 → lv w < 4) : WK π (bgn π lv) := tlA_WK hW (bg_WK hW hl) rfl
theorem bgn_0 : bgn π lv 0 0 0 = 0 := by unfold bgn; rw [tlA_f (by omega)]; rfl
end I4
section C14
variable {mc ms : Nat} {z : Zt} {I : It} {Q : Option Value → Zt → It → Prop} {m p : Nat} {π : Pt} {lv : Nat → Nat}
theorem L_begin2 (hm : isM z m) (hp : isP z p) (hpm : p + 7 < m) (hPl : hP I p π) (hW : WP π) (hlv : ∀ w, w < π 0 0 → I (p + 1) w = nI (lv w)) {J0 : It} (hJ0 : ∀ a, a < m → J0 a = I a) (k : ∀ J, (∀ a, a ≠ m + 7 → J a = J0 a) → (∀ i, i < π 1 0 → J (m + 7) i = nI (lv (π 5 i))) → E mX4_tellAll 0 0 0 [some (.ref m), some (.ref p), none] [] z J (fun r z' I' => E mX4_begin mc ms 109 [none, none, none] (r.toList ++ []) z' I' Q)) : ∀ (r g : Nat) (J : It), g + r = π 1 0 → (∀ a, a ≠ m + 7 → J a = J0 a) → (∀ i, i < g → J (m + 7) i = nI (lv (π 5 i))) → E mX4_begin mc ms 73 [some (.ref m), some (.ref p), some (.int (nI g))] [] z J Q := by
  intro r
  have hw1 := hW.2.1
  have hw0 := hW.1
  induction r with
  | zero =>
    intro g J hg h1 h2
    have hpJ : J p = I p := by rw [h1 p (by omega), hJ0 p (by omega)]
    refine B_X4_begin_73 hm hp ?_
    rw [hpJ, hPl.2.1]
    exact pk_le (π 1 0) g (fun _ => k J h1 (fun i hi => h2 i (by omega))) (fun h => absurd h (by omega))
  | succ r ih =>
    intro g J hg h1 h2
    have hpJ : ∀ a, a < m → J a = I a := fun a ha => by rw [h1 a (by omega), hJ0 a ha]
    have hgp := (hW.2.2 g (by omega)).2.2.2.1
    refine B_X4_begin_73 hm hp ?_
    rw [hpJ p (by omega), hPl.2.1]
    refine pk_le (π 1 0) g (fun h => absurd h (by omega)) (fun _ => ⟨g, rfl, by omega, π 5 g, ?_, by omega, fun I3 e3 => ?_⟩)
    · rw [hpJ (p + 5) (by omega)]; exact (hPl.2.2 g (by omega)).2.2.2.1
    · rw [hpJ (p + 1) (by omega), hlv _ hgp] at e3
      rw [nI_1]
      refine ih (g + 1) I3 (by omega) (fun a ha => by rw [e3, e_st_a ha]; exact h1 a ha) (fun i hi => ?_)
      by_cases e : i = g
      · subst e; rw [e3, e_st_same]
      · rw [e3, e_st_k e]; exact h2 i (by omega)
theorem L_begin1 (hm : isM z m) (hp : isP z p) (hpm : p + 7 < m) {J0 : It} (k : ∀ J, (∀ a, (a < m + 1 ∨ m + 4 < a) → J a = J0 a) → (∀ i, i < 8 → J (m + 1) i = J0 (p + 1) i ∧ J (m + 2) i = 0 ∧ J (m + 3) i = -1 ∧ J (m + 4) i = 0) → E mX4_begin mc ms 73 [some (.ref m), some (.ref p), some (.int 0)] [] z J Q) : ∀ (r w : Nat) (J : It), w + r = 8 → (∀ a, (a < m + 1 ∨ m + 4 < a) → J a = J0 a) → (∀ i, i < w → J (m + 1) i = J0 (p + 1) i ∧ J (m + 2) i = 0 ∧ J (m + 3) i = -1 ∧ J (m + 4) i = 0) → E mX4_begin mc ms 26 [some (.ref m), some (.ref p), some (.int (nI w))] [] z J Q := by
  intro r
  induction r with
  | zero =>
    intro w J hw h1 h2
    exact B_X4_begin_26 hm hp (pk_le 8 w (fun _ => k J h1 (fun i hi => h2 i (by omega))) (fun h => absurd h (by omega)))
  | succ r ih =>
    intro w J hw h1 h2
    refine B_X4_begin_26 hm hp (pk_le 8 w (fun h => absurd h (by omega)) (fun _ => ⟨w, rfl, by omega, fun I2 e2 I3 e3 I4 e4 I5 e5 => ?_⟩))
    rw [nI_1]
    refine ih (w + 1) I5 (by omega) (fun a ha => by rw [e5, e_st_a (by omega), e4, e_st_a (by omega), e3, e_st_a (by omega), e2, e_st_a (by omega)]; exact h1 a ha) (fun i hi => ?_)
    have r1 : I5 (m + 1) = upd (J (m + 1)) w (J0 (p + 1) w) := by rw [e5, e_st_a (by omega), e4, e_st_a (by omega), e3, e_st_a (by omega), e2, e_st_row, h1 (p + 1) (by omega)]
    have r2 : I5 (m + 2) = upd (J (m + 2)) w 0 := by rw [e5, e_st_a (by omega), e4, e_st_a (by omega), e3, e_st_row, e2, e_st_a (by omega)]
    have r3 : I5 (m + 3) = upd (J (m + 3)) w (-1) := by rw [e5, e_st_a (by omega), e4, e_st_row, e3, e_st_a (by omega), e2, e_st_a (by omega)]
    have r4 : I5 (m + 4) = upd (J (m + 4)) w 0 := by rw [e5, e_st_row, e4, e_st_a (by omega), e3, e_st_a (by omega), e2, e_st_a (by omega)]
    rw [r1, r2, r3, r4]
    by_cases e : i = w
    · subst e; rw [xd_same, xd_same, xd_same, xd_same]; exact ⟨rfl, rfl, rfl, rfl⟩
    · rw [xd_ne e, xd_ne e, xd_ne e, xd_ne e]; exact h2 i (by omega)
theorem C_begin (hm : isM z m) (hp : isP z p) (hpm : p + 7 < m) (hPl : hP I p π) (hW : WP π) (hlv : ∀ w, w < π 0 0 → I (p + 1) w = nI (lv w)) (hl : ∀ w, w < π 0 0 → lv w < 4) (k : ∀ I', FrM m I I' → hM I' m π (bgn π lv) → Q none z I') : E mX4_begin mc ms 0 [some (.ref m), some (.ref p), none] [] z I Q := by
  have hw0 := hW.1
  have hw1 := hW.2.1
  refine B_X4_begin_0 hm hp (fun I1 e1 I2 e2 I3 e3 I4 e4 => C_emptyQueues0 hm (fun J0 hf0 a1 a2 a3 a4 => B_X4_begin_24 hm hp ?_))
  have f4 : ∀ a, a ≠ m → I4 a = I a := fun a ha => by rw [e4, e_st_a ha, e3, e_st_a ha, e2, e_st_a ha, e1, e_st_a ha]
  have hJI : ∀ a, a < m → J0 a = I a := fun a ha => by rw [hf0 a (by omega), f4 a (by omega)]
  have s0 : J0 m 0 = 0 := by rw [a2 0 (by decide), e4, e_st_k (by decide), e3, e_st_k (by decide), e2, e_st_k (by decide), e1, e_st_same]
  have s1 : J0 m 1 = 0 := by rw [a2 1 (by decide), e4, e_st_k (by decide), e3, e_st_k (by decide), e2, e_st_same]
  have s2 : J0 m 2 = 0 := by rw [a2 2 (by decide), e4, e_st_k (by decide), e3, e_st_same]
  have s3 : J0 m 3 = 0 := by rw [a2 3 (by decide), e4, e_st_same]
  refine L_begin1 hm hp hpm (J0 := J0) (fun J1 b1 b2 => ?_) 8 0 J0 (by omega) (fun _ _ => rfl) (fun i hi => absurd hi (by omega))
  refine L_begin2 hm hp hpm hPl hW hlv (J0 := J1) (fun a ha => by rw [b1 a (by omega), hJI a ha]) (fun J2 c1 c2 => ?_) (π 1 0) 0 J1 (by omega) (fun _ _ => rfl) (fun i hi => absurd hi (by omega))
  have hX : hM J2 m π (bg π lv) := by
    refine ⟨⟨?_, ?_, ?_, ?_⟩, ⟨?_, fun w hw => ?_⟩, ⟨fun g hg => c2 g hg, fun g hg => ?_, fun g hg q hq => absurd hq (Nat.not_lt_zero _)⟩, fun q hq => absurd hq (Nat.not_lt_zero _)⟩
    · rw [c1 m (by omega), b1 m (by omega), s0]; rfl
    · rw [c1 m (by omega), b1 m (by omega), s1]; rfl
    · rw [c1 m (by omega), b1 m (by omega), s2]; rfl
    · rw [c1 m (by omega), b1 m (by omega), a3]; rfl
    · rw [c1 m (by omega), b1 m (by omega), s3]; rfl
    · obtain ⟨d1, d2, d3, d4⟩ := b2 w (by omega)
      refine ⟨?_, ?_, ?_, 0, by omega, ?_, fun q _ hq => absurd hq (Nat.not_lt_zero _)⟩
      · rw [c1 _ (by omega), d1, hJI _ (by omega), hlv w hw]; rfl
      · rw [c1 _ (by omega), d2]; rfl
      · rw [c1 _ (by omega), d3]; rfl
      · rw [c1 _ (by omega), d4]; rfl
    · rw [c1 _ (by omega), b1 _ (by omega), a4 g hg]; rfl
  have hf2 : FrM m I J2 := fun a ha => by rw [c1 a (by omega), b1 a (by omega), hf0 a ha, f4 a (by omega)]
  have hK := bg_WK hW hl
  refine C_tellAll hm hp hpm hX (hPl.to hf2 hpm) hW hK.1 hK.2.1 (by show (0 : Nat) + 20 < 2 ^ 31; omega) (fun I' hf' h' => B_X4_begin_109 (k I' (hf2.tr hf') h'))
end C14
