/-! ===== the reference: rows, what is asked of them, a gate is told ===== -/
theorem ix2 (a b : Nat) : nI a + nI b = nI (a + b) := nI_add a b
theorem ix3 (a b c : Nat) : nI a + nI b + nI c = nI (a + b + c) := by rw [ix2, ix2]
theorem ixm (a b : Nat) : nI a * nI b = nI (a * b) := pk_mul a b
theorem ix4 (a b g : Nat) : nI a + nI b + nI 8 * nI g = nI (a + b + 8 * g) := by rw [ix2, ixm, ix2]
theorem ix5 (a b g c : Nat) : nI a + nI b + nI 8 * nI g + nI c = nI (a + b + 8 * g + c) := by rw [ix4, ix2]
theorem ix5s (a b g c d : Nat) : nI a + nI b + nI 8 * nI g + nI c + nI d = nI (a + b + 8 * g + c + d) := by rw [ix5, ix2]
theorem ix6 (g p : Nat) : nI 6 * nI g + nI p = nI (6 * g + p) := by rw [ixm, ix2]
theorem ix7 (a b c d : Nat) : nI a + nI b + nI c + nI d = nI (a + b + c + d) := by rw [ix3, ix2]
section M1
variable {mc ms : Nat} {z : Zt} {I I' J J' : It} {Q : Option Value → Zt → It → Prop} {x : Nat} {π : Pt} {κ κ' : Kt}
theorem hRs.to (h : hRs I x κ) (he : ∀ q, x ≤ q → q < x + 4 → I' 309 q = I 309 q) (k0 : κ' 0 0 0 = κ 0 0 0) (k1 : κ' 1 0 0 = κ 1 0 0) (k2 : κ' 2 0 0 = κ 2 0 0) (k3 : κ' 3 0 0 = κ 3 0 0) : hRs I' x κ' := by
  unfold hRs at *
  rw [he x (by omega) (by omega), he (x + 1) (by omega) (by omega), he (x + 2) (by omega) (by omega), he (x + 3) (by omega) (by omega), k0, k1, k2, k3]
  exact h
theorem hRw.to {n : Nat} (h : hRw I x n κ) (hn : n ≤ 8) (he : ∀ q, x + 8 ≤ q → q < x + 176 → I' 309 q = I 309 q) (k4 : κ' 4 = κ 4) (k5 : κ' 5 = κ 5) (k6 : κ' 6 = κ 6) (k7 : κ' 7 = κ 7) (k9 : κ' 9 = κ 9) (k10 : κ' 10 = κ 10) : hRw I' x n κ' := by
  intro w hw
  obtain ⟨a1, a2, a3, a4, a5, a6⟩ := h w hw
  rw [k4, k5, k6, k7, k9, k10, he (x + 8 + w) (by omega) (by omega), he (x + 16 + w) (by omega) (by omega), he (x + 24 + w) (by omega) (by omega), he (x + 32 + w) (by omega) (by omega), he (x + 40 + w) (by omega) (by omega)]
  exact ⟨a1, a2, a3, a4, a5, fun k hk1 hk2 => by rw [he (x + 48 + 8 * w + k) (by omega) (by omega), he (x + 112 + 8 * w + k) (by omega) (by omega)]; exact a6 k hk1 hk2⟩
theorem hRg.to {n : Nat} (h : hRg I x n κ) (hn : n ≤ 8) (h8 : ∀ g, g < n → κ 12 g 0 ≤ 8) (he : ∀ q, x + 176 ≤ q → q < x + 320 → I' 309 q = I 309 q) (k11 : κ' 11 = κ 11) (k12 : κ' 12 = κ 12) (k13 : κ' 13 = κ 13) (k14 : κ' 14 = κ 14) : hRg I' x n κ' := by
  intro g hg
  obtain ⟨a1, a2, a3⟩ := h g hg
  have := h8 g hg
  rw [k11, k12, k13, k14, he (x + 176 + g) (by omega) (by omega), he (x + 184 + g) (by omega) (by omega)]
  exact ⟨a1, a2, fun k hk => by rw [he (x + 192 + 8 * g + k) (by omega) (by omega), he (x + 256 + 8 * g + k) (by omega) (by omega)]; exact a3 k hk⟩
theorem hRh.to (h : hRh I x κ) (h8 : κ 3 0 0 ≤ 8) (he : ∀ q, x + 320 ≤ q → q < x + 344 → I' 309 q = I 309 q) (k3 : κ' 3 0 0 = κ 3 0 0) (k15 : κ' 15 = κ 15) (k16 : κ' 16 = κ 16) (k17 : κ' 17 = κ 17) : hRh I' x κ' := by
  intro k hk
  rw [k3] at hk
  rw [k15, k16, k17, he (x + 320 + k) (by omega) (by omega), he (x + 328 + k) (by omega) (by omega), he (x + 336 + k) (by omega) (by omega)]
  exact h k hk
/-- sizes of what waits -/
def Z8 (π : Pt) (κ : Kt) : Prop := (∀ g, g < π 1 0 → κ 12 g 0 ≤ 8) ∧ κ 3 0 0 ≤ 8
theorem hR.fr (h : hR I x π κ) (hW : WP π) (hz8 : Z8 π κ) (he : ∀ q, x ≤ q → q < x + 344 → I' 309 q = I 309 q) : hR I' x π κ :=
  ⟨h.1.to (fun q a b => he q (by omega) (by omega)) rfl rfl rfl rfl, h.2.1.to hW.1 (fun q a b => he q (by omega) (by omega)) rfl rfl rfl rfl rfl rfl, h.2.2.1.to hW.2.1 hz8.1 (fun q a b => he q (by omega) (by omega)) rfl rfl rfl rfl, h.2.2.2.to hz8.2 (fun q a b => he q (by omega) (by omega)) rfl rfl rfl rfl⟩
theorem hO.fr (h : hO I π) (he : ∀ a, a ≠ 309 → I' a = I a) : hO I' π := by
  unfold hO at *
  rw [he 308 (by decide), he 310 (by decide)]
  exact h
theorem M_comesOf (ho : isO z) (hx : x + 344 ≤ 6880) (hX : hR I x π κ) (hPl : hO I π) (hW : WP π) (hL : LB π κ) {g : Nat} (hg : g < π 1 0) (k : Q (some (.int (nI (ocK π κ g)))) z I) : E mX9_comesOf mc ms 0 [some (.ref 308), some (.int (nI x)), some (.int (nI g)), none, none] [] z I Q := by
  obtain ⟨hw0, hw1, hw⟩ := id hW
  obtain ⟨w2, w3, w4, w5, w6, w7⟩ := hw g hg
  have p2 := hPl.2.2 g hg 0 (by omega)
  have p3 := hPl.2.2 g hg 1 (by omega)
  have p4 := hPl.2.2 g hg 2 (by omega)
  have l3 := hL.1 _ w3
  have l4 := hL.1 _ w4
  have ld := hL.2 _ hg
  refine B_X9_comesOf_0 ho ⟨6 * g + 1, ix6 g 1, by omega, x + 8 + π 3 g, by rw [p3]; exact ix3 x 8 _, by omega, fun v3 e3 => ⟨6 * g + 2, ix6 g 2, by omega, x + 8 + π 4 g, by rw [p4]; exact ix3 x 8 _, by omega, fun v6 e6 => ⟨6 * g + 0, ix6 g 0, by omega, ?_⟩⟩⟩
  rw [(hX.2.1 _ w3).1] at e3
  rw [(hX.2.1 _ w4).1] at e6
  subst e3 e6
  rw [p2]
  refine pk_ne (π 2 g) 5 (fun h5 => ?_) (fun h5 => pk_ne (κ 4 (π 4 g) 0) 1 (fun h1 => ⟨x + 176 + g, ix3 x 176 g, by omega, ?_⟩) (fun h1 => ?_)) rfl rfl (by omega)
  · show Q (some (.int (f_X9_made (nI (π 2 g)) _ _))) z I
    rw [oc_m (π 2 g) (by omega) _ l3 _ l4, ← oc_d (d := κ 11 g 0) (by omega)]
    exact k
  · rw [(hX.2.2.1 g hg).1]
    have : ocK π κ g = κ 11 g 0 := by unfold ocK; rw [h5, oc_5, if_neg h1]
    rw [this] at k; exact k
  · rw [fm_m _ l3]
    have : ocK π κ g = fm (κ 4 (π 3 g) 0) := by unfold ocK; rw [h5, oc_5, if_pos h1]
    rw [this] at k; exact k
theorem M_looksAt (ho : isO z) (hPl : hO I π) (hW : WP π) {g w : Nat} (hg : g < π 1 0) (hw : w < 8) (k : Q (some (.int (if lkb π w g = true then 1 else 0))) z I) : E mX9_looksAt mc ms 0 [some (.ref 308), some (.int (nI g)), some (.int (nI w))] [] z I Q := by
  obtain ⟨hw0, hw1, hww⟩ := id hW
  obtain ⟨w2, w3, w4, w5, w6, w7⟩ := hww g hg
  have p2 := hPl.2.2 g hg 0 (by omega)
  have p3 := hPl.2.2 g hg 1 (by omega)
  have p4 := hPl.2.2 g hg 2 (by omega)
  refine B_X9_looksAt_0 ho ⟨6 * g + 1, ix6 g 1, by omega, ?_⟩
  rw [p3]
  refine pk_eq (π 3 g) w (fun h1 => ?_) (fun h1 => ⟨6 * g + 0, ix6 g 0, by omega, ?_⟩)
  · rw [if_pos (by unfold lkb; simp [h1])] at k; exact k
  · rw [p2]
    refine pk_eq (π 2 g) 0 (fun h2 => ?_) (fun h2 => ⟨6 * g + 2, ix6 g 2, by omega, ?_⟩) rfl rfl (by omega)
    · rw [if_neg (by unfold lkb; simp [h1, h2])] at k; exact k
    · rw [p4]
      refine pk_ne (π 4 g) w (fun h3 => ?_) (fun h3 => ?_) rfl rfl (by omega)
      · rw [if_neg (by unfold lkb; simp [h1, h3])] at k; exact k
      · rw [if_pos (by unfold lkb; simp [h2, h3])] at k; exact k
theorem LM_driversOf (ho : isO z) (hPl : hO I π) (hW : WP π) {w : Nat} (hw : w < 8) (k : Q (some (.int (nI (dc π w (π 1 0))))) z I) : ∀ (r g : Nat), g + r = π 1 0 → E mX9_driversOf mc ms 4 [some (.ref 308), some (.int (nI w)), some (.int (nI (dc π w g))), some (.int (nI g))] [] z I Q := by
  intro r
  have hw1 := hW.2.1
  have hw0 := hW.1
  induction r with
  | zero =>
    intro g hg
    refine B_X9_driversOf_4 ho ?_
    rw [hPl.2.1]
    have e : g = π 1 0 := by omega
    subst e
    exact pk_le (π 1 0) (π 1 0) (fun _ => k) (fun h => absurd h (by omega))
  | succ r ih =>
    intro g hg
    have p5 := hPl.2.2 g (by omega) 3 (by omega)
    have w5 := (hW.2.2 g (by omega)).2.2.2.1
    refine B_X9_driversOf_4 ho ?_
    rw [hPl.2.1]
    refine pk_le (π 1 0) g (fun h => absurd h (by omega)) (fun _ => ⟨6 * g + 3, ix6 g 3, by omega, ?_⟩)
    rw [p5]
    refine pk_ne (π 5 g) w (fun h v e => ?_) (fun h v e => ?_) rfl rfl (by omega)
    · have e' : v = nI (dc π w (g + 1)) := by rw [e]; show nI _ + nI 0 = _; rw [ix2]; exact congrArg nI (if_neg h).symm
      rw [e', nI_1]; exact ih (g + 1) (by omega)
    · have e' : v = nI (dc π w (g + 1)) := by rw [e, nI_1]; exact congrArg nI (if_pos h).symm
      rw [e', nI_1]; exact ih (g + 1) (by omega)
theorem M_driversOf (ho : isO z) (hPl : hO I π) (hW : WP π) {w : Nat} (hw : w < 8) (k : Q (some (.int (nI (dc π w (π 1 0))))) z I) : E mX9_driversOf mc ms 0 [some (.ref 308), some (.int (nI w)), none, none] [] z I Q :=
  B_X9_driversOf_0 ho (LM_driversOf ho hPl hW hw k (π 1 0) 0 (by omega))
theorem LM_drivenTo (ho : isO z) (hx : x + 344 ≤ 6880) (hX : hR I x π κ) (hPl : hO I π) (hW : WP π) (hL : LB π κ) {w but : Nat} {xb : Int32} (hw : w < 8) (hb : ∀ n, n < 8 → (nI n = xb ↔ n = but)) (k : Q (some (.int (nI (dl π κ w but (π 1 0))))) z I) : ∀ (r g : Nat), g + r = π 1 0 → E mX9_drivenTo mc ms 6 [some (.ref 308), some (.int (nI x)), some (.int (nI w)), some (.int xb), some (.int (nI (dl π κ w but g))), some (.int (nI g))] [] z I Q := by
  intro r
  have hw1 := hW.2.1
  have hw0 := hW.1
  induction r with
  | zero =>
    intro g hg
    refine B_X9_drivenTo_6 ho ?_
    rw [hPl.2.1]
    have e : g = π 1 0 := by omega
    subst e
    exact pk_le (π 1 0) (π 1 0) (fun _ => k) (fun h => absurd h (by omega))
  | succ r ih =>
    intro g hg
    have p5 := hPl.2.2 g (by omega) 3 (by omega)
    have w5 := (hW.2.2 g (by omega)).2.2.2.1
    have ih' := ih (g + 1) (by omega)
    refine B_X9_drivenTo_6 ho ?_
    rw [hPl.2.1]
    refine pk_le (π 1 0) g (fun h => absurd h (by omega)) (fun _ => ⟨fun hq => ?_, fun hq => ⟨6 * g + 3, ix6 g 3, by omega, ?_⟩⟩)
    · have hq' := (hb g (by omega)).mp hq
      have e : dl π κ w but (g + 1) = dl π κ w but g := if_neg (fun q => q.2 hq')
      rw [e] at ih'
      rw [nI_1]; exact ih'
    · have hq' : g ≠ but := fun q => hq ((hb g (by omega)).mpr q)
      rw [p5]
      refine pk_ne (π 5 g) w (fun h => ?_) (fun h => ⟨x + 176 + g, ix3 x 176 g, by omega, fun v e => ?_⟩) rfl rfl (by omega)
      · have e : dl π κ w but (g + 1) = dl π κ w but g := if_neg (fun q => h q.1)
        rw [e] at ih'
        rw [nI_1]; exact ih'
      · rw [(hX.2.2.1 g (by omega)).1, jn_m _ (dl_lt hL g (by omega)) _ (hL.2 g (by omega))] at e
        have e2 : dl π κ w but (g + 1) = jn (dl π κ w but g) (κ 11 g 0) := if_pos ⟨h, hq'⟩
        rw [e2] at ih'
        rw [e, nI_1]; exact ih'
theorem M_drivenTo (ho : isO z) (hx : x + 344 ≤ 6880) (hX : hR I x π κ) (hPl : hO I π) (hW : WP π) (hL : LB π κ) {w but : Nat} {xb : Int32} (hw : w < 8) (hb : ∀ n, n < 8 → (nI n = xb ↔ n = but)) (k : Q (some (.int (nI (dl π κ w but (π 1 0))))) z I) : E mX9_drivenTo mc ms 0 [some (.ref 308), some (.int (nI x)), some (.int (nI w)), some (.int xb), none, none] [] z I Q :=
  B_X9_drivenTo_0 ho (LM_drivenTo ho hx hX hPl hW hL hw hb k (π 1 0) 0 (by omega))
/-- only one gate's queue differs -/
def GF (x g : Nat) (I J : It) : Prop := (∀ a, a ≠ 309 → J a = I a) ∧ ∀ q, q ≠ x + 184 + g → (q < x + 192 + 8 * g ∨ x + 192 + 8 * g + 8 ≤ q) → (q < x + 256 + 8 * g ∨ x + 256 + 8 * g + 8 ≤ q) → J 309 q = I 309 q
theorem GF.rf {x g : Nat} {I : It} : GF x g I I := ⟨fun _ _ => rfl, fun _ _ _ _ => rfl⟩
theorem GF.tr {x g : Nat} {I J K : It} (h : GF x g I J) (h' : GF x g J K) : GF x g I K := ⟨fun a ha => (h'.1 a ha).trans (h.1 a ha), fun q a b c => (h'.2 q a b c).trans (h.2 q a b c)⟩
theorem GF.st {x g j : Nat} {I J : It} {v : Int32} (e : J = e_st I 309 j v) (hj : j = x + 184 + g ∨ (x + 192 + 8 * g ≤ j ∧ j < x + 192 + 8 * g + 8) ∨ (x + 256 + 8 * g ≤ j ∧ j < x + 256 + 8 * g + 8)) : GF x g I J := ⟨fun a ha => by rw [e, e_st_a ha], fun q a b c => by rw [e, e_st_k (by omega)]⟩
def qR (x g n s : Nat) (κ : Kt) (I J : It) : Prop := GF x g I J ∧ J 309 (x + 184 + g) = nI n ∧ ∀ k, k < n → J 309 (x + 192 + 8 * g + k) = nI (κ 13 g (k + s)) ∧ J 309 (x + 256 + 8 * g + k) = nI (κ 14 g (k + s))
theorem LM_dropFirst (ho : isO z) (hx : x + 344 ≤ 6880) {g c n s : Nat} (hg : g < 8) (hn : n ≤ 8) (hc : c ≤ n) (h : qR x g n s κ I J) (k : ∀ I', qR x g (n - c) (s + c) κ I I' → Q none z I') : ∀ (r i : Nat) (K : It), i + r = n - c → GF x g J K → K 309 (x + 184 + g) = J 309 (x + 184 + g) → (∀ q, i ≤ q → q < 8 → K 309 (x + 192 + 8 * g + q) = J 309 (x + 192 + 8 * g + q) ∧ K 309 (x + 256 + 8 * g + q) = J 309 (x + 256 + 8 * g + q)) → (∀ q, q < i → K 309 (x + 192 + 8 * g + q) = J 309 (x + 192 + 8 * g + q + c) ∧ K 309 (x + 256 + 8 * g + q) = J 309 (x + 256 + 8 * g + q + c)) → E mX9_dropFirst mc ms 19 [some (.ref 308), some (.int (nI x)), some (.int (nI g)), some (.int (nI c)), some (.int (nI (n - c))), some (.int (nI i))] [] z K Q := by
  intro r
  induction r with
  | zero =>
    intro i K hi hf h0 h1 h2
    refine B_X9_dropFirst_19 ho (pk_le (n - c) i (fun _ => ⟨x + 184 + g, ix3 x 184 g, by omega, fun I2 e2 => ?_⟩) (fun h => absurd h (by omega)))
    refine k I2 ⟨(h.1.tr hf).tr (GF.st e2 (Or.inl rfl)), by rw [e2, e_st_same], fun q hq => ?_⟩
    rw [e2, e_st_k (by omega), e_st_k (by omega), (h2 q (by omega)).1, (h2 q (by omega)).2]
    have := h.2.2 (q + c) (by omega)
    rw [show q + (s + c) = q + c + s by omega, Nat.add_assoc (x + 192 + 8 * g) q c, Nat.add_assoc (x + 256 + 8 * g) q c]
    exact this
  | succ r ih =>
    intro i K hi hf h0 h1 h2
    refine B_X9_dropFirst_19 ho (pk_le (n - c) i (fun h => absurd h (by omega)) (fun _ => ⟨x + 192 + 8 * g + i + c, ix5s x 192 g i c, by omega, x + 192 + 8 * g + i, ix5 x 192 g i, by omega, fun I3 e3 => ⟨x + 256 + 8 * g + i + c, ix5s x 256 g i c, by omega, x + 256 + 8 * g + i, ix5 x 256 g i, by omega, fun I6 e6 => ?_⟩⟩))
    rw [nI_1]
    have f3 := GF.st (x := x) (g := g) e3 (by omega)
    have f6 := GF.st (x := x) (g := g) e6 (by omega)
    refine ih (i + 1) I6 (by omega) ((hf.tr f3).tr f6) (by rw [e6, e_st_k (by omega), e3, e_st_k (by omega)]; exact h0) (fun q hq hq8 => ?_) (fun q hq => ?_)
    · rw [e6, e_st_k (by omega), e_st_k (by omega), e3, e_st_k (by omega), e_st_k (by omega)]; exact h1 q (by omega) hq8
    · by_cases e : q = i
      · subst e
        rw [e6, e_st_k (by omega), e_st_same, e3, e_st_same, e_st_k (by omega)]
        by_cases hc0 : c = 0
        · subst hc0; exact ⟨(h1 q (by omega) (by omega)).1, (h1 q (by omega) (by omega)).2⟩
        · have a1 := (h1 (q + c) (by omega) (by omega)).1
          have a2 := (h1 (q + c) (by omega) (by omega)).2
          rw [show x + 192 + 8 * g + (q + c) = x + 192 + 8 * g + q + c by omega] at a1
          rw [show x + 256 + 8 * g + (q + c) = x + 256 + 8 * g + q + c by omega] at a2
          exact ⟨a1, a2⟩
      · rw [e6, e_st_k (by omega), e_st_k (by omega), e3, e_st_k (by omega), e_st_k (by omega)]; exact h2 q (by omega)
theorem M_dropFirst (ho : isO z) (hx : x + 344 ≤ 6880) {g c n s : Nat} (hg : g < 8) (hn : n ≤ 8) (hc : c ≤ n) (h : qR x g n s κ I J) (k : ∀ I', qR x g (n - c) (s + c) κ I I' → Q none z I') : E mX9_dropFirst mc ms 0 [some (.ref 308), some (.int (nI x)), some (.int (nI g)), some (.int (nI c)), none, none] [] z J Q := by
  refine B_X9_dropFirst_0 ho ⟨x + 184 + g, ix3 x 184 g, by omega, fun v2 e2 => ?_⟩
  rw [h.2.1, pk_sub hc] at e2
  subst e2
  exact LM_dropFirst ho hx hg hn hc h k (n - c) 0 J (by omega) GF.rf rfl (fun _ _ _ => ⟨rfl, rfl⟩) (fun _ h => absurd h (by omega))
/-- how many go in mode 1 -/
def goL (l : Nat → Nat) (v : Nat) : Nat → Nat
  | 0 => 0
  | n + 1 => if l n = v then goL l v n else n + 1
theorem goL_eq (l : Nat → Nat) (v : Nat) : ∀ n, goL l v n = n - aL l v n
  | 0 => rfl
  | n + 1 => by
    have := goL_eq l v n
    have := aL_le l v n
    unfold goL aL
    split <;> omega
theorem XM_push (ho : isO z) (hx : x + 344 ≤ 6880) {g n1 s2 d md lv : Nat} (hg : g < 8) (hn1 : n1 = tN κ g d) (hs2 : s2 = tU κ g d md lv) (hl : n1 - s2 < 8) (h : qR x g (n1 - s2) s2 κ I J) (k : ∀ I', qR x g (te κ g d md lv 12 g 0) 0 (te κ g d md lv) I I' → Q none z I') : E mX9_tell mc ms 199 [some (.ref 308), some (.int (nI x)), some (.int (nI g)), some (.int (nI lv)), some (.int (nI (κ 0 0 0 + d))), some (.int (nI (8 * g))), none, none] [] z J Q := by
  refine B_X9_tell_199 ho ⟨x + 184 + g, ix3 x 184 g, by omega, fun v2 e2 => ?_⟩
  rw [h.2.1] at e2
  subst e2
  refine ⟨x + 192 + 8 * g + (n1 - s2), ix7 x 192 _ _, by omega, fun I4 e4 => ⟨x + 256 + 8 * g + (n1 - s2), ix7 x 256 _ _, by omega, fun I6 e6 I7 e7 => ?_⟩⟩
  rw [nI_1] at e7
  refine k I7 ⟨((h.1.tr (GF.st e4 (by omega))).tr (GF.st e6 (by omega))).tr (GF.st e7 (by omega)), ?_, fun q hq => ?_⟩
  · rw [e7, e_st_same]
    show _ = nI (te κ g d md lv 12 g 0)
    unfold te
    rw [if_pos ⟨rfl, rfl⟩, ← hn1, ← hs2]
  · have hq : q < n1 - s2 + 1 := by
      have e : te κ g d md lv 12 g 0 = n1 - s2 + 1 := by unfold te; rw [if_pos ⟨rfl, rfl⟩, ← hn1, ← hs2]
      rw [e] at hq; exact hq
    have e13 : te κ g d md lv 13 g (q + 0) = if q = n1 - s2 then κ 0 0 0 + d else κ 13 g (q + s2) := by
      unfold te; rw [if_neg (fun q => absurd q.2 (by decide)), if_pos ⟨rfl, rfl⟩, ← hn1, ← hs2]; rfl
    have e14 : te κ g d md lv 14 g (q + 0) = if q = n1 - s2 then lv else κ 14 g (q + s2) := by
      unfold te; rw [if_neg (fun q => absurd q.2 (by decide)), if_neg (fun q => absurd q.2 (by decide)), if_pos ⟨rfl, rfl⟩, ← hn1, ← hs2]; rfl
    rw [e13, e14, e7, e_st_k (by omega), e_st_k (by omega), e6, e_st_k (by omega)]
    by_cases e : q = n1 - s2
    · subst e
      rw [if_pos rfl, if_pos rfl, e_st_same, e4, e_st_same]
      exact ⟨rfl, rfl⟩
    · rw [if_neg e, if_neg e, e_st_k (by omega), e4, e_st_k (by omega), e_st_k (by omega)]
      exact h.2.2 q (by omega)
theorem XM_cap (ho : isO z) (hx : x + 344 ≤ 6880) {g n1 s1 d md lv : Nat} (hg : g < 8) (hn1 : n1 = tN κ g d) (hs1 : s1 = tS κ g d md lv) (hn : n1 ≤ 8) (hs : s1 ≤ n1) (h : qR x g (n1 - s1) s1 κ I J) (k : ∀ I', qR x g (te κ g d md lv 12 g 0) 0 (te κ g d md lv) I I' → Q none z I') : E mX9_tell mc ms 175 [some (.ref 308), some (.int (nI x)), some (.int (nI g)), some (.int (nI lv)), some (.int (nI (κ 0 0 0 + d))), some (.int (nI (8 * g))), none, none] [] z J Q := by
  refine B_X9_tell_175 ho ⟨x + 184 + g, ix3 x 184 g, by omega, ?_⟩
  rw [h.2.1]
  refine pk_ne (n1 - s1) 8 (fun hl => ?_) (fun hl => ?_)
  · refine XM_push (s2 := s1) ho hx hg hn1 ?_ (by omega) h k
    unfold tU
    rw [← hn1, ← hs1, if_neg (by omega)]
  · refine M_dropFirst (c := 1) ho hx hg (by omega) (by omega) h (fun J' h' => ?_)
    rw [show n1 - s1 - 1 = n1 - (s1 + 1) by omega] at h'
    refine XM_push (s2 := s1 + 1) ho hx hg hn1 ?_ (by omega) h' k
    unfold tU
    rw [← hn1, ← hs1, if_pos (by omega)]
theorem XM_go (ho : isO z) (hx : x + 344 ≤ 6880) {g n1 d lv : Nat} (hg : g < 8) (hn1 : n1 = tN κ g d) (hn : n1 ≤ 8) (hlv : lv < 4) (hql : ∀ k, k < n1 → κ 14 g k < 4) (h : qR x g n1 0 κ I J) (k : ∀ I', qR x g (te κ g d 1 lv 12 g 0) 0 (te κ g d 1 lv) I I' → Q none z I') : ∀ r i, i + r = n1 → E mX9_tell mc ms 113 [some (.ref 308), some (.int (nI x)), some (.int (nI g)), some (.int (nI lv)), some (.int (nI (κ 0 0 0 + d))), some (.int (nI (8 * g))), some (.int (nI (goL (κ 14 g) lv i))), some (.int (nI i))] [] z J Q := by
  intro r
  induction r with
  | zero =>
    intro i hi
    have hal := aL_le (κ 14 g) lv n1
    have hgo := goL_eq (κ 14 g) lv n1
    refine B_X9_tell_113 ho ⟨x + 184 + g, ix3 x 184 g, by omega, ?_⟩
    rw [h.2.1]
    have e : i = n1 := by omega
    subst e
    refine pk_le i i (fun _ => M_dropFirst ho hx hg hn (by omega) h (fun J' h' => ?_)) (fun h => absurd h (by omega))
    rw [Nat.zero_add] at h'
    refine XM_cap (s1 := goL (κ 14 g) lv i) ho hx hg hn1 ?_ hn (by omega) h' k
    unfold tS
    rw [if_pos rfl, ← hn1, hgo]
  | succ r ih =>
    intro i hi
    refine B_X9_tell_113 ho ⟨x + 184 + g, ix3 x 184 g, by omega, ?_⟩
    rw [h.2.1]
    refine pk_le n1 i (fun h => absurd h (by omega)) (fun _ => ⟨x + 256 + 8 * g + i, ix7 x 256 _ _, by omega, ?_⟩)
    have hj := (h.2.2 i (by omega)).2
    rw [Nat.add_zero] at hj
    rw [hj]
    have := hql i (by omega)
    have ih' := ih (i + 1) (by omega)
    refine pk_ne (κ 14 g i) lv (fun hne v e => ?_) (fun he => ?_)
    · rw [nI_1] at e
      have e2 : goL (κ 14 g) lv (i + 1) = i + 1 := if_neg hne
      rw [e2] at ih'
      rw [e, nI_1]; exact ih'
    · have e2 : goL (κ 14 g) lv (i + 1) = goL (κ 14 g) lv i := if_pos he
      rw [e2] at ih'
      rw [nI_1]; exact ih'
theorem XM_mode (ho : isO z) (hx : x + 344 ≤ 6880) {g n1 d md lv : Nat} (hg : g < 8) (hn1 : n1 = tN κ g d) (hn : n1 ≤ 8) (hlv : lv < 4) (hql : ∀ k, k < n1 → κ 14 g k < 4) (hmd : I 310 (6 * g + 5) = nI md) (hmd2 : md ≤ 1) (h : qR x g n1 0 κ I J) (k : ∀ I', qR x g (te κ g d md lv 12 g 0) 0 (te κ g d md lv) I I' → Q none z I') : ∃ j2 : Nat, ((6 * nI g) + 5) = nI j2 ∧ j2 < 48 ∧ ((¬ (J 310 j2) = 1) → E mX9_tell mc ms 175 [some (.ref 308), some (.int (nI x)), some (.int (nI g)), some (.int (nI lv)), some (.int (nI (κ 0 0 0 + d))), some (.int (nI (8 * g))), none, none] [] z J Q) ∧
    (((J 310 j2) = 1) → E mX9_tell mc ms 113 [some (.ref 308), some (.int (nI x)), some (.int (nI g)), some (.int (nI lv)), some (.int (nI (κ 0 0 0 + d))), some (.int (nI (8 * g))), some (.int 0), some (.int 0)] [] z J Q) := by
  refine ⟨6 * g + 5, ix6 g 5, by omega, ?_⟩
  rw [h.1.1 310 (by decide), hmd]
  refine pk_ne md 1 (fun hne => ?_) (fun he => ?_)
  · exact XM_cap (s1 := 0) ho hx hg hn1 (by unfold tS; rw [if_neg hne]) hn (by omega) h k
  · subst he
    exact XM_go ho hx hg hn1 hn hlv hql h k n1 0 (by omega)
theorem LM_tell (ho : isO z) (hx : x + 344 ≤ 6880) {g d md lv n0 : Nat} (hg : g < 8) (hn0 : n0 = κ 12 g 0) (hn : n0 ≤ 8) (hlv : lv < 4) (hw : κ 0 0 0 + d < 2 ^ 31) (hqt : ∀ k, k < n0 → κ 13 g k < 2 ^ 31) (hql : ∀ k, k < n0 → κ 14 g k < 4) (hmd : I 310 (6 * g + 5) = nI md) (hmd2 : md ≤ 1) (k : ∀ I', qR x g (te κ g d md lv 12 g 0) 0 (te κ g d md lv) I I' → Q none z I') : ∀ (r : Nat) (J : It), r ≤ n0 → tR (κ 13 g) (κ 0 0 0 + d) r = tN κ g d → qR x g r 0 κ I J → E mX9_tell mc ms 30 [some (.ref 308), some (.int (nI x)), some (.int (nI g)), some (.int (nI lv)), some (.int (nI (κ 0 0 0 + d))), some (.int (nI (8 * g))), none, none] [] z J Q := by
  intro r
  induction r with
  | zero =>
    intro J hr ht h
    refine B_X9_tell_30 ho ⟨x + 184 + g, ix3 x 184 g, by omega, ?_⟩
    rw [h.2.1]
    refine pk_le 0 0 (fun _ => ?_) (fun h => absurd h (by omega))
    exact XM_mode (n1 := 0) ho hx hg ht (by omega) hlv (fun q hq => absurd hq (by omega)) hmd hmd2 h k
  | succ r ih =>
    intro J hr ht h
    refine B_X9_tell_30 ho ⟨x + 184 + g, ix3 x 184 g, by omega, ?_⟩
    rw [h.2.1]
    refine pk_le (r + 1) 0 (fun h => absurd h (by omega)) (fun _ => ⟨x + 192 + 8 * g + r, by rw [show (192 : Int32) = nI 192 from rfl, ix7, nI_dec (by omega)]; exact congrArg nI (by omega), by omega, ?_⟩)
    have hj := (h.2.2 r (by omega)).1
    rw [Nat.add_zero] at hj
    rw [hj]
    have h3 := hqt r (by omega)
    refine pk_lt (κ 13 g r) (κ 0 0 0 + d) (fun hl => ?_) (fun hl => fun I3 e3 => ?_)
    · have ht' : r + 1 = tN κ g d := by rw [← ht]; simp [tR, hl]
      exact XM_mode (n1 := r + 1) ho hx hg ht' (by omega) hlv (fun q hq => hql q (by omega)) hmd hmd2 h k
    · refine ih I3 (by omega) (by rw [← ht]; simp [tR, Nat.not_lt.mpr hl]) ?_
      rw [nI_dec (by omega)] at e3
      refine ⟨h.1.tr (GF.st e3 (Or.inl rfl)), by rw [e3, e_st_same]; rfl, fun q hq => ?_⟩
      rw [e3, e_st_k (by omega), e_st_k (by omega)]
      exact h.2.2 q (by omega)
theorem FrR.gf {g : Nat} (h : GF x g I J) (hg : g < 8) : FrR x I J := ⟨h.1, fun q hq => h.2 q (by omega) (by omega) (by omega)⟩
theorem hR.te {g d md lv : Nat} (hX : hR I x π κ) (hW : WP π) (hg : g < π 1 0) (hz8 : Z8 π κ) (h : qR x g (te κ g d md lv 12 g 0) 0 (te κ g d md lv) I J) : hR J x π (te κ g d md lv) := by
  have hw1 := hW.2.1
  obtain ⟨⟨f1, f2⟩, h1, h2⟩ := h
  refine ⟨hX.1.to (fun q a b => f2 q (by omega) (by omega) (by omega)) (by rw [te_f (by omega)]) (by rw [te_f (by omega)]) (by rw [te_f (by omega)]) (by rw [te_f (by omega)]), hX.2.1.to hW.1 (fun q a b => f2 q (by omega) (by omega) (by omega)) (te_f (by omega)) (te_f (by omega)) (te_f (by omega)) (te_f (by omega)) (te_f (by omega)) (te_f (by omega)), fun i hi => ?_, hX.2.2.2.to hz8.2 (fun q a b => f2 q (by omega) (by omega) (by omega)) (by rw [te_f (by omega)]) (te_f (by omega)) (te_f (by omega)) (te_f (by omega))⟩
  obtain ⟨a1, a2, a3⟩ := hX.2.2.1 i hi
  have h8 := hz8.1 i hi
  refine ⟨by rw [te_f (by omega), f2 _ (by omega) (by omega) (by omega)]; exact a1, ?_⟩
  by_cases e : i = g
  · subst e
    exact ⟨h1, fun k hk => h2 k hk⟩
  · rw [te_g e, te_g e, te_g e, f2 (x + 184 + i) (by omega) (by omega) (by omega)]
    exact ⟨a2, fun k hk => by rw [f2 _ (by omega) (by omega) (by omega), f2 _ (by omega) (by omega) (by omega)]; exact a3 k hk⟩
theorem M_tell (ho : isO z) (hx : x + 344 ≤ 6880) (hX : hR I x π κ) (hPl : hO I π) (hW : WP π) (hL : LB π κ) (hQ : WQ π κ) (h3 : κ 3 0 0 ≤ 8) (hB : κ 0 0 0 + 20 < 2 ^ 31) {g : Nat} (hg : g < π 1 0) (k : ∀ I', FrR x I I' → hR I' x π (tl π κ g) → Q none z I') : E mX9_tell mc ms 0 [some (.ref 308), some (.int (nI x)), some (.int (nI g)), none, none, none, none, none] [] z I Q := by
  obtain ⟨hw0, hw1, hw⟩ := id hW
  obtain ⟨w2, w3, w4, w5, w6, w7⟩ := hw g hg
  have p6 : I 310 (6 * g + 4) = nI (π 6 g) := hPl.2.2 g hg 4 (by omega)
  have p7 : I 310 (6 * g + 5) = nI (π 7 g) := hPl.2.2 g hg 5 (by omega)
  obtain ⟨q1, q2, q3⟩ := hQ g hg
  obtain ⟨a1, a2, a3⟩ := hX.2.2.1 g hg
  refine B_X9_tell_0 ho (M_comesOf ho hx hX hPl hW hL hg (B_X9_tell_6 ho ⟨x, ix2 x 0, by omega, 6 * g + 4, ix6 g 4, by omega, fun v3 e3 v4 e4 => ?_⟩))
  rw [hX.1.1, p6, ix2] at e3
  have e4 : v4 = nI (8 * g) := by rw [e4]; exact ixm 8 g
  subst e3 e4
  refine LM_tell (I := I) (κ := κ) (md := π 7 g) (n0 := κ 12 g 0) ho hx (by omega) rfl q1 (ocK_lt hW hL hg) (by omega) (fun j hj => by have := (q2 j hj).2.1; omega) (fun j hj => (q2 j hj).2.2) p7 w7 (fun I' h' => ?_) (κ 12 g 0) I (Nat.le_refl _) rfl ⟨GF.rf, a2, fun j hj => by rw [Nat.add_zero]; exact a3 j hj⟩
  exact k I' (FrR.gf h'.1 (by omega)) (hX.te hW hg ⟨fun i hi => (hQ i hi).1, h3⟩ h')
theorem LM_tellAll (ho : isO z) (hx : x + 344 ≤ 6880) (hPl : hO I π) (hW : WP π) (hL : LB π κ) (hQ : WQ π κ) (h3 : κ 3 0 0 ≤ 8) (hB : κ 0 0 0 + 20 < 2 ^ 31) (k : ∀ I', FrR x I I' → hR I' x π (tlA π (fun _ => true) κ (π 1 0)) → Q none z I') : ∀ (r g : Nat) (J : It), g + r = π 1 0 → FrR x I J → hR J x π (tlA π (fun _ => true) κ g) → E mX9_tellAll mc ms 2 [some (.ref 308), some (.int (nI x)), some (.int (nI g))] [] z J Q := by
  intro r
  have hw1 := hW.2.1
  induction r with
  | zero =>
    intro g J hg hf h
    refine B_X9_tellAll_2 ho ?_
    rw [(hPl.to hf).2.1]
    have e : g = π 1 0 := by omega
    subst e
    exact pk_le (π 1 0) (π 1 0) (fun _ => k J hf h) (fun h => absurd h (by omega))
  | succ r ih =>
    intro g J hg hf h
    obtain ⟨hQ', hL'⟩ := tlA_WQ (W := fun _ => true) hW hL hQ g (by omega)
    refine B_X9_tellAll_2 ho ?_
    rw [(hPl.to hf).2.1]
    refine pk_le (π 1 0) g (fun h => absurd h (by omega)) (fun _ => M_tell ho hx h (hPl.to hf) hW hL' hQ' (by rw [tlA_f (by omega)]; exact h3) (by rw [tlA_f (by omega)]; exact hB) (by omega) (fun I' hf' h' => B_X9_tellAll_16 ho ?_))
    rw [nI_1]
    refine ih (g + 1) I' (by omega) (hf.tr hf') ?_
    have e : tlA π (fun _ => true) κ (g + 1) = tl π (tlA π (fun _ => true) κ g) g := if_pos rfl
    rw [e]; exact h'
theorem M_tellAll (ho : isO z) (hx : x + 344 ≤ 6880) (hX : hR I x π κ) (hPl : hO I π) (hW : WP π) (hL : LB π κ) (hQ : WQ π κ) (h3 : κ 3 0 0 ≤ 8) (hB : κ 0 0 0 + 20 < 2 ^ 31) (k : ∀ I', FrR x I I' → hR I' x π (tlA π (fun _ => true) κ (π 1 0)) → Q none z I') : E mX9_tellAll mc ms 0 [some (.ref 308), some (.int (nI x)), none] [] z I Q :=
  B_X9_tellAll_0 ho (LM_tellAll ho hx hPl hW hL hQ h3 hB k (π 1 0) 0 I (by omega) FrR.rf hX)
end M1
