/-! ===== a text is read: what both do as long as there is no fault ===== -/
def skp (t : Nat → Nat) : Nat → Nat → Nat
  | 0, p => p
  | r + 1, p => if t p = 32 then skp t r (p + 1) else p
def sk (t : Nat → Nat) (n p : Nat) : Nat := skp t (n - p) p
abbrev isD (c : Nat) : Prop := 48 ≤ c ∧ c ≤ 57
def dgk (t : Nat → Nat) : Nat → Nat → Nat
  | 0, p => p
  | r + 1, p => if isD (t p) then dgk t r (p + 1) else p
def dg (t : Nat → Nat) (n p : Nat) : Nat := dgk t (n - p) p
def vf (t : Nat → Nat) (p k : Nat) : Nat := if k = 0 then 0 else if k = 1 then t p - 48 else (t p - 48) * 10 + (t (p + 1) - 48)
def cd (t : Nat → Nat) (n p L : Nat) : Nat := if p < n ∧ isD (t p) then (if 2 < dg t n p - p ∨ L ≤ vf t p (dg t n p - p) then 2 else 0) else 1
abbrev St : Type := Nat × Nat × Nat
def nm (t : Nat → Nat) (n L : Nat) (s : St) : St := if s.1 ≠ 0 then s else if cd t n (sk t n s.2.2) L ≠ 0 then (cd t n (sk t n s.2.2) L, sk t n s.2.2, 0) else (0, 0, dg t n (sk t n s.2.2))
def nv (t : Nat → Nat) (n : Nat) (s : St) : Nat := vf t (sk t n s.2.2) (dg t n (sk t n s.2.2) - sk t n s.2.2)
def en (t : Nat → Nat) (n : Nat) (s : St) : St := if s.1 ≠ 0 then s else if sk t n s.2.2 < n ∧ t (sk t n s.2.2) = 59 then (0, 0, sk t n s.2.2 + 1) else (1, sk t n s.2.2, 0)
def q1 (p : Nat) : St := (0, 0, p + 1)
def q2 (t : Nat → Nat) (n p : Nat) : St := nm t n 6 (q1 p)
def q3 (t : Nat → Nat) (n W p : Nat) : St := nm t n W (q2 t n p)
def q4 (t : Nat → Nat) (n W p : Nat) : St := nm t n W (q3 t n W p)
def q5 (t : Nat → Nat) (n W p : Nat) : St := nm t n W (q4 t n W p)
def q6 (t : Nat → Nat) (n W p : Nat) : St := nm t n 21 (q5 t n W p)
abbrev lp (t : Nat → Nat) (n W p : Nat) : Prop := (q6 t n W p).1 = 0 ∧ nv t n (q5 t n W p) = 0 ∧ (nv t n (q2 t n p) = nv t n (q4 t n W p) ∨ (nv t n (q1 p) ≠ 0 ∧ nv t n (q3 t n W p) = nv t n (q4 t n W p)))
def q7 (t : Nat → Nat) (n W p : Nat) : St := if lp t n W p then (4, sk t n (q5 t n W p).2.2, 0) else q6 t n W p
def q8 (t : Nat → Nat) (n W p : Nat) : St := nm t n 2 (q7 t n W p)
def q9 (t : Nat → Nat) (n W p : Nat) : St := en t n (q8 t n W p)
def w2 (t : Nat → Nat) (n p : Nat) : St := nm t n 4 (q1 p)
def w3 (t : Nat → Nat) (n p : Nat) : St := en t n (w2 t n p)
def cS (t : Nat → Nat) (n : Nat) (π : Pt) (p : Nat) : St := if t p = 119 then (if π 0 0 = 8 then (3, p, 0) else w3 t n p) else if t p = 103 then (if π 1 0 = 8 then (3, p, 0) else q9 t n (π 0 0) p) else (1, p, 0)
def aW (π : Pt) : Pt := fun f i => if f = 0 ∧ i = 0 then π 0 0 + 1 else π f i
def aG (t : Nat → Nat) (n : Nat) (π : Pt) (p : Nat) : Pt := fun f i => if f = 1 ∧ i = 0 then π 1 0 + 1 else if i = π 1 0 then (if f = 2 then nv t n (q1 p) else if f = 3 then nv t n (q2 t n p) else if f = 4 then nv t n (q3 t n (π 0 0) p) else if f = 5 then nv t n (q4 t n (π 0 0) p) else if f = 6 then nv t n (q5 t n (π 0 0) p) else if f = 7 then nv t n (q7 t n (π 0 0) p) else π f i) else π f i
def cP (t : Nat → Nat) (n : Nat) (π : Pt) (p : Nat) : Pt := if t p = 119 then aW π else aG t n π p
def cL (t : Nat → Nat) (n : Nat) (π : Pt) (lv : Nat → Nat) (p : Nat) : Nat → Nat := if t p = 119 then (fun i => if i = π 0 0 then nv t n (q1 p) else lv i) else lv
def ps (t : Nat → Nat) (n : Nat) : Nat → Pt → (Nat → Nat) → Nat → St × Pt × (Nat → Nat)
  | 0, π, lv, p => ((0, 0, p), π, lv)
  | r + 1, π, lv, p => if p < n then (if (cS t n π p).1 = 0 then ps t n r (cP t n π p) (cL t n π lv p) (sk t n (cS t n π p).2.2) else (cS t n π p, π, lv)) else ((0, 0, p), π, lv)
section T1
variable {t : Nat → Nat} {n p L W : Nat} {s : St} {π : Pt} {lv : Nat → Nat}
theorem sk_ge (h : n ≤ p) : sk t n p = p := by
  unfold sk
  rw [show n - p = 0 by omega]; rfl
theorem sk_sp (h : p < n) (h2 : t p = 32) : sk t n p = sk t n (p + 1) := by
  unfold sk
  rw [show n - p = (n - (p + 1)) + 1 by omega]
  exact if_pos h2
theorem sk_no (h : p < n) (h2 : t p ≠ 32) : sk t n p = p := by
  unfold sk
  rw [show n - p = (n - (p + 1)) + 1 by omega]
  exact if_neg h2
theorem skp_le : ∀ r p, p ≤ skp t r p ∧ skp t r p ≤ p + r
  | 0, p => ⟨Nat.le_refl _, Nat.le_refl _⟩
  | r + 1, p => by
    unfold skp
    split
    · have := skp_le r (p + 1); omega
    · omega
theorem sk_le : p ≤ sk t n p ∧ sk t n p ≤ max p n := by
  have := skp_le (t := t) (n - p) p
  unfold sk
  omega
theorem dg_ge (h : n ≤ p) : dg t n p = p := by
  unfold dg
  rw [show n - p = 0 by omega]; rfl
theorem dg_sp (h : p < n) (h2 : isD (t p)) : dg t n p = dg t n (p + 1) := by
  unfold dg
  rw [show n - p = (n - (p + 1)) + 1 by omega]
  exact if_pos h2
theorem dg_no (h : p < n) (h2 : ¬ isD (t p)) : dg t n p = p := by
  unfold dg
  rw [show n - p = (n - (p + 1)) + 1 by omega]
  exact if_neg h2
theorem dgk_le : ∀ r p, p ≤ dgk t r p ∧ dgk t r p ≤ p + r
  | 0, p => ⟨Nat.le_refl _, Nat.le_refl _⟩
  | r + 1, p => by
    unfold dgk
    split
    · have := dgk_le r (p + 1); omega
    · omega
theorem dg_le : p ≤ dg t n p ∧ dg t n p ≤ max p n := by
  have := dgk_le (t := t) (n - p) p
  unfold dg
  omega
theorem cd_le : cd t n p L ≤ 2 := by
  unfold cd
  split
  · split <;> omega
  · omega
theorem cd_0 (h : cd t n p L = 0) : p < n ∧ isD (t p) ∧ dg t n p - p ≤ 2 ∧ vf t p (dg t n p - p) < L := by
  unfold cd at h
  by_cases h1 : p < n ∧ isD (t p)
  · rw [if_pos h1] at h
    by_cases h2 : 2 < dg t n p - p ∨ L ≤ vf t p (dg t n p - p)
    · rw [if_pos h2] at h; omega
    · exact ⟨h1.1, h1.2, by omega, by omega⟩
  · rw [if_neg h1] at h; omega
theorem nm_f (h : s.1 ≠ 0) : nm t n L s = s := if_pos h
theorem nm_b (h : s.1 = 0) (h2 : cd t n (sk t n s.2.2) L ≠ 0) : nm t n L s = (cd t n (sk t n s.2.2) L, sk t n s.2.2, 0) := by
  unfold nm
  rw [if_neg (by omega), if_pos h2]
theorem nm_g (h : s.1 = 0) (h2 : cd t n (sk t n s.2.2) L = 0) : nm t n L s = (0, 0, dg t n (sk t n s.2.2)) := by
  unfold nm
  rw [if_neg (by omega), if_neg (by omega)]
theorem nm_0 (h : (nm t n L s).1 = 0) : s.1 = 0 ∧ cd t n (sk t n s.2.2) L = 0 ∧ nv t n s < L := by
  by_cases h1 : s.1 = 0
  · by_cases h2 : cd t n (sk t n s.2.2) L = 0
    · exact ⟨h1, h2, (cd_0 h2).2.2.2⟩
    · rw [nm_b h1 h2] at h; exact absurd h h2
  · rw [nm_f h1] at h; exact absurd h h1
theorem nm_pl (h : (nm t n L s).1 = 0) (hp : s.2.2 ≤ n) : s.2.2 < (nm t n L s).2.2 ∧ (nm t n L s).2.2 ≤ n := by
  obtain ⟨h1, h2, -⟩ := nm_0 h
  rw [nm_g h1 h2]
  have a := sk_le (t := t) (n := n) (p := s.2.2)
  obtain ⟨c1, c2, -⟩ := cd_0 h2
  have e := dg_sp c1 c2
  have b := dg_le (t := t) (n := n) (p := sk t n s.2.2 + 1)
  show s.2.2 < dg t n (sk t n s.2.2) ∧ dg t n (sk t n s.2.2) ≤ n
  rw [e]
  omega
theorem en_0 (h : (en t n s).1 = 0) : s.1 = 0 ∧ sk t n s.2.2 < n ∧ t (sk t n s.2.2) = 59 ∧ en t n s = (0, 0, sk t n s.2.2 + 1) := by
  unfold en at h ⊢
  by_cases h1 : s.1 ≠ 0
  · rw [if_pos h1] at h; exact absurd h h1
  · rw [if_neg h1] at h ⊢
    by_cases h2 : sk t n s.2.2 < n ∧ t (sk t n s.2.2) = 59
    · rw [if_pos h2]; exact ⟨by omega, h2.1, h2.2, rfl⟩
    · rw [if_neg h2] at h; exact absurd h (by show ¬ (1 : Nat) = 0; omega)
theorem vf_lt (ht : ∀ k, k < n → t k < 256) {k : Nat} (hk : p + k ≤ n) (h2 : k ≤ 2) : vf t p k < 3000 := by
  unfold vf
  split
  · omega
  · split
    · have := ht p (by omega); omega
    · have := ht p (by omega)
      have := ht (p + 1) (by omega)
      omega
end T1
