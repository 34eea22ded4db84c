/-! ===== the law: a call, of both ===== -/
def LI (n T : Nat) (z : Zt) (I : It) (G : Gt) : Prop := ∃ pa pb, isZ z pa pb ∧ ((pa = 4 ∧ pb = 12) ∨ (pa = 12 ∧ pb = 4)) ∧ isO z ∧ z.2.1 0 = (2, n) ∧ hC I pa G ∧ hY I G ∧ WG T G
section L1
variable {mc ms : Nat} {z : Zt} {I : It} {Q : Option Value → Zt → It → Prop} {n i T : Nat} {G : Gt}
set_option maxRecDepth 100000 in
set_option maxHeartbeats 4000000 in
theorem LC_feed (hL : LI n T z I G) (hn : n ≤ 2048) (hi : i + 4 ≤ n) (hT : T + 4000 < 2147483647) (k : ∀ z' I' G', LI n (T + 400) z' I' G' → E mL_law mc ms 685 [some (.ref 0), some (.ref 1), some (.ref 308), some (.int (nI i))] [] z' I' Q) : E mL_law mc ms 132 [some (.ref 0), some (.ref 1), some (.ref 308), some (.int (nI i))] [] z I Q := by
  obtain ⟨pa, pb, hz, hab, ho, hs, hC1, hY1, hG⟩ := hL
  obtain ⟨π, κ, ρ, c, α, β, μ⟩ := G
  have hpa : pa + 7 < 20 := by omega
  have h4 : 3 < pa := by omega
  have hT3 : T + 3000 < 2147483647 := by omega
  refine E_aload_n (pc := 132) (x := 1) ddL_law_132 rfl rfl ?_
  refine E_aload_n (pc := 133) (x := 0) ddL_law_133 rfl rfl ?_
  refine E_iload_n (pc := 134) (x := nI i) ddL_law_134 rfl rfl ?_
  refine E_iconst (pc := 135) (v := 1) ddL_law_135 rfl ?_
  refine E_iadd (pc := 136) ddL_law_136 ?_
  refine E_ialdN (pc := 137) (j := i + 1) ddL_law_137 hs (ix2 i 1) (by omega) (by omega) ?_
  refine E_callV (pc := 138) (As := [.int (I 0 (i + 1))]) (st := []) (a := 1) ddL_law_138 hX8_feed ⟨(Nat.le_of_ble_eq_true rfl), (Nat.le_of_ble_eq_true rfl)⟩ w_2_39 (ci := 7) rfl rfl hz.s0 rfl rfl (Nat.le_of_ble_eq_true rfl) (e_cc rfl e_cn) (Nat.le_of_ble_eq_true rfl) ?_
  refine D_feed hz hpa h4 hC1 hG (fun I1 f1 hC2 => ?_)
  refine (show E mL_law mc ms 141 [some (.ref 0), some (.ref 1), some (.ref 308), some (.int (nI i))] [.int (oFeed (π, κ, ρ, c, α, β, μ) (I 0 (i + 1))).1] z I1 Q from ?_)
  have s0 : I1 0 = I 0 := f1 0 (Or.inl rfl)
  have hY2 := hY.fr (I' := I1) hY1 hG (fun a ha => f1 a (Or.inr ha))
  refine E_aload_n (pc := 141) (x := 308) ddL_law_141 rfl rfl ?_
  refine E_aload_n (pc := 142) (x := 0) ddL_law_142 rfl rfl ?_
  refine E_iload_n (pc := 143) (x := nI i) ddL_law_143 rfl rfl ?_
  refine E_iconst (pc := 144) (v := 1) ddL_law_144 rfl ?_
  refine E_iadd (pc := 145) ddL_law_145 ?_
  refine E_ialdN (pc := 146) (j := i + 1) ddL_law_146 hs (ix2 i 1) (by omega) (by omega) ?_
  rw [s0]
  refine E_callV (pc := 147) (As := [.int (I 0 (i + 1))]) (st := [.int (oFeed (π, κ, ρ, c, α, β, μ) (I 0 (i + 1))).1]) (a := 308) ddL_law_147 hX9_feed ⟨(Nat.le_of_ble_eq_true rfl), (Nat.le_of_ble_eq_true rfl)⟩ w_4_9 (ci := 8) rfl rfl ho.s0 rfl rfl (Nat.le_of_ble_eq_true rfl) (e_cc rfl e_cn) (Nat.le_of_ble_eq_true rfl) ?_
  refine N_feed ho hY2 hG (fun I2 f2 hY3 => ?_)
  refine (show E mL_law mc ms 150 [some (.ref 0), some (.ref 1), some (.ref 308), some (.int (nI i))] [.int (oFeed (π, κ, ρ, c, α, β, μ) (I 0 (i + 1))).1, .int (oFeed (π, κ, ρ, c, α, β, μ) (I 0 (i + 1))).1] z I2 Q from ?_)
  have hC3 := hC.fr (I' := I2) hC2 hpa (fun a ha => f2 a ha)
  exact E_icmp_eq (pc := 150) (tgt := 685) ddL_law_150 (by decide) (fun _ => k z I2 _ ⟨pa, pb, hz, hab, ho, hs, hC3, hY3, ((W_feed hG).le (by omega))⟩) (fun h => absurd rfl h)
set_option maxRecDepth 100000 in
set_option maxHeartbeats 4000000 in
theorem LC_wires (hL : LI n T z I G) (hn : n ≤ 2048) (hi : i + 4 ≤ n) (hT : T + 4000 < 2147483647) (k : ∀ z' I' G', LI n (T + 400) z' I' G' → E mL_law mc ms 685 [some (.ref 0), some (.ref 1), some (.ref 308), some (.int (nI i))] [] z' I' Q) : E mL_law mc ms 155 [some (.ref 0), some (.ref 1), some (.ref 308), some (.int (nI i))] [] z I Q := by
  obtain ⟨pa, pb, hz, hab, ho, hs, hC1, hY1, hG⟩ := hL
  obtain ⟨π, κ, ρ, c, α, β, μ⟩ := G
  have hpa : pa + 7 < 20 := by omega
  have h4 : 3 < pa := by omega
  have hT3 : T + 3000 < 2147483647 := by omega
  refine E_aload_n (pc := 155) (x := 1) ddL_law_155 rfl rfl ?_
  refine E_callV (pc := 156) (As := []) (st := []) (a := 1) ddL_law_156 hX8_wires ⟨(Nat.le_of_ble_eq_true rfl), (Nat.le_of_ble_eq_true rfl)⟩ w_2_49 (ci := 7) rfl rfl hz.s0 rfl rfl (Nat.le_of_ble_eq_true rfl) e_cn (Nat.le_of_ble_eq_true rfl) ?_
  refine D_wires hz hab hC1 hG (fun I1 z2 pa2 pb2 hz2 hab2 ho2' e1 e2 f1 hC2 => ?_)
  have ho2 := ho2' ho
  have hs2 : z2.2.1 0 = (2, n) := by rw [e2]; exact hs
  have hpa2 : pa2 + 7 < 20 := by omega
  refine (show E mL_law mc ms 159 [some (.ref 0), some (.ref 1), some (.ref 308), some (.int (nI i))] [.int (oWires (π, κ, ρ, c, α, β, μ)).1] z2 I1 Q from ?_)
  have s0 : I1 0 = I 0 := f1 0 (Or.inl rfl)
  have hY2 := hY.fr (I' := I1) hY1 hG (fun a ha => f1 a (Or.inr ha))
  refine E_aload_n (pc := 159) (x := 308) ddL_law_159 rfl rfl ?_
  refine E_callV (pc := 160) (As := []) (st := [.int (oWires (π, κ, ρ, c, α, β, μ)).1]) (a := 308) ddL_law_160 hX9_wires ⟨(Nat.le_of_ble_eq_true rfl), (Nat.le_of_ble_eq_true rfl)⟩ w_4_18 (ci := 8) rfl rfl ho2.s0 rfl rfl (Nat.le_of_ble_eq_true rfl) e_cn (Nat.le_of_ble_eq_true rfl) ?_
  refine N_wires ho2 hY2 hG (fun I2 f2 hY3 => ?_)
  refine (show E mL_law mc ms 163 [some (.ref 0), some (.ref 1), some (.ref 308), some (.int (nI i))] [.int (oWires (π, κ, ρ, c, α, β, μ)).1, .int (oWires (π, κ, ρ, c, α, β, μ)).1] z2 I2 Q from ?_)
  have hC3 := hC.fr (I' := I2) hC2 hpa2 (fun a ha => f2 a ha)
  exact E_icmp_eq (pc := 163) (tgt := 685) ddL_law_163 (by decide) (fun _ => k z2 I2 _ ⟨pa2, pb2, hz2, hab2, ho2, hs2, hC3, hY3, ((W_wires hG).le (by omega))⟩) (fun h => absurd rfl h)
set_option maxRecDepth 100000 in
set_option maxHeartbeats 4000000 in
theorem LC_fault (hL : LI n T z I G) (hn : n ≤ 2048) (hi : i + 4 ≤ n) (hT : T + 4000 < 2147483647) (k : ∀ z' I' G', LI n (T + 400) z' I' G' → E mL_law mc ms 685 [some (.ref 0), some (.ref 1), some (.ref 308), some (.int (nI i))] [] z' I' Q) : E mL_law mc ms 168 [some (.ref 0), some (.ref 1), some (.ref 308), some (.int (nI i))] [] z I Q := by
  obtain ⟨pa, pb, hz, hab, ho, hs, hC1, hY1, hG⟩ := hL
  obtain ⟨π, κ, ρ, c, α, β, μ⟩ := G
  have hpa : pa + 7 < 20 := by omega
  have h4 : 3 < pa := by omega
  have hT3 : T + 3000 < 2147483647 := by omega
  refine E_aload_n (pc := 168) (x := 1) ddL_law_168 rfl rfl ?_
  refine E_callV (pc := 169) (As := []) (st := []) (a := 1) ddL_law_169 hX8_fault ⟨(Nat.le_of_ble_eq_true rfl), (Nat.le_of_ble_eq_true rfl)⟩ w_2_151 (ci := 7) rfl rfl hz.s0 rfl rfl (Nat.le_of_ble_eq_true rfl) e_cn (Nat.le_of_ble_eq_true rfl) ?_
  refine C_fault hz hC1 ?_
  refine (show E mL_law mc ms 172 [some (.ref 0), some (.ref 1), some (.ref 308), some (.int (nI i))] [.int (nI (μ 9 0) - 1)] z I Q from ?_)
  refine E_aload_n (pc := 172) (x := 308) ddL_law_172 rfl rfl ?_
  refine E_callV (pc := 173) (As := []) (st := [.int (nI (μ 9 0) - 1)]) (a := 308) ddL_law_173 hX9_fault ⟨(Nat.le_of_ble_eq_true rfl), (Nat.le_of_ble_eq_true rfl)⟩ w_4_76 (ci := 8) rfl rfl ho.s0 rfl rfl (Nat.le_of_ble_eq_true rfl) e_cn (Nat.le_of_ble_eq_true rfl) ?_
  refine M_fault ho hY1 ?_
  refine (show E mL_law mc ms 176 [some (.ref 0), some (.ref 1), some (.ref 308), some (.int (nI i))] [.int (nI (μ 9 0) - 1), .int (nI (μ 9 0) - 1)] z I Q from ?_)
  exact E_icmp_eq (pc := 176) (tgt := 685) ddL_law_176 (by decide) (fun _ => k z I (π, κ, ρ, c, α, β, μ) ⟨pa, pb, hz, hab, ho, hs, hC1, hY1, hG.le (by omega)⟩) (fun h => absurd rfl h)
set_option maxRecDepth 100000 in
set_option maxHeartbeats 4000000 in
theorem LC_told (hL : LI n T z I G) (hn : n ≤ 2048) (hi : i + 4 ≤ n) (hT : T + 4000 < 2147483647) (k : ∀ z' I' G', LI n (T + 400) z' I' G' → E mL_law mc ms 685 [some (.ref 0), some (.ref 1), some (.ref 308), some (.int (nI i))] [] z' I' Q) : E mL_law mc ms 181 [some (.ref 0), some (.ref 1), some (.ref 308), some (.int (nI i))] [] z I Q := by
  obtain ⟨pa, pb, hz, hab, ho, hs, hC1, hY1, hG⟩ := hL
  obtain ⟨π, κ, ρ, c, α, β, μ⟩ := G
  have hpa : pa + 7 < 20 := by omega
  have h4 : 3 < pa := by omega
  have hT3 : T + 3000 < 2147483647 := by omega
  refine E_aload_n (pc := 181) (x := 1) ddL_law_181 rfl rfl ?_
  refine E_aload_n (pc := 182) (x := 0) ddL_law_182 rfl rfl ?_
  refine E_iload_n (pc := 183) (x := nI i) ddL_law_183 rfl rfl ?_
  refine E_iconst (pc := 184) (v := 1) ddL_law_184 rfl ?_
  refine E_iadd (pc := 185) ddL_law_185 ?_
  refine E_ialdN (pc := 186) (j := i + 1) ddL_law_186 hs (ix2 i 1) (by omega) (by omega) ?_
  refine E_callV (pc := 187) (As := [.int (I 0 (i + 1))]) (st := []) (a := 1) ddL_law_187 hX8_told ⟨(Nat.le_of_ble_eq_true rfl), (Nat.le_of_ble_eq_true rfl)⟩ w_2_155 (ci := 7) rfl rfl hz.s0 rfl rfl (Nat.le_of_ble_eq_true rfl) (e_cc rfl e_cn) (Nat.le_of_ble_eq_true rfl) ?_
  refine C_told hz hpa hC1 hG hT3 (fun I1 f1 hC2 => ?_)
  refine (show E mL_law mc ms 190 [some (.ref 0), some (.ref 1), some (.ref 308), some (.int (nI i))] [.int (aTold π κ c μ (I 0 (i + 1)))] z I1 Q from ?_)
  have s0 : I1 0 = I 0 := f1 0 (Or.inl rfl)
  have hY2 := hY.fr (I' := I1) hY1 hG (fun a ha => f1 a (Or.inr ha))
  refine E_aload_n (pc := 190) (x := 308) ddL_law_190 rfl rfl ?_
  refine E_aload_n (pc := 191) (x := 0) ddL_law_191 rfl rfl ?_
  refine E_iload_n (pc := 192) (x := nI i) ddL_law_192 rfl rfl ?_
  refine E_iconst (pc := 193) (v := 1) ddL_law_193 rfl ?_
  refine E_iadd (pc := 194) ddL_law_194 ?_
  refine E_ialdN (pc := 195) (j := i + 1) ddL_law_195 hs (ix2 i 1) (by omega) (by omega) ?_
  rw [s0]
  refine E_callV (pc := 196) (As := [.int (I 0 (i + 1))]) (st := [.int (aTold π κ c μ (I 0 (i + 1)))]) (a := 308) ddL_law_196 hX9_told ⟨(Nat.le_of_ble_eq_true rfl), (Nat.le_of_ble_eq_true rfl)⟩ w_4_80 (ci := 8) rfl rfl ho.s0 rfl rfl (Nat.le_of_ble_eq_true rfl) (e_cc rfl e_cn) (Nat.le_of_ble_eq_true rfl) ?_
  refine M_told ho hY2 hG hT3 (fun I2 f2 hY3 => ?_)
  refine (show E mL_law mc ms 199 [some (.ref 0), some (.ref 1), some (.ref 308), some (.int (nI i))] [.int (aTold π κ c μ (I 0 (i + 1))), .int (aTold π κ c μ (I 0 (i + 1)))] z I2 Q from ?_)
  have hC3 := hC.fr (I' := I2) hC2 hpa (fun a ha => f2 a ha)
  exact E_icmp_eq (pc := 199) (tgt := 685) ddL_law_199 (by decide) (fun _ => k z I2 (π, κ, ρ, c, α, β, μ) ⟨pa, pb, hz, hab, ho, hs, hC3, hY3, hG.le (by omega)⟩) (fun h => absurd rfl h)
set_option maxRecDepth 100000 in
set_option maxHeartbeats 4000000 in
theorem LC_wire (hL : LI n T z I G) (hn : n ≤ 2048) (hi : i + 4 ≤ n) (hT : T + 4000 < 2147483647) (k : ∀ z' I' G', LI n (T + 400) z' I' G' → E mL_law mc ms 685 [some (.ref 0), some (.ref 1), some (.ref 308), some (.int (nI i))] [] z' I' Q) : E mL_law mc ms 204 [some (.ref 0), some (.ref 1), some (.ref 308), some (.int (nI i))] [] z I Q := by
  obtain ⟨pa, pb, hz, hab, ho, hs, hC1, hY1, hG⟩ := hL
  obtain ⟨π, κ, ρ, c, α, β, μ⟩ := G
  have hpa : pa + 7 < 20 := by omega
  have h4 : 3 < pa := by omega
  have hT3 : T + 3000 < 2147483647 := by omega
  refine E_aload_n (pc := 204) (x := 1) ddL_law_204 rfl rfl ?_
  refine E_aload_n (pc := 205) (x := 0) ddL_law_205 rfl rfl ?_
  refine E_iload_n (pc := 206) (x := nI i) ddL_law_206 rfl rfl ?_
  refine E_iconst (pc := 207) (v := 1) ddL_law_207 rfl ?_
  refine E_iadd (pc := 208) ddL_law_208 ?_
  refine E_ialdN (pc := 209) (j := i + 1) ddL_law_209 hs (ix2 i 1) (by omega) (by omega) ?_
  refine E_aload_n (pc := 210) (x := 0) ddL_law_210 rfl rfl ?_
  refine E_iload_n (pc := 211) (x := nI i) ddL_law_211 rfl rfl ?_
  refine E_iconst (pc := 212) (v := 2) ddL_law_212 rfl ?_
  refine E_iadd (pc := 213) ddL_law_213 ?_
  refine E_ialdN (pc := 214) (j := i + 2) ddL_law_214 hs (ix2 i 2) (by omega) (by omega) ?_
  refine E_callV (pc := 215) (As := [.int (I 0 (i + 1)), .int (I 0 (i + 2))]) (st := []) (a := 1) ddL_law_215 hX8_wire ⟨(Nat.le_of_ble_eq_true rfl), (Nat.le_of_ble_eq_true rfl)⟩ w_2_233 (ci := 7) rfl rfl hz.s0 rfl rfl (Nat.le_of_ble_eq_true rfl) (e_cc rfl (e_cc rfl e_cn)) (Nat.le_of_ble_eq_true rfl) ?_
  refine C_wire hz hC1 hG ?_
  refine (show E mL_law mc ms 218 [some (.ref 0), some (.ref 1), some (.ref 308), some (.int (nI i))] [.int (aWire π κ (I 0 (i + 1)) (I 0 (i + 2)))] z I Q from ?_)
  refine E_aload_n (pc := 218) (x := 308) ddL_law_218 rfl rfl ?_
  refine E_aload_n (pc := 219) (x := 0) ddL_law_219 rfl rfl ?_
  refine E_iload_n (pc := 220) (x := nI i) ddL_law_220 rfl rfl ?_
  refine E_iconst (pc := 221) (v := 1) ddL_law_221 rfl ?_
  refine E_iadd (pc := 222) ddL_law_222 ?_
  refine E_ialdN (pc := 223) (j := i + 1) ddL_law_223 hs (ix2 i 1) (by omega) (by omega) ?_
  refine E_aload_n (pc := 224) (x := 0) ddL_law_224 rfl rfl ?_
  refine E_iload_n (pc := 225) (x := nI i) ddL_law_225 rfl rfl ?_
  refine E_iconst (pc := 226) (v := 2) ddL_law_226 rfl ?_
  refine E_iadd (pc := 227) ddL_law_227 ?_
  refine E_ialdN (pc := 228) (j := i + 2) ddL_law_228 hs (ix2 i 2) (by omega) (by omega) ?_
  refine E_callV (pc := 229) (As := [.int (I 0 (i + 1)), .int (I 0 (i + 2))]) (st := [.int (aWire π κ (I 0 (i + 1)) (I 0 (i + 2)))]) (a := 308) ddL_law_229 hX9_wire ⟨(Nat.le_of_ble_eq_true rfl), (Nat.le_of_ble_eq_true rfl)⟩ w_4_151 (ci := 8) rfl rfl ho.s0 rfl rfl (Nat.le_of_ble_eq_true rfl) (e_cc rfl (e_cc rfl e_cn)) (Nat.le_of_ble_eq_true rfl) ?_
  refine M_wire ho hY1 hG ?_
  refine (show E mL_law mc ms 232 [some (.ref 0), some (.ref 1), some (.ref 308), some (.int (nI i))] [.int (aWire π κ (I 0 (i + 1)) (I 0 (i + 2))), .int (aWire π κ (I 0 (i + 1)) (I 0 (i + 2)))] z I Q from ?_)
  exact E_icmp_eq (pc := 232) (tgt := 685) ddL_law_232 (by decide) (fun _ => k z I (π, κ, ρ, c, α, β, μ) ⟨pa, pb, hz, hab, ho, hs, hC1, hY1, hG.le (by omega)⟩) (fun h => absurd rfl h)
set_option maxRecDepth 100000 in
set_option maxHeartbeats 4000000 in
theorem LC_wave (hL : LI n T z I G) (hn : n ≤ 2048) (hi : i + 4 ≤ n) (hT : T + 4000 < 2147483647) (k : ∀ z' I' G', LI n (T + 400) z' I' G' → E mL_law mc ms 685 [some (.ref 0), some (.ref 1), some (.ref 308), some (.int (nI i))] [] z' I' Q) : E mL_law mc ms 237 [some (.ref 0), some (.ref 1), some (.ref 308), some (.int (nI i))] [] z I Q := by
  obtain ⟨pa, pb, hz, hab, ho, hs, hC1, hY1, hG⟩ := hL
  obtain ⟨π, κ, ρ, c, α, β, μ⟩ := G
  have hpa : pa + 7 < 20 := by omega
  have h4 : 3 < pa := by omega
  have hT3 : T + 3000 < 2147483647 := by omega
  refine E_aload_n (pc := 237) (x := 1) ddL_law_237 rfl rfl ?_
  refine E_aload_n (pc := 238) (x := 0) ddL_law_238 rfl rfl ?_
  refine E_iload_n (pc := 239) (x := nI i) ddL_law_239 rfl rfl ?_
  refine E_iconst (pc := 240) (v := 1) ddL_law_240 rfl ?_
  refine E_iadd (pc := 241) ddL_law_241 ?_
  refine E_ialdN (pc := 242) (j := i + 1) ddL_law_242 hs (ix2 i 1) (by omega) (by omega) ?_
  refine E_aload_n (pc := 243) (x := 0) ddL_law_243 rfl rfl ?_
  refine E_iload_n (pc := 244) (x := nI i) ddL_law_244 rfl rfl ?_
  refine E_iconst (pc := 245) (v := 2) ddL_law_245 rfl ?_
  refine E_iadd (pc := 246) ddL_law_246 ?_
  refine E_ialdN (pc := 247) (j := i + 2) ddL_law_247 hs (ix2 i 2) (by omega) (by omega) ?_
  refine E_aload_n (pc := 248) (x := 0) ddL_law_248 rfl rfl ?_
  refine E_iload_n (pc := 249) (x := nI i) ddL_law_249 rfl rfl ?_
  refine E_iconst (pc := 250) (v := 3) ddL_law_250 rfl ?_
  refine E_iadd (pc := 251) ddL_law_251 ?_
  refine E_ialdN (pc := 252) (j := i + 3) ddL_law_252 hs (ix2 i 3) (by omega) (by omega) ?_
  refine E_callV (pc := 253) (As := [.int (I 0 (i + 1)), .int (I 0 (i + 2)), .int (I 0 (i + 3))]) (st := []) (a := 1) ddL_law_253 hX8_wave ⟨(Nat.le_of_ble_eq_true rfl), (Nat.le_of_ble_eq_true rfl)⟩ w_3_8 (ci := 7) rfl rfl hz.s0 rfl rfl (Nat.le_of_ble_eq_true rfl) (e_cc rfl (e_cc rfl (e_cc rfl e_cn))) (Nat.le_of_ble_eq_true rfl) ?_
  refine C_wave hz hC1 hG ?_
  refine (show E mL_law mc ms 256 [some (.ref 0), some (.ref 1), some (.ref 308), some (.int (nI i))] [.int (aWave π κ (I 0 (i + 1)) (I 0 (i + 2)) (I 0 (i + 3)))] z I Q from ?_)
  refine E_aload_n (pc := 256) (x := 308) ddL_law_256 rfl rfl ?_
  refine E_aload_n (pc := 257) (x := 0) ddL_law_257 rfl rfl ?_
  refine E_iload_n (pc := 258) (x := nI i) ddL_law_258 rfl rfl ?_
  refine E_iconst (pc := 259) (v := 1) ddL_law_259 rfl ?_
  refine E_iadd (pc := 260) ddL_law_260 ?_
  refine E_ialdN (pc := 261) (j := i + 1) ddL_law_261 hs (ix2 i 1) (by omega) (by omega) ?_
  refine E_aload_n (pc := 262) (x := 0) ddL_law_262 rfl rfl ?_
  refine E_iload_n (pc := 263) (x := nI i) ddL_law_263 rfl rfl ?_
  refine E_iconst (pc := 264) (v := 2) ddL_law_264 rfl ?_
  refine E_iadd (pc := 265) ddL_law_265 ?_
  refine E_ialdN (pc := 266) (j := i + 2) ddL_law_266 hs (ix2 i 2) (by omega) (by omega) ?_
  refine E_aload_n (pc := 267) (x := 0) ddL_law_267 rfl rfl ?_
  refine E_iload_n (pc := 268) (x := nI i) ddL_law_268 rfl rfl ?_
  refine E_iconst (pc := 269) (v := 3) ddL_law_269 rfl ?_
  refine E_iadd (pc := 270) ddL_law_270 ?_
  refine E_ialdN (pc := 271) (j := i + 3) ddL_law_271 hs (ix2 i 3) (by omega) (by omega) ?_
  refine E_callV (pc := 272) (As := [.int (I 0 (i + 1)), .int (I 0 (i + 2)), .int (I 0 (i + 3))]) (st := [.int (aWave π κ (I 0 (i + 1)) (I 0 (i + 2)) (I 0 (i + 3)))]) (a := 308) ddL_law_272 hX9_wave ⟨(Nat.le_of_ble_eq_true rfl), (Nat.le_of_ble_eq_true rfl)⟩ w_4_160 (ci := 8) rfl rfl ho.s0 rfl rfl (Nat.le_of_ble_eq_true rfl) (e_cc rfl (e_cc rfl (e_cc rfl e_cn))) (Nat.le_of_ble_eq_true rfl) ?_
  refine M_wave ho hY1 hG ?_
  refine (show E mL_law mc ms 275 [some (.ref 0), some (.ref 1), some (.ref 308), some (.int (nI i))] [.int (aWave π κ (I 0 (i + 1)) (I 0 (i + 2)) (I 0 (i + 3))), .int (aWave π κ (I 0 (i + 1)) (I 0 (i + 2)) (I 0 (i + 3)))] z I Q from ?_)
  exact E_icmp_eq (pc := 275) (tgt := 685) ddL_law_275 (by decide) (fun _ => k z I (π, κ, ρ, c, α, β, μ) ⟨pa, pb, hz, hab, ho, hs, hC1, hY1, hG.le (by omega)⟩) (fun h => absurd rfl h)
set_option maxRecDepth 100000 in
set_option maxHeartbeats 4000000 in
theorem LC_gate (hL : LI n T z I G) (hn : n ≤ 2048) (hi : i + 4 ≤ n) (hT : T + 4000 < 2147483647) (k : ∀ z' I' G', LI n (T + 400) z' I' G' → E mL_law mc ms 685 [some (.ref 0), some (.ref 1), some (.ref 308), some (.int (nI i))] [] z' I' Q) : E mL_law mc ms 280 [some (.ref 0), some (.ref 1), some (.ref 308), some (.int (nI i))] [] z I Q := by
  obtain ⟨pa, pb, hz, hab, ho, hs, hC1, hY1, hG⟩ := hL
  obtain ⟨π, κ, ρ, c, α, β, μ⟩ := G
  have hpa : pa + 7 < 20 := by omega
  have h4 : 3 < pa := by omega
  have hT3 : T + 3000 < 2147483647 := by omega
  refine E_aload_n (pc := 280) (x := 1) ddL_law_280 rfl rfl ?_
  refine E_aload_n (pc := 281) (x := 0) ddL_law_281 rfl rfl ?_
  refine E_iload_n (pc := 282) (x := nI i) ddL_law_282 rfl rfl ?_
  refine E_iconst (pc := 283) (v := 1) ddL_law_283 rfl ?_
  refine E_iadd (pc := 284) ddL_law_284 ?_
  refine E_ialdN (pc := 285) (j := i + 1) ddL_law_285 hs (ix2 i 1) (by omega) (by omega) ?_
  refine E_aload_n (pc := 286) (x := 0) ddL_law_286 rfl rfl ?_
  refine E_iload_n (pc := 287) (x := nI i) ddL_law_287 rfl rfl ?_
  refine E_iconst (pc := 288) (v := 2) ddL_law_288 rfl ?_
  refine E_iadd (pc := 289) ddL_law_289 ?_
  refine E_ialdN (pc := 290) (j := i + 2) ddL_law_290 hs (ix2 i 2) (by omega) (by omega) ?_
  refine E_callV (pc := 291) (As := [.int (I 0 (i + 1)), .int (I 0 (i + 2))]) (st := []) (a := 1) ddL_law_291 hX8_gate ⟨(Nat.le_of_ble_eq_true rfl), (Nat.le_of_ble_eq_true rfl)⟩ w_3_31 (ci := 7) rfl rfl hz.s0 rfl rfl (Nat.le_of_ble_eq_true rfl) (e_cc rfl (e_cc rfl e_cn)) (Nat.le_of_ble_eq_true rfl) ?_
  refine C_gate hz hC1 hG ?_
  refine (show E mL_law mc ms 294 [some (.ref 0), some (.ref 1), some (.ref 308), some (.int (nI i))] [.int (aGate π κ (I 0 (i + 1)) (I 0 (i + 2)))] z I Q from ?_)
  refine E_aload_n (pc := 294) (x := 308) ddL_law_294 rfl rfl ?_
  refine E_aload_n (pc := 295) (x := 0) ddL_law_295 rfl rfl ?_
  refine E_iload_n (pc := 296) (x := nI i) ddL_law_296 rfl rfl ?_
  refine E_iconst (pc := 297) (v := 1) ddL_law_297 rfl ?_
  refine E_iadd (pc := 298) ddL_law_298 ?_
  refine E_ialdN (pc := 299) (j := i + 1) ddL_law_299 hs (ix2 i 1) (by omega) (by omega) ?_
  refine E_aload_n (pc := 300) (x := 0) ddL_law_300 rfl rfl ?_
  refine E_iload_n (pc := 301) (x := nI i) ddL_law_301 rfl rfl ?_
  refine E_iconst (pc := 302) (v := 2) ddL_law_302 rfl ?_
  refine E_iadd (pc := 303) ddL_law_303 ?_
  refine E_ialdN (pc := 304) (j := i + 2) ddL_law_304 hs (ix2 i 2) (by omega) (by omega) ?_
  refine E_callV (pc := 305) (As := [.int (I 0 (i + 1)), .int (I 0 (i + 2))]) (st := [.int (aGate π κ (I 0 (i + 1)) (I 0 (i + 2)))]) (a := 308) ddL_law_305 hX9_gate ⟨(Nat.le_of_ble_eq_true rfl), (Nat.le_of_ble_eq_true rfl)⟩ w_4_164 (ci := 8) rfl rfl ho.s0 rfl rfl (Nat.le_of_ble_eq_true rfl) (e_cc rfl (e_cc rfl e_cn)) (Nat.le_of_ble_eq_true rfl) ?_
  refine M_gate ho hY1 hG ?_
  refine (show E mL_law mc ms 308 [some (.ref 0), some (.ref 1), some (.ref 308), some (.int (nI i))] [.int (aGate π κ (I 0 (i + 1)) (I 0 (i + 2))), .int (aGate π κ (I 0 (i + 1)) (I 0 (i + 2)))] z I Q from ?_)
  exact E_icmp_eq (pc := 308) (tgt := 685) ddL_law_308 (by decide) (fun _ => k z I (π, κ, ρ, c, α, β, μ) ⟨pa, pb, hz, hab, ho, hs, hC1, hY1, hG.le (by omega)⟩) (fun h => absurd rfl h)
set_option maxRecDepth 100000 in
set_option maxHeartbeats 4000000 in
theorem LC_queue (hL : LI n T z I G) (hn : n ≤ 2048) (hi : i + 4 ≤ n) (hT : T + 4000 < 2147483647) (k : ∀ z' I' G', LI n (T + 400) z' I' G' → E mL_law mc ms 685 [some (.ref 0), some (.ref 1), some (.ref 308), some (.int (nI i))] [] z' I' Q) : E mL_law mc ms 313 [some (.ref 0), some (.ref 1), some (.ref 308), some (.int (nI i))] [] z I Q := by
  obtain ⟨pa, pb, hz, hab, ho, hs, hC1, hY1, hG⟩ := hL
  obtain ⟨π, κ, ρ, c, α, β, μ⟩ := G
  have hpa : pa + 7 < 20 := by omega
  have h4 : 3 < pa := by omega
  have hT3 : T + 3000 < 2147483647 := by omega
  refine E_aload_n (pc := 313) (x := 1) ddL_law_313 rfl rfl ?_
  refine E_aload_n (pc := 314) (x := 0) ddL_law_314 rfl rfl ?_
  refine E_iload_n (pc := 315) (x := nI i) ddL_law_315 rfl rfl ?_
  refine E_iconst (pc := 316) (v := 1) ddL_law_316 rfl ?_
  refine E_iadd (pc := 317) ddL_law_317 ?_
  refine E_ialdN (pc := 318) (j := i + 1) ddL_law_318 hs (ix2 i 1) (by omega) (by omega) ?_
  refine E_aload_n (pc := 319) (x := 0) ddL_law_319 rfl rfl ?_
  refine E_iload_n (pc := 320) (x := nI i) ddL_law_320 rfl rfl ?_
  refine E_iconst (pc := 321) (v := 2) ddL_law_321 rfl ?_
  refine E_iadd (pc := 322) ddL_law_322 ?_
  refine E_ialdN (pc := 323) (j := i + 2) ddL_law_323 hs (ix2 i 2) (by omega) (by omega) ?_
  refine E_aload_n (pc := 324) (x := 0) ddL_law_324 rfl rfl ?_
  refine E_iload_n (pc := 325) (x := nI i) ddL_law_325 rfl rfl ?_
  refine E_iconst (pc := 326) (v := 3) ddL_law_326 rfl ?_
  refine E_iadd (pc := 327) ddL_law_327 ?_
  refine E_ialdN (pc := 328) (j := i + 3) ddL_law_328 hs (ix2 i 3) (by omega) (by omega) ?_
  refine E_callV (pc := 329) (As := [.int (I 0 (i + 1)), .int (I 0 (i + 2)), .int (I 0 (i + 3))]) (st := []) (a := 1) ddL_law_329 hX8_queue ⟨(Nat.le_of_ble_eq_true rfl), (Nat.le_of_ble_eq_true rfl)⟩ w_3_41 (ci := 7) rfl rfl hz.s0 rfl rfl (Nat.le_of_ble_eq_true rfl) (e_cc rfl (e_cc rfl (e_cc rfl e_cn))) (Nat.le_of_ble_eq_true rfl) ?_
  refine C_queue hz hC1 hG ?_
  refine (show E mL_law mc ms 332 [some (.ref 0), some (.ref 1), some (.ref 308), some (.int (nI i))] [.int (aQueue π κ (I 0 (i + 1)) (I 0 (i + 2)) (I 0 (i + 3)))] z I Q from ?_)
  refine E_aload_n (pc := 332) (x := 308) ddL_law_332 rfl rfl ?_
  refine E_aload_n (pc := 333) (x := 0) ddL_law_333 rfl rfl ?_
  refine E_iload_n (pc := 334) (x := nI i) ddL_law_334 rfl rfl ?_
  refine E_iconst (pc := 335) (v := 1) ddL_law_335 rfl ?_
  refine E_iadd (pc := 336) ddL_law_336 ?_
  refine E_ialdN (pc := 337) (j := i + 1) ddL_law_337 hs (ix2 i 1) (by omega) (by omega) ?_
  refine E_aload_n (pc := 338) (x := 0) ddL_law_338 rfl rfl ?_
  refine E_iload_n (pc := 339) (x := nI i) ddL_law_339 rfl rfl ?_
  refine E_iconst (pc := 340) (v := 2) ddL_law_340 rfl ?_
  refine E_iadd (pc := 341) ddL_law_341 ?_
  refine E_ialdN (pc := 342) (j := i + 2) ddL_law_342 hs (ix2 i 2) (by omega) (by omega) ?_
  refine E_aload_n (pc := 343) (x := 0) ddL_law_343 rfl rfl ?_
  refine E_iload_n (pc := 344) (x := nI i) ddL_law_344 rfl rfl ?_
  refine E_iconst (pc := 345) (v := 3) ddL_law_345 rfl ?_
  refine E_iadd (pc := 346) ddL_law_346 ?_
  refine E_ialdN (pc := 347) (j := i + 3) ddL_law_347 hs (ix2 i 3) (by omega) (by omega) ?_
  refine E_callV (pc := 348) (As := [.int (I 0 (i + 1)), .int (I 0 (i + 2)), .int (I 0 (i + 3))]) (st := [.int (aQueue π κ (I 0 (i + 1)) (I 0 (i + 2)) (I 0 (i + 3)))]) (a := 308) ddL_law_348 hX9_queue ⟨(Nat.le_of_ble_eq_true rfl), (Nat.le_of_ble_eq_true rfl)⟩ w_4_172 (ci := 8) rfl rfl ho.s0 rfl rfl (Nat.le_of_ble_eq_true rfl) (e_cc rfl (e_cc rfl (e_cc rfl e_cn))) (Nat.le_of_ble_eq_true rfl) ?_
  refine M_queue ho hY1 hG ?_
  refine (show E mL_law mc ms 351 [some (.ref 0), some (.ref 1), some (.ref 308), some (.int (nI i))] [.int (aQueue π κ (I 0 (i + 1)) (I 0 (i + 2)) (I 0 (i + 3))), .int (aQueue π κ (I 0 (i + 1)) (I 0 (i + 2)) (I 0 (i + 3)))] z I Q from ?_)
  exact E_icmp_eq (pc := 351) (tgt := 685) ddL_law_351 (by decide) (fun _ => k z I (π, κ, ρ, c, α, β, μ) ⟨pa, pb, hz, hab, ho, hs, hC1, hY1, hG.le (by omega)⟩) (fun h => absurd rfl h)
set_option maxRecDepth 100000 in
set_option maxHeartbeats 4000000 in
theorem LC_resolved (hL : LI n T z I G) (hn : n ≤ 2048) (hi : i + 4 ≤ n) (hT : T + 4000 < 2147483647) (k : ∀ z' I' G', LI n (T + 400) z' I' G' → E mL_law mc ms 685 [some (.ref 0), some (.ref 1), some (.ref 308), some (.int (nI i))] [] z' I' Q) : E mL_law mc ms 356 [some (.ref 0), some (.ref 1), some (.ref 308), some (.int (nI i))] [] z I Q := by
  obtain ⟨pa, pb, hz, hab, ho, hs, hC1, hY1, hG⟩ := hL
  obtain ⟨π, κ, ρ, c, α, β, μ⟩ := G
  have hpa : pa + 7 < 20 := by omega
  have h4 : 3 < pa := by omega
  have hT3 : T + 3000 < 2147483647 := by omega
  refine E_aload_n (pc := 356) (x := 1) ddL_law_356 rfl rfl ?_
  refine E_aload_n (pc := 357) (x := 0) ddL_law_357 rfl rfl ?_
  refine E_iload_n (pc := 358) (x := nI i) ddL_law_358 rfl rfl ?_
  refine E_iconst (pc := 359) (v := 1) ddL_law_359 rfl ?_
  refine E_iadd (pc := 360) ddL_law_360 ?_
  refine E_ialdN (pc := 361) (j := i + 1) ddL_law_361 hs (ix2 i 1) (by omega) (by omega) ?_
  refine E_aload_n (pc := 362) (x := 0) ddL_law_362 rfl rfl ?_
  refine E_iload_n (pc := 363) (x := nI i) ddL_law_363 rfl rfl ?_
  refine E_iconst (pc := 364) (v := 2) ddL_law_364 rfl ?_
  refine E_iadd (pc := 365) ddL_law_365 ?_
  refine E_ialdN (pc := 366) (j := i + 2) ddL_law_366 hs (ix2 i 2) (by omega) (by omega) ?_
  refine E_callV (pc := 367) (As := [.int (I 0 (i + 1)), .int (I 0 (i + 2))]) (st := []) (a := 1) ddL_law_367 hX8_resolved ⟨(Nat.le_of_ble_eq_true rfl), (Nat.le_of_ble_eq_true rfl)⟩ w_3_57 (ci := 7) rfl rfl hz.s0 rfl rfl (Nat.le_of_ble_eq_true rfl) (e_cc rfl (e_cc rfl e_cn)) (Nat.le_of_ble_eq_true rfl) ?_
  refine C_resolved hz ?_
  refine (show E mL_law mc ms 370 [some (.ref 0), some (.ref 1), some (.ref 308), some (.int (nI i))] [.int (aRes (I 0 (i + 1)) (I 0 (i + 2)))] z I Q from ?_)
  refine E_aload_n (pc := 370) (x := 308) ddL_law_370 rfl rfl ?_
  refine E_aload_n (pc := 371) (x := 0) ddL_law_371 rfl rfl ?_
  refine E_iload_n (pc := 372) (x := nI i) ddL_law_372 rfl rfl ?_
  refine E_iconst (pc := 373) (v := 1) ddL_law_373 rfl ?_
  refine E_iadd (pc := 374) ddL_law_374 ?_
  refine E_ialdN (pc := 375) (j := i + 1) ddL_law_375 hs (ix2 i 1) (by omega) (by omega) ?_
  refine E_aload_n (pc := 376) (x := 0) ddL_law_376 rfl rfl ?_
  refine E_iload_n (pc := 377) (x := nI i) ddL_law_377 rfl rfl ?_
  refine E_iconst (pc := 378) (v := 2) ddL_law_378 rfl ?_
  refine E_iadd (pc := 379) ddL_law_379 ?_
  refine E_ialdN (pc := 380) (j := i + 2) ddL_law_380 hs (ix2 i 2) (by omega) (by omega) ?_
  refine E_callV (pc := 381) (As := [.int (I 0 (i + 1)), .int (I 0 (i + 2))]) (st := [.int (aRes (I 0 (i + 1)) (I 0 (i + 2)))]) (a := 308) ddL_law_381 hX9_resolved ⟨(Nat.le_of_ble_eq_true rfl), (Nat.le_of_ble_eq_true rfl)⟩ w_4_176 (ci := 8) rfl rfl ho.s0 rfl rfl (Nat.le_of_ble_eq_true rfl) (e_cc rfl (e_cc rfl e_cn)) (Nat.le_of_ble_eq_true rfl) ?_
  refine M_resolved ho ?_
  refine (show E mL_law mc ms 384 [some (.ref 0), some (.ref 1), some (.ref 308), some (.int (nI i))] [.int (aRes (I 0 (i + 1)) (I 0 (i + 2))), .int (aRes (I 0 (i + 1)) (I 0 (i + 2)))] z I Q from ?_)
  exact E_icmp_eq (pc := 384) (tgt := 685) ddL_law_384 (by decide) (fun _ => k z I (π, κ, ρ, c, α, β, μ) ⟨pa, pb, hz, hab, ho, hs, hC1, hY1, hG.le (by omega)⟩) (fun h => absurd rfl h)
set_option maxRecDepth 100000 in
set_option maxHeartbeats 4000000 in
theorem LC_comes (hL : LI n T z I G) (hn : n ≤ 2048) (hi : i + 4 ≤ n) (hT : T + 4000 < 2147483647) (k : ∀ z' I' G', LI n (T + 400) z' I' G' → E mL_law mc ms 685 [some (.ref 0), some (.ref 1), some (.ref 308), some (.int (nI i))] [] z' I' Q) : E mL_law mc ms 389 [some (.ref 0), some (.ref 1), some (.ref 308), some (.int (nI i))] [] z I Q := by
  obtain ⟨pa, pb, hz, hab, ho, hs, hC1, hY1, hG⟩ := hL
  obtain ⟨π, κ, ρ, c, α, β, μ⟩ := G
  have hpa : pa + 7 < 20 := by omega
  have h4 : 3 < pa := by omega
  have hT3 : T + 3000 < 2147483647 := by omega
  refine E_aload_n (pc := 389) (x := 1) ddL_law_389 rfl rfl ?_
  refine E_aload_n (pc := 390) (x := 0) ddL_law_390 rfl rfl ?_
  refine E_iload_n (pc := 391) (x := nI i) ddL_law_391 rfl rfl ?_
  refine E_iconst (pc := 392) (v := 1) ddL_law_392 rfl ?_
  refine E_iadd (pc := 393) ddL_law_393 ?_
  refine E_ialdN (pc := 394) (j := i + 1) ddL_law_394 hs (ix2 i 1) (by omega) (by omega) ?_
  refine E_aload_n (pc := 395) (x := 0) ddL_law_395 rfl rfl ?_
  refine E_iload_n (pc := 396) (x := nI i) ddL_law_396 rfl rfl ?_
  refine E_iconst (pc := 397) (v := 2) ddL_law_397 rfl ?_
  refine E_iadd (pc := 398) ddL_law_398 ?_
  refine E_ialdN (pc := 399) (j := i + 2) ddL_law_399 hs (ix2 i 2) (by omega) (by omega) ?_
  refine E_aload_n (pc := 400) (x := 0) ddL_law_400 rfl rfl ?_
  refine E_iload_n (pc := 401) (x := nI i) ddL_law_401 rfl rfl ?_
  refine E_iconst (pc := 402) (v := 3) ddL_law_402 rfl ?_
  refine E_iadd (pc := 403) ddL_law_403 ?_
  refine E_ialdN (pc := 404) (j := i + 3) ddL_law_404 hs (ix2 i 3) (by omega) (by omega) ?_
  refine E_callV (pc := 405) (As := [.int (I 0 (i + 1)), .int (I 0 (i + 2)), .int (I 0 (i + 3))]) (st := []) (a := 1) ddL_law_405 hX8_comes ⟨(Nat.le_of_ble_eq_true rfl), (Nat.le_of_ble_eq_true rfl)⟩ w_3_65 (ci := 7) rfl rfl hz.s0 rfl rfl (Nat.le_of_ble_eq_true rfl) (e_cc rfl (e_cc rfl (e_cc rfl e_cn))) (Nat.le_of_ble_eq_true rfl) ?_
  refine C_comes hz ?_
  refine (show E mL_law mc ms 408 [some (.ref 0), some (.ref 1), some (.ref 308), some (.int (nI i))] [.int (aCom (I 0 (i + 1)) (I 0 (i + 2)) (I 0 (i + 3)))] z I Q from ?_)
  refine E_aload_n (pc := 408) (x := 308) ddL_law_408 rfl rfl ?_
  refine E_aload_n (pc := 409) (x := 0) ddL_law_409 rfl rfl ?_
  refine E_iload_n (pc := 410) (x := nI i) ddL_law_410 rfl rfl ?_
  refine E_iconst (pc := 411) (v := 1) ddL_law_411 rfl ?_
  refine E_iadd (pc := 412) ddL_law_412 ?_
  refine E_ialdN (pc := 413) (j := i + 1) ddL_law_413 hs (ix2 i 1) (by omega) (by omega) ?_
  refine E_aload_n (pc := 414) (x := 0) ddL_law_414 rfl rfl ?_
  refine E_iload_n (pc := 415) (x := nI i) ddL_law_415 rfl rfl ?_
  refine E_iconst (pc := 416) (v := 2) ddL_law_416 rfl ?_
  refine E_iadd (pc := 417) ddL_law_417 ?_
  refine E_ialdN (pc := 418) (j := i + 2) ddL_law_418 hs (ix2 i 2) (by omega) (by omega) ?_
  refine E_aload_n (pc := 419) (x := 0) ddL_law_419 rfl rfl ?_
  refine E_iload_n (pc := 420) (x := nI i) ddL_law_420 rfl rfl ?_
  refine E_iconst (pc := 421) (v := 3) ddL_law_421 rfl ?_
  refine E_iadd (pc := 422) ddL_law_422 ?_
  refine E_ialdN (pc := 423) (j := i + 3) ddL_law_423 hs (ix2 i 3) (by omega) (by omega) ?_
  refine E_callV (pc := 424) (As := [.int (I 0 (i + 1)), .int (I 0 (i + 2)), .int (I 0 (i + 3))]) (st := [.int (aCom (I 0 (i + 1)) (I 0 (i + 2)) (I 0 (i + 3)))]) (a := 308) ddL_law_424 hX9_comes ⟨(Nat.le_of_ble_eq_true rfl), (Nat.le_of_ble_eq_true rfl)⟩ w_4_183 (ci := 8) rfl rfl ho.s0 rfl rfl (Nat.le_of_ble_eq_true rfl) (e_cc rfl (e_cc rfl (e_cc rfl e_cn))) (Nat.le_of_ble_eq_true rfl) ?_
  refine M_comes ho ?_
  refine (show E mL_law mc ms 427 [some (.ref 0), some (.ref 1), some (.ref 308), some (.int (nI i))] [.int (aCom (I 0 (i + 1)) (I 0 (i + 2)) (I 0 (i + 3))), .int (aCom (I 0 (i + 1)) (I 0 (i + 2)) (I 0 (i + 3)))] z I Q from ?_)
  exact E_icmp_eq (pc := 427) (tgt := 685) ddL_law_427 (by decide) (fun _ => k z I (π, κ, ρ, c, α, β, μ) ⟨pa, pb, hz, hab, ho, hs, hC1, hY1, hG.le (by omega)⟩) (fun h => absurd rfl h)
set_option maxRecDepth 100000 in
set_option maxHeartbeats 4000000 in
theorem LC_step (hL : LI n T z I G) (hn : n ≤ 2048) (hi : i + 4 ≤ n) (hT : T + 4000 < 2147483647) (k : ∀ z' I' G', LI n (T + 400) z' I' G' → E mL_law mc ms 685 [some (.ref 0), some (.ref 1), some (.ref 308), some (.int (nI i))] [] z' I' Q) : E mL_law mc ms 432 [some (.ref 0), some (.ref 1), some (.ref 308), some (.int (nI i))] [] z I Q := by
  obtain ⟨pa, pb, hz, hab, ho, hs, hC1, hY1, hG⟩ := hL
  obtain ⟨π, κ, ρ, c, α, β, μ⟩ := G
  have hpa : pa + 7 < 20 := by omega
  have h4 : 3 < pa := by omega
  have hT3 : T + 3000 < 2147483647 := by omega
  refine E_aload_n (pc := 432) (x := 1) ddL_law_432 rfl rfl ?_
  refine E_callV (pc := 433) (As := []) (st := []) (a := 1) ddL_law_433 hX8_step ⟨(Nat.le_of_ble_eq_true rfl), (Nat.le_of_ble_eq_true rfl)⟩ w_3_70 (ci := 7) rfl rfl hz.s0 rfl rfl (Nat.le_of_ble_eq_true rfl) e_cn (Nat.le_of_ble_eq_true rfl) ?_
  refine D_step hz hpa hC1 hG hT3 (fun I1 f1 hC2 => ?_)
  refine (show E mL_law mc ms 436 [some (.ref 0), some (.ref 1), some (.ref 308), some (.int (nI i))] [.int (oStep (π, κ, ρ, c, α, β, μ)).1] z I1 Q from ?_)
  have s0 : I1 0 = I 0 := f1 0 (Or.inl rfl)
  have hY2 := hY.fr (I' := I1) hY1 hG (fun a ha => f1 a (Or.inr ha))
  refine E_aload_n (pc := 436) (x := 308) ddL_law_436 rfl rfl ?_
  refine E_callV (pc := 437) (As := []) (st := [.int (oStep (π, κ, ρ, c, α, β, μ)).1]) (a := 308) ddL_law_437 hX9_step ⟨(Nat.le_of_ble_eq_true rfl), (Nat.le_of_ble_eq_true rfl)⟩ w_4_187 (ci := 8) rfl rfl ho.s0 rfl rfl (Nat.le_of_ble_eq_true rfl) e_cn (Nat.le_of_ble_eq_true rfl) ?_
  refine N_step ho hY2 hG hT3 (fun I2 f2 hY3 => ?_)
  refine (show E mL_law mc ms 440 [some (.ref 0), some (.ref 1), some (.ref 308), some (.int (nI i))] [.int (oStep (π, κ, ρ, c, α, β, μ)).1, .int (oStep (π, κ, ρ, c, α, β, μ)).1] z I2 Q from ?_)
  have hC3 := hC.fr (I' := I2) hC2 hpa (fun a ha => f2 a ha)
  exact E_icmp_eq (pc := 440) (tgt := 685) ddL_law_440 (by decide) (fun _ => k z I2 _ ⟨pa, pb, hz, hab, ho, hs, hC3, hY3, (W_step hG hT3)⟩) (fun h => absurd rfl h)
set_option maxRecDepth 100000 in
set_option maxHeartbeats 4000000 in
theorem LC_run (hL : LI n T z I G) (hn : n ≤ 2048) (hi : i + 4 ≤ n) (hT : T + 4000 < 2147483647) (k : ∀ z' I' G', LI n (T + 400) z' I' G' → E mL_law mc ms 685 [some (.ref 0), some (.ref 1), some (.ref 308), some (.int (nI i))] [] z' I' Q) : E mL_law mc ms 445 [some (.ref 0), some (.ref 1), some (.ref 308), some (.int (nI i))] [] z I Q := by
  obtain ⟨pa, pb, hz, hab, ho, hs, hC1, hY1, hG⟩ := hL
  obtain ⟨π, κ, ρ, c, α, β, μ⟩ := G
  have hpa : pa + 7 < 20 := by omega
  have h4 : 3 < pa := by omega
  have hT3 : T + 3000 < 2147483647 := by omega
  refine E_aload_n (pc := 445) (x := 1) ddL_law_445 rfl rfl ?_
  refine E_aload_n (pc := 446) (x := 0) ddL_law_446 rfl rfl ?_
  refine E_iload_n (pc := 447) (x := nI i) ddL_law_447 rfl rfl ?_
  refine E_iconst (pc := 448) (v := 1) ddL_law_448 rfl ?_
  refine E_iadd (pc := 449) ddL_law_449 ?_
  refine E_ialdN (pc := 450) (j := i + 1) ddL_law_450 hs (ix2 i 1) (by omega) (by omega) ?_
  refine E_callV (pc := 451) (As := [.int (I 0 (i + 1))]) (st := []) (a := 1) ddL_law_451 hX8_run ⟨(Nat.le_of_ble_eq_true rfl), (Nat.le_of_ble_eq_true rfl)⟩ w_3_81 (ci := 7) rfl rfl hz.s0 rfl rfl (Nat.le_of_ble_eq_true rfl) (e_cc rfl e_cn) (Nat.le_of_ble_eq_true rfl) ?_
  refine D_run hz hpa hC1 hG hT3 (fun I1 f1 hC2 => ?_)
  refine (show E mL_law mc ms 454 [some (.ref 0), some (.ref 1), some (.ref 308), some (.int (nI i))] [.int (oRun (π, κ, ρ, c, α, β, μ) (I 0 (i + 1))).1] z I1 Q from ?_)
  have s0 : I1 0 = I 0 := f1 0 (Or.inl rfl)
  have hY2 := hY.fr (I' := I1) hY1 hG (fun a ha => f1 a (Or.inr ha))
  refine E_aload_n (pc := 454) (x := 308) ddL_law_454 rfl rfl ?_
  refine E_aload_n (pc := 455) (x := 0) ddL_law_455 rfl rfl ?_
  refine E_iload_n (pc := 456) (x := nI i) ddL_law_456 rfl rfl ?_
  refine E_iconst (pc := 457) (v := 1) ddL_law_457 rfl ?_
  refine E_iadd (pc := 458) ddL_law_458 ?_
  refine E_ialdN (pc := 459) (j := i + 1) ddL_law_459 hs (ix2 i 1) (by omega) (by omega) ?_
  rw [s0]
  refine E_callV (pc := 460) (As := [.int (I 0 (i + 1))]) (st := [.int (oRun (π, κ, ρ, c, α, β, μ) (I 0 (i + 1))).1]) (a := 308) ddL_law_460 hX9_run ⟨(Nat.le_of_ble_eq_true rfl), (Nat.le_of_ble_eq_true rfl)⟩ w_4_196 (ci := 8) rfl rfl ho.s0 rfl rfl (Nat.le_of_ble_eq_true rfl) (e_cc rfl e_cn) (Nat.le_of_ble_eq_true rfl) ?_
  refine N_run ho hY2 hG hT3 (fun I2 f2 hY3 => ?_)
  refine (show E mL_law mc ms 463 [some (.ref 0), some (.ref 1), some (.ref 308), some (.int (nI i))] [.int (oRun (π, κ, ρ, c, α, β, μ) (I 0 (i + 1))).1, .int (oRun (π, κ, ρ, c, α, β, μ) (I 0 (i + 1))).1] z I2 Q from ?_)
  have hC3 := hC.fr (I' := I2) hC2 hpa (fun a ha => f2 a ha)
  exact E_icmp_eq (pc := 463) (tgt := 685) ddL_law_463 (by decide) (fun _ => k z I2 _ ⟨pa, pb, hz, hab, ho, hs, hC3, hY3, (W_run hG hT3)⟩) (fun h => absurd rfl h)
set_option maxRecDepth 100000 in
set_option maxHeartbeats 4000000 in
theorem LC_set (hL : LI n T z I G) (hn : n ≤ 2048) (hi : i + 4 ≤ n) (hT : T + 4000 < 2147483647) (k : ∀ z' I' G', LI n (T + 400) z' I' G' → E mL_law mc ms 685 [some (.ref 0), some (.ref 1), some (.ref 308), some (.int (nI i))] [] z' I' Q) : E mL_law mc ms 468 [some (.ref 0), some (.ref 1), some (.ref 308), some (.int (nI i))] [] z I Q := by
  obtain ⟨pa, pb, hz, hab, ho, hs, hC1, hY1, hG⟩ := hL
  obtain ⟨π, κ, ρ, c, α, β, μ⟩ := G
  have hpa : pa + 7 < 20 := by omega
  have h4 : 3 < pa := by omega
  have hT3 : T + 3000 < 2147483647 := by omega
  refine E_aload_n (pc := 468) (x := 1) ddL_law_468 rfl rfl ?_
  refine E_aload_n (pc := 469) (x := 0) ddL_law_469 rfl rfl ?_
  refine E_iload_n (pc := 470) (x := nI i) ddL_law_470 rfl rfl ?_
  refine E_iconst (pc := 471) (v := 1) ddL_law_471 rfl ?_
  refine E_iadd (pc := 472) ddL_law_472 ?_
  refine E_ialdN (pc := 473) (j := i + 1) ddL_law_473 hs (ix2 i 1) (by omega) (by omega) ?_
  refine E_aload_n (pc := 474) (x := 0) ddL_law_474 rfl rfl ?_
  refine E_iload_n (pc := 475) (x := nI i) ddL_law_475 rfl rfl ?_
  refine E_iconst (pc := 476) (v := 2) ddL_law_476 rfl ?_
  refine E_iadd (pc := 477) ddL_law_477 ?_
  refine E_ialdN (pc := 478) (j := i + 2) ddL_law_478 hs (ix2 i 2) (by omega) (by omega) ?_
  refine E_aload_n (pc := 479) (x := 0) ddL_law_479 rfl rfl ?_
  refine E_iload_n (pc := 480) (x := nI i) ddL_law_480 rfl rfl ?_
  refine E_iconst (pc := 481) (v := 3) ddL_law_481 rfl ?_
  refine E_iadd (pc := 482) ddL_law_482 ?_
  refine E_ialdN (pc := 483) (j := i + 3) ddL_law_483 hs (ix2 i 3) (by omega) (by omega) ?_
  refine E_callV (pc := 484) (As := [.int (I 0 (i + 1)), .int (I 0 (i + 2)), .int (I 0 (i + 3))]) (st := []) (a := 1) ddL_law_484 hX8_set ⟨(Nat.le_of_ble_eq_true rfl), (Nat.le_of_ble_eq_true rfl)⟩ w_3_90 (ci := 7) rfl rfl hz.s0 rfl rfl (Nat.le_of_ble_eq_true rfl) (e_cc rfl (e_cc rfl (e_cc rfl e_cn))) (Nat.le_of_ble_eq_true rfl) ?_
  refine D_set hz hpa hC1 hG hT3 (fun I1 f1 hC2 => ?_)
  refine (show E mL_law mc ms 487 [some (.ref 0), some (.ref 1), some (.ref 308), some (.int (nI i))] [.int (oSet (π, κ, ρ, c, α, β, μ) (I 0 (i + 1)) (I 0 (i + 2)) (I 0 (i + 3))).1] z I1 Q from ?_)
  have s0 : I1 0 = I 0 := f1 0 (Or.inl rfl)
  have hY2 := hY.fr (I' := I1) hY1 hG (fun a ha => f1 a (Or.inr ha))
  refine E_aload_n (pc := 487) (x := 308) ddL_law_487 rfl rfl ?_
  refine E_aload_n (pc := 488) (x := 0) ddL_law_488 rfl rfl ?_
  refine E_iload_n (pc := 489) (x := nI i) ddL_law_489 rfl rfl ?_
  refine E_iconst (pc := 490) (v := 1) ddL_law_490 rfl ?_
  refine E_iadd (pc := 491) ddL_law_491 ?_
  refine E_ialdN (pc := 492) (j := i + 1) ddL_law_492 hs (ix2 i 1) (by omega) (by omega) ?_
  refine E_aload_n (pc := 493) (x := 0) ddL_law_493 rfl rfl ?_
  refine E_iload_n (pc := 494) (x := nI i) ddL_law_494 rfl rfl ?_
  refine E_iconst (pc := 495) (v := 2) ddL_law_495 rfl ?_
  refine E_iadd (pc := 496) ddL_law_496 ?_
  refine E_ialdN (pc := 497) (j := i + 2) ddL_law_497 hs (ix2 i 2) (by omega) (by omega) ?_
  refine E_aload_n (pc := 498) (x := 0) ddL_law_498 rfl rfl ?_
  refine E_iload_n (pc := 499) (x := nI i) ddL_law_499 rfl rfl ?_
  refine E_iconst (pc := 500) (v := 3) ddL_law_500 rfl ?_
  refine E_iadd (pc := 501) ddL_law_501 ?_
  refine E_ialdN (pc := 502) (j := i + 3) ddL_law_502 hs (ix2 i 3) (by omega) (by omega) ?_
  rw [s0]
  refine E_callV (pc := 503) (As := [.int (I 0 (i + 1)), .int (I 0 (i + 2)), .int (I 0 (i + 3))]) (st := [.int (oSet (π, κ, ρ, c, α, β, μ) (I 0 (i + 1)) (I 0 (i + 2)) (I 0 (i + 3))).1]) (a := 308) ddL_law_503 hX9_set ⟨(Nat.le_of_ble_eq_true rfl), (Nat.le_of_ble_eq_true rfl)⟩ w_4_200 (ci := 8) rfl rfl ho.s0 rfl rfl (Nat.le_of_ble_eq_true rfl) (e_cc rfl (e_cc rfl (e_cc rfl e_cn))) (Nat.le_of_ble_eq_true rfl) ?_
  refine N_set ho hY2 hG hT3 (fun I2 f2 hY3 => ?_)
  refine (show E mL_law mc ms 506 [some (.ref 0), some (.ref 1), some (.ref 308), some (.int (nI i))] [.int (oSet (π, κ, ρ, c, α, β, μ) (I 0 (i + 1)) (I 0 (i + 2)) (I 0 (i + 3))).1, .int (oSet (π, κ, ρ, c, α, β, μ) (I 0 (i + 1)) (I 0 (i + 2)) (I 0 (i + 3))).1] z I2 Q from ?_)
  have hC3 := hC.fr (I' := I2) hC2 hpa (fun a ha => f2 a ha)
  exact E_icmp_eq (pc := 506) (tgt := 685) ddL_law_506 (by decide) (fun _ => k z I2 _ ⟨pa, pb, hz, hab, ho, hs, hC3, hY3, (W_set hG hT3)⟩) (fun h => absurd rfl h)
set_option maxRecDepth 100000 in
set_option maxHeartbeats 4000000 in
theorem LC_calm (hL : LI n T z I G) (hn : n ≤ 2048) (hi : i + 4 ≤ n) (hT : T + 4000 < 2147483647) (k : ∀ z' I' G', LI n (T + 400) z' I' G' → E mL_law mc ms 685 [some (.ref 0), some (.ref 1), some (.ref 308), some (.int (nI i))] [] z' I' Q) : E mL_law mc ms 511 [some (.ref 0), some (.ref 1), some (.ref 308), some (.int (nI i))] [] z I Q := by
  obtain ⟨pa, pb, hz, hab, ho, hs, hC1, hY1, hG⟩ := hL
  obtain ⟨π, κ, ρ, c, α, β, μ⟩ := G
  have hpa : pa + 7 < 20 := by omega
  have h4 : 3 < pa := by omega
  have hT3 : T + 3000 < 2147483647 := by omega
  refine E_aload_n (pc := 511) (x := 1) ddL_law_511 rfl rfl ?_
  refine E_callV (pc := 512) (As := []) (st := []) (a := 1) ddL_law_512 hX8_calm ⟨(Nat.le_of_ble_eq_true rfl), (Nat.le_of_ble_eq_true rfl)⟩ w_3_108 (ci := 7) rfl rfl hz.s0 rfl rfl (Nat.le_of_ble_eq_true rfl) e_cn (Nat.le_of_ble_eq_true rfl) ?_
  refine D_calm hz hpa hC1 hG hT3 (fun I1 f1 hC2 => ?_)
  refine (show E mL_law mc ms 515 [some (.ref 0), some (.ref 1), some (.ref 308), some (.int (nI i))] [.int (oCalm (π, κ, ρ, c, α, β, μ)).1] z I1 Q from ?_)
  have s0 : I1 0 = I 0 := f1 0 (Or.inl rfl)
  have hY2 := hY.fr (I' := I1) hY1 hG (fun a ha => f1 a (Or.inr ha))
  refine E_aload_n (pc := 515) (x := 308) ddL_law_515 rfl rfl ?_
  refine E_callV (pc := 516) (As := []) (st := [.int (oCalm (π, κ, ρ, c, α, β, μ)).1]) (a := 308) ddL_law_516 hX9_calm ⟨(Nat.le_of_ble_eq_true rfl), (Nat.le_of_ble_eq_true rfl)⟩ w_4_212 (ci := 8) rfl rfl ho.s0 rfl rfl (Nat.le_of_ble_eq_true rfl) e_cn (Nat.le_of_ble_eq_true rfl) ?_
  refine N_calm ho hY2 hG hT3 (fun I2 f2 hY3 => ?_)
  refine (show E mL_law mc ms 519 [some (.ref 0), some (.ref 1), some (.ref 308), some (.int (nI i))] [.int (oCalm (π, κ, ρ, c, α, β, μ)).1, .int (oCalm (π, κ, ρ, c, α, β, μ)).1] z I2 Q from ?_)
  have hC3 := hC.fr (I' := I2) hC2 hpa (fun a ha => f2 a ha)
  exact E_icmp_eq (pc := 519) (tgt := 685) ddL_law_519 (by decide) (fun _ => k z I2 _ ⟨pa, pb, hz, hab, ho, hs, hC3, hY3, (W_calm hG)⟩) (fun h => absurd rfl h)
set_option maxRecDepth 100000 in
set_option maxHeartbeats 4000000 in
theorem LC_drift (hL : LI n T z I G) (hn : n ≤ 2048) (hi : i + 4 ≤ n) (hT : T + 4000 < 2147483647) (k : ∀ z' I' G', LI n (T + 400) z' I' G' → E mL_law mc ms 685 [some (.ref 0), some (.ref 1), some (.ref 308), some (.int (nI i))] [] z' I' Q) : E mL_law mc ms 524 [some (.ref 0), some (.ref 1), some (.ref 308), some (.int (nI i))] [] z I Q := by
  obtain ⟨pa, pb, hz, hab, ho, hs, hC1, hY1, hG⟩ := hL
  obtain ⟨π, κ, ρ, c, α, β, μ⟩ := G
  have hpa : pa + 7 < 20 := by omega
  have h4 : 3 < pa := by omega
  have hT3 : T + 3000 < 2147483647 := by omega
  refine E_aload_n (pc := 524) (x := 1) ddL_law_524 rfl rfl ?_
  refine E_aload_n (pc := 525) (x := 0) ddL_law_525 rfl rfl ?_
  refine E_iload_n (pc := 526) (x := nI i) ddL_law_526 rfl rfl ?_
  refine E_iconst (pc := 527) (v := 1) ddL_law_527 rfl ?_
  refine E_iadd (pc := 528) ddL_law_528 ?_
  refine E_ialdN (pc := 529) (j := i + 1) ddL_law_529 hs (ix2 i 1) (by omega) (by omega) ?_
  refine E_callV (pc := 530) (As := [.int (I 0 (i + 1))]) (st := []) (a := 1) ddL_law_530 hX8_drift ⟨(Nat.le_of_ble_eq_true rfl), (Nat.le_of_ble_eq_true rfl)⟩ w_3_113 (ci := 7) rfl rfl hz.s0 rfl rfl (Nat.le_of_ble_eq_true rfl) (e_cc rfl e_cn) (Nat.le_of_ble_eq_true rfl) ?_
  refine D_drift hz hpa hC1 hG hT (fun I1 f1 hC2 => ?_)
  refine (show E mL_law mc ms 533 [some (.ref 0), some (.ref 1), some (.ref 308), some (.int (nI i))] [.int (oDrift (π, κ, ρ, c, α, β, μ) (I 0 (i + 1))).1] z I1 Q from ?_)
  have s0 : I1 0 = I 0 := f1 0 (Or.inl rfl)
  have hY2 := hY.fr (I' := I1) hY1 hG (fun a ha => f1 a (Or.inr ha))
  refine E_aload_n (pc := 533) (x := 308) ddL_law_533 rfl rfl ?_
  refine E_aload_n (pc := 534) (x := 0) ddL_law_534 rfl rfl ?_
  refine E_iload_n (pc := 535) (x := nI i) ddL_law_535 rfl rfl ?_
  refine E_iconst (pc := 536) (v := 1) ddL_law_536 rfl ?_
  refine E_iadd (pc := 537) ddL_law_537 ?_
  refine E_ialdN (pc := 538) (j := i + 1) ddL_law_538 hs (ix2 i 1) (by omega) (by omega) ?_
  rw [s0]
  refine E_callV (pc := 539) (As := [.int (I 0 (i + 1))]) (st := [.int (oDrift (π, κ, ρ, c, α, β, μ) (I 0 (i + 1))).1]) (a := 308) ddL_law_539 hX9_drift ⟨(Nat.le_of_ble_eq_true rfl), (Nat.le_of_ble_eq_true rfl)⟩ w_4_216 (ci := 8) rfl rfl ho.s0 rfl rfl (Nat.le_of_ble_eq_true rfl) (e_cc rfl e_cn) (Nat.le_of_ble_eq_true rfl) ?_
  refine N_drift ho hY2 hG hT (fun I2 f2 hY3 => ?_)
  refine (show E mL_law mc ms 542 [some (.ref 0), some (.ref 1), some (.ref 308), some (.int (nI i))] [.int (oDrift (π, κ, ρ, c, α, β, μ) (I 0 (i + 1))).1, .int (oDrift (π, κ, ρ, c, α, β, μ) (I 0 (i + 1))).1] z I2 Q from ?_)
  have hC3 := hC.fr (I' := I2) hC2 hpa (fun a ha => f2 a ha)
  exact E_icmp_eq (pc := 542) (tgt := 685) ddL_law_542 (by decide) (fun _ => k z I2 _ ⟨pa, pb, hz, hab, ho, hs, hC3, hY3, (W_drift hG hT)⟩) (fun h => absurd rfl h)
set_option maxRecDepth 100000 in
set_option maxHeartbeats 4000000 in
theorem LC_undo (hL : LI n T z I G) (hn : n ≤ 2048) (hi : i + 4 ≤ n) (hT : T + 4000 < 2147483647) (k : ∀ z' I' G', LI n (T + 400) z' I' G' → E mL_law mc ms 685 [some (.ref 0), some (.ref 1), some (.ref 308), some (.int (nI i))] [] z' I' Q) : E mL_law mc ms 547 [some (.ref 0), some (.ref 1), some (.ref 308), some (.int (nI i))] [] z I Q := by
  obtain ⟨pa, pb, hz, hab, ho, hs, hC1, hY1, hG⟩ := hL
  obtain ⟨π, κ, ρ, c, α, β, μ⟩ := G
  have hpa : pa + 7 < 20 := by omega
  have h4 : 3 < pa := by omega
  have hT3 : T + 3000 < 2147483647 := by omega
  refine E_aload_n (pc := 547) (x := 1) ddL_law_547 rfl rfl ?_
  refine E_aload_n (pc := 548) (x := 0) ddL_law_548 rfl rfl ?_
  refine E_iload_n (pc := 549) (x := nI i) ddL_law_549 rfl rfl ?_
  refine E_iconst (pc := 550) (v := 1) ddL_law_550 rfl ?_
  refine E_iadd (pc := 551) ddL_law_551 ?_
  refine E_ialdN (pc := 552) (j := i + 1) ddL_law_552 hs (ix2 i 1) (by omega) (by omega) ?_
  refine E_callV (pc := 553) (As := [.int (I 0 (i + 1))]) (st := []) (a := 1) ddL_law_553 hX8_undo ⟨(Nat.le_of_ble_eq_true rfl), (Nat.le_of_ble_eq_true rfl)⟩ w_3_129 (ci := 7) rfl rfl hz.s0 rfl rfl (Nat.le_of_ble_eq_true rfl) (e_cc rfl e_cn) (Nat.le_of_ble_eq_true rfl) ?_
  refine D_undo hz hpa hC1 hG (fun I1 f1 hC2 => ?_)
  refine (show E mL_law mc ms 556 [some (.ref 0), some (.ref 1), some (.ref 308), some (.int (nI i))] [.int (oUndo (π, κ, ρ, c, α, β, μ) (I 0 (i + 1))).1] z I1 Q from ?_)
  have s0 : I1 0 = I 0 := f1 0 (Or.inl rfl)
  have hY2 := hY.fr (I' := I1) hY1 hG (fun a ha => f1 a (Or.inr ha))
  refine E_aload_n (pc := 556) (x := 308) ddL_law_556 rfl rfl ?_
  refine E_aload_n (pc := 557) (x := 0) ddL_law_557 rfl rfl ?_
  refine E_iload_n (pc := 558) (x := nI i) ddL_law_558 rfl rfl ?_
  refine E_iconst (pc := 559) (v := 1) ddL_law_559 rfl ?_
  refine E_iadd (pc := 560) ddL_law_560 ?_
  refine E_ialdN (pc := 561) (j := i + 1) ddL_law_561 hs (ix2 i 1) (by omega) (by omega) ?_
  rw [s0]
  refine E_callV (pc := 562) (As := [.int (I 0 (i + 1))]) (st := [.int (oUndo (π, κ, ρ, c, α, β, μ) (I 0 (i + 1))).1]) (a := 308) ddL_law_562 hX9_undo ⟨(Nat.le_of_ble_eq_true rfl), (Nat.le_of_ble_eq_true rfl)⟩ w_4_232 (ci := 8) rfl rfl ho.s0 rfl rfl (Nat.le_of_ble_eq_true rfl) (e_cc rfl e_cn) (Nat.le_of_ble_eq_true rfl) ?_
  refine N_undo ho hY2 hG (fun I2 f2 hY3 => ?_)
  refine (show E mL_law mc ms 565 [some (.ref 0), some (.ref 1), some (.ref 308), some (.int (nI i))] [.int (oUndo (π, κ, ρ, c, α, β, μ) (I 0 (i + 1))).1, .int (oUndo (π, κ, ρ, c, α, β, μ) (I 0 (i + 1))).1] z I2 Q from ?_)
  have hC3 := hC.fr (I' := I2) hC2 hpa (fun a ha => f2 a ha)
  exact E_icmp_eq (pc := 565) (tgt := 685) ddL_law_565 (by decide) (fun _ => k z I2 _ ⟨pa, pb, hz, hab, ho, hs, hC3, hY3, ((W_undo hG).le (by omega))⟩) (fun h => absurd rfl h)
set_option maxRecDepth 100000 in
set_option maxHeartbeats 4000000 in
theorem LC_write (hL : LI n T z I G) (hn : n ≤ 2048) (hi : i + 4 ≤ n) (hT : T + 4000 < 2147483647) (k : ∀ z' I' G', LI n (T + 400) z' I' G' → E mL_law mc ms 685 [some (.ref 0), some (.ref 1), some (.ref 308), some (.int (nI i))] [] z' I' Q) : E mL_law mc ms 570 [some (.ref 0), some (.ref 1), some (.ref 308), some (.int (nI i))] [] z I Q := by
  obtain ⟨pa, pb, hz, hab, ho, hs, hC1, hY1, hG⟩ := hL
  obtain ⟨π, κ, ρ, c, α, β, μ⟩ := G
  have hpa : pa + 7 < 20 := by omega
  have h4 : 3 < pa := by omega
  have hT3 : T + 3000 < 2147483647 := by omega
  refine E_aload_n (pc := 570) (x := 1) ddL_law_570 rfl rfl ?_
  refine E_aload_n (pc := 571) (x := 0) ddL_law_571 rfl rfl ?_
  refine E_iload_n (pc := 572) (x := nI i) ddL_law_572 rfl rfl ?_
  refine E_iconst (pc := 573) (v := 1) ddL_law_573 rfl ?_
  refine E_iadd (pc := 574) ddL_law_574 ?_
  refine E_ialdN (pc := 575) (j := i + 1) ddL_law_575 hs (ix2 i 1) (by omega) (by omega) ?_
  refine E_aload_n (pc := 576) (x := 0) ddL_law_576 rfl rfl ?_
  refine E_iload_n (pc := 577) (x := nI i) ddL_law_577 rfl rfl ?_
  refine E_iconst (pc := 578) (v := 2) ddL_law_578 rfl ?_
  refine E_iadd (pc := 579) ddL_law_579 ?_
  refine E_ialdN (pc := 580) (j := i + 2) ddL_law_580 hs (ix2 i 2) (by omega) (by omega) ?_
  refine E_callV (pc := 581) (As := [.int (I 0 (i + 1)), .int (I 0 (i + 2))]) (st := []) (a := 1) ddL_law_581 hX8_write ⟨(Nat.le_of_ble_eq_true rfl), (Nat.le_of_ble_eq_true rfl)⟩ w_3_138 (ci := 7) rfl rfl hz.s0 rfl rfl (Nat.le_of_ble_eq_true rfl) (e_cc rfl (e_cc rfl e_cn)) (Nat.le_of_ble_eq_true rfl) ?_
  refine D_write hz hpa hC1 hG (fun I1 f1 hC2 => ?_)
  refine (show E mL_law mc ms 584 [some (.ref 0), some (.ref 1), some (.ref 308), some (.int (nI i))] [.int (oWrite (π, κ, ρ, c, α, β, μ) (I 0 (i + 1)) (I 0 (i + 2))).1] z I1 Q from ?_)
  have s0 : I1 0 = I 0 := f1 0 (Or.inl rfl)
  have hY2 := hY.fr (I' := I1) hY1 hG (fun a ha => f1 a (Or.inr ha))
  refine E_aload_n (pc := 584) (x := 308) ddL_law_584 rfl rfl ?_
  refine E_aload_n (pc := 585) (x := 0) ddL_law_585 rfl rfl ?_
  refine E_iload_n (pc := 586) (x := nI i) ddL_law_586 rfl rfl ?_
  refine E_iconst (pc := 587) (v := 1) ddL_law_587 rfl ?_
  refine E_iadd (pc := 588) ddL_law_588 ?_
  refine E_ialdN (pc := 589) (j := i + 1) ddL_law_589 hs (ix2 i 1) (by omega) (by omega) ?_
  refine E_aload_n (pc := 590) (x := 0) ddL_law_590 rfl rfl ?_
  refine E_iload_n (pc := 591) (x := nI i) ddL_law_591 rfl rfl ?_
  refine E_iconst (pc := 592) (v := 2) ddL_law_592 rfl ?_
  refine E_iadd (pc := 593) ddL_law_593 ?_
  refine E_ialdN (pc := 594) (j := i + 2) ddL_law_594 hs (ix2 i 2) (by omega) (by omega) ?_
  rw [s0]
  refine E_callV (pc := 595) (As := [.int (I 0 (i + 1)), .int (I 0 (i + 2))]) (st := [.int (oWrite (π, κ, ρ, c, α, β, μ) (I 0 (i + 1)) (I 0 (i + 2))).1]) (a := 308) ddL_law_595 hX9_write ⟨(Nat.le_of_ble_eq_true rfl), (Nat.le_of_ble_eq_true rfl)⟩ w_4_236 (ci := 8) rfl rfl ho.s0 rfl rfl (Nat.le_of_ble_eq_true rfl) (e_cc rfl (e_cc rfl e_cn)) (Nat.le_of_ble_eq_true rfl) ?_
  refine N_write ho hY2 hG (fun I2 f2 hY3 => ?_)
  refine (show E mL_law mc ms 598 [some (.ref 0), some (.ref 1), some (.ref 308), some (.int (nI i))] [.int (oWrite (π, κ, ρ, c, α, β, μ) (I 0 (i + 1)) (I 0 (i + 2))).1, .int (oWrite (π, κ, ρ, c, α, β, μ) (I 0 (i + 1)) (I 0 (i + 2))).1] z I2 Q from ?_)
  have hC3 := hC.fr (I' := I2) hC2 hpa (fun a ha => f2 a ha)
  exact E_icmp_eq (pc := 598) (tgt := 685) ddL_law_598 (by decide) (fun _ => k z I2 _ ⟨pa, pb, hz, hab, ho, hs, hC3, hY3, ((W_write hG).le (by omega))⟩) (fun h => absurd rfl h)
set_option maxRecDepth 100000 in
set_option maxHeartbeats 4000000 in
theorem LC_tear (hL : LI n T z I G) (hn : n ≤ 2048) (hi : i + 4 ≤ n) (hT : T + 4000 < 2147483647) (k : ∀ z' I' G', LI n (T + 400) z' I' G' → E mL_law mc ms 685 [some (.ref 0), some (.ref 1), some (.ref 308), some (.int (nI i))] [] z' I' Q) : E mL_law mc ms 603 [some (.ref 0), some (.ref 1), some (.ref 308), some (.int (nI i))] [] z I Q := by
  obtain ⟨pa, pb, hz, hab, ho, hs, hC1, hY1, hG⟩ := hL
  obtain ⟨π, κ, ρ, c, α, β, μ⟩ := G
  have hpa : pa + 7 < 20 := by omega
  have h4 : 3 < pa := by omega
  have hT3 : T + 3000 < 2147483647 := by omega
  refine E_aload_n (pc := 603) (x := 1) ddL_law_603 rfl rfl ?_
  refine E_callV (pc := 604) (As := []) (st := []) (a := 1) ddL_law_604 hX8_tear ⟨(Nat.le_of_ble_eq_true rfl), (Nat.le_of_ble_eq_true rfl)⟩ w_3_147 (ci := 7) rfl rfl hz.s0 rfl rfl (Nat.le_of_ble_eq_true rfl) e_cn (Nat.le_of_ble_eq_true rfl) ?_
  refine D_tear hz hpa hC1 (fun I1 f1 hC2 => ?_)
  refine (show E mL_law mc ms 607 [some (.ref 0), some (.ref 1), some (.ref 308), some (.int (nI i))] [.int (oTear (π, κ, ρ, c, α, β, μ)).1] z I1 Q from ?_)
  have s0 : I1 0 = I 0 := f1 0 (Or.inl rfl)
  have hY2 := hY.fr (I' := I1) hY1 hG (fun a ha => f1 a (Or.inr ha))
  refine E_aload_n (pc := 607) (x := 308) ddL_law_607 rfl rfl ?_
  refine E_callV (pc := 608) (As := []) (st := [.int (oTear (π, κ, ρ, c, α, β, μ)).1]) (a := 308) ddL_law_608 hX9_tear ⟨(Nat.le_of_ble_eq_true rfl), (Nat.le_of_ble_eq_true rfl)⟩ w_5_0 (ci := 8) rfl rfl ho.s0 rfl rfl (Nat.le_of_ble_eq_true rfl) e_cn (Nat.le_of_ble_eq_true rfl) ?_
  refine N_tear ho hY2 hG (fun I2 f2 hY3 => ?_)
  refine (show E mL_law mc ms 611 [some (.ref 0), some (.ref 1), some (.ref 308), some (.int (nI i))] [.int (oTear (π, κ, ρ, c, α, β, μ)).1, .int (oTear (π, κ, ρ, c, α, β, μ)).1] z I2 Q from ?_)
  have hC3 := hC.fr (I' := I2) hC2 hpa (fun a ha => f2 a ha)
  exact E_icmp_eq (pc := 611) (tgt := 685) ddL_law_611 (by decide) (fun _ => k z I2 _ ⟨pa, pb, hz, hab, ho, hs, hC3, hY3, ((W_tear hG).le (by omega))⟩) (fun h => absurd rfl h)
set_option maxRecDepth 100000 in
set_option maxHeartbeats 4000000 in
theorem LC_seed (hL : LI n T z I G) (hn : n ≤ 2048) (hi : i + 4 ≤ n) (hT : T + 4000 < 2147483647) (k : ∀ z' I' G', LI n (T + 400) z' I' G' → E mL_law mc ms 685 [some (.ref 0), some (.ref 1), some (.ref 308), some (.int (nI i))] [] z' I' Q) : E mL_law mc ms 616 [some (.ref 0), some (.ref 1), some (.ref 308), some (.int (nI i))] [] z I Q := by
  obtain ⟨pa, pb, hz, hab, ho, hs, hC1, hY1, hG⟩ := hL
  obtain ⟨π, κ, ρ, c, α, β, μ⟩ := G
  have hpa : pa + 7 < 20 := by omega
  have h4 : 3 < pa := by omega
  have hT3 : T + 3000 < 2147483647 := by omega
  refine E_aload_n (pc := 616) (x := 1) ddL_law_616 rfl rfl ?_
  refine E_aload_n (pc := 617) (x := 0) ddL_law_617 rfl rfl ?_
  refine E_iload_n (pc := 618) (x := nI i) ddL_law_618 rfl rfl ?_
  refine E_iconst (pc := 619) (v := 1) ddL_law_619 rfl ?_
  refine E_iadd (pc := 620) ddL_law_620 ?_
  refine E_ialdN (pc := 621) (j := i + 1) ddL_law_621 hs (ix2 i 1) (by omega) (by omega) ?_
  refine E_callV (pc := 622) (As := [.int (I 0 (i + 1))]) (st := []) (a := 1) ddL_law_622 hX8_seed ⟨(Nat.le_of_ble_eq_true rfl), (Nat.le_of_ble_eq_true rfl)⟩ w_3_151 (ci := 7) rfl rfl hz.s0 rfl rfl (Nat.le_of_ble_eq_true rfl) (e_cc rfl e_cn) (Nat.le_of_ble_eq_true rfl) ?_
  refine D_seed hz hpa hC1 (fun I1 f1 hC2 => ?_)
  refine (show E mL_law mc ms 625 [some (.ref 0), some (.ref 1), some (.ref 308), some (.int (nI i))] [.int (oSeed (π, κ, ρ, c, α, β, μ) (I 0 (i + 1))).1] z I1 Q from ?_)
  have s0 : I1 0 = I 0 := f1 0 (Or.inl rfl)
  have hY2 := hY.fr (I' := I1) hY1 hG (fun a ha => f1 a (Or.inr ha))
  refine E_aload_n (pc := 625) (x := 308) ddL_law_625 rfl rfl ?_
  refine E_aload_n (pc := 626) (x := 0) ddL_law_626 rfl rfl ?_
  refine E_iload_n (pc := 627) (x := nI i) ddL_law_627 rfl rfl ?_
  refine E_iconst (pc := 628) (v := 1) ddL_law_628 rfl ?_
  refine E_iadd (pc := 629) ddL_law_629 ?_
  refine E_ialdN (pc := 630) (j := i + 1) ddL_law_630 hs (ix2 i 1) (by omega) (by omega) ?_
  rw [s0]
  refine E_callV (pc := 631) (As := [.int (I 0 (i + 1))]) (st := [.int (oSeed (π, κ, ρ, c, α, β, μ) (I 0 (i + 1))).1]) (a := 308) ddL_law_631 hX9_seed ⟨(Nat.le_of_ble_eq_true rfl), (Nat.le_of_ble_eq_true rfl)⟩ w_5_4 (ci := 8) rfl rfl ho.s0 rfl rfl (Nat.le_of_ble_eq_true rfl) (e_cc rfl e_cn) (Nat.le_of_ble_eq_true rfl) ?_
  refine N_seed ho hY2 hG (fun I2 f2 hY3 => ?_)
  refine (show E mL_law mc ms 634 [some (.ref 0), some (.ref 1), some (.ref 308), some (.int (nI i))] [.int (oSeed (π, κ, ρ, c, α, β, μ) (I 0 (i + 1))).1, .int (oSeed (π, κ, ρ, c, α, β, μ) (I 0 (i + 1))).1] z I2 Q from ?_)
  have hC3 := hC.fr (I' := I2) hC2 hpa (fun a ha => f2 a ha)
  exact E_icmp_eq (pc := 634) (tgt := 685) ddL_law_634 (by decide) (fun _ => k z I2 _ ⟨pa, pb, hz, hab, ho, hs, hC3, hY3, ((W_seed hG).le (by omega))⟩) (fun h => absurd rfl h)
set_option maxRecDepth 100000 in
set_option maxHeartbeats 4000000 in
theorem LC_keep (hL : LI n T z I G) (hn : n ≤ 2048) (hi : i + 4 ≤ n) (hT : T + 4000 < 2147483647) (k : ∀ z' I' G', LI n (T + 400) z' I' G' → E mL_law mc ms 685 [some (.ref 0), some (.ref 1), some (.ref 308), some (.int (nI i))] [] z' I' Q) : E mL_law mc ms 639 [some (.ref 0), some (.ref 1), some (.ref 308), some (.int (nI i))] [] z I Q := by
  obtain ⟨pa, pb, hz, hab, ho, hs, hC1, hY1, hG⟩ := hL
  obtain ⟨π, κ, ρ, c, α, β, μ⟩ := G
  have hpa : pa + 7 < 20 := by omega
  have h4 : 3 < pa := by omega
  have hT3 : T + 3000 < 2147483647 := by omega
  refine E_aload_n (pc := 639) (x := 1) ddL_law_639 rfl rfl ?_
  refine E_aload_n (pc := 640) (x := 0) ddL_law_640 rfl rfl ?_
  refine E_iload_n (pc := 641) (x := nI i) ddL_law_641 rfl rfl ?_
  refine E_iconst (pc := 642) (v := 1) ddL_law_642 rfl ?_
  refine E_iadd (pc := 643) ddL_law_643 ?_
  refine E_ialdN (pc := 644) (j := i + 1) ddL_law_644 hs (ix2 i 1) (by omega) (by omega) ?_
  refine E_callV (pc := 645) (As := [.int (I 0 (i + 1))]) (st := []) (a := 1) ddL_law_645 hX8_keep ⟨(Nat.le_of_ble_eq_true rfl), (Nat.le_of_ble_eq_true rfl)⟩ w_3_155 (ci := 7) rfl rfl hz.s0 rfl rfl (Nat.le_of_ble_eq_true rfl) (e_cc rfl e_cn) (Nat.le_of_ble_eq_true rfl) ?_
  refine D_keep hz hpa hC1 hG (fun I1 f1 hC2 => ?_)
  refine (show E mL_law mc ms 648 [some (.ref 0), some (.ref 1), some (.ref 308), some (.int (nI i))] [.int (oKeep (π, κ, ρ, c, α, β, μ) (I 0 (i + 1))).1] z I1 Q from ?_)
  have s0 : I1 0 = I 0 := f1 0 (Or.inl rfl)
  have hY2 := hY.fr (I' := I1) hY1 hG (fun a ha => f1 a (Or.inr ha))
  refine E_aload_n (pc := 648) (x := 308) ddL_law_648 rfl rfl ?_
  refine E_aload_n (pc := 649) (x := 0) ddL_law_649 rfl rfl ?_
  refine E_iload_n (pc := 650) (x := nI i) ddL_law_650 rfl rfl ?_
  refine E_iconst (pc := 651) (v := 1) ddL_law_651 rfl ?_
  refine E_iadd (pc := 652) ddL_law_652 ?_
  refine E_ialdN (pc := 653) (j := i + 1) ddL_law_653 hs (ix2 i 1) (by omega) (by omega) ?_
  rw [s0]
  refine E_callV (pc := 654) (As := [.int (I 0 (i + 1))]) (st := [.int (oKeep (π, κ, ρ, c, α, β, μ) (I 0 (i + 1))).1]) (a := 308) ddL_law_654 hX9_keep ⟨(Nat.le_of_ble_eq_true rfl), (Nat.le_of_ble_eq_true rfl)⟩ w_5_8 (ci := 8) rfl rfl ho.s0 rfl rfl (Nat.le_of_ble_eq_true rfl) (e_cc rfl e_cn) (Nat.le_of_ble_eq_true rfl) ?_
  refine N_keep ho hY2 hG (fun I2 f2 hY3 => ?_)
  refine (show E mL_law mc ms 657 [some (.ref 0), some (.ref 1), some (.ref 308), some (.int (nI i))] [.int (oKeep (π, κ, ρ, c, α, β, μ) (I 0 (i + 1))).1, .int (oKeep (π, κ, ρ, c, α, β, μ) (I 0 (i + 1))).1] z I2 Q from ?_)
  have hC3 := hC.fr (I' := I2) hC2 hpa (fun a ha => f2 a ha)
  exact E_icmp_eq (pc := 657) (tgt := 685) ddL_law_657 (by decide) (fun _ => k z I2 _ ⟨pa, pb, hz, hab, ho, hs, hC3, hY3, ((W_keep hG).le (by omega))⟩) (fun h => absurd rfl h)
set_option maxRecDepth 100000 in
set_option maxHeartbeats 4000000 in
theorem LC_goBack (hL : LI n T z I G) (hn : n ≤ 2048) (hi : i + 4 ≤ n) (hT : T + 4000 < 2147483647) (k : ∀ z' I' G', LI n (T + 400) z' I' G' → E mL_law mc ms 685 [some (.ref 0), some (.ref 1), some (.ref 308), some (.int (nI i))] [] z' I' Q) : E mL_law mc ms 662 [some (.ref 0), some (.ref 1), some (.ref 308), some (.int (nI i))] [] z I Q := by
  obtain ⟨pa, pb, hz, hab, ho, hs, hC1, hY1, hG⟩ := hL
  obtain ⟨π, κ, ρ, c, α, β, μ⟩ := G
  have hpa : pa + 7 < 20 := by omega
  have h4 : 3 < pa := by omega
  have hT3 : T + 3000 < 2147483647 := by omega
  refine E_aload_n (pc := 662) (x := 1) ddL_law_662 rfl rfl ?_
  refine E_aload_n (pc := 663) (x := 0) ddL_law_663 rfl rfl ?_
  refine E_iload_n (pc := 664) (x := nI i) ddL_law_664 rfl rfl ?_
  refine E_iconst (pc := 665) (v := 1) ddL_law_665 rfl ?_
  refine E_iadd (pc := 666) ddL_law_666 ?_
  refine E_ialdN (pc := 667) (j := i + 1) ddL_law_667 hs (ix2 i 1) (by omega) (by omega) ?_
  refine E_callV (pc := 668) (As := [.int (I 0 (i + 1))]) (st := []) (a := 1) ddL_law_668 hX8_goBack ⟨(Nat.le_of_ble_eq_true rfl), (Nat.le_of_ble_eq_true rfl)⟩ w_3_168 (ci := 7) rfl rfl hz.s0 rfl rfl (Nat.le_of_ble_eq_true rfl) (e_cc rfl e_cn) (Nat.le_of_ble_eq_true rfl) ?_
  refine D_goBack hz hpa hC1 hG (fun I1 f1 hC2 => ?_)
  refine (show E mL_law mc ms 671 [some (.ref 0), some (.ref 1), some (.ref 308), some (.int (nI i))] [.int (oBack (π, κ, ρ, c, α, β, μ) (I 0 (i + 1))).1] z I1 Q from ?_)
  have s0 : I1 0 = I 0 := f1 0 (Or.inl rfl)
  have hY2 := hY.fr (I' := I1) hY1 hG (fun a ha => f1 a (Or.inr ha))
  refine E_aload_n (pc := 671) (x := 308) ddL_law_671 rfl rfl ?_
  refine E_aload_n (pc := 672) (x := 0) ddL_law_672 rfl rfl ?_
  refine E_iload_n (pc := 673) (x := nI i) ddL_law_673 rfl rfl ?_
  refine E_iconst (pc := 674) (v := 1) ddL_law_674 rfl ?_
  refine E_iadd (pc := 675) ddL_law_675 ?_
  refine E_ialdN (pc := 676) (j := i + 1) ddL_law_676 hs (ix2 i 1) (by omega) (by omega) ?_
  rw [s0]
  refine E_callV (pc := 677) (As := [.int (I 0 (i + 1))]) (st := [.int (oBack (π, κ, ρ, c, α, β, μ) (I 0 (i + 1))).1]) (a := 308) ddL_law_677 hX9_goBack ⟨(Nat.le_of_ble_eq_true rfl), (Nat.le_of_ble_eq_true rfl)⟩ w_5_12 (ci := 8) rfl rfl ho.s0 rfl rfl (Nat.le_of_ble_eq_true rfl) (e_cc rfl e_cn) (Nat.le_of_ble_eq_true rfl) ?_
  refine N_goBack ho hY2 hG (fun I2 f2 hY3 => ?_)
  refine (show E mL_law mc ms 680 [some (.ref 0), some (.ref 1), some (.ref 308), some (.int (nI i))] [.int (oBack (π, κ, ρ, c, α, β, μ) (I 0 (i + 1))).1, .int (oBack (π, κ, ρ, c, α, β, μ) (I 0 (i + 1))).1] z I2 Q from ?_)
  have hC3 := hC.fr (I' := I2) hC2 hpa (fun a ha => f2 a ha)
  exact E_icmp_eq (pc := 680) (tgt := 685) ddL_law_680 (by decide) (fun _ => k z I2 _ ⟨pa, pb, hz, hab, ho, hs, hC3, hY3, ((W_back hG).le (by omega))⟩) (fun h => absurd rfl h)
end L1
