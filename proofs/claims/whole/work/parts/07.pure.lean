def f_X3_join (a b : Int32) : Int32 := (if a = 2 then b else (if a = b then b else (if b = 2 then a else 3)))
set_option maxRecDepth 100000 in
theorem C_X3_join {mc ms : Nat} {z : Zt} {I : It} {Q : Option Value → Zt → It → Prop} {a b : Int32} (q : Q (some (.int (f_X3_join a b))) z I) : E mX3_join mc ms 0 [some (.int a), some (.int b)] [] z I Q := by
  unfold f_X3_join at q
  refine E_iload_n (pc := 0) (x := a) ddX3_join_0 rfl rfl ?_
  refine E_iconst (pc := 1) (v := 2) ddX3_join_1 rfl ?_
  refine E_icmp_eq (pc := 2) (tgt := 10) ddX3_join_2 (by decide) (fun h => ?_) (fun h => ?_)
  · rw [if_pos h] at q
    refine E_iload_n (pc := 10) (x := b) ddX3_join_10 rfl rfl ?_
    exact E_iret (pc := 11) ddX3_join_11 rfl q
  · rw [if_neg h] at q
    refine E_iload_n (pc := 5) (x := a) ddX3_join_5 rfl rfl ?_
    refine E_iload_n (pc := 6) (x := b) ddX3_join_6 rfl rfl ?_
    refine E_icmp_ne (pc := 7) (tgt := 12) ddX3_join_7 (by decide) (fun h => ?_) (fun h => ?_)
    · rw [if_neg h] at q
      refine E_iload_n (pc := 12) (x := b) ddX3_join_12 rfl rfl ?_
      refine E_iconst (pc := 13) (v := 2) ddX3_join_13 rfl ?_
      refine E_icmp_ne (pc := 14) (tgt := 21) ddX3_join_14 (by decide) (fun h => ?_) (fun h => ?_)
      · rw [if_neg h] at q
        refine E_iconst (pc := 21) (v := 3) ddX3_join_21 rfl ?_
        exact E_iret (pc := 22) ddX3_join_22 rfl q
      · rw [if_pos h] at q
        refine E_iload_n (pc := 17) (x := a) ddX3_join_17 rfl rfl ?_
        refine E_goto (pc := 18) (tgt := 22) ddX3_join_18 (by decide) ?_
        exact E_iret (pc := 22) ddX3_join_22 rfl q
    · rw [if_pos h] at q
      refine E_iload_n (pc := 10) (x := b) ddX3_join_10 rfl rfl ?_
      exact E_iret (pc := 11) ddX3_join_11 rfl q

def f_X3_outcome (a b c d : Int32) : Int32 := (if b = 2 then (if c = 2 then (if a = 0 then 3 else (if a = 1 then 3 else (if a = 2 then 3 else (if a = 3 then 3 else (if a = 4 then 3 else d))))) else (if a = 0 then 3 else (if a = 1 then (if c = 0 then 0 else 3) else (if a = 2 then (if c = 1 then 1 else 3) else (if a = 3 then 3 else (if a = 4 then (if c = 0 then 2 else (if c = 1 then 3 else 3)) else (if c = 1 then 3 else d))))))) else (if c = 2 then (if b = 3 then (if a = 0 then (if b = 3 then 3 else (1 - b)) else (if a = 1 then (if b = 0 then 0 else 3) else (if a = 2 then (if b = 1 then 1 else 3) else (if a = 3 then 3 else (if a = 4 then 3 else d))))) else (if a = 0 then (if b = 3 then 3 else (1 - b)) else (if a = 1 then (if b = 0 then 0 else 3) else (if a = 2 then (if b = 1 then 1 else 3) else (if a = 3 then 3 else (if a = 4 then 3 else d)))))) else (if b = 3 then (if a = 0 then (if b = 3 then 3 else (1 - b)) else (if a = 1 then (if b = 0 then 0 else (if c = 0 then 0 else 3)) else (if a = 2 then (if b = 1 then 1 else (if c = 1 then 1 else 3)) else (if a = 3 then 3 else (if a = 4 then (if c = 0 then 2 else (if c = 1 then b else 3)) else (if c = 1 then b else d)))))) else (if c = 3 then (if a = 0 then (if b = 3 then 3 else (1 - b)) else (if a = 1 then (if b = 0 then 0 else (if c = 0 then 0 else 3)) else (if a = 2 then (if b = 1 then 1 else (if c = 1 then 1 else 3)) else (if a = 3 then 3 else (if a = 4 then (if c = 0 then 2 else (if c = 1 then b else 3)) else (if c = 1 then b else d)))))) else (if a = 0 then (if b = 3 then 3 else (1 - b)) else (if a = 1 then (if b = 0 then 0 else (if c = 0 then 0 else 1)) else (if a = 2 then (if b = 1 then 1 else (if c = 1 then 1 else 0)) else (if a = 3 then (b ^^^ c) else (if a = 4 then (if c = 0 then 2 else (if c = 1 then b else 3)) else (if c = 1 then b else d))))))))))
set_option maxRecDepth 100000 in
theorem C_X3_outcome {mc ms : Nat} {z : Zt} {I : It} {Q : Option Value → Zt → It → Prop} {a b c d : Int32} (q : Q (some (.int (f_X3_outcome a b c d))) z I) : E mX3_outcome mc ms 0 [some (.int a), some (.int b), some (.int c), some (.int d), none, none, none] [] z I Q := by
  unfold f_X3_outcome at q
  refine E_iload_n (pc := 0) (x := b) ddX3_outcome_0 rfl rfl ?_
  refine E_iconst (pc := 1) (v := 2) ddX3_outcome_1 rfl ?_
  refine E_icmp_ne (pc := 2) (tgt := 9) ddX3_outcome_2 (by decide) (fun h => ?_) (fun h => ?_)
  · rw [if_neg h] at q
    refine E_iload_n (pc := 9) (x := b) ddX3_outcome_9 rfl rfl ?_
    refine E_istore (pc := 10) (ls' := [some (.int a), some (.int b), some (.int c), some (.int d), some (.int b), none, none]) ddX3_outcome_10 (Nat.le_of_ble_eq_true rfl) rfl rfl ?_
    refine E_iload_n (pc := 12) (x := c) ddX3_outcome_12 rfl rfl ?_
    refine E_iconst (pc := 13) (v := 2) ddX3_outcome_13 rfl ?_
    refine E_icmp_ne (pc := 14) (tgt := 21) ddX3_outcome_14 (by decide) (fun h => ?_) (fun h => ?_)
    · rw [if_neg h] at q
      refine E_iload_n (pc := 21) (x := c) ddX3_outcome_21 rfl rfl ?_
      refine E_istore (pc := 22) (ls' := [some (.int a), some (.int b), some (.int c), some (.int d), some (.int b), some (.int c), none]) ddX3_outcome_22 (Nat.le_of_ble_eq_true rfl) rfl rfl ?_
      refine E_iload (pc := 24) (x := b) ddX3_outcome_24 rfl ?_
      refine E_iconst (pc := 26) (v := 3) ddX3_outcome_26 rfl ?_
      refine E_icmp_eq (pc := 27) (tgt := 36) ddX3_outcome_27 (by decide) (fun h => ?_) (fun h => ?_)
      · rw [if_pos h] at q
        refine E_iconst (pc := 36) (v := 1) ddX3_outcome_36 rfl ?_
        refine E_goto (pc := 37) (tgt := 41) ddX3_outcome_37 (by decide) ?_
        refine E_istore (pc := 41) (ls' := [some (.int a), some (.int b), some (.int c), some (.int d), some (.int b), some (.int c), some (.int 1)]) ddX3_outcome_41 (Nat.le_of_ble_eq_true rfl) rfl rfl ?_
        refine E_iload_n (pc := 43) (x := a) ddX3_outcome_43 rfl rfl ?_
        by_cases h0 : a = 0
        · rw [if_pos h0] at q
          refine E_tswIn (pc := 44) (v := 0) (tgt := 80) ddX3_outcome_44 (by rw [h0]; rfl) (by decide) (by decide) rfl (by decide) ?_
          refine E_iload (pc := 80) (x := b) ddX3_outcome_80 rfl ?_
          refine E_iconst (pc := 82) (v := 3) ddX3_outcome_82 rfl ?_
          refine E_icmp_ne (pc := 83) (tgt := 90) ddX3_outcome_83 (by decide) (fun h => ?_) (fun h => ?_)
          · rw [if_neg h] at q
            refine E_iconst (pc := 90) (v := 1) ddX3_outcome_90 rfl ?_
            refine E_iload (pc := 91) (x := b) ddX3_outcome_91 rfl ?_
            refine E_isub (pc := 93) ddX3_outcome_93 ?_
            exact E_iret (pc := 94) ddX3_outcome_94 rfl q
          · rw [if_pos h] at q
            refine E_iconst (pc := 86) (v := 3) ddX3_outcome_86 rfl ?_
            refine E_goto (pc := 87) (tgt := 94) ddX3_outcome_87 (by decide) ?_
            exact E_iret (pc := 94) ddX3_outcome_94 rfl q
        rw [if_neg h0] at q
        by_cases h1 : a = 1
        · rw [if_pos h1] at q
          refine E_tswIn (pc := 44) (v := 1) (tgt := 95) ddX3_outcome_44 (by rw [h1]; rfl) (by decide) (by decide) rfl (by decide) ?_
          refine E_iload (pc := 95) (x := b) ddX3_outcome_95 rfl ?_
          refine E_if_eq (pc := 97) (tgt := 105) ddX3_outcome_97 (by decide) (fun h => ?_) (fun h => ?_)
          · rw [if_pos h] at q
            refine E_iconst (pc := 105) (v := 0) ddX3_outcome_105 rfl ?_
            refine E_goto (pc := 106) (tgt := 119) ddX3_outcome_106 (by decide) ?_
            exact E_iret (pc := 119) ddX3_outcome_119 rfl q
          · rw [if_neg h] at q
            refine E_iload (pc := 100) (x := c) ddX3_outcome_100 rfl ?_
            refine E_if_ne (pc := 102) (tgt := 109) ddX3_outcome_102 (by decide) (fun h => ?_) (fun h => ?_)
            · rw [if_neg h] at q
              refine E_iload (pc := 109) (x := 1) ddX3_outcome_109 rfl ?_
              refine E_if_eq (pc := 111) (tgt := 118) ddX3_outcome_111 (by decide) (fun h => absurd h (by decide)) (fun _ => ?_)
              refine E_iconst (pc := 114) (v := 3) ddX3_outcome_114 rfl ?_
              refine E_goto (pc := 115) (tgt := 119) ddX3_outcome_115 (by decide) ?_
              exact E_iret (pc := 119) ddX3_outcome_119 rfl q
            · rw [if_pos h] at q
              refine E_iconst (pc := 105) (v := 0) ddX3_outcome_105 rfl ?_
              refine E_goto (pc := 106) (tgt := 119) ddX3_outcome_106 (by decide) ?_
              exact E_iret (pc := 119) ddX3_outcome_119 rfl q
        rw [if_neg h1] at q
        by_cases h2 : a = 2
        · rw [if_pos h2] at q
          refine E_tswIn (pc := 44) (v := 2) (tgt := 120) ddX3_outcome_44 (by rw [h2]; rfl) (by decide) (by decide) rfl (by decide) ?_
          refine E_iload (pc := 120) (x := b) ddX3_outcome_120 rfl ?_
          refine E_iconst (pc := 122) (v := 1) ddX3_outcome_122 rfl ?_
          refine E_icmp_eq (pc := 123) (tgt := 132) ddX3_outcome_123 (by decide) (fun h => ?_) (fun h => ?_)
          · rw [if_pos h] at q
            refine E_iconst (pc := 132) (v := 1) ddX3_outcome_132 rfl ?_
            refine E_goto (pc := 133) (tgt := 146) ddX3_outcome_133 (by decide) ?_
            exact E_iret (pc := 146) ddX3_outcome_146 rfl q
          · rw [if_neg h] at q
            refine E_iload (pc := 126) (x := c) ddX3_outcome_126 rfl ?_
            refine E_iconst (pc := 128) (v := 1) ddX3_outcome_128 rfl ?_
            refine E_icmp_ne (pc := 129) (tgt := 136) ddX3_outcome_129 (by decide) (fun h => ?_) (fun h => ?_)
            · rw [if_neg h] at q
              refine E_iload (pc := 136) (x := 1) ddX3_outcome_136 rfl ?_
              refine E_if_eq (pc := 138) (tgt := 145) ddX3_outcome_138 (by decide) (fun h => absurd h (by decide)) (fun _ => ?_)
              refine E_iconst (pc := 141) (v := 3) ddX3_outcome_141 rfl ?_
              refine E_goto (pc := 142) (tgt := 146) ddX3_outcome_142 (by decide) ?_
              exact E_iret (pc := 146) ddX3_outcome_146 rfl q
            · rw [if_pos h] at q
              refine E_iconst (pc := 132) (v := 1) ddX3_outcome_132 rfl ?_
              refine E_goto (pc := 133) (tgt := 146) ddX3_outcome_133 (by decide) ?_
              exact E_iret (pc := 146) ddX3_outcome_146 rfl q
        rw [if_neg h2] at q
        by_cases h3 : a = 3
        · rw [if_pos h3] at q
          refine E_tswIn (pc := 44) (v := 3) (tgt := 147) ddX3_outcome_44 (by rw [h3]; rfl) (by decide) (by decide) rfl (by decide) ?_
          refine E_iload (pc := 147) (x := 1) ddX3_outcome_147 rfl ?_
          refine E_if_eq (pc := 149) (tgt := 156) ddX3_outcome_149 (by decide) (fun h => absurd h (by decide)) (fun _ => ?_)
          refine E_iconst (pc := 152) (v := 3) ddX3_outcome_152 rfl ?_
          refine E_goto (pc := 153) (tgt := 161) ddX3_outcome_153 (by decide) ?_
          exact E_iret (pc := 161) ddX3_outcome_161 rfl q
        rw [if_neg h3] at q
        by_cases h4 : a = 4
        · rw [if_pos h4] at q
          refine E_tswIn (pc := 44) (v := 4) (tgt := 162) ddX3_outcome_44 (by rw [h4]; rfl) (by decide) (by decide) rfl (by decide) ?_
          refine E_iload (pc := 162) (x := c) ddX3_outcome_162 rfl ?_
          refine E_if_ne (pc := 164) (tgt := 171) ddX3_outcome_164 (by decide) (fun h => ?_) (fun h => ?_)
          · rw [if_neg h] at q
            refine E_iload (pc := 171) (x := c) ddX3_outcome_171 rfl ?_
            refine E_iconst (pc := 173) (v := 1) ddX3_outcome_173 rfl ?_
            refine E_icmp_ne (pc := 174) (tgt := 182) ddX3_outcome_174 (by decide) (fun h => ?_) (fun h => ?_)
            · rw [if_neg h] at q
              refine E_iconst (pc := 182) (v := 3) ddX3_outcome_182 rfl ?_
              exact E_iret (pc := 183) ddX3_outcome_183 rfl q
            · rw [if_pos h] at q
              refine E_iload (pc := 177) (x := b) ddX3_outcome_177 rfl ?_
              refine E_goto (pc := 179) (tgt := 183) ddX3_outcome_179 (by decide) ?_
              exact E_iret (pc := 183) ddX3_outcome_183 rfl q
          · rw [if_pos h] at q
            refine E_iconst (pc := 167) (v := 2) ddX3_outcome_167 rfl ?_
            refine E_goto (pc := 168) (tgt := 183) ddX3_outcome_168 (by decide) ?_
            exact E_iret (pc := 183) ddX3_outcome_183 rfl q
        rw [if_neg h4] at q
        have q0 := lv_neT h0 (a := 0) rfl
        have q1 := lv_neT h1 (a := 1) rfl
        have q2 := lv_neT h2 (a := 2) rfl
        have q3 := lv_neT h3 (a := 3) rfl
        have q4 := lv_neT h4 (a := 4) rfl
        refine E_tswOut (pc := 44) (tgt := 184) ddX3_outcome_44 (by omega) (by decide) ?_
        refine E_iload (pc := 184) (x := c) ddX3_outcome_184 rfl ?_
        refine E_iconst (pc := 186) (v := 1) ddX3_outcome_186 rfl ?_
        refine E_icmp_ne (pc := 187) (tgt := 195) ddX3_outcome_187 (by decide) (fun h => ?_) (fun h => ?_)
        · rw [if_neg h] at q
          refine E_iload_n (pc := 195) (x := d) ddX3_outcome_195 rfl rfl ?_
          exact E_iret (pc := 196) ddX3_outcome_196 rfl q
        · rw [if_pos h] at q
          refine E_iload (pc := 190) (x := b) ddX3_outcome_190 rfl ?_
          refine E_goto (pc := 192) (tgt := 196) ddX3_outcome_192 (by decide) ?_
          exact E_iret (pc := 196) ddX3_outcome_196 rfl q
      · rw [if_neg h] at q
        refine E_iload (pc := 30) (x := c) ddX3_outcome_30 rfl ?_
        refine E_iconst (pc := 32) (v := 3) ddX3_outcome_32 rfl ?_
        refine E_icmp_ne (pc := 33) (tgt := 40) ddX3_outcome_33 (by decide) (fun h => ?_) (fun h => ?_)
        · rw [if_neg h] at q
          refine E_iconst (pc := 40) (v := 0) ddX3_outcome_40 rfl ?_
          refine E_istore (pc := 41) (ls' := [some (.int a), some (.int b), some (.int c), some (.int d), some (.int b), some (.int c), some (.int 0)]) ddX3_outcome_41 (Nat.le_of_ble_eq_true rfl) rfl rfl ?_
          refine E_iload_n (pc := 43) (x := a) ddX3_outcome_43 rfl rfl ?_
          by_cases h0 : a = 0
          · rw [if_pos h0] at q
            refine E_tswIn (pc := 44) (v := 0) (tgt := 80) ddX3_outcome_44 (by rw [h0]; rfl) (by decide) (by decide) rfl (by decide) ?_
            refine E_iload (pc := 80) (x := b) ddX3_outcome_80 rfl ?_
            refine E_iconst (pc := 82) (v := 3) ddX3_outcome_82 rfl ?_
            refine E_icmp_ne (pc := 83) (tgt := 90) ddX3_outcome_83 (by decide) (fun h => ?_) (fun h => ?_)
            · rw [if_neg h] at q
              refine E_iconst (pc := 90) (v := 1) ddX3_outcome_90 rfl ?_
              refine E_iload (pc := 91) (x := b) ddX3_outcome_91 rfl ?_
              refine E_isub (pc := 93) ddX3_outcome_93 ?_
              exact E_iret (pc := 94) ddX3_outcome_94 rfl q
            · rw [if_pos h] at q
              refine E_iconst (pc := 86) (v := 3) ddX3_outcome_86 rfl ?_
              refine E_goto (pc := 87) (tgt := 94) ddX3_outcome_87 (by decide) ?_
              exact E_iret (pc := 94) ddX3_outcome_94 rfl q
          rw [if_neg h0] at q
          by_cases h1 : a = 1
          · rw [if_pos h1] at q
            refine E_tswIn (pc := 44) (v := 1) (tgt := 95) ddX3_outcome_44 (by rw [h1]; rfl) (by decide) (by decide) rfl (by decide) ?_
            refine E_iload (pc := 95) (x := b) ddX3_outcome_95 rfl ?_
            refine E_if_eq (pc := 97) (tgt := 105) ddX3_outcome_97 (by decide) (fun h => ?_) (fun h => ?_)
            · rw [if_pos h] at q
              refine E_iconst (pc := 105) (v := 0) ddX3_outcome_105 rfl ?_
              refine E_goto (pc := 106) (tgt := 119) ddX3_outcome_106 (by decide) ?_
              exact E_iret (pc := 119) ddX3_outcome_119 rfl q
            · rw [if_neg h] at q
              refine E_iload (pc := 100) (x := c) ddX3_outcome_100 rfl ?_
              refine E_if_ne (pc := 102) (tgt := 109) ddX3_outcome_102 (by decide) (fun h => ?_) (fun h => ?_)
              · rw [if_neg h] at q
                refine E_iload (pc := 109) (x := 0) ddX3_outcome_109 rfl ?_
                refine E_if_eq (pc := 111) (tgt := 118) ddX3_outcome_111 (by decide) (fun _ => ?_) (fun h => absurd h (by decide))
                refine E_iconst (pc := 118) (v := 1) ddX3_outcome_118 rfl ?_
                exact E_iret (pc := 119) ddX3_outcome_119 rfl q
              · rw [if_pos h] at q
                refine E_iconst (pc := 105) (v := 0) ddX3_outcome_105 rfl ?_
                refine E_goto (pc := 106) (tgt := 119) ddX3_outcome_106 (by decide) ?_
                exact E_iret (pc := 119) ddX3_outcome_119 rfl q
          rw [if_neg h1] at q
          by_cases h2 : a = 2
          · rw [if_pos h2] at q
            refine E_tswIn (pc := 44) (v := 2) (tgt := 120) ddX3_outcome_44 (by rw [h2]; rfl) (by decide) (by decide) rfl (by decide) ?_
            refine E_iload (pc := 120) (x := b) ddX3_outcome_120 rfl ?_
            refine E_iconst (pc := 122) (v := 1) ddX3_outcome_122 rfl ?_
            refine E_icmp_eq (pc := 123) (tgt := 132) ddX3_outcome_123 (by decide) (fun h => ?_) (fun h => ?_)
            · rw [if_pos h] at q
              refine E_iconst (pc := 132) (v := 1) ddX3_outcome_132 rfl ?_
              refine E_goto (pc := 133) (tgt := 146) ddX3_outcome_133 (by decide) ?_
              exact E_iret (pc := 146) ddX3_outcome_146 rfl q
            · rw [if_neg h] at q
              refine E_iload (pc := 126) (x := c) ddX3_outcome_126 rfl ?_
              refine E_iconst (pc := 128) (v := 1) ddX3_outcome_128 rfl ?_
              refine E_icmp_ne (pc := 129) (tgt := 136) ddX3_outcome_129 (by decide) (fun h => ?_) (fun h => ?_)
              · rw [if_neg h] at q
                refine E_iload (pc := 136) (x := 0) ddX3_outcome_136 rfl ?_
                refine E_if_eq (pc := 138) (tgt := 145) ddX3_outcome_138 (by decide) (fun _ => ?_) (fun h => absurd h (by decide))
                refine E_iconst (pc := 145) (v := 0) ddX3_outcome_145 rfl ?_
                exact E_iret (pc := 146) ddX3_outcome_146 rfl q
              · rw [if_pos h] at q
                refine E_iconst (pc := 132) (v := 1) ddX3_outcome_132 rfl ?_
                refine E_goto (pc := 133) (tgt := 146) ddX3_outcome_133 (by decide) ?_
                exact E_iret (pc := 146) ddX3_outcome_146 rfl q
          rw [if_neg h2] at q
          by_cases h3 : a = 3
          · rw [if_pos h3] at q
            refine E_tswIn (pc := 44) (v := 3) (tgt := 147) ddX3_outcome_44 (by rw [h3]; rfl) (by decide) (by decide) rfl (by decide) ?_
            refine E_iload (pc := 147) (x := 0) ddX3_outcome_147 rfl ?_
            refine E_if_eq (pc := 149) (tgt := 156) ddX3_outcome_149 (by decide) (fun _ => ?_) (fun h => absurd h (by decide))
            refine E_iload (pc := 156) (x := b) ddX3_outcome_156 rfl ?_
            refine E_iload (pc := 158) (x := c) ddX3_outcome_158 rfl ?_
            refine E_ixor (pc := 160) ddX3_outcome_160 ?_
            exact E_iret (pc := 161) ddX3_outcome_161 rfl q
          rw [if_neg h3] at q
          by_cases h4 : a = 4
          · rw [if_pos h4] at q
            refine E_tswIn (pc := 44) (v := 4) (tgt := 162) ddX3_outcome_44 (by rw [h4]; rfl) (by decide) (by decide) rfl (by decide) ?_
            refine E_iload (pc := 162) (x := c) ddX3_outcome_162 rfl ?_
            refine E_if_ne (pc := 164) (tgt := 171) ddX3_outcome_164 (by decide) (fun h => ?_) (fun h => ?_)
            · rw [if_neg h] at q
              refine E_iload (pc := 171) (x := c) ddX3_outcome_171 rfl ?_
              refine E_iconst (pc := 173) (v := 1) ddX3_outcome_173 rfl ?_
              refine E_icmp_ne (pc := 174) (tgt := 182) ddX3_outcome_174 (by decide) (fun h => ?_) (fun h => ?_)
              · rw [if_neg h] at q
                refine E_iconst (pc := 182) (v := 3) ddX3_outcome_182 rfl ?_
                exact E_iret (pc := 183) ddX3_outcome_183 rfl q
              · rw [if_pos h] at q
                refine E_iload (pc := 177) (x := b) ddX3_outcome_177 rfl ?_
                refine E_goto (pc := 179) (tgt := 183) ddX3_outcome_179 (by decide) ?_
                exact E_iret (pc := 183) ddX3_outcome_183 rfl q
            · rw [if_pos h] at q
              refine E_iconst (pc := 167) (v := 2) ddX3_outcome_167 rfl ?_
              refine E_goto (pc := 168) (tgt := 183) ddX3_outcome_168 (by decide) ?_
              exact E_iret (pc := 183) ddX3_outcome_183 rfl q
          rw [if_neg h4] at q
          have q0 := lv_neT h0 (a := 0) rfl
          have q1 := lv_neT h1 (a := 1) rfl
          have q2 := lv_neT h2 (a := 2) rfl
          have q3 := lv_neT h3 (a := 3) rfl
          have q4 := lv_neT h4 (a := 4) rfl
          refine E_tswOut (pc := 44) (tgt := 184) ddX3_outcome_44 (by omega) (by decide) ?_
          refine E_iload (pc := 184) (x := c) ddX3_outcome_184 rfl ?_
          refine E_iconst (pc := 186) (v := 1) ddX3_outcome_186 rfl ?_
          refine E_icmp_ne (pc := 187) (tgt := 195) ddX3_outcome_187 (by decide) (fun h => ?_) (fun h => ?_)
          · rw [if_neg h] at q
            refine E_iload_n (pc := 195) (x := d) ddX3_outcome_195 rfl rfl ?_
            exact E_iret (pc := 196) ddX3_outcome_196 rfl q
          · rw [if_pos h] at q
            refine E_iload (pc := 190) (x := b) ddX3_outcome_190 rfl ?_
            refine E_goto (pc := 192) (tgt := 196) ddX3_outcome_192 (by decide) ?_
            exact E_iret (pc := 196) ddX3_outcome_196 rfl q
        · rw [if_pos h] at q
          refine E_iconst (pc := 36) (v := 1) ddX3_outcome_36 rfl ?_
          refine E_goto (pc := 37) (tgt := 41) ddX3_outcome_37 (by decide) ?_
          refine E_istore (pc := 41) (ls' := [some (.int a), some (.int b), some (.int c), some (.int d), some (.int b), some (.int c), some (.int 1)]) ddX3_outcome_41 (Nat.le_of_ble_eq_true rfl) rfl rfl ?_
          refine E_iload_n (pc := 43) (x := a) ddX3_outcome_43 rfl rfl ?_
          by_cases h0 : a = 0
          · rw [if_pos h0] at q
            refine E_tswIn (pc := 44) (v := 0) (tgt := 80) ddX3_outcome_44 (by rw [h0]; rfl) (by decide) (by decide) rfl (by decide) ?_
            refine E_iload (pc := 80) (x := b) ddX3_outcome_80 rfl ?_
            refine E_iconst (pc := 82) (v := 3) ddX3_outcome_82 rfl ?_
            refine E_icmp_ne (pc := 83) (tgt := 90) ddX3_outcome_83 (by decide) (fun h => ?_) (fun h => ?_)
            · rw [if_neg h] at q
              refine E_iconst (pc := 90) (v := 1) ddX3_outcome_90 rfl ?_
              refine E_iload (pc := 91) (x := b) ddX3_outcome_91 rfl ?_
              refine E_isub (pc := 93) ddX3_outcome_93 ?_
              exact E_iret (pc := 94) ddX3_outcome_94 rfl q
            · rw [if_pos h] at q
              refine E_iconst (pc := 86) (v := 3) ddX3_outcome_86 rfl ?_
              refine E_goto (pc := 87) (tgt := 94) ddX3_outcome_87 (by decide) ?_
              exact E_iret (pc := 94) ddX3_outcome_94 rfl q
          rw [if_neg h0] at q
          by_cases h1 : a = 1
          · rw [if_pos h1] at q
            refine E_tswIn (pc := 44) (v := 1) (tgt := 95) ddX3_outcome_44 (by rw [h1]; rfl) (by decide) (by decide) rfl (by decide) ?_
            refine E_iload (pc := 95) (x := b) ddX3_outcome_95 rfl ?_
            refine E_if_eq (pc := 97) (tgt := 105) ddX3_outcome_97 (by decide) (fun h => ?_) (fun h => ?_)
            · rw [if_pos h] at q
              refine E_iconst (pc := 105) (v := 0) ddX3_outcome_105 rfl ?_
              refine E_goto (pc := 106) (tgt := 119) ddX3_outcome_106 (by decide) ?_
              exact E_iret (pc := 119) ddX3_outcome_119 rfl q
            · rw [if_neg h] at q
              refine E_iload (pc := 100) (x := c) ddX3_outcome_100 rfl ?_
              refine E_if_ne (pc := 102) (tgt := 109) ddX3_outcome_102 (by decide) (fun h => ?_) (fun h => ?_)
              · rw [if_neg h] at q
                refine E_iload (pc := 109) (x := 1) ddX3_outcome_109 rfl ?_
                refine E_if_eq (pc := 111) (tgt := 118) ddX3_outcome_111 (by decide) (fun h => absurd h (by decide)) (fun _ => ?_)
                refine E_iconst (pc := 114) (v := 3) ddX3_outcome_114 rfl ?_
                refine E_goto (pc := 115) (tgt := 119) ddX3_outcome_115 (by decide) ?_
                exact E_iret (pc := 119) ddX3_outcome_119 rfl q
              · rw [if_pos h] at q
                refine E_iconst (pc := 105) (v := 0) ddX3_outcome_105 rfl ?_
                refine E_goto (pc := 106) (tgt := 119) ddX3_outcome_106 (by decide) ?_
                exact E_iret (pc := 119) ddX3_outcome_119 rfl q
          rw [if_neg h1] at q
          by_cases h2 : a = 2
          · rw [if_pos h2] at q
            refine E_tswIn (pc := 44) (v := 2) (tgt := 120) ddX3_outcome_44 (by rw [h2]; rfl) (by decide) (by decide) rfl (by decide) ?_
            refine E_iload (pc := 120) (x := b) ddX3_outcome_120 rfl ?_
            refine E_iconst (pc := 122) (v := 1) ddX3_outcome_122 rfl ?_
            refine E_icmp_eq (pc := 123) (tgt := 132) ddX3_outcome_123 (by decide) (fun h => ?_) (fun h => ?_)
            · rw [if_pos h] at q
              refine E_iconst (pc := 132) (v := 1) ddX3_outcome_132 rfl ?_
              refine E_goto (pc := 133) (tgt := 146) ddX3_outcome_133 (by decide) ?_
              exact E_iret (pc := 146) ddX3_outcome_146 rfl q
            · rw [if_neg h] at q
              refine E_iload (pc := 126) (x := c) ddX3_outcome_126 rfl ?_
              refine E_iconst (pc := 128) (v := 1) ddX3_outcome_128 rfl ?_
              refine E_icmp_ne (pc := 129) (tgt := 136) ddX3_outcome_129 (by decide) (fun h => ?_) (fun h => ?_)
              · rw [if_neg h] at q
                refine E_iload (pc := 136) (x := 1) ddX3_outcome_136 rfl ?_
                refine E_if_eq (pc := 138) (tgt := 145) ddX3_outcome_138 (by decide) (fun h => absurd h (by decide)) (fun _ => ?_)
                refine E_iconst (pc := 141) (v := 3) ddX3_outcome_141 rfl ?_
                refine E_goto (pc := 142) (tgt := 146) ddX3_outcome_142 (by decide) ?_
                exact E_iret (pc := 146) ddX3_outcome_146 rfl q
              · rw [if_pos h] at q
                refine E_iconst (pc := 132) (v := 1) ddX3_outcome_132 rfl ?_
                refine E_goto (pc := 133) (tgt := 146) ddX3_outcome_133 (by decide) ?_
                exact E_iret (pc := 146) ddX3_outcome_146 rfl q
          rw [if_neg h2] at q
          by_cases h3 : a = 3
          · rw [if_pos h3] at q
            refine E_tswIn (pc := 44) (v := 3) (tgt := 147) ddX3_outcome_44 (by rw [h3]; rfl) (by decide) (by decide) rfl (by decide) ?_
            refine E_iload (pc := 147) (x := 1) ddX3_outcome_147 rfl ?_
            refine E_if_eq (pc := 149) (tgt := 156) ddX3_outcome_149 (by decide) (fun h => absurd h (by decide)) (fun _ => ?_)
            refine E_iconst (pc := 152) (v := 3) ddX3_outcome_152 rfl ?_
            refine E_goto (pc := 153) (tgt := 161) ddX3_outcome_153 (by decide) ?_
            exact E_iret (pc := 161) ddX3_outcome_161 rfl q
          rw [if_neg h3] at q
          by_cases h4 : a = 4
          · rw [if_pos h4] at q
            refine E_tswIn (pc := 44) (v := 4) (tgt := 162) ddX3_outcome_44 (by rw [h4]; rfl) (by decide) (by decide) rfl (by decide) ?_
            refine E_iload (pc := 162) (x := c) ddX3_outcome_162 rfl ?_
            refine E_if_ne (pc := 164) (tgt := 171) ddX3_outcome_164 (by decide) (fun h => ?_) (fun h => ?_)
            · rw [if_neg h] at q
              refine E_iload (pc := 171) (x := c) ddX3_outcome_171 rfl ?_
              refine E_iconst (pc := 173) (v := 1) ddX3_outcome_173 rfl ?_
              refine E_icmp_ne (pc := 174) (tgt := 182) ddX3_outcome_174 (by decide) (fun h => ?_) (fun h => ?_)
              · rw [if_neg h] at q
                refine E_iconst (pc := 182) (v := 3) ddX3_outcome_182 rfl ?_
                exact E_iret (pc := 183) ddX3_outcome_183 rfl q
              · rw [if_pos h] at q
                refine E_iload (pc := 177) (x := b) ddX3_outcome_177 rfl ?_
                refine E_goto (pc := 179) (tgt := 183) ddX3_outcome_179 (by decide) ?_
                exact E_iret (pc := 183) ddX3_outcome_183 rfl q
            · rw [if_pos h] at q
              refine E_iconst (pc := 167) (v := 2) ddX3_outcome_167 rfl ?_
              refine E_goto (pc := 168) (tgt := 183) ddX3_outcome_168 (by decide) ?_
              exact E_iret (pc := 183) ddX3_outcome_183 rfl q
          rw [if_neg h4] at q
          have q0 := lv_neT h0 (a := 0) rfl
          have q1 := lv_neT h1 (a := 1) rfl
          have q2 := lv_neT h2 (a := 2) rfl
          have q3 := lv_neT h3 (a := 3) rfl
          have q4 := lv_neT h4 (a := 4) rfl
          refine E_tswOut (pc := 44) (tgt := 184) ddX3_outcome_44 (by omega) (by decide) ?_
          refine E_iload (pc := 184) (x := c) ddX3_outcome_184 rfl ?_
          refine E_iconst (pc := 186) (v := 1) ddX3_outcome_186 rfl ?_
          refine E_icmp_ne (pc := 187) (tgt := 195) ddX3_outcome_187 (by decide) (fun h => ?_) (fun h => ?_)
          · rw [if_neg h] at q
            refine E_iload_n (pc := 195) (x := d) ddX3_outcome_195 rfl rfl ?_
            exact E_iret (pc := 196) ddX3_outcome_196 rfl q
          · rw [if_pos h] at q
            refine E_iload (pc := 190) (x := b) ddX3_outcome_190 rfl ?_
            refine E_goto (pc := 192) (tgt := 196) ddX3_outcome_192 (by decide) ?_
            exact E_iret (pc := 196) ddX3_outcome_196 rfl q
    · rw [if_pos h] at q
      refine E_iconst (pc := 17) (v := 3) ddX3_outcome_17 rfl ?_
      refine E_goto (pc := 18) (tgt := 22) ddX3_outcome_18 (by decide) ?_
      refine E_istore (pc := 22) (ls' := [some (.int a), some (.int b), some (.int c), some (.int d), some (.int b), some (.int 3), none]) ddX3_outcome_22 (Nat.le_of_ble_eq_true rfl) rfl rfl ?_
      refine E_iload (pc := 24) (x := b) ddX3_outcome_24 rfl ?_
      refine E_iconst (pc := 26) (v := 3) ddX3_outcome_26 rfl ?_
      refine E_icmp_eq (pc := 27) (tgt := 36) ddX3_outcome_27 (by decide) (fun h => ?_) (fun h => ?_)
      · rw [if_pos h] at q
        refine E_iconst (pc := 36) (v := 1) ddX3_outcome_36 rfl ?_
        refine E_goto (pc := 37) (tgt := 41) ddX3_outcome_37 (by decide) ?_
        refine E_istore (pc := 41) (ls' := [some (.int a), some (.int b), some (.int c), some (.int d), some (.int b), some (.int 3), some (.int 1)]) ddX3_outcome_41 (Nat.le_of_ble_eq_true rfl) rfl rfl ?_
        refine E_iload_n (pc := 43) (x := a) ddX3_outcome_43 rfl rfl ?_
        by_cases h0 : a = 0
        · rw [if_pos h0] at q
          refine E_tswIn (pc := 44) (v := 0) (tgt := 80) ddX3_outcome_44 (by rw [h0]; rfl) (by decide) (by decide) rfl (by decide) ?_
          refine E_iload (pc := 80) (x := b) ddX3_outcome_80 rfl ?_
          refine E_iconst (pc := 82) (v := 3) ddX3_outcome_82 rfl ?_
          refine E_icmp_ne (pc := 83) (tgt := 90) ddX3_outcome_83 (by decide) (fun h => ?_) (fun h => ?_)
          · rw [if_neg h] at q
            refine E_iconst (pc := 90) (v := 1) ddX3_outcome_90 rfl ?_
            refine E_iload (pc := 91) (x := b) ddX3_outcome_91 rfl ?_
            refine E_isub (pc := 93) ddX3_outcome_93 ?_
            exact E_iret (pc := 94) ddX3_outcome_94 rfl q
          · rw [if_pos h] at q
            refine E_iconst (pc := 86) (v := 3) ddX3_outcome_86 rfl ?_
            refine E_goto (pc := 87) (tgt := 94) ddX3_outcome_87 (by decide) ?_
            exact E_iret (pc := 94) ddX3_outcome_94 rfl q
        rw [if_neg h0] at q
        by_cases h1 : a = 1
        · rw [if_pos h1] at q
          refine E_tswIn (pc := 44) (v := 1) (tgt := 95) ddX3_outcome_44 (by rw [h1]; rfl) (by decide) (by decide) rfl (by decide) ?_
          refine E_iload (pc := 95) (x := b) ddX3_outcome_95 rfl ?_
          refine E_if_eq (pc := 97) (tgt := 105) ddX3_outcome_97 (by decide) (fun h => ?_) (fun h => ?_)
          · rw [if_pos h] at q
            refine E_iconst (pc := 105) (v := 0) ddX3_outcome_105 rfl ?_
            refine E_goto (pc := 106) (tgt := 119) ddX3_outcome_106 (by decide) ?_
            exact E_iret (pc := 119) ddX3_outcome_119 rfl q
          · rw [if_neg h] at q
            refine E_iload (pc := 100) (x := 3) ddX3_outcome_100 rfl ?_
            refine E_if_ne (pc := 102) (tgt := 109) ddX3_outcome_102 (by decide) (fun _ => ?_) (fun h => absurd h (by decide))
            refine E_iload (pc := 109) (x := 1) ddX3_outcome_109 rfl ?_
            refine E_if_eq (pc := 111) (tgt := 118) ddX3_outcome_111 (by decide) (fun h => absurd h (by decide)) (fun _ => ?_)
            refine E_iconst (pc := 114) (v := 3) ddX3_outcome_114 rfl ?_
            refine E_goto (pc := 115) (tgt := 119) ddX3_outcome_115 (by decide) ?_
            exact E_iret (pc := 119) ddX3_outcome_119 rfl q
        rw [if_neg h1] at q
        by_cases h2 : a = 2
        · rw [if_pos h2] at q
          refine E_tswIn (pc := 44) (v := 2) (tgt := 120) ddX3_outcome_44 (by rw [h2]; rfl) (by decide) (by decide) rfl (by decide) ?_
          refine E_iload (pc := 120) (x := b) ddX3_outcome_120 rfl ?_
          refine E_iconst (pc := 122) (v := 1) ddX3_outcome_122 rfl ?_
          refine E_icmp_eq (pc := 123) (tgt := 132) ddX3_outcome_123 (by decide) (fun h => ?_) (fun h => ?_)
          · rw [if_pos h] at q
            refine E_iconst (pc := 132) (v := 1) ddX3_outcome_132 rfl ?_
            refine E_goto (pc := 133) (tgt := 146) ddX3_outcome_133 (by decide) ?_
            exact E_iret (pc := 146) ddX3_outcome_146 rfl q
          · rw [if_neg h] at q
            refine E_iload (pc := 126) (x := 3) ddX3_outcome_126 rfl ?_
            refine E_iconst (pc := 128) (v := 1) ddX3_outcome_128 rfl ?_
            refine E_icmp_ne (pc := 129) (tgt := 136) ddX3_outcome_129 (by decide) (fun _ => ?_) (fun h => absurd h (by decide))
            refine E_iload (pc := 136) (x := 1) ddX3_outcome_136 rfl ?_
            refine E_if_eq (pc := 138) (tgt := 145) ddX3_outcome_138 (by decide) (fun h => absurd h (by decide)) (fun _ => ?_)
            refine E_iconst (pc := 141) (v := 3) ddX3_outcome_141 rfl ?_
            refine E_goto (pc := 142) (tgt := 146) ddX3_outcome_142 (by decide) ?_
            exact E_iret (pc := 146) ddX3_outcome_146 rfl q
        rw [if_neg h2] at q
        by_cases h3 : a = 3
        · rw [if_pos h3] at q
          refine E_tswIn (pc := 44) (v := 3) (tgt := 147) ddX3_outcome_44 (by rw [h3]; rfl) (by decide) (by decide) rfl (by decide) ?_
          refine E_iload (pc := 147) (x := 1) ddX3_outcome_147 rfl ?_
          refine E_if_eq (pc := 149) (tgt := 156) ddX3_outcome_149 (by decide) (fun h => absurd h (by decide)) (fun _ => ?_)
          refine E_iconst (pc := 152) (v := 3) ddX3_outcome_152 rfl ?_
          refine E_goto (pc := 153) (tgt := 161) ddX3_outcome_153 (by decide) ?_
          exact E_iret (pc := 161) ddX3_outcome_161 rfl q
        rw [if_neg h3] at q
        by_cases h4 : a = 4
        · rw [if_pos h4] at q
          refine E_tswIn (pc := 44) (v := 4) (tgt := 162) ddX3_outcome_44 (by rw [h4]; rfl) (by decide) (by decide) rfl (by decide) ?_
          refine E_iload (pc := 162) (x := 3) ddX3_outcome_162 rfl ?_
          refine E_if_ne (pc := 164) (tgt := 171) ddX3_outcome_164 (by decide) (fun _ => ?_) (fun h => absurd h (by decide))
          refine E_iload (pc := 171) (x := 3) ddX3_outcome_171 rfl ?_
          refine E_iconst (pc := 173) (v := 1) ddX3_outcome_173 rfl ?_
          refine E_icmp_ne (pc := 174) (tgt := 182) ddX3_outcome_174 (by decide) (fun _ => ?_) (fun h => absurd h (by decide))
          refine E_iconst (pc := 182) (v := 3) ddX3_outcome_182 rfl ?_
          exact E_iret (pc := 183) ddX3_outcome_183 rfl q
        rw [if_neg h4] at q
        have q0 := lv_neT h0 (a := 0) rfl
        have q1 := lv_neT h1 (a := 1) rfl
        have q2 := lv_neT h2 (a := 2) rfl
        have q3 := lv_neT h3 (a := 3) rfl
        have q4 := lv_neT h4 (a := 4) rfl
        refine E_tswOut (pc := 44) (tgt := 184) ddX3_outcome_44 (by omega) (by decide) ?_
        refine E_iload (pc := 184) (x := 3) ddX3_outcome_184 rfl ?_
        refine E_iconst (pc := 186) (v := 1) ddX3_outcome_186 rfl ?_
        refine E_icmp_ne (pc := 187) (tgt := 195) ddX3_outcome_187 (by decide) (fun _ => ?_) (fun h => absurd h (by decide))
        refine E_iload_n (pc := 195) (x := d) ddX3_outcome_195 rfl rfl ?_
        exact E_iret (pc := 196) ddX3_outcome_196 rfl q
      · rw [if_neg h] at q
        refine E_iload (pc := 30) (x := 3) ddX3_outcome_30 rfl ?_
        refine E_iconst (pc := 32) (v := 3) ddX3_outcome_32 rfl ?_
        refine E_icmp_ne (pc := 33) (tgt := 40) ddX3_outcome_33 (by decide) (fun h => absurd h (by decide)) (fun _ => ?_)
        refine E_iconst (pc := 36) (v := 1) ddX3_outcome_36 rfl ?_
        refine E_goto (pc := 37) (tgt := 41) ddX3_outcome_37 (by decide) ?_
        refine E_istore (pc := 41) (ls' := [some (.int a), some (.int b), some (.int c), some (.int d), some (.int b), some (.int 3), some (.int 1)]) ddX3_outcome_41 (Nat.le_of_ble_eq_true rfl) rfl rfl ?_
        refine E_iload_n (pc := 43) (x := a) ddX3_outcome_43 rfl rfl ?_
        by_cases h0 : a = 0
        · rw [if_pos h0] at q
          refine E_tswIn (pc := 44) (v := 0) (tgt := 80) ddX3_outcome_44 (by rw [h0]; rfl) (by decide) (by decide) rfl (by decide) ?_
          refine E_iload (pc := 80) (x := b) ddX3_outcome_80 rfl ?_
          refine E_iconst (pc := 82) (v := 3) ddX3_outcome_82 rfl ?_
          refine E_icmp_ne (pc := 83) (tgt := 90) ddX3_outcome_83 (by decide) (fun h => ?_) (fun h => ?_)
          · rw [if_neg h] at q
            refine E_iconst (pc := 90) (v := 1) ddX3_outcome_90 rfl ?_
            refine E_iload (pc := 91) (x := b) ddX3_outcome_91 rfl ?_
            refine E_isub (pc := 93) ddX3_outcome_93 ?_
            exact E_iret (pc := 94) ddX3_outcome_94 rfl q
          · rw [if_pos h] at q
            refine E_iconst (pc := 86) (v := 3) ddX3_outcome_86 rfl ?_
            refine E_goto (pc := 87) (tgt := 94) ddX3_outcome_87 (by decide) ?_
            exact E_iret (pc := 94) ddX3_outcome_94 rfl q
        rw [if_neg h0] at q
        by_cases h1 : a = 1
        · rw [if_pos h1] at q
          refine E_tswIn (pc := 44) (v := 1) (tgt := 95) ddX3_outcome_44 (by rw [h1]; rfl) (by decide) (by decide) rfl (by decide) ?_
          refine E_iload (pc := 95) (x := b) ddX3_outcome_95 rfl ?_
          refine E_if_eq (pc := 97) (tgt := 105) ddX3_outcome_97 (by decide) (fun h => ?_) (fun h => ?_)
          · rw [if_pos h] at q
            refine E_iconst (pc := 105) (v := 0) ddX3_outcome_105 rfl ?_
            refine E_goto (pc := 106) (tgt := 119) ddX3_outcome_106 (by decide) ?_
            exact E_iret (pc := 119) ddX3_outcome_119 rfl q
          · rw [if_neg h] at q
            refine E_iload (pc := 100) (x := 3) ddX3_outcome_100 rfl ?_
            refine E_if_ne (pc := 102) (tgt := 109) ddX3_outcome_102 (by decide) (fun _ => ?_) (fun h => absurd h (by decide))
            refine E_iload (pc := 109) (x := 1) ddX3_outcome_109 rfl ?_
            refine E_if_eq (pc := 111) (tgt := 118) ddX3_outcome_111 (by decide) (fun h => absurd h (by decide)) (fun _ => ?_)
            refine E_iconst (pc := 114) (v := 3) ddX3_outcome_114 rfl ?_
            refine E_goto (pc := 115) (tgt := 119) ddX3_outcome_115 (by decide) ?_
            exact E_iret (pc := 119) ddX3_outcome_119 rfl q
        rw [if_neg h1] at q
        by_cases h2 : a = 2
        · rw [if_pos h2] at q
          refine E_tswIn (pc := 44) (v := 2) (tgt := 120) ddX3_outcome_44 (by rw [h2]; rfl) (by decide) (by decide) rfl (by decide) ?_
          refine E_iload (pc := 120) (x := b) ddX3_outcome_120 rfl ?_
          refine E_iconst (pc := 122) (v := 1) ddX3_outcome_122 rfl ?_
          refine E_icmp_eq (pc := 123) (tgt := 132) ddX3_outcome_123 (by decide) (fun h => ?_) (fun h => ?_)
          · rw [if_pos h] at q
            refine E_iconst (pc := 132) (v := 1) ddX3_outcome_132 rfl ?_
            refine E_goto (pc := 133) (tgt := 146) ddX3_outcome_133 (by decide) ?_
            exact E_iret (pc := 146) ddX3_outcome_146 rfl q
          · rw [if_neg h] at q
            refine E_iload (pc := 126) (x := 3) ddX3_outcome_126 rfl ?_
            refine E_iconst (pc := 128) (v := 1) ddX3_outcome_128 rfl ?_
            refine E_icmp_ne (pc := 129) (tgt := 136) ddX3_outcome_129 (by decide) (fun _ => ?_) (fun h => absurd h (by decide))
            refine E_iload (pc := 136) (x := 1) ddX3_outcome_136 rfl ?_
            refine E_if_eq (pc := 138) (tgt := 145) ddX3_outcome_138 (by decide) (fun h => absurd h (by decide)) (fun _ => ?_)
            refine E_iconst (pc := 141) (v := 3) ddX3_outcome_141 rfl ?_
            refine E_goto (pc := 142) (tgt := 146) ddX3_outcome_142 (by decide) ?_
            exact E_iret (pc := 146) ddX3_outcome_146 rfl q
        rw [if_neg h2] at q
        by_cases h3 : a = 3
        · rw [if_pos h3] at q
          refine E_tswIn (pc := 44) (v := 3) (tgt := 147) ddX3_outcome_44 (by rw [h3]; rfl) (by decide) (by decide) rfl (by decide) ?_
          refine E_iload (pc := 147) (x := 1) ddX3_outcome_147 rfl ?_
          refine E_if_eq (pc := 149) (tgt := 156) ddX3_outcome_149 (by decide) (fun h => absurd h (by decide)) (fun _ => ?_)
          refine E_iconst (pc := 152) (v := 3) ddX3_outcome_152 rfl ?_
          refine E_goto (pc := 153) (tgt := 161) ddX3_outcome_153 (by decide) ?_
          exact E_iret (pc := 161) ddX3_outcome_161 rfl q
        rw [if_neg h3] at q
        by_cases h4 : a = 4
        · rw [if_pos h4] at q
          refine E_tswIn (pc := 44) (v := 4) (tgt := 162) ddX3_outcome_44 (by rw [h4]; rfl) (by decide) (by decide) rfl (by decide) ?_
          refine E_iload (pc := 162) (x := 3) ddX3_outcome_162 rfl ?_
          refine E_if_ne (pc := 164) (tgt := 171) ddX3_outcome_164 (by decide) (fun _ => ?_) (fun h => absurd h (by decide))
          refine E_iload (pc := 171) (x := 3) ddX3_outcome_171 rfl ?_
          refine E_iconst (pc := 173) (v := 1) ddX3_outcome_173 rfl ?_
          refine E_icmp_ne (pc := 174) (tgt := 182) ddX3_outcome_174 (by decide) (fun _ => ?_) (fun h => absurd h (by decide))
          refine E_iconst (pc := 182) (v := 3) ddX3_outcome_182 rfl ?_
          exact E_iret (pc := 183) ddX3_outcome_183 rfl q
        rw [if_neg h4] at q
        have q0 := lv_neT h0 (a := 0) rfl
        have q1 := lv_neT h1 (a := 1) rfl
        have q2 := lv_neT h2 (a := 2) rfl
        have q3 := lv_neT h3 (a := 3) rfl
        have q4 := lv_neT h4 (a := 4) rfl
        refine E_tswOut (pc := 44) (tgt := 184) ddX3_outcome_44 (by omega) (by decide) ?_
        refine E_iload (pc := 184) (x := 3) ddX3_outcome_184 rfl ?_
        refine E_iconst (pc := 186) (v := 1) ddX3_outcome_186 rfl ?_
        refine E_icmp_ne (pc := 187) (tgt := 195) ddX3_outcome_187 (by decide) (fun _ => ?_) (fun h => absurd h (by decide))
        refine E_iload_n (pc := 195) (x := d) ddX3_outcome_195 rfl rfl ?_
        exact E_iret (pc := 196) ddX3_outcome_196 rfl q
  · rw [if_pos h] at q
    refine E_iconst (pc := 5) (v := 3) ddX3_outcome_5 rfl ?_
    refine E_goto (pc := 6) (tgt := 10) ddX3_outcome_6 (by decide) ?_
    refine E_istore (pc := 10) (ls' := [some (.int a), some (.int b), some (.int c), some (.int d), some (.int 3), none, none]) ddX3_outcome_10 (Nat.le_of_ble_eq_true rfl) rfl rfl ?_
    refine E_iload_n (pc := 12) (x := c) ddX3_outcome_12 rfl rfl ?_
    refine E_iconst (pc := 13) (v := 2) ddX3_outcome_13 rfl ?_
    refine E_icmp_ne (pc := 14) (tgt := 21) ddX3_outcome_14 (by decide) (fun h => ?_) (fun h => ?_)
    · rw [if_neg h] at q
      refine E_iload_n (pc := 21) (x := c) ddX3_outcome_21 rfl rfl ?_
      refine E_istore (pc := 22) (ls' := [some (.int a), some (.int b), some (.int c), some (.int d), some (.int 3), some (.int c), none]) ddX3_outcome_22 (Nat.le_of_ble_eq_true rfl) rfl rfl ?_
      refine E_iload (pc := 24) (x := 3) ddX3_outcome_24 rfl ?_
      refine E_iconst (pc := 26) (v := 3) ddX3_outcome_26 rfl ?_
      refine E_icmp_eq (pc := 27) (tgt := 36) ddX3_outcome_27 (by decide) (fun _ => ?_) (fun h => absurd h (by decide))
      refine E_iconst (pc := 36) (v := 1) ddX3_outcome_36 rfl ?_
      refine E_goto (pc := 37) (tgt := 41) ddX3_outcome_37 (by decide) ?_
      refine E_istore (pc := 41) (ls' := [some (.int a), some (.int b), some (.int c), some (.int d), some (.int 3), some (.int c), some (.int 1)]) ddX3_outcome_41 (Nat.le_of_ble_eq_true rfl) rfl rfl ?_
      refine E_iload_n (pc := 43) (x := a) ddX3_outcome_43 rfl rfl ?_
      by_cases h0 : a = 0
      · rw [if_pos h0] at q
        refine E_tswIn (pc := 44) (v := 0) (tgt := 80) ddX3_outcome_44 (by rw [h0]; rfl) (by decide) (by decide) rfl (by decide) ?_
        refine E_iload (pc := 80) (x := 3) ddX3_outcome_80 rfl ?_
        refine E_iconst (pc := 82) (v := 3) ddX3_outcome_82 rfl ?_
        refine E_icmp_ne (pc := 83) (tgt := 90) ddX3_outcome_83 (by decide) (fun h => absurd h (by decide)) (fun _ => ?_)
        refine E_iconst (pc := 86) (v := 3) ddX3_outcome_86 rfl ?_
        refine E_goto (pc := 87) (tgt := 94) ddX3_outcome_87 (by decide) ?_
        exact E_iret (pc := 94) ddX3_outcome_94 rfl q
      rw [if_neg h0] at q
      by_cases h1 : a = 1
      · rw [if_pos h1] at q
        refine E_tswIn (pc := 44) (v := 1) (tgt := 95) ddX3_outcome_44 (by rw [h1]; rfl) (by decide) (by decide) rfl (by decide) ?_
        refine E_iload (pc := 95) (x := 3) ddX3_outcome_95 rfl ?_
        refine E_if_eq (pc := 97) (tgt := 105) ddX3_outcome_97 (by decide) (fun h => absurd h (by decide)) (fun _ => ?_)
        refine E_iload (pc := 100) (x := c) ddX3_outcome_100 rfl ?_
        refine E_if_ne (pc := 102) (tgt := 109) ddX3_outcome_102 (by decide) (fun h => ?_) (fun h => ?_)
        · rw [if_neg h] at q
          refine E_iload (pc := 109) (x := 1) ddX3_outcome_109 rfl ?_
          refine E_if_eq (pc := 111) (tgt := 118) ddX3_outcome_111 (by decide) (fun h => absurd h (by decide)) (fun _ => ?_)
          refine E_iconst (pc := 114) (v := 3) ddX3_outcome_114 rfl ?_
          refine E_goto (pc := 115) (tgt := 119) ddX3_outcome_115 (by decide) ?_
          exact E_iret (pc := 119) ddX3_outcome_119 rfl q
        · rw [if_pos h] at q
          refine E_iconst (pc := 105) (v := 0) ddX3_outcome_105 rfl ?_
          refine E_goto (pc := 106) (tgt := 119) ddX3_outcome_106 (by decide) ?_
          exact E_iret (pc := 119) ddX3_outcome_119 rfl q
      rw [if_neg h1] at q
      by_cases h2 : a = 2
      · rw [if_pos h2] at q
        refine E_tswIn (pc := 44) (v := 2) (tgt := 120) ddX3_outcome_44 (by rw [h2]; rfl) (by decide) (by decide) rfl (by decide) ?_
        refine E_iload (pc := 120) (x := 3) ddX3_outcome_120 rfl ?_
        refine E_iconst (pc := 122) (v := 1) ddX3_outcome_122 rfl ?_
        refine E_icmp_eq (pc := 123) (tgt := 132) ddX3_outcome_123 (by decide) (fun h => absurd h (by decide)) (fun _ => ?_)
        refine E_iload (pc := 126) (x := c) ddX3_outcome_126 rfl ?_
        refine E_iconst (pc := 128) (v := 1) ddX3_outcome_128 rfl ?_
        refine E_icmp_ne (pc := 129) (tgt := 136) ddX3_outcome_129 (by decide) (fun h => ?_) (fun h => ?_)
        · rw [if_neg h] at q
          refine E_iload (pc := 136) (x := 1) ddX3_outcome_136 rfl ?_
          refine E_if_eq (pc := 138) (tgt := 145) ddX3_outcome_138 (by decide) (fun h => absurd h (by decide)) (fun _ => ?_)
          refine E_iconst (pc := 141) (v := 3) ddX3_outcome_141 rfl ?_
          refine E_goto (pc := 142) (tgt := 146) ddX3_outcome_142 (by decide) ?_
          exact E_iret (pc := 146) ddX3_outcome_146 rfl q
        · rw [if_pos h] at q
          refine E_iconst (pc := 132) (v := 1) ddX3_outcome_132 rfl ?_
          refine E_goto (pc := 133) (tgt := 146) ddX3_outcome_133 (by decide) ?_
          exact E_iret (pc := 146) ddX3_outcome_146 rfl q
      rw [if_neg h2] at q
      by_cases h3 : a = 3
      · rw [if_pos h3] at q
        refine E_tswIn (pc := 44) (v := 3) (tgt := 147) ddX3_outcome_44 (by rw [h3]; rfl) (by decide) (by decide) rfl (by decide) ?_
        refine E_iload (pc := 147) (x := 1) ddX3_outcome_147 rfl ?_
        refine E_if_eq (pc := 149) (tgt := 156) ddX3_outcome_149 (by decide) (fun h => absurd h (by decide)) (fun _ => ?_)
        refine E_iconst (pc := 152) (v := 3) ddX3_outcome_152 rfl ?_
        refine E_goto (pc := 153) (tgt := 161) ddX3_outcome_153 (by decide) ?_
        exact E_iret (pc := 161) ddX3_outcome_161 rfl q
      rw [if_neg h3] at q
      by_cases h4 : a = 4
      · rw [if_pos h4] at q
        refine E_tswIn (pc := 44) (v := 4) (tgt := 162) ddX3_outcome_44 (by rw [h4]; rfl) (by decide) (by decide) rfl (by decide) ?_
        refine E_iload (pc := 162) (x := c) ddX3_outcome_162 rfl ?_
        refine E_if_ne (pc := 164) (tgt := 171) ddX3_outcome_164 (by decide) (fun h => ?_) (fun h => ?_)
        · rw [if_neg h] at q
          refine E_iload (pc := 171) (x := c) ddX3_outcome_171 rfl ?_
          refine E_iconst (pc := 173) (v := 1) ddX3_outcome_173 rfl ?_
          refine E_icmp_ne (pc := 174) (tgt := 182) ddX3_outcome_174 (by decide) (fun h => ?_) (fun h => ?_)
          · rw [if_neg h] at q
            refine E_iconst (pc := 182) (v := 3) ddX3_outcome_182 rfl ?_
            exact E_iret (pc := 183) ddX3_outcome_183 rfl q
          · rw [if_pos h] at q
            refine E_iload (pc := 177) (x := 3) ddX3_outcome_177 rfl ?_
            refine E_goto (pc := 179) (tgt := 183) ddX3_outcome_179 (by decide) ?_
            exact E_iret (pc := 183) ddX3_outcome_183 rfl q
        · rw [if_pos h] at q
          refine E_iconst (pc := 167) (v := 2) ddX3_outcome_167 rfl ?_
          refine E_goto (pc := 168) (tgt := 183) ddX3_outcome_168 (by decide) ?_
          exact E_iret (pc := 183) ddX3_outcome_183 rfl q
      rw [if_neg h4] at q
      have q0 := lv_neT h0 (a := 0) rfl
      have q1 := lv_neT h1 (a := 1) rfl
      have q2 := lv_neT h2 (a := 2) rfl
      have q3 := lv_neT h3 (a := 3) rfl
      have q4 := lv_neT h4 (a := 4) rfl
      refine E_tswOut (pc := 44) (tgt := 184) ddX3_outcome_44 (by omega) (by decide) ?_
      refine E_iload (pc := 184) (x := c) ddX3_outcome_184 rfl ?_
      refine E_iconst (pc := 186) (v := 1) ddX3_outcome_186 rfl ?_
      refine E_icmp_ne (pc := 187) (tgt := 195) ddX3_outcome_187 (by decide) (fun h => ?_) (fun h => ?_)
      · rw [if_neg h] at q
        refine E_iload_n (pc := 195) (x := d) ddX3_outcome_195 rfl rfl ?_
        exact E_iret (pc := 196) ddX3_outcome_196 rfl q
      · rw [if_pos h] at q
        refine E_iload (pc := 190) (x := 3) ddX3_outcome_190 rfl ?_
        refine E_goto (pc := 192) (tgt := 196) ddX3_outcome_192 (by decide) ?_
        exact E_iret (pc := 196) ddX3_outcome_196 rfl q
    · rw [if_pos h] at q
      refine E_iconst (pc := 17) (v := 3) ddX3_outcome_17 rfl ?_
      refine E_goto (pc := 18) (tgt := 22) ddX3_outcome_18 (by decide) ?_
      refine E_istore (pc := 22) (ls' := [some (.int a), some (.int b), some (.int c), some (.int d), some (.int 3), some (.int 3), none]) ddX3_outcome_22 (Nat.le_of_ble_eq_true rfl) rfl rfl ?_
      refine E_iload (pc := 24) (x := 3) ddX3_outcome_24 rfl ?_
      refine E_iconst (pc := 26) (v := 3) ddX3_outcome_26 rfl ?_
      refine E_icmp_eq (pc := 27) (tgt := 36) ddX3_outcome_27 (by decide) (fun _ => ?_) (fun h => absurd h (by decide))
      refine E_iconst (pc := 36) (v := 1) ddX3_outcome_36 rfl ?_
      refine E_goto (pc := 37) (tgt := 41) ddX3_outcome_37 (by decide) ?_
      refine E_istore (pc := 41) (ls' := [some (.int a), some (.int b), some (.int c), some (.int d), some (.int 3), some (.int 3), some (.int 1)]) ddX3_outcome_41 (Nat.le_of_ble_eq_true rfl) rfl rfl ?_
      refine E_iload_n (pc := 43) (x := a) ddX3_outcome_43 rfl rfl ?_
      by_cases h0 : a = 0
      · rw [if_pos h0] at q
        refine E_tswIn (pc := 44) (v := 0) (tgt := 80) ddX3_outcome_44 (by rw [h0]; rfl) (by decide) (by decide) rfl (by decide) ?_
        refine E_iload (pc := 80) (x := 3) ddX3_outcome_80 rfl ?_
        refine E_iconst (pc := 82) (v := 3) ddX3_outcome_82 rfl ?_
        refine E_icmp_ne (pc := 83) (tgt := 90) ddX3_outcome_83 (by decide) (fun h => absurd h (by decide)) (fun _ => ?_)
        refine E_iconst (pc := 86) (v := 3) ddX3_outcome_86 rfl ?_
        refine E_goto (pc := 87) (tgt := 94) ddX3_outcome_87 (by decide) ?_
        exact E_iret (pc := 94) ddX3_outcome_94 rfl q
      rw [if_neg h0] at q
      by_cases h1 : a = 1
      · rw [if_pos h1] at q
        refine E_tswIn (pc := 44) (v := 1) (tgt := 95) ddX3_outcome_44 (by rw [h1]; rfl) (by decide) (by decide) rfl (by decide) ?_
        refine E_iload (pc := 95) (x := 3) ddX3_outcome_95 rfl ?_
        refine E_if_eq (pc := 97) (tgt := 105) ddX3_outcome_97 (by decide) (fun h => absurd h (by decide)) (fun _ => ?_)
        refine E_iload (pc := 100) (x := 3) ddX3_outcome_100 rfl ?_
        refine E_if_ne (pc := 102) (tgt := 109) ddX3_outcome_102 (by decide) (fun _ => ?_) (fun h => absurd h (by decide))
        refine E_iload (pc := 109) (x := 1) ddX3_outcome_109 rfl ?_
        refine E_if_eq (pc := 111) (tgt := 118) ddX3_outcome_111 (by decide) (fun h => absurd h (by decide)) (fun _ => ?_)
        refine E_iconst (pc := 114) (v := 3) ddX3_outcome_114 rfl ?_
        refine E_goto (pc := 115) (tgt := 119) ddX3_outcome_115 (by decide) ?_
        exact E_iret (pc := 119) ddX3_outcome_119 rfl q
      rw [if_neg h1] at q
      by_cases h2 : a = 2
      · rw [if_pos h2] at q
        refine E_tswIn (pc := 44) (v := 2) (tgt := 120) ddX3_outcome_44 (by rw [h2]; rfl) (by decide) (by decide) rfl (by decide) ?_
        refine E_iload (pc := 120) (x := 3) ddX3_outcome_120 rfl ?_
        refine E_iconst (pc := 122) (v := 1) ddX3_outcome_122 rfl ?_
        refine E_icmp_eq (pc := 123) (tgt := 132) ddX3_outcome_123 (by decide) (fun h => absurd h (by decide)) (fun _ => ?_)
        refine E_iload (pc := 126) (x := 3) ddX3_outcome_126 rfl ?_
        refine E_iconst (pc := 128) (v := 1) ddX3_outcome_128 rfl ?_
        refine E_icmp_ne (pc := 129) (tgt := 136) ddX3_outcome_129 (by decide) (fun _ => ?_) (fun h => absurd h (by decide))
        refine E_iload (pc := 136) (x := 1) ddX3_outcome_136 rfl ?_
        refine E_if_eq (pc := 138) (tgt := 145) ddX3_outcome_138 (by decide) (fun h => absurd h (by decide)) (fun _ => ?_)
        refine E_iconst (pc := 141) (v := 3) ddX3_outcome_141 rfl ?_
        refine E_goto (pc := 142) (tgt := 146) ddX3_outcome_142 (by decide) ?_
        exact E_iret (pc := 146) ddX3_outcome_146 rfl q
      rw [if_neg h2] at q
      by_cases h3 : a = 3
      · rw [if_pos h3] at q
        refine E_tswIn (pc := 44) (v := 3) (tgt := 147) ddX3_outcome_44 (by rw [h3]; rfl) (by decide) (by decide) rfl (by decide) ?_
        refine E_iload (pc := 147) (x := 1) ddX3_outcome_147 rfl ?_
        refine E_if_eq (pc := 149) (tgt := 156) ddX3_outcome_149 (by decide) (fun h => absurd h (by decide)) (fun _ => ?_)
        refine E_iconst (pc := 152) (v := 3) ddX3_outcome_152 rfl ?_
        refine E_goto (pc := 153) (tgt := 161) ddX3_outcome_153 (by decide) ?_
        exact E_iret (pc := 161) ddX3_outcome_161 rfl q
      rw [if_neg h3] at q
      by_cases h4 : a = 4
      · rw [if_pos h4] at q
        refine E_tswIn (pc := 44) (v := 4) (tgt := 162) ddX3_outcome_44 (by rw [h4]; rfl) (by decide) (by decide) rfl (by decide) ?_
        refine E_iload (pc := 162) (x := 3) ddX3_outcome_162 rfl ?_
        refine E_if_ne (pc := 164) (tgt := 171) ddX3_outcome_164 (by decide) (fun _ => ?_) (fun h => absurd h (by decide))
        refine E_iload (pc := 171) (x := 3) ddX3_outcome_171 rfl ?_
        refine E_iconst (pc := 173) (v := 1) ddX3_outcome_173 rfl ?_
        refine E_icmp_ne (pc := 174) (tgt := 182) ddX3_outcome_174 (by decide) (fun _ => ?_) (fun h => absurd h (by decide))
        refine E_iconst (pc := 182) (v := 3) ddX3_outcome_182 rfl ?_
        exact E_iret (pc := 183) ddX3_outcome_183 rfl q
      rw [if_neg h4] at q
      have q0 := lv_neT h0 (a := 0) rfl
      have q1 := lv_neT h1 (a := 1) rfl
      have q2 := lv_neT h2 (a := 2) rfl
      have q3 := lv_neT h3 (a := 3) rfl
      have q4 := lv_neT h4 (a := 4) rfl
      refine E_tswOut (pc := 44) (tgt := 184) ddX3_outcome_44 (by omega) (by decide) ?_
      refine E_iload (pc := 184) (x := 3) ddX3_outcome_184 rfl ?_
      refine E_iconst (pc := 186) (v := 1) ddX3_outcome_186 rfl ?_
      refine E_icmp_ne (pc := 187) (tgt := 195) ddX3_outcome_187 (by decide) (fun _ => ?_) (fun h => absurd h (by decide))
      refine E_iload_n (pc := 195) (x := d) ddX3_outcome_195 rfl rfl ?_
      exact E_iret (pc := 196) ddX3_outcome_196 rfl q

def f_X9_least (a b : Int32) : Int32 := (if b ≤ a then b else a)
set_option maxRecDepth 100000 in
theorem C_X9_least {mc ms : Nat} {z : Zt} {I : It} {Q : Option Value → Zt → It → Prop} {a b : Int32} (q : Q (some (.int (f_X9_least a b))) z I) : E mX9_least mc ms 0 [some (.int a), some (.int b)] [] z I Q := by
  unfold f_X9_least at q
  refine E_iload_n (pc := 0) (x := a) ddX9_least_0 rfl rfl ?_
  refine E_iload_n (pc := 1) (x := b) ddX9_least_1 rfl rfl ?_
  refine E_icmp_ge (pc := 2) (tgt := 9) ddX9_least_2 (by decide) (fun h => ?_) (fun h => ?_)
  · rw [if_pos h] at q
    refine E_iload_n (pc := 9) (x := b) ddX9_least_9 rfl rfl ?_
    exact E_iret (pc := 10) ddX9_least_10 rfl q
  · rw [if_neg h] at q
    refine E_iload_n (pc := 5) (x := a) ddX9_least_5 rfl rfl ?_
    refine E_goto (pc := 6) (tgt := 10) ddX9_least_6 (by decide) ?_
    exact E_iret (pc := 10) ddX9_least_10 rfl q

def f_X9_firm (a : Int32) : Int32 := (if a = 2 then 3 else a)
set_option maxRecDepth 100000 in
theorem C_X9_firm {mc ms : Nat} {z : Zt} {I : It} {Q : Option Value → Zt → It → Prop} {a : Int32} (q : Q (some (.int (f_X9_firm a))) z I) : E mX9_firm mc ms 0 [some (.int a)] [] z I Q := by
  unfold f_X9_firm at q
  refine E_iload_n (pc := 0) (x := a) ddX9_firm_0 rfl rfl ?_
  refine E_iconst (pc := 1) (v := 2) ddX9_firm_1 rfl ?_
  refine E_icmp_ne (pc := 2) (tgt := 9) ddX9_firm_2 (by decide) (fun h => ?_) (fun h => ?_)
  · rw [if_neg h] at q
    refine E_iload_n (pc := 9) (x := a) ddX9_firm_9 rfl rfl ?_
    exact E_iret (pc := 10) ddX9_firm_10 rfl q
  · rw [if_pos h] at q
    refine E_iconst (pc := 5) (v := 3) ddX9_firm_5 rfl ?_
    refine E_goto (pc := 6) (tgt := 10) ddX9_firm_6 (by decide) ?_
    exact E_iret (pc := 10) ddX9_firm_10 rfl q

def f_X9_together (a b : Int32) : Int32 := (if a = 2 then b else (if b = 2 then a else (if a = b then a else 3)))
set_option maxRecDepth 100000 in
theorem C_X9_together {mc ms : Nat} {z : Zt} {I : It} {Q : Option Value → Zt → It → Prop} {a b : Int32} (q : Q (some (.int (f_X9_together a b))) z I) : E mX9_together mc ms 0 [some (.int a), some (.int b)] [] z I Q := by
  unfold f_X9_together at q
  refine E_iload_n (pc := 0) (x := a) ddX9_together_0 rfl rfl ?_
  refine E_iconst (pc := 1) (v := 2) ddX9_together_1 rfl ?_
  refine E_icmp_ne (pc := 2) (tgt := 7) ddX9_together_2 (by decide) (fun h => ?_) (fun h => ?_)
  · rw [if_neg h] at q
    refine E_iload_n (pc := 7) (x := b) ddX9_together_7 rfl rfl ?_
    refine E_iconst (pc := 8) (v := 2) ddX9_together_8 rfl ?_
    refine E_icmp_eq (pc := 9) (tgt := 17) ddX9_together_9 (by decide) (fun h => ?_) (fun h => ?_)
    · rw [if_pos h] at q
      refine E_iload_n (pc := 17) (x := a) ddX9_together_17 rfl rfl ?_
      refine E_goto (pc := 18) (tgt := 22) ddX9_together_18 (by decide) ?_
      exact E_iret (pc := 22) ddX9_together_22 rfl q
    · rw [if_neg h] at q
      refine E_iload_n (pc := 12) (x := a) ddX9_together_12 rfl rfl ?_
      refine E_iload_n (pc := 13) (x := b) ddX9_together_13 rfl rfl ?_
      refine E_icmp_ne (pc := 14) (tgt := 21) ddX9_together_14 (by decide) (fun h => ?_) (fun h => ?_)
      · rw [if_neg h] at q
        refine E_iconst (pc := 21) (v := 3) ddX9_together_21 rfl ?_
        exact E_iret (pc := 22) ddX9_together_22 rfl q
      · rw [if_pos h] at q
        refine E_iload_n (pc := 17) (x := a) ddX9_together_17 rfl rfl ?_
        refine E_goto (pc := 18) (tgt := 22) ddX9_together_18 (by decide) ?_
        exact E_iret (pc := 22) ddX9_together_22 rfl q
  · rw [if_pos h] at q
    refine E_iload_n (pc := 5) (x := b) ddX9_together_5 rfl rfl ?_
    exact E_iret (pc := 6) ddX9_together_6 rfl q

def f_X9_made (a b c : Int32) : Int32 := (if a = 0 then (if (f_X9_firm b) = 3 then 3 else (1 - (f_X9_firm b))) else (if a = 1 then (if (f_X9_firm b) = 0 then 0 else (if (f_X9_firm c) = 0 then 0 else (if (f_X9_firm b) = 1 then (if (f_X9_firm c) = 1 then 1 else 3) else 3))) else (if a = 2 then (if (f_X9_firm b) = 1 then 1 else (if (f_X9_firm c) = 1 then 1 else (if (f_X9_firm b) = 0 then (if (f_X9_firm c) = 0 then 0 else 3) else 3))) else (if a = 3 then (if (f_X9_firm b) = 3 then 3 else (if (f_X9_firm c) = 3 then 3 else (if (f_X9_firm b) = (f_X9_firm c) then 0 else 1))) else (if (f_X9_firm c) = 0 then 2 else (if (f_X9_firm c) = 1 then (f_X9_firm b) else 3))))))
set_option maxRecDepth 100000 in
theorem C_X9_made {mc ms : Nat} {z : Zt} {I : It} {Q : Option Value → Zt → It → Prop} {a b c : Int32} (q : Q (some (.int (f_X9_made a b c))) z I) : E mX9_made mc ms 0 [some (.int a), some (.int b), some (.int c), none, none] [] z I Q := by
  unfold f_X9_made at q
  refine E_iload_n (pc := 0) (x := b) ddX9_made_0 rfl rfl ?_
  refine E_callS (pc := 1) (As := [.int b]) (st := []) ddX9_made_1 hX9_firm ⟨(Nat.le_of_ble_eq_true rfl), (Nat.le_of_ble_eq_true rfl)⟩ w_4_66 rfl rfl (Nat.le_of_ble_eq_true rfl) (e_cc rfl e_cn) (Nat.le_of_ble_eq_true rfl) (C_X9_firm ?_)
  refine (show E mX9_made mc ms 4 [some (.int a), some (.int b), some (.int c), none, none] [.int (f_X9_firm b)] z I Q from ?_)
  refine E_istore_n (pc := 4) (ls' := [some (.int a), some (.int b), some (.int c), some (.int (f_X9_firm b)), none]) ddX9_made_4 rfl (Nat.le_of_ble_eq_true rfl) rfl rfl ?_
  refine E_iload_n (pc := 5) (x := c) ddX9_made_5 rfl rfl ?_
  refine E_callS (pc := 6) (As := [.int c]) (st := []) ddX9_made_6 hX9_firm ⟨(Nat.le_of_ble_eq_true rfl), (Nat.le_of_ble_eq_true rfl)⟩ w_4_66 rfl rfl (Nat.le_of_ble_eq_true rfl) (e_cc rfl e_cn) (Nat.le_of_ble_eq_true rfl) (C_X9_firm ?_)
  refine (show E mX9_made mc ms 9 [some (.int a), some (.int b), some (.int c), some (.int (f_X9_firm b)), none] [.int (f_X9_firm c)] z I Q from ?_)
  refine E_istore (pc := 9) (ls' := [some (.int a), some (.int b), some (.int c), some (.int (f_X9_firm b)), some (.int (f_X9_firm c))]) ddX9_made_9 (Nat.le_of_ble_eq_true rfl) rfl rfl ?_
  refine E_iload_n (pc := 11) (x := a) ddX9_made_11 rfl rfl ?_
  by_cases h0 : a = 0
  · rw [if_pos h0] at q
    refine E_tswIn (pc := 12) (v := 0) (tgt := 44) ddX9_made_12 (by rw [h0]; rfl) (by decide) (by decide) rfl (by decide) ?_
    refine E_iload_n (pc := 44) (x := (f_X9_firm b)) ddX9_made_44 rfl rfl ?_
    refine E_iconst (pc := 45) (v := 3) ddX9_made_45 rfl ?_
    refine E_icmp_ne (pc := 46) (tgt := 53) ddX9_made_46 (by decide) (fun h => ?_) (fun h => ?_)
    · rw [if_neg h] at q
      refine E_iconst (pc := 53) (v := 1) ddX9_made_53 rfl ?_
      refine E_iload_n (pc := 54) (x := (f_X9_firm b)) ddX9_made_54 rfl rfl ?_
      refine E_isub (pc := 55) ddX9_made_55 ?_
      exact E_iret (pc := 56) ddX9_made_56 rfl q
    · rw [if_pos h] at q
      refine E_iconst (pc := 49) (v := 3) ddX9_made_49 rfl ?_
      refine E_goto (pc := 50) (tgt := 56) ddX9_made_50 (by decide) ?_
      exact E_iret (pc := 56) ddX9_made_56 rfl q
  rw [if_neg h0] at q
  by_cases h1 : a = 1
  · rw [if_pos h1] at q
    refine E_tswIn (pc := 12) (v := 1) (tgt := 57) ddX9_made_12 (by rw [h1]; rfl) (by decide) (by decide) rfl (by decide) ?_
    refine E_iload_n (pc := 57) (x := (f_X9_firm b)) ddX9_made_57 rfl rfl ?_
    refine E_if_eq (pc := 58) (tgt := 66) ddX9_made_58 (by decide) (fun h => ?_) (fun h => ?_)
    · rw [if_pos h] at q
      refine E_iconst (pc := 66) (v := 0) ddX9_made_66 rfl ?_
      refine E_goto (pc := 67) (tgt := 86) ddX9_made_67 (by decide) ?_
      exact E_iret (pc := 86) ddX9_made_86 rfl q
    · rw [if_neg h] at q
      refine E_iload (pc := 61) (x := (f_X9_firm c)) ddX9_made_61 rfl ?_
      refine E_if_ne (pc := 63) (tgt := 70) ddX9_made_63 (by decide) (fun h => ?_) (fun h => ?_)
      · rw [if_neg h] at q
        refine E_iload_n (pc := 70) (x := (f_X9_firm b)) ddX9_made_70 rfl rfl ?_
        refine E_iconst (pc := 71) (v := 1) ddX9_made_71 rfl ?_
        refine E_icmp_ne (pc := 72) (tgt := 85) ddX9_made_72 (by decide) (fun h => ?_) (fun h => ?_)
        · rw [if_neg h] at q
          refine E_iconst (pc := 85) (v := 3) ddX9_made_85 rfl ?_
          exact E_iret (pc := 86) ddX9_made_86 rfl q
        · rw [if_pos h] at q
          refine E_iload (pc := 75) (x := (f_X9_firm c)) ddX9_made_75 rfl ?_
          refine E_iconst (pc := 77) (v := 1) ddX9_made_77 rfl ?_
          refine E_icmp_ne (pc := 78) (tgt := 85) ddX9_made_78 (by decide) (fun h => ?_) (fun h => ?_)
          · rw [if_neg h] at q
            refine E_iconst (pc := 85) (v := 3) ddX9_made_85 rfl ?_
            exact E_iret (pc := 86) ddX9_made_86 rfl q
          · rw [if_pos h] at q
            refine E_iconst (pc := 81) (v := 1) ddX9_made_81 rfl ?_
            refine E_goto (pc := 82) (tgt := 86) ddX9_made_82 (by decide) ?_
            exact E_iret (pc := 86) ddX9_made_86 rfl q
      · rw [if_pos h] at q
        refine E_iconst (pc := 66) (v := 0) ddX9_made_66 rfl ?_
        refine E_goto (pc := 67) (tgt := 86) ddX9_made_67 (by decide) ?_
        exact E_iret (pc := 86) ddX9_made_86 rfl q
  rw [if_neg h1] at q
  by_cases h2 : a = 2
  · rw [if_pos h2] at q
    refine E_tswIn (pc := 12) (v := 2) (tgt := 87) ddX9_made_12 (by rw [h2]; rfl) (by decide) (by decide) rfl (by decide) ?_
    refine E_iload_n (pc := 87) (x := (f_X9_firm b)) ddX9_made_87 rfl rfl ?_
    refine E_iconst (pc := 88) (v := 1) ddX9_made_88 rfl ?_
    refine E_icmp_eq (pc := 89) (tgt := 98) ddX9_made_89 (by decide) (fun h => ?_) (fun h => ?_)
    · rw [if_pos h] at q
      refine E_iconst (pc := 98) (v := 1) ddX9_made_98 rfl ?_
      refine E_goto (pc := 99) (tgt := 116) ddX9_made_99 (by decide) ?_
      exact E_iret (pc := 116) ddX9_made_116 rfl q
    · rw [if_neg h] at q
      refine E_iload (pc := 92) (x := (f_X9_firm c)) ddX9_made_92 rfl ?_
      refine E_iconst (pc := 94) (v := 1) ddX9_made_94 rfl ?_
      refine E_icmp_ne (pc := 95) (tgt := 102) ddX9_made_95 (by decide) (fun h => ?_) (fun h => ?_)
      · rw [if_neg h] at q
        refine E_iload_n (pc := 102) (x := (f_X9_firm b)) ddX9_made_102 rfl rfl ?_
        refine E_if_ne (pc := 103) (tgt := 115) ddX9_made_103 (by decide) (fun h => ?_) (fun h => ?_)
        · rw [if_neg h] at q
          refine E_iconst (pc := 115) (v := 3) ddX9_made_115 rfl ?_
          exact E_iret (pc := 116) ddX9_made_116 rfl q
        · rw [if_pos h] at q
          refine E_iload (pc := 106) (x := (f_X9_firm c)) ddX9_made_106 rfl ?_
          refine E_if_ne (pc := 108) (tgt := 115) ddX9_made_108 (by decide) (fun h => ?_) (fun h => ?_)
          · rw [if_neg h] at q
            refine E_iconst (pc := 115) (v := 3) ddX9_made_115 rfl ?_
            exact E_iret (pc := 116) ddX9_made_116 rfl q
          · rw [if_pos h] at q
            refine E_iconst (pc := 111) (v := 0) ddX9_made_111 rfl ?_
            refine E_goto (pc := 112) (tgt := 116) ddX9_made_112 (by decide) ?_
            exact E_iret (pc := 116) ddX9_made_116 rfl q
      · rw [if_pos h] at q
        refine E_iconst (pc := 98) (v := 1) ddX9_made_98 rfl ?_
        refine E_goto (pc := 99) (tgt := 116) ddX9_made_99 (by decide) ?_
        exact E_iret (pc := 116) ddX9_made_116 rfl q
  rw [if_neg h2] at q
  by_cases h3 : a = 3
  · rw [if_pos h3] at q
    refine E_tswIn (pc := 12) (v := 3) (tgt := 117) ddX9_made_12 (by rw [h3]; rfl) (by decide) (by decide) rfl (by decide) ?_
    refine E_iload_n (pc := 117) (x := (f_X9_firm b)) ddX9_made_117 rfl rfl ?_
    refine E_iconst (pc := 118) (v := 3) ddX9_made_118 rfl ?_
    refine E_icmp_eq (pc := 119) (tgt := 128) ddX9_made_119 (by decide) (fun h => ?_) (fun h => ?_)
    · rw [if_pos h] at q
      refine E_iconst (pc := 128) (v := 3) ddX9_made_128 rfl ?_
      refine E_goto (pc := 129) (tgt := 143) ddX9_made_129 (by decide) ?_
      exact E_iret (pc := 143) ddX9_made_143 rfl q
    · rw [if_neg h] at q
      refine E_iload (pc := 122) (x := (f_X9_firm c)) ddX9_made_122 rfl ?_
      refine E_iconst (pc := 124) (v := 3) ddX9_made_124 rfl ?_
      refine E_icmp_ne (pc := 125) (tgt := 132) ddX9_made_125 (by decide) (fun h => ?_) (fun h => ?_)
      · rw [if_neg h] at q
        refine E_iload_n (pc := 132) (x := (f_X9_firm b)) ddX9_made_132 rfl rfl ?_
        refine E_iload (pc := 133) (x := (f_X9_firm c)) ddX9_made_133 rfl ?_
        refine E_icmp_ne (pc := 135) (tgt := 142) ddX9_made_135 (by decide) (fun h => ?_) (fun h => ?_)
        · rw [if_neg h] at q
          refine E_iconst (pc := 142) (v := 1) ddX9_made_142 rfl ?_
          exact E_iret (pc := 143) ddX9_made_143 rfl q
        · rw [if_pos h] at q
          refine E_iconst (pc := 138) (v := 0) ddX9_made_138 rfl ?_
          refine E_goto (pc := 139) (tgt := 143) ddX9_made_139 (by decide) ?_
          exact E_iret (pc := 143) ddX9_made_143 rfl q
      · rw [if_pos h] at q
        refine E_iconst (pc := 128) (v := 3) ddX9_made_128 rfl ?_
        refine E_goto (pc := 129) (tgt := 143) ddX9_made_129 (by decide) ?_
        exact E_iret (pc := 143) ddX9_made_143 rfl q
  rw [if_neg h3] at q
  have q0 := lv_neT h0 (a := 0) rfl
  have q1 := lv_neT h1 (a := 1) rfl
  have q2 := lv_neT h2 (a := 2) rfl
  have q3 := lv_neT h3 (a := 3) rfl
  refine E_tswOut (pc := 12) (tgt := 144) ddX9_made_12 (by omega) (by decide) ?_
  refine E_iload (pc := 144) (x := (f_X9_firm c)) ddX9_made_144 rfl ?_
  refine E_if_ne (pc := 146) (tgt := 153) ddX9_made_146 (by decide) (fun h => ?_) (fun h => ?_)
  · rw [if_neg h] at q
    refine E_iload (pc := 153) (x := (f_X9_firm c)) ddX9_made_153 rfl ?_
    refine E_iconst (pc := 155) (v := 1) ddX9_made_155 rfl ?_
    refine E_icmp_ne (pc := 156) (tgt := 163) ddX9_made_156 (by decide) (fun h => ?_) (fun h => ?_)
    · rw [if_neg h] at q
      refine E_iconst (pc := 163) (v := 3) ddX9_made_163 rfl ?_
      exact E_iret (pc := 164) ddX9_made_164 rfl q
    · rw [if_pos h] at q
      refine E_iload_n (pc := 159) (x := (f_X9_firm b)) ddX9_made_159 rfl rfl ?_
      refine E_goto (pc := 160) (tgt := 164) ddX9_made_160 (by decide) ?_
      exact E_iret (pc := 164) ddX9_made_164 rfl q
  · rw [if_pos h] at q
    refine E_iconst (pc := 149) (v := 2) ddX9_made_149 rfl ?_
    refine E_goto (pc := 150) (tgt := 164) ddX9_made_150 (by decide) ?_
    exact E_iret (pc := 164) ddX9_made_164 rfl q

def f_J9_floorMod_7cf53 (a b : Int32) : Int32 := (if 0 ≤ (a ^^^ b) then (a - a / b * b) else (if (a - a / b * b) = 0 then (a - a / b * b) else ((a - a / b * b) + b)))
set_option maxRecDepth 100000 in
theorem C_J9_floorMod_7cf53 {mc ms : Nat} {z : Zt} {I : It} {Q : Option Value → Zt → It → Prop} {a b : Int32} (hne : ¬ b = 0) (q : Q (some (.int (f_J9_floorMod_7cf53 a b))) z I) : E mJ9_floorMod_7cf53 mc ms 0 [some (.int a), some (.int b), none] [] z I Q := by
  unfold f_J9_floorMod_7cf53 at q
  refine E_iload_n (pc := 0) (x := a) ddJ9_floorMod_7cf53_0 rfl rfl ?_
  refine E_iload_n (pc := 1) (x := b) ddJ9_floorMod_7cf53_1 rfl rfl ?_
  refine E_irem (pc := 2) ddJ9_floorMod_7cf53_2 hne ?_
  refine E_istore_n (pc := 3) (ls' := [some (.int a), some (.int b), some (.int (a - a / b * b))]) ddJ9_floorMod_7cf53_3 rfl (Nat.le_of_ble_eq_true rfl) rfl rfl ?_
  refine E_iload_n (pc := 4) (x := a) ddJ9_floorMod_7cf53_4 rfl rfl ?_
  refine E_iload_n (pc := 5) (x := b) ddJ9_floorMod_7cf53_5 rfl rfl ?_
  refine E_ixor (pc := 6) ddJ9_floorMod_7cf53_6 ?_
  refine E_if_ge (pc := 7) (tgt := 18) ddJ9_floorMod_7cf53_7 (by decide) (fun h => ?_) (fun h => ?_)
  · rw [if_pos h] at q
    refine E_iload_n (pc := 18) (x := (a - a / b * b)) ddJ9_floorMod_7cf53_18 rfl rfl ?_
    exact E_iret (pc := 19) ddJ9_floorMod_7cf53_19 rfl q
  · rw [if_neg h] at q
    refine E_iload_n (pc := 10) (x := (a - a / b * b)) ddJ9_floorMod_7cf53_10 rfl rfl ?_
    refine E_if_eq (pc := 11) (tgt := 18) ddJ9_floorMod_7cf53_11 (by decide) (fun h => ?_) (fun h => ?_)
    · rw [if_pos h] at q
      refine E_iload_n (pc := 18) (x := (a - a / b * b)) ddJ9_floorMod_7cf53_18 rfl rfl ?_
      exact E_iret (pc := 19) ddJ9_floorMod_7cf53_19 rfl q
    · rw [if_neg h] at q
      refine E_iload_n (pc := 14) (x := (a - a / b * b)) ddJ9_floorMod_7cf53_14 rfl rfl ?_
      refine E_iload_n (pc := 15) (x := b) ddJ9_floorMod_7cf53_15 rfl rfl ?_
      refine E_iadd (pc := 16) ddJ9_floorMod_7cf53_16 ?_
      exact E_iret (pc := 17) ddJ9_floorMod_7cf53_17 rfl q
