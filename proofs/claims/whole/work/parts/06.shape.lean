def isM (z : Zt) (m : Nat) : Prop := z.2.1 m = (1, 3) ∧ z.2.2 m 4 = (m + 1) ∧ z.2.1 (m + 1) = (2, 8) ∧ z.2.2 m 5 = (m + 2) ∧ z.2.1 (m + 2) = (2, 8) ∧ z.2.2 m 6 = (m + 3) ∧ z.2.1 (m + 3) = (2, 8) ∧ z.2.2 m 7 = (m + 4) ∧ z.2.1 (m + 4) = (2, 8) ∧ z.2.2 m 8 = (m + 5) ∧ z.2.1 (m + 5) = (2, 64) ∧ z.2.2 m 9 = (m + 6) ∧ z.2.1 (m + 6) = (2, 64) ∧ z.2.2 m 10 = (m + 7) ∧ z.2.1 (m + 7) = (2, 8) ∧ z.2.2 m 11 = (m + 8) ∧ z.2.1 (m + 8) = (2, 8) ∧ z.2.2 m 12 = (m + 9) ∧ z.2.1 (m + 9) = (2, 64) ∧ z.2.2 m 13 = (m + 10) ∧ z.2.1 (m + 10) = (2, 64) ∧ z.2.2 m 15 = (m + 11) ∧ z.2.1 (m + 11) = (2, 8) ∧ z.2.2 m 16 = (m + 12) ∧ z.2.1 (m + 12) = (2, 8) ∧ z.2.2 m 17 = (m + 13) ∧ z.2.1 (m + 13) = (2, 8)
theorem isM.s0 {z : Zt} {m : Nat} (h : isM z m) : z.2.1 m = (1, 3) := h.1
theorem isM.r4 {z : Zt} {m : Nat} (h : isM z m) : z.2.2 m 4 = (m + 1) := h.2.1
theorem isM.s1 {z : Zt} {m : Nat} (h : isM z m) : z.2.1 (m + 1) = (2, 8) := h.2.2.1
theorem isM.r5 {z : Zt} {m : Nat} (h : isM z m) : z.2.2 m 5 = (m + 2) := h.2.2.2.1
theorem isM.s2 {z : Zt} {m : Nat} (h : isM z m) : z.2.1 (m + 2) = (2, 8) := h.2.2.2.2.1
theorem isM.r6 {z : Zt} {m : Nat} (h : isM z m) : z.2.2 m 6 = (m + 3) := h.2.2.2.2.2.1
theorem isM.s3 {z : Zt} {m : Nat} (h : isM z m) : z.2.1 (m + 3) = (2, 8) := h.2.2.2.2.2.2.1
theorem isM.r7 {z : Zt} {m : Nat} (h : isM z m) : z.2.2 m 7 = (m + 4) := h.2.2.2.2.2.2.2.1
theorem isM.s4 {z : Zt} {m : Nat} (h : isM z m) : z.2.1 (m + 4) = (2, 8) := h.2.2.2.2.2.2.2.2.1
theorem isM.r8 {z : Zt} {m : Nat} (h : isM z m) : z.2.2 m 8 = (m + 5) := h.2.2.2.2.2.2.2.2.2.1
theorem isM.s5 {z : Zt} {m : Nat} (h : isM z m) : z.2.1 (m + 5) = (2, 64) := h.2.2.2.2.2.2.2.2.2.2.1
theorem isM.r9 {z : Zt} {m : Nat} (h : isM z m) : z.2.2 m 9 = (m + 6) := h.2.2.2.2.2.2.2.2.2.2.2.1
theorem isM.s6 {z : Zt} {m : Nat} (h : isM z m) : z.2.1 (m + 6) = (2, 64) := h.2.2.2.2.2.2.2.2.2.2.2.2.1
theorem isM.r10 {z : Zt} {m : Nat} (h : isM z m) : z.2.2 m 10 = (m + 7) := h.2.2.2.2.2.2.2.2.2.2.2.2.2.1
theorem isM.s7 {z : Zt} {m : Nat} (h : isM z m) : z.2.1 (m + 7) = (2, 8) := h.2.2.2.2.2.2.2.2.2.2.2.2.2.2.1
theorem isM.r11 {z : Zt} {m : Nat} (h : isM z m) : z.2.2 m 11 = (m + 8) := h.2.2.2.2.2.2.2.2.2.2.2.2.2.2.2.1
theorem isM.s8 {z : Zt} {m : Nat} (h : isM z m) : z.2.1 (m + 8) = (2, 8) := h.2.2.2.2.2.2.2.2.2.2.2.2.2.2.2.2.1
theorem isM.r12 {z : Zt} {m : Nat} (h : isM z m) : z.2.2 m 12 = (m + 9) := h.2.2.2.2.2.2.2.2.2.2.2.2.2.2.2.2.2.1
theorem isM.s9 {z : Zt} {m : Nat} (h : isM z m) : z.2.1 (m + 9) = (2, 64) := h.2.2.2.2.2.2.2.2.2.2.2.2.2.2.2.2.2.2.1
theorem isM.r13 {z : Zt} {m : Nat} (h : isM z m) : z.2.2 m 13 = (m + 10) := h.2.2.2.2.2.2.2.2.2.2.2.2.2.2.2.2.2.2.2.1
theorem isM.s10 {z : Zt} {m : Nat} (h : isM z m) : z.2.1 (m + 10) = (2, 64) := h.2.2.2.2.2.2.2.2.2.2.2.2.2.2.2.2.2.2.2.2.1
theorem isM.r15 {z : Zt} {m : Nat} (h : isM z m) : z.2.2 m 15 = (m + 11) := h.2.2.2.2.2.2.2.2.2.2.2.2.2.2.2.2.2.2.2.2.2.1
theorem isM.s11 {z : Zt} {m : Nat} (h : isM z m) : z.2.1 (m + 11) = (2, 8) := h.2.2.2.2.2.2.2.2.2.2.2.2.2.2.2.2.2.2.2.2.2.2.1
theorem isM.r16 {z : Zt} {m : Nat} (h : isM z m) : z.2.2 m 16 = (m + 12) := h.2.2.2.2.2.2.2.2.2.2.2.2.2.2.2.2.2.2.2.2.2.2.2.1
theorem isM.s12 {z : Zt} {m : Nat} (h : isM z m) : z.2.1 (m + 12) = (2, 8) := h.2.2.2.2.2.2.2.2.2.2.2.2.2.2.2.2.2.2.2.2.2.2.2.2.1
theorem isM.r17 {z : Zt} {m : Nat} (h : isM z m) : z.2.2 m 17 = (m + 13) := h.2.2.2.2.2.2.2.2.2.2.2.2.2.2.2.2.2.2.2.2.2.2.2.2.2.1
theorem isM.s13 {z : Zt} {m : Nat} (h : isM z m) : z.2.1 (m + 13) = (2, 8) := h.2.2.2.2.2.2.2.2.2.2.2.2.2.2.2.2.2.2.2.2.2.2.2.2.2.2
def isP (z : Zt) (p : Nat) : Prop := z.2.1 p = (1, 5) ∧ z.2.2 p 2 = (p + 1) ∧ z.2.1 (p + 1) = (2, 8) ∧ z.2.2 p 3 = (p + 2) ∧ z.2.1 (p + 2) = (2, 8) ∧ z.2.2 p 4 = (p + 3) ∧ z.2.1 (p + 3) = (2, 8) ∧ z.2.2 p 5 = (p + 4) ∧ z.2.1 (p + 4) = (2, 8) ∧ z.2.2 p 6 = (p + 5) ∧ z.2.1 (p + 5) = (2, 8) ∧ z.2.2 p 7 = (p + 6) ∧ z.2.1 (p + 6) = (2, 8) ∧ z.2.2 p 8 = (p + 7) ∧ z.2.1 (p + 7) = (2, 8)
theorem isP.s0 {z : Zt} {p : Nat} (h : isP z p) : z.2.1 p = (1, 5) := h.1
theorem isP.r2 {z : Zt} {p : Nat} (h : isP z p) : z.2.2 p 2 = (p + 1) := h.2.1
theorem isP.s1 {z : Zt} {p : Nat} (h : isP z p) : z.2.1 (p + 1) = (2, 8) := h.2.2.1
theorem isP.r3 {z : Zt} {p : Nat} (h : isP z p) : z.2.2 p 3 = (p + 2) := h.2.2.2.1
theorem isP.s2 {z : Zt} {p : Nat} (h : isP z p) : z.2.1 (p + 2) = (2, 8) := h.2.2.2.2.1
theorem isP.r4 {z : Zt} {p : Nat} (h : isP z p) : z.2.2 p 4 = (p + 3) := h.2.2.2.2.2.1
theorem isP.s3 {z : Zt} {p : Nat} (h : isP z p) : z.2.1 (p + 3) = (2, 8) := h.2.2.2.2.2.2.1
theorem isP.r5 {z : Zt} {p : Nat} (h : isP z p) : z.2.2 p 5 = (p + 4) := h.2.2.2.2.2.2.2.1
theorem isP.s4 {z : Zt} {p : Nat} (h : isP z p) : z.2.1 (p + 4) = (2, 8) := h.2.2.2.2.2.2.2.2.1
theorem isP.r6 {z : Zt} {p : Nat} (h : isP z p) : z.2.2 p 6 = (p + 5) := h.2.2.2.2.2.2.2.2.2.1
theorem isP.s5 {z : Zt} {p : Nat} (h : isP z p) : z.2.1 (p + 5) = (2, 8) := h.2.2.2.2.2.2.2.2.2.2.1
theorem isP.r7 {z : Zt} {p : Nat} (h : isP z p) : z.2.2 p 7 = (p + 6) := h.2.2.2.2.2.2.2.2.2.2.2.1
theorem isP.s6 {z : Zt} {p : Nat} (h : isP z p) : z.2.1 (p + 6) = (2, 8) := h.2.2.2.2.2.2.2.2.2.2.2.2.1
theorem isP.r8 {z : Zt} {p : Nat} (h : isP z p) : z.2.2 p 8 = (p + 7) := h.2.2.2.2.2.2.2.2.2.2.2.2.2.1
theorem isP.s7 {z : Zt} {p : Nat} (h : isP z p) : z.2.1 (p + 7) = (2, 8) := h.2.2.2.2.2.2.2.2.2.2.2.2.2.2
def isRd (z : Zt) : Prop := z.2.1 2 = (1, 6) ∧ z.2.2 2 0 = 3 ∧ z.2.1 3 = (2, 200)
theorem isRd.s0 {z : Zt} (h : isRd z) : z.2.1 2 = (1, 6) := h.1
theorem isRd.r0 {z : Zt} (h : isRd z) : z.2.2 2 0 = 3 := h.2.1
theorem isRd.s1 {z : Zt} (h : isRd z) : z.2.1 3 = (2, 200) := h.2.2
def isBk (z : Zt) : Prop := z.2.1 304 = (1, 0) ∧ z.2.2 304 0 = 305 ∧ z.2.1 305 = (2, 20) ∧ z.2.2 304 1 = 306 ∧ z.2.1 306 = (2, 20)
theorem isBk.s0 {z : Zt} (h : isBk z) : z.2.1 304 = (1, 0) := h.1
theorem isBk.r0 {z : Zt} (h : isBk z) : z.2.2 304 0 = 305 := h.2.1
theorem isBk.s1 {z : Zt} (h : isBk z) : z.2.1 305 = (2, 20) := h.2.2.1
theorem isBk.r1 {z : Zt} (h : isBk z) : z.2.2 304 1 = 306 := h.2.2.2.1
theorem isBk.s2 {z : Zt} (h : isBk z) : z.2.1 306 = (2, 20) := h.2.2.2.2
def isO (z : Zt) : Prop := z.2.1 308 = (1, 8) ∧ z.2.2 308 0 = 309 ∧ z.2.1 309 = (2, 6880) ∧ z.2.2 308 3 = 310 ∧ z.2.1 310 = (2, 48) ∧ z.2.2 308 7 = 311 ∧ z.2.1 311 = (2, 2) ∧ z.2.2 308 8 = 312 ∧ z.2.1 312 = (2, 20) ∧ z.2.2 308 9 = 313 ∧ z.2.1 313 = (2, 20) ∧ z.2.2 308 11 = 314 ∧ z.2.1 314 = (2, 200) ∧ z.2.2 308 20 = 315 ∧ z.2.1 315 = (2, 8) ∧ z.2.2 308 21 = 316 ∧ z.2.1 316 = (2, 48)
theorem isO.s0 {z : Zt} (h : isO z) : z.2.1 308 = (1, 8) := h.1
theorem isO.r0 {z : Zt} (h : isO z) : z.2.2 308 0 = 309 := h.2.1
theorem isO.s1 {z : Zt} (h : isO z) : z.2.1 309 = (2, 6880) := h.2.2.1
theorem isO.r3 {z : Zt} (h : isO z) : z.2.2 308 3 = 310 := h.2.2.2.1
theorem isO.s2 {z : Zt} (h : isO z) : z.2.1 310 = (2, 48) := h.2.2.2.2.1
theorem isO.r7 {z : Zt} (h : isO z) : z.2.2 308 7 = 311 := h.2.2.2.2.2.1
theorem isO.s3 {z : Zt} (h : isO z) : z.2.1 311 = (2, 2) := h.2.2.2.2.2.2.1
theorem isO.r8 {z : Zt} (h : isO z) : z.2.2 308 8 = 312 := h.2.2.2.2.2.2.2.1
theorem isO.s4 {z : Zt} (h : isO z) : z.2.1 312 = (2, 20) := h.2.2.2.2.2.2.2.2.1
theorem isO.r9 {z : Zt} (h : isO z) : z.2.2 308 9 = 313 := h.2.2.2.2.2.2.2.2.2.1
theorem isO.s5 {z : Zt} (h : isO z) : z.2.1 313 = (2, 20) := h.2.2.2.2.2.2.2.2.2.2.1
theorem isO.r11 {z : Zt} (h : isO z) : z.2.2 308 11 = 314 := h.2.2.2.2.2.2.2.2.2.2.2.1
theorem isO.s6 {z : Zt} (h : isO z) : z.2.1 314 = (2, 200) := h.2.2.2.2.2.2.2.2.2.2.2.2.1
theorem isO.r20 {z : Zt} (h : isO z) : z.2.2 308 20 = 315 := h.2.2.2.2.2.2.2.2.2.2.2.2.2.1
theorem isO.s7 {z : Zt} (h : isO z) : z.2.1 315 = (2, 8) := h.2.2.2.2.2.2.2.2.2.2.2.2.2.2.1
theorem isO.r21 {z : Zt} (h : isO z) : z.2.2 308 21 = 316 := h.2.2.2.2.2.2.2.2.2.2.2.2.2.2.2.1
theorem isO.s8 {z : Zt} (h : isO z) : z.2.1 316 = (2, 48) := h.2.2.2.2.2.2.2.2.2.2.2.2.2.2.2.2
def isDr (z : Zt) : Prop := z.2.1 307 = (1, 1)
theorem isDr.s0 {z : Zt} (h : isDr z) : z.2.1 307 = (1, 1) := h
def isIm (z : Zt) (i : Nat) : Prop := z.2.1 i = (1, 2) ∧ z.2.2 i 0 = (i + 1) ∧ isM z (i + 1)
theorem isIm.s0 {z : Zt} {i : Nat} (h : isIm z i) : z.2.1 i = (1, 2) := h.1
theorem isIm.r0 {z : Zt} {i : Nat} (h : isIm z i) : z.2.2 i 0 = (i + 1) := h.2.1
theorem isIm.m {z : Zt} {i : Nat} (h : isIm z i) : isM z (i + 1) := h.2.2
def isPa (z : Zt) : Prop := z.2.1 48 = (1, 4) ∧ z.2.2 48 0 = 49 ∧ z.2.1 49 = (3, 16) ∧ ∀ j, j < 16 → z.2.2 49 j = 50 + 14 * j ∧ isM z (50 + 14 * j)
theorem isPa.s0 {z : Zt} (h : isPa z) : z.2.1 48 = (1, 4) := h.1
theorem isPa.r0 {z : Zt} (h : isPa z) : z.2.2 48 0 = 49 := h.2.1
theorem isPa.s1 {z : Zt} (h : isPa z) : z.2.1 49 = (3, 16) := h.2.2.1
theorem isPa.e {z : Zt} (h : isPa z) {j : Nat} (hj : j < 16) : z.2.2 49 j = 50 + 14 * j := (h.2.2.2 j hj).1
theorem isPa.m {z : Zt} (h : isPa z) {j : Nat} (hj : j < 16) : isM z (50 + 14 * j) := (h.2.2.2 j hj).2
def isZ (z : Zt) (pa pb : Nat) : Prop := z.2.1 1 = (1, 7) ∧ z.2.2 1 0 = 2 ∧ z.2.2 1 1 = pa ∧ z.2.2 1 2 = pb ∧ z.2.2 1 3 = 20 ∧ z.2.2 1 4 = 34 ∧ z.2.2 1 5 = 48 ∧ z.2.2 1 6 = 274 ∧ z.2.2 1 7 = 289 ∧ z.2.2 1 8 = 304 ∧ z.2.2 1 9 = 307 ∧ pa ≠ 0 ∧ pb ≠ 0 ∧ isRd z ∧ isP z pa ∧ isP z pb ∧ isM z 20 ∧ isM z 34 ∧ isPa z ∧ isIm z 274 ∧ isIm z 289 ∧ isBk z ∧ isDr z
theorem isZ.s0 {z : Zt} {pa pb : Nat} (h : isZ z pa pb) : z.2.1 1 = (1, 7) := h.1
theorem isZ.r0 {z : Zt} {pa pb : Nat} (h : isZ z pa pb) : z.2.2 1 0 = 2 := h.2.1
theorem isZ.r1 {z : Zt} {pa pb : Nat} (h : isZ z pa pb) : z.2.2 1 1 = pa := h.2.2.1
theorem isZ.r2 {z : Zt} {pa pb : Nat} (h : isZ z pa pb) : z.2.2 1 2 = pb := h.2.2.2.1
theorem isZ.r3 {z : Zt} {pa pb : Nat} (h : isZ z pa pb) : z.2.2 1 3 = 20 := h.2.2.2.2.1
theorem isZ.r4 {z : Zt} {pa pb : Nat} (h : isZ z pa pb) : z.2.2 1 4 = 34 := h.2.2.2.2.2.1
theorem isZ.r5 {z : Zt} {pa pb : Nat} (h : isZ z pa pb) : z.2.2 1 5 = 48 := h.2.2.2.2.2.2.1
theorem isZ.r6 {z : Zt} {pa pb : Nat} (h : isZ z pa pb) : z.2.2 1 6 = 274 := h.2.2.2.2.2.2.2.1
theorem isZ.r7 {z : Zt} {pa pb : Nat} (h : isZ z pa pb) : z.2.2 1 7 = 289 := h.2.2.2.2.2.2.2.2.1
theorem isZ.r8 {z : Zt} {pa pb : Nat} (h : isZ z pa pb) : z.2.2 1 8 = 304 := h.2.2.2.2.2.2.2.2.2.1
theorem isZ.r9 {z : Zt} {pa pb : Nat} (h : isZ z pa pb) : z.2.2 1 9 = 307 := h.2.2.2.2.2.2.2.2.2.2.1
theorem isZ.npa {z : Zt} {pa pb : Nat} (h : isZ z pa pb) : pa ≠ 0 := h.2.2.2.2.2.2.2.2.2.2.2.1
theorem isZ.npb {z : Zt} {pa pb : Nat} (h : isZ z pa pb) : pb ≠ 0 := h.2.2.2.2.2.2.2.2.2.2.2.2.1
theorem isZ.rd {z : Zt} {pa pb : Nat} (h : isZ z pa pb) : isRd z := h.2.2.2.2.2.2.2.2.2.2.2.2.2.1
theorem isZ.pa {z : Zt} {pa pb : Nat} (h : isZ z pa pb) : isP z pa := h.2.2.2.2.2.2.2.2.2.2.2.2.2.2.1
theorem isZ.pb {z : Zt} {pa pb : Nat} (h : isZ z pa pb) : isP z pb := h.2.2.2.2.2.2.2.2.2.2.2.2.2.2.2.1
theorem isZ.now {z : Zt} {pa pb : Nat} (h : isZ z pa pb) : isM z 20 := h.2.2.2.2.2.2.2.2.2.2.2.2.2.2.2.2.1
theorem isZ.trial {z : Zt} {pa pb : Nat} (h : isZ z pa pb) : isM z 34 := h.2.2.2.2.2.2.2.2.2.2.2.2.2.2.2.2.2.1
theorem isZ.past {z : Zt} {pa pb : Nat} (h : isZ z pa pb) : isPa z := h.2.2.2.2.2.2.2.2.2.2.2.2.2.2.2.2.2.2.1
theorem isZ.im1 {z : Zt} {pa pb : Nat} (h : isZ z pa pb) : isIm z 274 := h.2.2.2.2.2.2.2.2.2.2.2.2.2.2.2.2.2.2.2.1
theorem isZ.im2 {z : Zt} {pa pb : Nat} (h : isZ z pa pb) : isIm z 289 := h.2.2.2.2.2.2.2.2.2.2.2.2.2.2.2.2.2.2.2.2.1
theorem isZ.book {z : Zt} {pa pb : Nat} (h : isZ z pa pb) : isBk z := h.2.2.2.2.2.2.2.2.2.2.2.2.2.2.2.2.2.2.2.2.2.1
theorem isZ.draws {z : Zt} {pa pb : Nat} (h : isZ z pa pb) : isDr z := h.2.2.2.2.2.2.2.2.2.2.2.2.2.2.2.2.2.2.2.2.2.2
theorem e_nz2 (j : Nat) : 50 + 14 * j ≠ 0 := by omega
theorem e_cn : ∀ v ∈ ([] : List Value), v.category = 1 := fun _ h => absurd h List.not_mem_nil
theorem e_cc {w : Value} {l : List Value} (h : w.category = 1) (hl : ∀ v ∈ l, v.category = 1) : ∀ v ∈ w :: l, v.category = 1 := List.forall_mem_cons.mpr ⟨h, hl⟩
def e_le : List (Option Value) → List (Option Value) → Prop
  | [], _ => True
  | none :: a, _ :: b => e_le a b
  | some v :: a, w :: b => w = some v ∧ e_le a b
  | _ :: _, [] => False
theorem e_le.get : ∀ (a b : List (Option Value)), e_le a b → ∀ (i : Nat) (v : Value), a[i]? = some (some v) → b[i]? = some (some v)
  | [], _, _, i, v, h => by simp at h
  | none :: a, w :: b, g, 0, v, h => by simp at h
  | none :: a, w :: b, g, i + 1, v, h => by
    rw [List.getElem?_cons_succ] at h ⊢
    exact e_le.get a b g i v h
  | some u :: a, w :: b, g, 0, v, h => by
    rw [List.getElem?_cons_zero] at h ⊢
    rw [g.1]; exact h
  | some u :: a, w :: b, g, i + 1, v, h => by
    rw [List.getElem?_cons_succ] at h ⊢
    exact e_le.get a b g.2 i v h
  | _ :: _, [], g, i, v, h => by cases ‹Option Value› <;> exact g.elim
theorem E.forget {M : MI} {mc ms pc : Nat} {ls ls' : List (Option Value)} {st : List Value} {z : Zt} {I : It} {Q : Option Value → Zt → It → Prop} (h : E M mc ms pc ls' st z I Q) (hs : e_le ls' ls) : E M mc ms pc ls st z I Q :=
  fun b b0 D cI cM p l e R s m args below meth c C H locs cells slots lsA hH hS hc hs1 hL => h b b0 D cI cM p l e R s m args below meth c C H locs cells slots lsA hH hS hc hs1 ⟨hL.1, hL.2.1, fun i v hi => hL.2.2 i v (e_le.get ls' ls hs i v hi)⟩
theorem isM.rf {z : Zt} {m k x : Nat} (h : isM z m) (hp : m ≠ 1) : isM (z_rf z 1 k x) m := by
  unfold isM z_rf at *
  simp only [hp, false_and, if_false]
  exact h
theorem isP.rf {z : Zt} {p k x : Nat} (h : isP z p) (hp : p ≠ 1) : isP (z_rf z 1 k x) p := by
  unfold isP z_rf at *
  simp only [hp, false_and, if_false]
  exact h
theorem isIm.rf {z : Zt} {i k x : Nat} (h : isIm z i) (hp : i ≠ 1) (hi : i ≠ 0) : isIm (z_rf z 1 k x) i := ⟨h.1, by have := h.r0; simpa [z_rf, hp] using this, h.m.rf (by omega)⟩
theorem isRd.rf {z : Zt} {k x : Nat} (h : isRd z) : isRd (z_rf z 1 k x) := by
  unfold isRd z_rf at *
  simp only [show ¬ 2 = 1 by decide, false_and, if_false]
  exact h
theorem isBk.rf {z : Zt} {k x : Nat} (h : isBk z) : isBk (z_rf z 1 k x) := by
  unfold isBk z_rf at *
  simp only [show ¬ 304 = 1 by decide, false_and, if_false]
  exact h
theorem isO.rf {z : Zt} {k x : Nat} (h : isO z) : isO (z_rf z 1 k x) := by
  unfold isO z_rf at *
  simp only [show ¬ 308 = 1 by decide, false_and, if_false]
  exact h
theorem isPa.rf {z : Zt} {k x : Nat} (h : isPa z) : isPa (z_rf z 1 k x) := ⟨h.1, by have := h.r0; simpa [z_rf] using this, h.s1, fun j hj => ⟨by have := h.e hj; simpa [z_rf] using this, (h.m hj).rf (by omega)⟩⟩
theorem isZ.pa1 {z : Zt} {pa pb : Nat} (h : isZ z pa pb) : pa ≠ 1 := fun e => by
  have h1 := h.pa.s0
  rw [e, h.s0] at h1
  cases h1
theorem isZ.pb1 {z : Zt} {pa pb : Nat} (h : isZ z pa pb) : pb ≠ 1 := fun e => by
  have h1 := h.pb.s0
  rw [e, h.s0] at h1
  cases h1
theorem isZ.swap {z : Zt} {pa pb : Nat} (h : isZ z pa pb) : isZ (z_rf (z_rf z 1 2 pa) 1 1 pb) pb pa :=
  ⟨h.s0, by have := h.r0; simpa [z_rf] using this, by simp [z_rf], by simp [z_rf], by have := h.r3; simpa [z_rf] using this, by have := h.r4; simpa [z_rf] using this, by have := h.r5; simpa [z_rf] using this, by have := h.r6; simpa [z_rf] using this, by have := h.r7; simpa [z_rf] using this, by have := h.r8; simpa [z_rf] using this, by have := h.r9; simpa [z_rf] using this, h.npb, h.npa, h.rd.rf.rf, (h.pb.rf h.pb1).rf h.pb1, (h.pa.rf h.pa1).rf h.pa1, (h.now.rf (by decide)).rf (by decide), (h.trial.rf (by decide)).rf (by decide), h.past.rf.rf, (h.im1.rf (by decide) (by decide)).rf (by decide) (by decide), (h.im2.rf (by decide) (by decide)).rf (by decide) (by decide), h.book.rf.rf, h.draws⟩
theorem E_ialdN {M : MI} {mc ms pc : Nat} {ls : List (Option Value)} {st : List Value} {z : Zt} {I : It} {Q : Option Value → Zt → It → Prop} {a n j : Nat} {i : Int32} (hd : decode M.2.1 pc = .ok (.iaload, 1)) (hS0 : z.2.1 a = (2, n)) (he : i = nI j) (hj : j < n) (hn : n ≤ 2147483647) (kk : E M mc ms (pc + 1) ls (.int (I a j) :: st) z I Q) : E M mc ms pc ls (.int i :: .ref a :: st) z I Q := by
  subst he
  refine E_iald hd hS0 (vp_in_nI hj (by omega)) ?_
  rw [nI_clamp (by omega)]
  exact kk
theorem E_iastN {M : MI} {mc ms pc : Nat} {ls : List (Option Value)} {st : List Value} {z : Zt} {I : It} {Q : Option Value → Zt → It → Prop} {a n j : Nat} {i x : Int32} (hd : decode M.2.1 pc = .ok (.iastore, 1)) (hS0 : z.2.1 a = (2, n)) (ha : a ≠ 0) (he : i = nI j) (hj : j < n) (hn : n ≤ 2147483647) (kk : E M mc ms (pc + 1) ls st z (e_st I a j x) Q) : E M mc ms pc ls (.int x :: .int i :: .ref a :: st) z I Q := by
  subst he
  refine E_iast hd hS0 ha (vp_in_nI hj (by omega)) ?_
  rw [nI_clamp (by omega)]
  exact kk
theorem E_aaldN {M : MI} {mc ms pc : Nat} {ls : List (Option Value)} {st : List Value} {z : Zt} {I : It} {Q : Option Value → Zt → It → Prop} {a n j x : Nat} {i : Int32} (hd : decode M.2.1 pc = .ok (.aaload, 1)) (hS0 : z.2.1 a = (3, n)) (he : i = nI j) (hj : j < n) (hn : n ≤ 2147483647) (hx : z.2.2 a j = x) (hx0 : x ≠ 0) (kk : E M mc ms (pc + 1) ls (.ref x :: st) z I Q) : E M mc ms pc ls (.int i :: .ref a :: st) z I Q := by
  subst he
  exact E_aald hd hS0 (vp_in_nI hj (by omega)) (by rw [nI_clamp (by omega)]; exact hx) hx0 kk
