/-! THE MODEL reads the text -/
/-- its memory as it reads: at, sort, start, size, the draft -/
def zlx (I : zIm) (a s t z : Int32) (f : Nat → Int32) : zIm := fun c j => if c = 87 then (if j = 9 then a else if j = 10 then s else if j = 11 then t else if j = 12 then z else I 87 j) else if c = 90 then f j else I c j
section ZX
variable {I : zIm} {a s t z v : Int32} {f : Nat → Int32}
theorem zlx_9 : zlx I a s t z f 87 9 = a := rfl
theorem zlx_10 : zlx I a s t z f 87 10 = s := rfl
theorem zlx_11 : zlx I a s t z f 87 11 = t := rfl
theorem zlx_12 : zlx I a s t z f 87 12 = z := rfl
theorem zlx_3 : zlx I a s t z f 87 3 = I 87 3 := rfl
theorem zlx_90 {j : Nat} : zlx I a s t z f 90 j = f j := rfl
theorem zlx_r {c : Nat} (h : c ≠ 87) (h2 : c ≠ 90) : zlx I a s t z f c = I c := by
  funext j; unfold zlx; rw [if_neg h, if_neg h2]
theorem zlx_u90 {j : Nat} : zup (zlx I a s t z f) 90 j v = zlx I a s t z (pup f j v) := by
  funext c i; unfold zup zlx pup
  by_cases h : c = 90
  · rw [h]
    by_cases h2 : i = j
    · rw [if_pos ⟨rfl, h2⟩, if_neg (by decide), if_pos rfl, if_pos h2]
    · rw [if_neg (fun q => h2 q.2)]
      simp only [if_neg h2]
  · rw [if_neg (fun q => h q.1)]
    simp only [if_neg h]
theorem zlx_u9 : zup (zlx I a s t z f) 87 9 v = zlx I v s t z f := by
  funext c i; unfold zup zlx
  by_cases h : c = 87
  · by_cases h2 : i = 9
    · rw [if_pos ⟨h, h2⟩, if_pos h, if_pos h2]
    · rw [if_neg (fun q => h2 q.2), if_pos h, if_pos h, if_neg h2, if_neg h2]
  · rw [if_neg (fun q => h q.1), if_neg h, if_neg h]
theorem zlx_u10 : zup (zlx I a s t z f) 87 10 v = zlx I a v t z f := by
  funext c i; unfold zup zlx
  by_cases h : c = 87
  · by_cases h2 : i = 10
    · rw [if_pos ⟨h, h2⟩, if_pos h, if_neg (by omega), if_pos h2]
    · rw [if_neg (fun q => h2 q.2), if_pos h, if_pos h]; simp only [if_neg h2]
  · rw [if_neg (fun q => h q.1), if_neg h, if_neg h]
theorem zlx_u11 : zup (zlx I a s t z f) 87 11 v = zlx I a s v z f := by
  funext c i; unfold zup zlx
  by_cases h : c = 87
  · by_cases h2 : i = 11
    · rw [if_pos ⟨h, h2⟩, if_pos h, if_neg (by omega), if_neg (by omega), if_pos h2]
    · rw [if_neg (fun q => h2 q.2), if_pos h, if_pos h]; simp only [if_neg h2]
  · rw [if_neg (fun q => h q.1), if_neg h, if_neg h]
theorem zlx_u12 : zup (zlx I a s t z f) 87 12 v = zlx I a s t v f := by
  funext c i; unfold zup zlx
  by_cases h : c = 87
  · by_cases h2 : i = 12
    · rw [if_pos ⟨h, h2⟩, if_pos h, if_neg (by omega), if_neg (by omega), if_neg (by omega), if_pos h2]
    · rw [if_neg (fun q => h2 q.2), if_pos h, if_pos h]; simp only [if_neg h2]
  · rw [if_neg (fun q => h q.1), if_neg h, if_neg h]
end ZX
def zlxZ := And.intro @zlx_9 (And.intro @zlx_10 (And.intro @zlx_11 (And.intro @zlx_12 (And.intro @zlx_3 (And.intro @zlx_90 (And.intro @zlx_u90 (And.intro @zlx_u9 (And.intro @zlx_u10 (And.intro @zlx_u11 @zlx_u12)))))))))
/-- a byte, or none -/
def byt (bt : Nat → Fin 256) (n k : Nat) : Int32 := if k < n then nI (bt k) else -1
theorem byt_l {bt : Nat → Fin 256} {n k : Nat} (h : k < n) : byt bt n k = nI (bt k) := if_pos h
theorem byt_g {bt : Nat → Fin 256} {n k : Nat} (h : ¬ k < n) : byt bt n k = -1 := if_neg h
/-- the bytes as the model keeps them -/
def zBy (bt : Nat → Fin 256) (n : Nat) (I : zIm) : Prop := n ≤ 200 ∧ I 87 3 = nI n ∧ ∀ k, k < n → I 88 k = nI (bt k)
theorem m1_le : (nI 0 ≤ (-1 : Int32)) = False := by decide +kernel
theorem m1_ne {n : Nat} (h : n < 2 ^ 31) : (-1 : Int32) = nI n ↔ False := by
  refine ⟨fun q => ?_, False.elim⟩
  have := congrArg Int32.toInt q
  rw [nI_toInt h, show (-1 : Int32).toInt = -1 by decide +kernel] at this
  omega
section S
variable {d : Nat} {Q : zPo} {σ : zSh} {ρ : zRf} {I : zIm} {L : zLm} {b : Bool} {bt : Nat → Fin 256} {n : Nat} {a s t z : Int32} {f : Nat → Int32}
theorem s_byteAt {k : Nat} (hB : zBy bt n I) (hk : k < 2 ^ 30) : zW (d + 1) mX11_byteAt [.ref 87, .int (nI k)] sg (rg b) (zlx I a s t z f) L Q = Q (some (.int (byt bt n k))) sg (rg b) (zlx I a s t z f) L := by
  obtain ⟨h0, h1, h2⟩ := hB
  have e : zlx I a s t z f 88 = I 88 := zlx_r (by decide) (by decide)
  by_cases c : k < n
  · simp (disch := omega) only [nX11_byteAt, bX11_byteAt, zZ, zlx_3, h1, e, h2, byt_l, if_neg]
  · simp (disch := omega) only [nX11_byteAt, bX11_byteAt, zZ, zlx_3, h1, byt_g, if_pos]
theorem s_sortOf {k : Nat} : zW (d + 2) mX11_sortOf [.int (byt bt n k)] σ ρ I L Q = Q (some (.int (nI (srt bt n k)))) σ ρ I L := by
  unfold srt
  by_cases c : k < n
  · rw [byt_l c, if_pos c]
    have := (bt k).isLt
    by_cases c1 : 97 ≤ (bt k).val ∧ (bt k).val ≤ 122
    · simp (disch := omega) only [nX11_sortOf, bX11_sortOf, s_in, zZ, c1, and_self, if_true, if_pos, if_neg]
    · by_cases c2 : 48 ≤ (bt k).val ∧ (bt k).val ≤ 57
      · simp (disch := omega) only [nX11_sortOf, bX11_sortOf, s_in, zZ, c1, c2, and_self, if_true, if_false, if_pos, if_neg]
      · by_cases c3 : (bt k).val = 59
        · simp (disch := omega) only [nX11_sortOf, bX11_sortOf, s_in, zZ, c1, c2, c3, and_self, if_true, if_false, if_pos, if_neg]
        · simp (disch := omega) only [nX11_sortOf, bX11_sortOf, s_in, zZ, c1, c2, c3, and_self, if_true, if_false, if_pos, if_neg]
  · rw [byt_g c, if_neg c]
    simp (disch := omega) only [nX11_sortOf, bX11_sortOf, zZ, m1_le]
theorem byt_32 {k : Nat} : byt bt n k = nI 32 ↔ k < n ∧ (bt k).val = 32 := by
  by_cases c : k < n
  · rw [byt_l c, nI_eq (by omega) (by decide)]; exact ⟨fun h => ⟨c, h⟩, fun h => h.2⟩
  · rw [byt_g c, m1_ne (by decide)]; exact ⟨False.elim, fun h => absurd h.1 c⟩
theorem s_token {a : Nat} (hB : zBy bt n I) (ha : a ≤ n) : zW (d + 3) mX11_token [.ref 87] sg (rg b) (zlx I (nI a) s t z f) L Q = Q none sg (rg b) (zlx I (nI ((tkn bt n a).1 + (tkn bt n a).2.2)) (nI (tkn bt n a).2.1) (nI (tkn bt n a).1) (nI (tkn bt n a).2.2) f) L := by
  have hn : n ≤ 200 := hB.1
  have h1 : ∀ fu a, a ≤ n → n ≤ a + fu → zq (d + 2) mX11_token Q 0 [some (.ref 87)] [] sg (rg b) (zlx I (nI a) s t z f) L = zq (d + 2) mX11_token Q 26 [some (.ref 87)] [] sg (rg b) (zlx I (nI (skp bt n fu a)) s t z f) L := by
    intro fu
    induction fu with
    | zero =>
      intro a h1 h2
      have c : ¬ (a < n ∧ (bt a).val = 32) := by omega
      rw [show skp bt n 0 a = a from rfl, eX11_token_0]
      simp (disch := omega) only [bX11_token, zZ, zlxZ, s_byteAt hB, byt_32, c]
    | succ fu ih =>
      intro a h1 h2
      rw [skp_s]
      rw [eX11_token_0]
      by_cases c : a < n ∧ (bt a).val = 32
      · rw [if_pos c, ← ih (a + 1) (by omega) (by omega)]
        simp (disch := omega) only [bX11_token, zZ, zlxZ, s_byteAt hB, byt_32, c, and_self]
      · rw [if_neg c]
        simp (disch := omega) only [bX11_token, zZ, zlxZ, s_byteAt hB, byt_32, c]
  have h2 : ∀ st s, (s = 1 ∨ s = 2) → ∀ fu z, 0 < z → st + z ≤ n → n ≤ st + z + fu → zq (d + 2) mX11_token Q 54 [some (.ref 87)] [] sg (rg b) (zlx I (nI (st + z)) (nI s) (nI st) (nI z) f) L = Q none sg (rg b) (zlx I (nI (st + rnf bt n s st fu z)) (nI s) (nI st) (nI (rnf bt n s st fu z)) f) L := by
    intro st s hs fu
    have hs12 : (nI s = nI 1 ∨ nI s = nI 2) := hs.elim (fun q => Or.inl (by rw [q])) (fun q => Or.inr (by rw [q]))
    induction fu with
    | zero =>
      intro z hz h1 h2
      have c0 : srt bt n (st + z) = 0 := srt_0.2 (by omega)
      have hz0 : ¬ z = 0 := by omega
      have hs0 : ¬ s = 0 := by omega
      have hss : ¬ s = srt bt n (st + z) := by omega
      have hsl := srt_le bt n (st + z)
      rw [eX11_token_54]
      rcases hs with rfl | rfl
      · simp (disch := omega) only [bX11_token, zZ, zlxZ, s_byteAt hB, s_sortOf, hz0, c0, if_pos, if_neg]
        rfl
      · simp (disch := omega) only [bX11_token, zZ, zlxZ, s_byteAt hB, s_sortOf, hz0, c0, if_pos, if_neg]
        rfl
    | succ fu ih =>
      intro z hz h1 h2
      have hz0 : ¬ z = 0 := by omega
      have hsl := srt_le bt n (st + z)
      rw [rnf_s, eX11_token_54]
      by_cases c : srt bt n (st + z) = s
      · have hlt : ¬ n ≤ st + z := fun q => by have := (srt_0 (bt := bt)).2 q; omega
        rw [if_pos c, ← ih (z + 1) (by omega) (by omega) (by omega)]
        rcases hs with rfl | rfl
        · simp (disch := omega) only [bX11_token, zZ, zlxZ, s_byteAt hB, s_sortOf, hz0, c, if_pos, if_neg]
          rfl
        · simp (disch := omega) only [bX11_token, zZ, zlxZ, s_byteAt hB, s_sortOf, hz0, c, if_pos, if_neg]
          rfl
      · rw [if_neg c]
        have c' : ¬ s = srt bt n (st + z) := fun q => c q.symm
        rcases hs with rfl | rfl
        · simp (disch := omega) only [bX11_token, zZ, zlxZ, s_byteAt hB, s_sortOf, hz0, c, c', if_pos, if_neg]
        · simp (disch := omega) only [bX11_token, zZ, zlxZ, s_byteAt hB, s_sortOf, hz0, c, c', if_pos, if_neg]
  have hsk := skp_le bt n n a ha
  rw [nX11_token, h1 n a ha (by omega)]
  show _ = Q none sg (rg b) (zlx I (nI (skp bt n n a + tkz bt n (skp bt n n a))) (nI (srt bt n (skp bt n n a))) (nI (skp bt n n a)) (nI (tkz bt n (skp bt n n a))) f) L
  generalize skp bt n n a = st at hsk
  have hsl := srt_le bt n st
  simp (disch := omega) only [bX11_token, zZ, zlxZ, s_byteAt hB, s_sortOf]
  rw [eX11_token_54]
  unfold tkz
  by_cases c0 : srt bt n st = 0
  · simp (disch := omega) only [bX11_token, zZ, zlxZ, c0, if_pos]
    rfl
  · rw [if_neg c0]
    have hlt : ¬ n ≤ st := fun q => c0 (srt_0.2 q)
    by_cases c : srt bt n st = 1 ∨ srt bt n st = 2
    · rw [if_pos c]
      have := h2 st _ c n 1 (by decide) (by omega) (by omega)
      simp (disch := omega) only [bX11_token, zZ, zlxZ, c0, if_neg]
      exact this
    · rw [if_neg c]
      have c1 : ¬ srt bt n st = 1 := fun q => c (Or.inl q)
      have c2 : ¬ srt bt n st = 2 := fun q => c (Or.inr q)
      simp (disch := omega) only [bX11_token, zZ, zlxZ, c0, if_neg]
      rw [eX11_token_54]
      simp (disch := omega) only [bX11_token, zZ, zlxZ, c0, c1, c2, if_neg, if_pos, show ¬ (1 : Nat) = 0 from by decide]
end S
