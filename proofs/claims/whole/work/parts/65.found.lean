/-! BOTH OBJECTS are made; what stands then -/
def zPs (σ : zSh) : Prop := ∀ a, σ.1 ≤ a → σ.2 a = (0, 0)
def zPr (ρ : zRf) : Prop := ∀ a j, 98 ≤ a ∨ 21 ≤ j → ρ a j = none
theorem zsh_p {σ : zSh} {k n : Nat} (h : zPs σ) : zPs (zsh σ k n) := by
  intro a ha
  have ha : σ.1 + 1 ≤ a := ha
  show (if a = σ.1 then (k, n) else σ.2 a) = _
  rw [if_neg (by omega)]; exact h a (by omega)
theorem zmS_p {σ : zSh} {n k : Nat} (h : zPs σ) : zPs (zmS σ n k) := by
  intro a ha
  have ha : σ.1 + 1 + n ≤ a := ha
  show (if a = σ.1 then (25, n) else if σ.1 < a ∧ a ≤ σ.1 + n then (20, k) else σ.2 a) = _
  rw [if_neg (by omega), if_neg (by omega)]; exact h a (by omega)
theorem zup_p {ρ : zRf} {c k : Nat} {v : Option Nat} (hc : c < 98) (hk : k < 21) (h : zPr ρ) : zPr (zup ρ c k v) := by
  intro a j ha
  show (if a = c ∧ j = k then v else ρ a j) = _
  rw [if_neg (by omega)]; exact h a j ha
theorem zfr_p {ρ : zRf} {c : Nat} (h : zPr ρ) : zPr (zfr ρ c none) := by
  intro a j ha
  show (if a = c then none else ρ a j) = _
  split
  · rfl
  · exact h a j ha
theorem zmR_p {ρ : zRf} {c : Nat} (hc : c + 1 + 4 ≤ 98) (h : zPr ρ) : zPr (zmR ρ c 4) := by
  intro a j ha
  show (if a = c then (if j < 4 then some (c + 1 + j) else none) else if c < a ∧ a ≤ c + 4 then none else ρ a j) = _
  split
  · rw [if_neg (by omega)]
  · split
    · rfl
    · exact h a j ha
theorem cS8_p {σ : zSh} (h : zPs σ) : zPs (cS8 σ) := (zsh_p h)
set_option linter.unusedVariables false in
theorem cR8_p {c : Nat} {σ : zSh} {ρ : zRf} (hc : c < 98) (hs : σ.1 + 1 ≤ 98) (h : zPr ρ) : zPr (cR8 c σ ρ) := (zup_p hc (by decide) (zfr_p h))
theorem cS7_p {σ : zSh} (h : zPs σ) : zPs (cS7 σ) := (zsh_p (zsh_p (zsh_p (zsh_p (zsh_p h)))))
set_option linter.unusedVariables false in
theorem cR7_p {c : Nat} {σ : zSh} {ρ : zRf} (hc : c < 98) (hs : σ.1 + 5 ≤ 98) (h : zPr ρ) : zPr (cR7 c σ ρ) := (zup_p hc (by decide) (zfr_p (zup_p hc (by decide) (zfr_p (zup_p hc (by decide) (zfr_p (zup_p hc (by decide) (zfr_p (zup_p hc (by decide) (zfr_p h))))))))))
theorem cS0_p {σ : zSh} (h : zPs σ) : zPs (cS0 σ) := (zsh_p (zsh_p (zsh_p (zsh_p h))))
set_option linter.unusedVariables false in
theorem cR0_p {c : Nat} {σ : zSh} {ρ : zRf} (hc : c < 98) (hs : σ.1 + 4 ≤ 98) (h : zPr ρ) : zPr (cR0 c σ ρ) := (zup_p hc (by decide) (zfr_p (zup_p hc (by decide) (zfr_p (zup_p hc (by decide) (zfr_p (zup_p hc (by decide) (zfr_p h))))))))
theorem cS9_p {σ : zSh} (h : zPs σ) : zPs (cS9 σ) := (zmS_p (zmS_p (zmS_p (zsh_p (zsh_p (zsh_p (zsh_p (zsh_p (zsh_p (zsh_p h))))))))))
set_option linter.unusedVariables false in
theorem cR9_p {c : Nat} {σ : zSh} {ρ : zRf} (hc : c < 98) (hs : σ.1 + 22 ≤ 98) (h : zPr ρ) : zPr (cR9 c σ ρ) := (zup_p hc (by decide) (zmR_p (by show σ.1 + 17 + 1 + 4 ≤ 98; omega) (zup_p hc (by decide) (zmR_p (by show σ.1 + 12 + 1 + 4 ≤ 98; omega) (zup_p hc (by decide) (zmR_p (by show σ.1 + 7 + 1 + 4 ≤ 98; omega) (zup_p hc (by decide) (zfr_p (zup_p hc (by decide) (zfr_p (zup_p hc (by decide) (zfr_p (zup_p hc (by decide) (zfr_p (zup_p hc (by decide) (zfr_p (zup_p hc (by decide) (zfr_p (zup_p hc (by decide) (zfr_p h))))))))))))))))))))
theorem cS6_p {σ : zSh} (h : zPs σ) : zPs (cS6 σ) := h
set_option linter.unusedVariables false in
theorem cR6_p {c : Nat} {σ : zSh} {ρ : zRf} (hc : c < 98) (hs : σ.1 + 0 ≤ 98) (h : zPr ρ) : zPr (cR6 c σ ρ) := h
theorem cS2_p {σ : zSh} (h : zPs σ) : zPs (cS2 σ) := h
set_option linter.unusedVariables false in
theorem cR2_p {c : Nat} {σ : zSh} {ρ : zRf} (hc : c < 98) (hs : σ.1 + 0 ≤ 98) (h : zPr ρ) : zPr (cR2 c σ ρ) := h
theorem cS1_p {σ : zSh} (h : zPs σ) : zPs (cS1 σ) := h
set_option linter.unusedVariables false in
theorem cR1_p {c : Nat} {σ : zSh} {ρ : zRf} (hc : c < 98) (hs : σ.1 + 0 ≤ 98) (h : zPr ρ) : zPr (cR1 c σ ρ) := h
theorem cS4_p {σ : zSh} (h : zPs σ) : zPs (cS4 σ) := h
set_option linter.unusedVariables false in
theorem cR4_p {c : Nat} {σ : zSh} {ρ : zRf} (hc : c < 98) (hs : σ.1 + 0 ≤ 98) (h : zPr ρ) : zPr (cR4 c σ ρ) := h
theorem cS3_p {σ : zSh} (h : zPs σ) : zPs (cS3 σ) := h
set_option linter.unusedVariables false in
theorem cR3_p {c : Nat} {σ : zSh} {ρ : zRf} (hc : c < 98) (hs : σ.1 + 0 ≤ 98) (h : zPr ρ) : zPr (cR3 c σ ρ) := h
theorem cS5_p {σ : zSh} (h : zPs σ) : zPs (cS5 σ) := h
set_option linter.unusedVariables false in
theorem cR5_p {c : Nat} {σ : zSh} {ρ : zRf} (hc : c < 98) (hs : σ.1 + 0 ≤ 98) (h : zPr ρ) : zPr (cR5 c σ ρ) := h
theorem yO_10_1 : zO 10 1 = true := by decide +kernel
theorem yN_10_7 : zN 10 7 = some 8 := by decide +kernel
theorem yI_10_9 : zI 10 9 = some (0, 27, 2) := by decide +kernel
theorem yO_10_9 : zO 10 9 = false := by decide +kernel
theorem yM_27 : zMs[27]? = some mX8_init := rfl
theorem yF_10_10 : zF 10 10 = some (3, 0, true, [10]) := by decide +kernel
theorem yN_10_16 : zN 10 16 = some 9 := by decide +kernel
theorem yI_10_18 : zI 10 18 = some (0, 42, 0) := by decide +kernel
theorem yO_10_18 : zO 10 18 = false := by decide +kernel
theorem yM_42 : zMs[42]? = some mX9_init := rfl
theorem yF_10_19 : zF 10 19 = some (3, 1, false, [10]) := by decide +kernel
theorem yF_10_23 : zF 10 23 = some (3, 2, false, [10]) := by decide +kernel
theorem yN_10_26 : zN 10 26 = some 7 := by decide +kernel
theorem yI_10_28 : zI 10 28 = some (0, 18, 0) := by decide +kernel
theorem yO_10_28 : zO 10 28 = false := by decide +kernel
theorem yM_18 : zMs[18]? = some mX7_init := rfl
theorem yF_10_29 : zF 10 29 = some (3, 3, true, [10]) := by decide +kernel
theorem yF_10_33 : zF 10 33 = some (3, 4, true, [10]) := by decide +kernel
theorem yA_10_26 : zA 10 26 = some 23 := by decide +kernel
theorem yF_10_36 : zF 10 36 = some (3, 5, true, [10]) := by decide +kernel
theorem yF_10_40 : zF 10 40 = some (3, 6, true, [10]) := by decide +kernel
theorem yN_10_44 : zN 10 44 = some 0 := by decide +kernel
theorem yI_10_46 : zI 10 46 = some (0, 0, 2) := by decide +kernel
theorem yO_10_46 : zO 10 46 = false := by decide +kernel
theorem yM_0 : zMs[0]? = some mX0_init := rfl
theorem yF_10_47 : zF 10 47 = some (3, 7, true, [10]) := by decide +kernel
theorem yA_10_51 : zA 10 51 = some 24 := by decide +kernel
theorem yF_10_53 : zF 10 53 = some (3, 8, true, [10]) := by decide +kernel
theorem yN_10_51 : zN 10 51 = some 6 := by decide +kernel
theorem yI_10_57 : zI 10 57 = some (0, 16, 2) := by decide +kernel
theorem yO_10_57 : zO 10 57 = false := by decide +kernel
theorem yN_10_58 : zN 10 58 = some 2 := by decide +kernel
theorem yI_10_60 : zI 10 60 = some (0, 8, 2) := by decide +kernel
theorem yO_10_60 : zO 10 60 = false := by decide +kernel
theorem yN_10_61 : zN 10 61 = some 1 := by decide +kernel
theorem yI_10_63 : zI 10 63 = some (0, 6, 2) := by decide +kernel
theorem yO_10_63 : zO 10 63 = false := by decide +kernel
theorem yN_10_64 : zN 10 64 = some 3 := by decide +kernel
theorem yI_10_66 : zI 10 66 = some (0, 10, 2) := by decide +kernel
theorem yO_10_66 : zO 10 66 = false := by decide +kernel
theorem yM_10 : zMs[10]? = some mX3_init := rfl
theorem yN_10_67 : zN 10 67 = some 5 := by decide +kernel
theorem yI_10_69 : zI 10 69 = some (0, 14, 2) := by decide +kernel
theorem yO_10_69 : zO 10 69 = false := by decide +kernel
theorem yM_14 : zMs[14]? = some mX5_init := rfl
theorem yN_10_70 : zN 10 70 = some 4 := by decide +kernel
theorem yI_10_72 : zI 10 72 = some (0, 12, 2) := by decide +kernel
theorem yO_10_72 : zO 10 72 = false := by decide +kernel
theorem yM_12 : zMs[12]? = some mX4_init := rfl
theorem yO_11_1 : zO 11 1 = true := by decide +kernel
theorem yF_11_7 : zF 11 7 = some (0, 1, false, [11]) := by decide +kernel
theorem yF_11_13 : zF 11 13 = some (3, 2, true, [11]) := by decide +kernel
theorem yF_11_17 : zF 11 17 = some (3, 4, true, [11]) := by decide +kernel
theorem yF_11_20 : zF 11 20 = some (3, 5, true, [11]) := by decide +kernel
theorem yF_11_23 : zF 11 23 = some (3, 6, true, [11]) := by decide +kernel
theorem yF_11_26 : zF 11 26 = some (3, 7, true, [11]) := by decide +kernel
theorem yF_11_29 : zF 11 29 = some (3, 8, true, [11]) := by decide +kernel
theorem yF_11_33 : zF 11 33 = some (3, 14, true, [11]) := by decide +kernel
theorem yF_11_36 : zF 11 36 = some (3, 17, true, [11]) := by decide +kernel
theorem yF_11_40 : zF 11 40 = some (3, 18, true, [11]) := by decide +kernel
theorem yF_11_43 : zF 11 43 = some (3, 19, true, [11]) := by decide +kernel
def gs0 : zSh := (0, fun _ => (0, 0))
def gr0 : zRf := fun _ _ => none
def gi0 : zIm := fun _ _ => 0
def gl0 : zLm := fun _ _ => 0
def gs1 : zSh := zsh gs0 10 9
def gr1 : zRf := zfr gr0 gs0.1 none
def gi1 : zIm := zfr gi0 gs0.1 0
def gl1 : zLm := zfr gl0 gs0.1 0
def gs2 : zSh := zsh gs1 8 8
def gr2 : zRf := zfr gr1 gs1.1 none
def gi2 : zIm := zfr gi1 gs1.1 0
def gl2 : zLm := zfr gl1 gs1.1 0
def gs3 : zSh := cS8 gs2
def gr3 : zRf := cR8 1 gs2 gr2
def gi3 : zIm := cI8 1 gs2 gi2
def gl3 : zLm := cL8 gs2 gl2
def gr4 : zRf := zup gr3 0 0 (some 1)
def gs4 : zSh := zsh gs3 9 15
def gr5 : zRf := zfr gr4 gs3.1 none
def gi4 : zIm := zfr gi3 gs3.1 0
def gl4 : zLm := zfr gl3 gs3.1 0
def gs5 : zSh := cS9 gs4
def gr6 : zRf := cR9 3 gs4 gr5
def gi5 : zIm := cI9 3 gs4 gi4
def gl5 : zLm := cL9 gs4 gl4
def gr7 : zRf := zup gr6 0 1 (some 3)
def gs6 : zSh := zsh gs5 9 15
def gr8 : zRf := zfr gr7 gs5.1 none
def gi6 : zIm := zfr gi5 gs5.1 0
def gl6 : zLm := zfr gl5 gs5.1 0
def gs7 : zSh := cS9 gs6
def gr9 : zRf := cR9 26 gs6 gr8
def gi7 : zIm := cI9 26 gs6 gi6
def gl7 : zLm := cL9 gs6 gl6
def gr10 : zRf := zup gr9 0 2 (some 26)
def gs8 : zSh := zsh gs7 7 9
def gr11 : zRf := zfr gr10 gs7.1 none
def gi8 : zIm := zfr gi7 gs7.1 0
def gl8 : zLm := zfr gl7 gs7.1 0
def gs9 : zSh := cS7 gs8
def gr12 : zRf := cR7 49 gs8 gr11
def gi9 : zIm := cI7 49 gs8 gi8
def gl9 : zLm := cL7 gs8 gl8
def gr13 : zRf := zup gr12 0 3 (some 49)
def gs10 : zSh := zsh gs9 7 9
def gr14 : zRf := zfr gr13 gs9.1 none
def gi10 : zIm := zfr gi9 gs9.1 0
def gl10 : zLm := zfr gl9 gs9.1 0
def gs11 : zSh := cS7 gs10
def gr15 : zRf := cR7 55 gs10 gr14
def gi11 : zIm := cI7 55 gs10 gi10
def gl11 : zLm := cL7 gs10 gl10
def gr16 : zRf := zup gr15 0 4 (some 55)
def gs12 : zSh := zsh gs11 23 2
def gr17 : zRf := zfr gr16 gs11.1 none
def gi12 : zIm := zfr gi11 gs11.1 0
def gl12 : zLm := zfr gl11 gs11.1 0
def gr18 : zRf := zup gr17 0 5 (some 61)
def gs13 : zSh := zsh gs12 21 2
def gr19 : zRf := zfr gr18 gs12.1 none
def gi13 : zIm := zfr gi12 gs12.1 0
def gl13 : zLm := zfr gl12 gs12.1 0
def gr20 : zRf := zup gr19 0 6 (some 62)
def gs14 : zSh := zsh gs13 0 4
def gr21 : zRf := zfr gr20 gs13.1 none
def gi14 : zIm := zfr gi13 gs13.1 0
def gl14 : zLm := zfr gl13 gs13.1 0
def gs15 : zSh := cS0 gs14
def gr22 : zRf := cR0 63 gs14 gr21
def gi15 : zIm := cI0 63 gs14 gi14
def gl15 : zLm := cL0 gs14 gl14
def gr23 : zRf := zup gr22 0 7 (some 63)
def gs16 : zSh := zsh gs15 24 6
def gr24 : zRf := zfr gr23 gs15.1 none
def gi16 : zIm := zfr gi15 gs15.1 0
def gl16 : zLm := zfr gl15 gs15.1 0
def gr25 : zRf := zup gr24 0 8 (some 68)
def gs17 : zSh := zsh gs16 7 9
def gr26 : zRf := zfr gr25 gs16.1 none
def gi17 : zIm := zfr gi16 gs16.1 0
def gl17 : zLm := zfr gl16 gs16.1 0
def gs18 : zSh := cS7 gs17
def gr27 : zRf := cR7 69 gs17 gr26
def gi18 : zIm := cI7 69 gs17 gi17
def gl18 : zLm := cL7 gs17 gl17
def gr28 : zRf := zup gr27 61 0 (some 69)
def gs19 : zSh := zsh gs18 7 9
def gr29 : zRf := zfr gr28 gs18.1 none
def gi19 : zIm := zfr gi18 gs18.1 0
def gl19 : zLm := zfr gl18 gs18.1 0
def gs20 : zSh := cS7 gs19
def gr30 : zRf := cR7 75 gs19 gr29
def gi20 : zIm := cI7 75 gs19 gi19
def gl20 : zLm := cL7 gs19 gl19
def gr31 : zRf := zup gr30 61 1 (some 75)
def gs21 : zSh := zsh gs20 6 1
def gr32 : zRf := zfr gr31 gs20.1 none
def gi21 : zIm := zfr gi20 gs20.1 0
def gl21 : zLm := zfr gl20 gs20.1 0
def gs22 : zSh := cS6 gs21
def gr33 : zRf := cR6 81 gs21 gr32
def gi22 : zIm := cI6 81 gs21 gi21
def gl22 : zLm := cL6 gs21 gl21
def gr34 : zRf := zup gr33 68 0 (some 81)
def gs23 : zSh := zsh gs22 2 1
def gr35 : zRf := zfr gr34 gs22.1 none
def gi23 : zIm := zfr gi22 gs22.1 0
def gl23 : zLm := zfr gl22 gs22.1 0
def gs24 : zSh := cS2 gs23
def gr36 : zRf := cR2 82 gs23 gr35
def gi24 : zIm := cI2 82 gs23 gi23
def gl24 : zLm := cL2 gs23 gl23
def gr37 : zRf := zup gr36 68 1 (some 82)
def gs25 : zSh := zsh gs24 1 1
def gr38 : zRf := zfr gr37 gs24.1 none
def gi25 : zIm := zfr gi24 gs24.1 0
def gl25 : zLm := zfr gl24 gs24.1 0
def gs26 : zSh := cS1 gs25
def gr39 : zRf := cR1 83 gs25 gr38
def gi26 : zIm := cI1 83 gs25 gi25
def gl26 : zLm := cL1 gs25 gl25
def gr40 : zRf := zup gr39 68 2 (some 83)
def gs27 : zSh := zsh gs26 3 1
def gr41 : zRf := zfr gr40 gs26.1 none
def gi27 : zIm := zfr gi26 gs26.1 0
def gl27 : zLm := zfr gl26 gs26.1 0
def gs28 : zSh := cS3 gs27
def gr42 : zRf := cR3 84 gs27 gr41
def gi28 : zIm := cI3 84 gs27 gi27
def gl28 : zLm := cL3 gs27 gl27
def gr43 : zRf := zup gr42 68 3 (some 84)
def gs29 : zSh := zsh gs28 5 1
def gr44 : zRf := zfr gr43 gs28.1 none
def gi29 : zIm := zfr gi28 gs28.1 0
def gl29 : zLm := zfr gl28 gs28.1 0
def gs30 : zSh := cS5 gs29
def gr45 : zRf := cR5 85 gs29 gr44
def gi30 : zIm := cI5 85 gs29 gi29
def gl30 : zLm := cL5 gs29 gl29
def gr46 : zRf := zup gr45 68 4 (some 85)
def gs31 : zSh := zsh gs30 4 1
def gr47 : zRf := zfr gr46 gs30.1 none
def gi31 : zIm := zfr gi30 gs30.1 0
def gl31 : zLm := zfr gl30 gs30.1 0
def gs32 : zSh := cS4 gs31
def gr48 : zRf := cR4 86 gs31 gr47
def gi32 : zIm := cI4 86 gs31 gi31
def gl32 : zLm := cL4 gs31 gl31
def gr49 : zRf := zup gr48 68 5 (some 86)
def gs33 : zSh := zsh gs32 11 20
def gr50 : zRf := zfr gr49 gs32.1 none
def gi33 : zIm := zfr gi32 gs32.1 0
def gl33 : zLm := zfr gl32 gs32.1 0
def gi34 : zIm := zup gi33 87 1 (nI 1)
def gs34 : zSh := zsh gs33 20 200
def gr51 : zRf := zfr gr50 gs33.1 none
def gi35 : zIm := zfr gi34 gs33.1 0
def gl34 : zLm := zfr gl33 gs33.1 0
def gr52 : zRf := zup gr51 87 2 (some 88)
def gs35 : zSh := zsh gs34 20 49
def gr53 : zRf := zfr gr52 gs34.1 none
def gi36 : zIm := zfr gi35 gs34.1 0
def gl35 : zLm := zfr gl34 gs34.1 0
def gr54 : zRf := zup gr53 87 4 (some 89)
def gs36 : zSh := zsh gs35 20 49
def gr55 : zRf := zfr gr54 gs35.1 none
def gi37 : zIm := zfr gi36 gs35.1 0
def gl36 : zLm := zfr gl35 gs35.1 0
def gr56 : zRf := zup gr55 87 5 (some 90)
def gs37 : zSh := zsh gs36 20 36
def gr57 : zRf := zfr gr56 gs36.1 none
def gi38 : zIm := zfr gi37 gs36.1 0
def gl37 : zLm := zfr gl36 gs36.1 0
def gr58 : zRf := zup gr57 87 6 (some 91)
def gs38 : zSh := zsh gs37 20 72
def gr59 : zRf := zfr gr58 gs37.1 none
def gi39 : zIm := zfr gi38 gs37.1 0
def gl38 : zLm := zfr gl37 gs37.1 0
def gr60 : zRf := zup gr59 87 7 (some 92)
def gs39 : zSh := zsh gs38 21 2
def gr61 : zRf := zfr gr60 gs38.1 none
def gi40 : zIm := zfr gi39 gs38.1 0
def gl39 : zLm := zfr gl38 gs38.1 0
def gr62 : zRf := zup gr61 87 8 (some 93)
def gs40 : zSh := zsh gs39 20 4
def gr63 : zRf := zfr gr62 gs39.1 none
def gi41 : zIm := zfr gi40 gs39.1 0
def gl40 : zLm := zfr gl39 gs39.1 0
def gr64 : zRf := zup gr63 87 14 (some 94)
def gs41 : zSh := zsh gs40 22 3750
def gr65 : zRf := zfr gr64 gs40.1 none
def gi42 : zIm := zfr gi41 gs40.1 0
def gl41 : zLm := zfr gl40 gs40.1 0
def gr66 : zRf := zup gr65 87 17 (some 95)
def gs42 : zSh := zsh gs41 22 3750
def gr67 : zRf := zfr gr66 gs41.1 none
def gi43 : zIm := zfr gi42 gs41.1 0
def gl42 : zLm := zfr gl41 gs41.1 0
def gr68 : zRf := zup gr67 87 18 (some 96)
def gs43 : zSh := zsh gs42 20 2
def gr69 : zRf := zfr gr68 gs42.1 none
def gi44 : zIm := zfr gi43 gs42.1 0
def gl43 : zLm := zfr gl42 gs42.1 0
def gr70 : zRf := zup gr69 87 19 (some 97)
def gi45 : zIm := zup gi44 91 0 (-9)
theorem pS0 : zPs gs0 := fun _ _ => rfl
theorem pS1 : zPs gs1 := zsh_p pS0
theorem pS2 : zPs gs2 := zsh_p pS1
theorem pS3 : zPs gs3 := cS8_p pS2
theorem pS4 : zPs gs4 := zsh_p pS3
theorem pS5 : zPs gs5 := cS9_p pS4
theorem pS6 : zPs gs6 := zsh_p pS5
theorem pS7 : zPs gs7 := cS9_p pS6
theorem pS8 : zPs gs8 := zsh_p pS7
theorem pS9 : zPs gs9 := cS7_p pS8
theorem pS10 : zPs gs10 := zsh_p pS9
theorem pS11 : zPs gs11 := cS7_p pS10
theorem pS12 : zPs gs12 := zsh_p pS11
theorem pS13 : zPs gs13 := zsh_p pS12
theorem pS14 : zPs gs14 := zsh_p pS13
theorem pS15 : zPs gs15 := cS0_p pS14
theorem pS16 : zPs gs16 := zsh_p pS15
theorem pS17 : zPs gs17 := zsh_p pS16
theorem pS18 : zPs gs18 := cS7_p pS17
theorem pS19 : zPs gs19 := zsh_p pS18
theorem pS20 : zPs gs20 := cS7_p pS19
theorem pS21 : zPs gs21 := zsh_p pS20
theorem pS22 : zPs gs22 := cS6_p pS21
theorem pS23 : zPs gs23 := zsh_p pS22
theorem pS24 : zPs gs24 := cS2_p pS23
theorem pS25 : zPs gs25 := zsh_p pS24
theorem pS26 : zPs gs26 := cS1_p pS25
theorem pS27 : zPs gs27 := zsh_p pS26
theorem pS28 : zPs gs28 := cS3_p pS27
theorem pS29 : zPs gs29 := zsh_p pS28
theorem pS30 : zPs gs30 := cS5_p pS29
theorem pS31 : zPs gs31 := zsh_p pS30
theorem pS32 : zPs gs32 := cS4_p pS31
theorem pS33 : zPs gs33 := zsh_p pS32
theorem pS34 : zPs gs34 := zsh_p pS33
theorem pS35 : zPs gs35 := zsh_p pS34
theorem pS36 : zPs gs36 := zsh_p pS35
theorem pS37 : zPs gs37 := zsh_p pS36
theorem pS38 : zPs gs38 := zsh_p pS37
theorem pS39 : zPs gs39 := zsh_p pS38
theorem pS40 : zPs gs40 := zsh_p pS39
theorem pS41 : zPs gs41 := zsh_p pS40
theorem pS42 : zPs gs42 := zsh_p pS41
theorem pS43 : zPs gs43 := zsh_p pS42
theorem pR0 : zPr gr0 := fun _ _ _ => rfl
theorem pR1 : zPr gr1 := zfr_p pR0
theorem pR2 : zPr gr2 := zfr_p pR1
theorem pR3 : zPr gr3 := cR8_p (by decide) (by decide +kernel) pR2
theorem pR4 : zPr gr4 := zup_p (by decide) (by decide) pR3
theorem pR5 : zPr gr5 := zfr_p pR4
theorem pR6 : zPr gr6 := cR9_p (by decide) (by decide +kernel) pR5
theorem pR7 : zPr gr7 := zup_p (by decide) (by decide) pR6
theorem pR8 : zPr gr8 := zfr_p pR7
theorem pR9 : zPr gr9 := cR9_p (by decide) (by decide +kernel) pR8
theorem pR10 : zPr gr10 := zup_p (by decide) (by decide) pR9
theorem pR11 : zPr gr11 := zfr_p pR10
theorem pR12 : zPr gr12 := cR7_p (by decide) (by decide +kernel) pR11
theorem pR13 : zPr gr13 := zup_p (by decide) (by decide) pR12
theorem pR14 : zPr gr14 := zfr_p pR13
theorem pR15 : zPr gr15 := cR7_p (by decide) (by decide +kernel) pR14
theorem pR16 : zPr gr16 := zup_p (by decide) (by decide) pR15
theorem pR17 : zPr gr17 := zfr_p pR16
theorem pR18 : zPr gr18 := zup_p (by decide) (by decide) pR17
theorem pR19 : zPr gr19 := zfr_p pR18
theorem pR20 : zPr gr20 := zup_p (by decide) (by decide) pR19
theorem pR21 : zPr gr21 := zfr_p pR20
theorem pR22 : zPr gr22 := cR0_p (by decide) (by decide +kernel) pR21
theorem pR23 : zPr gr23 := zup_p (by decide) (by decide) pR22
theorem pR24 : zPr gr24 := zfr_p pR23
theorem pR25 : zPr gr25 := zup_p (by decide) (by decide) pR24
theorem pR26 : zPr gr26 := zfr_p pR25
theorem pR27 : zPr gr27 := cR7_p (by decide) (by decide +kernel) pR26
theorem pR28 : zPr gr28 := zup_p (by decide) (by decide) pR27
theorem pR29 : zPr gr29 := zfr_p pR28
theorem pR30 : zPr gr30 := cR7_p (by decide) (by decide +kernel) pR29
theorem pR31 : zPr gr31 := zup_p (by decide) (by decide) pR30
theorem pR32 : zPr gr32 := zfr_p pR31
theorem pR33 : zPr gr33 := cR6_p (by decide) (by decide +kernel) pR32
theorem pR34 : zPr gr34 := zup_p (by decide) (by decide) pR33
theorem pR35 : zPr gr35 := zfr_p pR34
theorem pR36 : zPr gr36 := cR2_p (by decide) (by decide +kernel) pR35
theorem pR37 : zPr gr37 := zup_p (by decide) (by decide) pR36
theorem pR38 : zPr gr38 := zfr_p pR37
theorem pR39 : zPr gr39 := cR1_p (by decide) (by decide +kernel) pR38
theorem pR40 : zPr gr40 := zup_p (by decide) (by decide) pR39
theorem pR41 : zPr gr41 := zfr_p pR40
theorem pR42 : zPr gr42 := cR3_p (by decide) (by decide +kernel) pR41
theorem pR43 : zPr gr43 := zup_p (by decide) (by decide) pR42
theorem pR44 : zPr gr44 := zfr_p pR43
theorem pR45 : zPr gr45 := cR5_p (by decide) (by decide +kernel) pR44
theorem pR46 : zPr gr46 := zup_p (by decide) (by decide) pR45
theorem pR47 : zPr gr47 := zfr_p pR46
theorem pR48 : zPr gr48 := cR4_p (by decide) (by decide +kernel) pR47
theorem pR49 : zPr gr49 := zup_p (by decide) (by decide) pR48
theorem pR50 : zPr gr50 := zfr_p pR49
theorem pR51 : zPr gr51 := zfr_p pR50
theorem pR52 : zPr gr52 := zup_p (by decide) (by decide) pR51
theorem pR53 : zPr gr53 := zfr_p pR52
theorem pR54 : zPr gr54 := zup_p (by decide) (by decide) pR53
theorem pR55 : zPr gr55 := zfr_p pR54
theorem pR56 : zPr gr56 := zup_p (by decide) (by decide) pR55
theorem pR57 : zPr gr57 := zfr_p pR56
theorem pR58 : zPr gr58 := zup_p (by decide) (by decide) pR57
theorem pR59 : zPr gr59 := zfr_p pR58
theorem pR60 : zPr gr60 := zup_p (by decide) (by decide) pR59
theorem pR61 : zPr gr61 := zfr_p pR60
theorem pR62 : zPr gr62 := zup_p (by decide) (by decide) pR61
theorem pR63 : zPr gr63 := zfr_p pR62
theorem pR64 : zPr gr64 := zup_p (by decide) (by decide) pR63
theorem pR65 : zPr gr65 := zfr_p pR64
theorem pR66 : zPr gr66 := zup_p (by decide) (by decide) pR65
theorem pR67 : zPr gr67 := zfr_p pR66
theorem pR68 : zPr gr68 := zup_p (by decide) (by decide) pR67
theorem pR69 : zPr gr69 := zfr_p pR68
theorem pR70 : zPr gr70 := zup_p (by decide) (by decide) pR69
set_option maxRecDepth 20000 in
theorem q10_0 {d : Nat} {Q : zPo} : zu none (d + 3) mX10_init Q 0 0 0 [some (.ref 0), none] [] gs1 gr1 gi1 gl1 = zu none (d + 3) mX10_init Q 0 0 1 [some (.ref 0), none] [.ref 0] gs1 gr1 gi1 gl1 := ol_aload_n dX10_init_0 rfl
set_option maxRecDepth 20000 in
theorem q10_1 {d : Nat} {Q : zPo} : zu none (d + 3) mX10_init Q 0 0 1 [some (.ref 0), none] [.ref 0] gs1 gr1 gi1 gl1 = zu none (d + 3) mX10_init Q 0 0 4 [some (.ref 0), none] [] gs1 gr1 gi1 gl1 := ol_obj dX10_init_1 yO_10_1 (by decide)
set_option maxRecDepth 20000 in
theorem q10_2 {d : Nat} {Q : zPo} : zu none (d + 3) mX10_init Q 0 0 4 [some (.ref 0), none] [] gs1 gr1 gi1 gl1 = zu none (d + 3) mX10_init Q 0 0 5 [some (.ref 0), none] [.ref 0] gs1 gr1 gi1 gl1 := ol_aload_n dX10_init_4 rfl
set_option maxRecDepth 20000 in
theorem q10_3 {d : Nat} {Q : zPo} : zu none (d + 3) mX10_init Q 0 0 5 [some (.ref 0), none] [.ref 0] gs1 gr1 gi1 gl1 = zu none (d + 3) mX10_init Q 1 8 8 [some (.ref 0), none] [.ref 1, .ref 0] gs2 gr2 gi2 gl2 := ol_new (ci := 8) (n := 8) (σ := gs1) (ρ := gr1) (I := gi1) (L := gl1) dX10_init_5 yN_10_7 rfl (Nat.le_of_ble_eq_true rfl) (Nat.le_of_ble_eq_true rfl) (show gs1.1 < 4000 by decide +kernel) (Nat.le_of_ble_eq_true rfl)
set_option maxRecDepth 20000 in
theorem q10_4 {d : Nat} {Q : zPo} : zu none (d + 3) mX10_init Q 1 8 8 [some (.ref 0), none] [.ref 1, .ref 0] gs2 gr2 gi2 gl2 = zu none (d + 3) mX10_init Q 1 8 9 [some (.ref 0), none] [.ref 1, .ref 1, .ref 0] gs2 gr2 gi2 gl2 := ol_dup dX10_init_8 rfl
set_option maxRecDepth 20000 in
theorem q10_5 {d : Nat} {Q : zPo} : zu none (d + 3) mX10_init Q 1 8 9 [some (.ref 0), none] [.ref 1, .ref 1, .ref 0] gs2 gr2 gi2 gl2 = zu none (d + 3) mX10_init Q 2 208 12 [some (.ref 0), none] [.ref 1, .ref 0] gs3 gr3 gi3 gl3 := (ol_sp (as := []) (r := [.ref 1, .ref 0]) dX10_init_9 yO_10_9 yI_10_9 rfl rfl (by decide +kernel) (by decide +kernel) yM_27 (by decide) (Nat.le_of_ble_eq_true rfl) (Nat.le_of_ble_eq_true rfl)).trans (w8 (d := d + 2) (by decide +kernel) (by decide +kernel) (by decide +kernel))
set_option maxRecDepth 20000 in
theorem q10_6 {d : Nat} {Q : zPo} : zu none (d + 3) mX10_init Q 2 208 12 [some (.ref 0), none] [.ref 1, .ref 0] gs3 gr3 gi3 gl3 = zu none (d + 3) mX10_init Q 2 208 15 [some (.ref 0), none] [] gs3 gr4 gi3 gl3 := ol_putr dX10_init_12 yF_10_10 (by decide +kernel) (by decide +kernel) rfl (by decide +kernel)
set_option maxRecDepth 20000 in
theorem q10_7 {d : Nat} {Q : zPo} : zu none (d + 3) mX10_init Q 2 208 15 [some (.ref 0), none] [] gs3 gr4 gi3 gl3 = zu none (d + 3) mX10_init Q 2 208 16 [some (.ref 0), none] [.ref 0] gs3 gr4 gi3 gl3 := ol_aload_n dX10_init_15 rfl
set_option maxRecDepth 20000 in
theorem q10_8 {d : Nat} {Q : zPo} : zu none (d + 3) mX10_init Q 2 208 16 [some (.ref 0), none] [.ref 0] gs3 gr4 gi3 gl3 = zu none (d + 3) mX10_init Q 3 223 19 [some (.ref 0), none] [.ref 3, .ref 0] gs4 gr5 gi4 gl4 := ol_new (ci := 9) (n := 15) (σ := gs3) (ρ := gr4) (I := gi3) (L := gl3) dX10_init_16 yN_10_16 rfl (Nat.le_of_ble_eq_true rfl) (Nat.le_of_ble_eq_true rfl) (show gs3.1 < 4000 by decide +kernel) (Nat.le_of_ble_eq_true rfl)
set_option maxRecDepth 20000 in
theorem q10_9 {d : Nat} {Q : zPo} : zu none (d + 3) mX10_init Q 3 223 19 [some (.ref 0), none] [.ref 3, .ref 0] gs4 gr5 gi4 gl4 = zu none (d + 3) mX10_init Q 3 223 20 [some (.ref 0), none] [.ref 3, .ref 3, .ref 0] gs4 gr5 gi4 gl4 := ol_dup dX10_init_19 rfl
set_option maxRecDepth 20000 in
theorem q10_10 {d : Nat} {Q : zPo} : zu none (d + 3) mX10_init Q 3 223 20 [some (.ref 0), none] [.ref 3, .ref 3, .ref 0] gs4 gr5 gi4 gl4 = zu none (d + 3) mX10_init Q 25 333 23 [some (.ref 0), none] [.ref 3, .ref 0] gs5 gr6 gi5 gl5 := (ol_sp (as := []) (r := [.ref 3, .ref 0]) dX10_init_20 yO_10_18 yI_10_18 rfl rfl (by decide +kernel) (by decide +kernel) yM_42 (by decide) (Nat.le_of_ble_eq_true rfl) (Nat.le_of_ble_eq_true rfl)).trans (w9 (d := d + 2) (by decide +kernel) (by decide +kernel) (by decide +kernel))
set_option maxRecDepth 20000 in
theorem q10_11 {d : Nat} {Q : zPo} : zu none (d + 3) mX10_init Q 25 333 23 [some (.ref 0), none] [.ref 3, .ref 0] gs5 gr6 gi5 gl5 = zu none (d + 3) mX10_init Q 25 333 26 [some (.ref 0), none] [] gs5 gr7 gi5 gl5 := ol_putr dX10_init_23 yF_10_19 (by decide +kernel) (by decide +kernel) rfl (by decide +kernel)
set_option maxRecDepth 20000 in
theorem q10_12 {d : Nat} {Q : zPo} : zu none (d + 3) mX10_init Q 25 333 26 [some (.ref 0), none] [] gs5 gr7 gi5 gl5 = zu none (d + 3) mX10_init Q 25 333 27 [some (.ref 0), none] [.ref 0] gs5 gr7 gi5 gl5 := ol_aload_n dX10_init_26 rfl
set_option maxRecDepth 20000 in
theorem q10_13 {d : Nat} {Q : zPo} : zu none (d + 3) mX10_init Q 25 333 27 [some (.ref 0), none] [.ref 0] gs5 gr7 gi5 gl5 = zu none (d + 3) mX10_init Q 26 348 30 [some (.ref 0), none] [.ref 26, .ref 0] gs6 gr8 gi6 gl6 := ol_new (ci := 9) (n := 15) (σ := gs5) (ρ := gr7) (I := gi5) (L := gl5) dX10_init_27 yN_10_16 rfl (Nat.le_of_ble_eq_true rfl) (Nat.le_of_ble_eq_true rfl) (show gs5.1 < 4000 by decide +kernel) (Nat.le_of_ble_eq_true rfl)
set_option maxRecDepth 20000 in
theorem q10_14 {d : Nat} {Q : zPo} : zu none (d + 3) mX10_init Q 26 348 30 [some (.ref 0), none] [.ref 26, .ref 0] gs6 gr8 gi6 gl6 = zu none (d + 3) mX10_init Q 26 348 31 [some (.ref 0), none] [.ref 26, .ref 26, .ref 0] gs6 gr8 gi6 gl6 := ol_dup dX10_init_30 rfl
set_option maxRecDepth 20000 in
theorem q10_15 {d : Nat} {Q : zPo} : zu none (d + 3) mX10_init Q 26 348 31 [some (.ref 0), none] [.ref 26, .ref 26, .ref 0] gs6 gr8 gi6 gl6 = zu none (d + 3) mX10_init Q 48 458 34 [some (.ref 0), none] [.ref 26, .ref 0] gs7 gr9 gi7 gl7 := (ol_sp (as := []) (r := [.ref 26, .ref 0]) dX10_init_31 yO_10_18 yI_10_18 rfl rfl (by decide +kernel) (by decide +kernel) yM_42 (by decide) (Nat.le_of_ble_eq_true rfl) (Nat.le_of_ble_eq_true rfl)).trans (w9 (d := d + 2) (by decide +kernel) (by decide +kernel) (by decide +kernel))
set_option maxRecDepth 20000 in
theorem q10_16 {d : Nat} {Q : zPo} : zu none (d + 3) mX10_init Q 48 458 34 [some (.ref 0), none] [.ref 26, .ref 0] gs7 gr9 gi7 gl7 = zu none (d + 3) mX10_init Q 48 458 37 [some (.ref 0), none] [] gs7 gr10 gi7 gl7 := ol_putr dX10_init_34 yF_10_23 (by decide +kernel) (by decide +kernel) rfl (by decide +kernel)
set_option maxRecDepth 20000 in
theorem q10_17 {d : Nat} {Q : zPo} : zu none (d + 3) mX10_init Q 48 458 37 [some (.ref 0), none] [] gs7 gr10 gi7 gl7 = zu none (d + 3) mX10_init Q 48 458 38 [some (.ref 0), none] [.ref 0] gs7 gr10 gi7 gl7 := ol_aload_n dX10_init_37 rfl
set_option maxRecDepth 20000 in
theorem q10_18 {d : Nat} {Q : zPo} : zu none (d + 3) mX10_init Q 48 458 38 [some (.ref 0), none] [.ref 0] gs7 gr10 gi7 gl7 = zu none (d + 3) mX10_init Q 49 467 41 [some (.ref 0), none] [.ref 49, .ref 0] gs8 gr11 gi8 gl8 := ol_new (ci := 7) (n := 9) (σ := gs7) (ρ := gr10) (I := gi7) (L := gl7) dX10_init_38 yN_10_26 rfl (Nat.le_of_ble_eq_true rfl) (Nat.le_of_ble_eq_true rfl) (show gs7.1 < 4000 by decide +kernel) (Nat.le_of_ble_eq_true rfl)
set_option maxRecDepth 20000 in
theorem q10_19 {d : Nat} {Q : zPo} : zu none (d + 3) mX10_init Q 49 467 41 [some (.ref 0), none] [.ref 49, .ref 0] gs8 gr11 gi8 gl8 = zu none (d + 3) mX10_init Q 49 467 42 [some (.ref 0), none] [.ref 49, .ref 49, .ref 0] gs8 gr11 gi8 gl8 := ol_dup dX10_init_41 rfl
set_option maxRecDepth 20000 in
theorem q10_20 {d : Nat} {Q : zPo} : zu none (d + 3) mX10_init Q 49 467 42 [some (.ref 0), none] [.ref 49, .ref 49, .ref 0] gs8 gr11 gi8 gl8 = zu none (d + 3) mX10_init Q 54 499 45 [some (.ref 0), none] [.ref 49, .ref 0] gs9 gr12 gi9 gl9 := (ol_sp (as := []) (r := [.ref 49, .ref 0]) dX10_init_42 yO_10_28 yI_10_28 rfl rfl (by decide +kernel) (by decide +kernel) yM_18 (by decide) (Nat.le_of_ble_eq_true rfl) (Nat.le_of_ble_eq_true rfl)).trans (w7 (d := d + 2) (by decide +kernel) (by decide +kernel) (by decide +kernel))
set_option maxRecDepth 20000 in
theorem q10_21 {d : Nat} {Q : zPo} : zu none (d + 3) mX10_init Q 54 499 45 [some (.ref 0), none] [.ref 49, .ref 0] gs9 gr12 gi9 gl9 = zu none (d + 3) mX10_init Q 54 499 48 [some (.ref 0), none] [] gs9 gr13 gi9 gl9 := ol_putr dX10_init_45 yF_10_29 (by decide +kernel) (by decide +kernel) rfl (by decide +kernel)
set_option maxRecDepth 20000 in
theorem q10_22 {d : Nat} {Q : zPo} : zu none (d + 3) mX10_init Q 54 499 48 [some (.ref 0), none] [] gs9 gr13 gi9 gl9 = zu none (d + 3) mX10_init Q 54 499 49 [some (.ref 0), none] [.ref 0] gs9 gr13 gi9 gl9 := ol_aload_n dX10_init_48 rfl
set_option maxRecDepth 20000 in
theorem q10_23 {d : Nat} {Q : zPo} : zu none (d + 3) mX10_init Q 54 499 49 [some (.ref 0), none] [.ref 0] gs9 gr13 gi9 gl9 = zu none (d + 3) mX10_init Q 55 508 52 [some (.ref 0), none] [.ref 55, .ref 0] gs10 gr14 gi10 gl10 := ol_new (ci := 7) (n := 9) (σ := gs9) (ρ := gr13) (I := gi9) (L := gl9) dX10_init_49 yN_10_26 rfl (Nat.le_of_ble_eq_true rfl) (Nat.le_of_ble_eq_true rfl) (show gs9.1 < 4000 by decide +kernel) (Nat.le_of_ble_eq_true rfl)
set_option maxRecDepth 20000 in
theorem q10_24 {d : Nat} {Q : zPo} : zu none (d + 3) mX10_init Q 55 508 52 [some (.ref 0), none] [.ref 55, .ref 0] gs10 gr14 gi10 gl10 = zu none (d + 3) mX10_init Q 55 508 53 [some (.ref 0), none] [.ref 55, .ref 55, .ref 0] gs10 gr14 gi10 gl10 := ol_dup dX10_init_52 rfl
set_option maxRecDepth 20000 in
theorem q10_25 {d : Nat} {Q : zPo} : zu none (d + 3) mX10_init Q 55 508 53 [some (.ref 0), none] [.ref 55, .ref 55, .ref 0] gs10 gr14 gi10 gl10 = zu none (d + 3) mX10_init Q 60 540 56 [some (.ref 0), none] [.ref 55, .ref 0] gs11 gr15 gi11 gl11 := (ol_sp (as := []) (r := [.ref 55, .ref 0]) dX10_init_53 yO_10_28 yI_10_28 rfl rfl (by decide +kernel) (by decide +kernel) yM_18 (by decide) (Nat.le_of_ble_eq_true rfl) (Nat.le_of_ble_eq_true rfl)).trans (w7 (d := d + 2) (by decide +kernel) (by decide +kernel) (by decide +kernel))
set_option maxRecDepth 20000 in
theorem q10_26 {d : Nat} {Q : zPo} : zu none (d + 3) mX10_init Q 60 540 56 [some (.ref 0), none] [.ref 55, .ref 0] gs11 gr15 gi11 gl11 = zu none (d + 3) mX10_init Q 60 540 59 [some (.ref 0), none] [] gs11 gr16 gi11 gl11 := ol_putr dX10_init_56 yF_10_33 (by decide +kernel) (by decide +kernel) rfl (by decide +kernel)
set_option maxRecDepth 20000 in
theorem q10_27 {d : Nat} {Q : zPo} : zu none (d + 3) mX10_init Q 60 540 59 [some (.ref 0), none] [] gs11 gr16 gi11 gl11 = zu none (d + 3) mX10_init Q 60 540 60 [some (.ref 0), none] [.ref 0] gs11 gr16 gi11 gl11 := ol_aload_n dX10_init_59 rfl
set_option maxRecDepth 20000 in
theorem q10_28 {d : Nat} {Q : zPo} : zu none (d + 3) mX10_init Q 60 540 60 [some (.ref 0), none] [.ref 0] gs11 gr16 gi11 gl11 = zu none (d + 3) mX10_init Q 60 540 61 [some (.ref 0), none] [.int (nI 2), .ref 0] gs11 gr16 gi11 gl11 := ol_iconst dX10_init_60 rfl
set_option maxRecDepth 20000 in
theorem q10_29 {d : Nat} {Q : zPo} : zu none (d + 3) mX10_init Q 60 540 61 [some (.ref 0), none] [.int (nI 2), .ref 0] gs11 gr16 gi11 gl11 = zu none (d + 3) mX10_init Q 61 542 64 [some (.ref 0), none] [.ref 61, .ref 0] gs12 gr17 gi12 gl12 := ol_ana (n := 2) dX10_init_61 yA_10_26 (by decide +kernel) (by decide +kernel) (Nat.le_of_ble_eq_true rfl) (Nat.le_of_ble_eq_true rfl) (show gs11.1 < 4000 by decide +kernel) (Nat.le_of_ble_eq_true rfl)
set_option maxRecDepth 20000 in
theorem q10_30 {d : Nat} {Q : zPo} : zu none (d + 3) mX10_init Q 61 542 64 [some (.ref 0), none] [.ref 61, .ref 0] gs12 gr17 gi12 gl12 = zu none (d + 3) mX10_init Q 61 542 67 [some (.ref 0), none] [] gs12 gr18 gi12 gl12 := ol_putr dX10_init_64 yF_10_36 (by decide +kernel) (by decide +kernel) rfl (by decide +kernel)
set_option maxRecDepth 20000 in
theorem q10_31 {d : Nat} {Q : zPo} : zu none (d + 3) mX10_init Q 61 542 67 [some (.ref 0), none] [] gs12 gr18 gi12 gl12 = zu none (d + 3) mX10_init Q 61 542 68 [some (.ref 0), none] [.ref 0] gs12 gr18 gi12 gl12 := ol_aload_n dX10_init_67 rfl
set_option maxRecDepth 20000 in
theorem q10_32 {d : Nat} {Q : zPo} : zu none (d + 3) mX10_init Q 61 542 68 [some (.ref 0), none] [.ref 0] gs12 gr18 gi12 gl12 = zu none (d + 3) mX10_init Q 61 542 69 [some (.ref 0), none] [.int (nI 2), .ref 0] gs12 gr18 gi12 gl12 := ol_iconst dX10_init_68 rfl
set_option maxRecDepth 20000 in
theorem q10_33 {d : Nat} {Q : zPo} : zu none (d + 3) mX10_init Q 61 542 69 [some (.ref 0), none] [.int (nI 2), .ref 0] gs12 gr18 gi12 gl12 = zu none (d + 3) mX10_init Q 62 544 71 [some (.ref 0), none] [.ref 62, .ref 0] gs13 gr19 gi13 gl13 := ol_naz (n := 2) dX10_init_69 (by decide +kernel) (by decide +kernel) (Nat.le_of_ble_eq_true rfl) (Nat.le_of_ble_eq_true rfl) (show gs12.1 < 4000 by decide +kernel) (Nat.le_of_ble_eq_true rfl)
set_option maxRecDepth 20000 in
theorem q10_34 {d : Nat} {Q : zPo} : zu none (d + 3) mX10_init Q 62 544 71 [some (.ref 0), none] [.ref 62, .ref 0] gs13 gr19 gi13 gl13 = zu none (d + 3) mX10_init Q 62 544 74 [some (.ref 0), none] [] gs13 gr20 gi13 gl13 := ol_putr dX10_init_71 yF_10_40 (by decide +kernel) (by decide +kernel) rfl (by decide +kernel)
set_option maxRecDepth 20000 in
theorem q10_35 {d : Nat} {Q : zPo} : zu none (d + 3) mX10_init Q 62 544 74 [some (.ref 0), none] [] gs13 gr20 gi13 gl13 = zu none (d + 3) mX10_init Q 62 544 75 [some (.ref 0), none] [.ref 0] gs13 gr20 gi13 gl13 := ol_aload_n dX10_init_74 rfl
set_option maxRecDepth 20000 in
theorem q10_36 {d : Nat} {Q : zPo} : zu none (d + 3) mX10_init Q 62 544 75 [some (.ref 0), none] [.ref 0] gs13 gr20 gi13 gl13 = zu none (d + 3) mX10_init Q 63 548 78 [some (.ref 0), none] [.ref 63, .ref 0] gs14 gr21 gi14 gl14 := ol_new (ci := 0) (n := 4) (σ := gs13) (ρ := gr20) (I := gi13) (L := gl13) dX10_init_75 yN_10_44 rfl (Nat.le_of_ble_eq_true rfl) (Nat.le_of_ble_eq_true rfl) (show gs13.1 < 4000 by decide +kernel) (Nat.le_of_ble_eq_true rfl)
set_option maxRecDepth 20000 in
theorem q10_37 {d : Nat} {Q : zPo} : zu none (d + 3) mX10_init Q 63 548 78 [some (.ref 0), none] [.ref 63, .ref 0] gs14 gr21 gi14 gl14 = zu none (d + 3) mX10_init Q 63 548 79 [some (.ref 0), none] [.ref 63, .ref 63, .ref 0] gs14 gr21 gi14 gl14 := ol_dup dX10_init_78 rfl
set_option maxRecDepth 20000 in
theorem q10_38 {d : Nat} {Q : zPo} : zu none (d + 3) mX10_init Q 63 548 79 [some (.ref 0), none] [.ref 63, .ref 63, .ref 0] gs14 gr21 gi14 gl14 = zu none (d + 3) mX10_init Q 67 570 82 [some (.ref 0), none] [.ref 63, .ref 0] gs15 gr22 gi15 gl15 := (ol_sp (as := []) (r := [.ref 63, .ref 0]) dX10_init_79 yO_10_46 yI_10_46 rfl rfl (by decide +kernel) (by decide +kernel) yM_0 (by decide) (Nat.le_of_ble_eq_true rfl) (Nat.le_of_ble_eq_true rfl)).trans (w0 (d := d + 2) (by decide +kernel) (by decide +kernel) (by decide +kernel))
set_option maxRecDepth 20000 in
theorem q10_39 {d : Nat} {Q : zPo} : zu none (d + 3) mX10_init Q 67 570 82 [some (.ref 0), none] [.ref 63, .ref 0] gs15 gr22 gi15 gl15 = zu none (d + 3) mX10_init Q 67 570 85 [some (.ref 0), none] [] gs15 gr23 gi15 gl15 := ol_putr dX10_init_82 yF_10_47 (by decide +kernel) (by decide +kernel) rfl (by decide +kernel)
set_option maxRecDepth 20000 in
theorem q10_40 {d : Nat} {Q : zPo} : zu none (d + 3) mX10_init Q 67 570 85 [some (.ref 0), none] [] gs15 gr23 gi15 gl15 = zu none (d + 3) mX10_init Q 67 570 86 [some (.ref 0), none] [.ref 0] gs15 gr23 gi15 gl15 := ol_aload_n dX10_init_85 rfl
set_option maxRecDepth 20000 in
theorem q10_41 {d : Nat} {Q : zPo} : zu none (d + 3) mX10_init Q 67 570 86 [some (.ref 0), none] [.ref 0] gs15 gr23 gi15 gl15 = zu none (d + 3) mX10_init Q 67 570 88 [some (.ref 0), none] [.int (nI 6), .ref 0] gs15 gr23 gi15 gl15 := ol_bipush dX10_init_86 rfl
set_option maxRecDepth 20000 in
theorem q10_42 {d : Nat} {Q : zPo} : zu none (d + 3) mX10_init Q 67 570 88 [some (.ref 0), none] [.int (nI 6), .ref 0] gs15 gr23 gi15 gl15 = zu none (d + 3) mX10_init Q 68 576 91 [some (.ref 0), none] [.ref 68, .ref 0] gs16 gr24 gi16 gl16 := ol_ana (n := 6) dX10_init_88 yA_10_51 (by decide +kernel) (by decide +kernel) (Nat.le_of_ble_eq_true rfl) (Nat.le_of_ble_eq_true rfl) (show gs15.1 < 4000 by decide +kernel) (Nat.le_of_ble_eq_true rfl)
set_option maxRecDepth 20000 in
theorem q10_43 {d : Nat} {Q : zPo} : zu none (d + 3) mX10_init Q 68 576 91 [some (.ref 0), none] [.ref 68, .ref 0] gs16 gr24 gi16 gl16 = zu none (d + 3) mX10_init Q 68 576 94 [some (.ref 0), none] [] gs16 gr25 gi16 gl16 := ol_putr dX10_init_91 yF_10_53 (by decide +kernel) (by decide +kernel) rfl (by decide +kernel)
set_option maxRecDepth 20000 in
theorem q10_44 {d : Nat} {Q : zPo} : zu none (d + 3) mX10_init Q 68 576 94 [some (.ref 0), none] [] gs16 gr25 gi16 gl16 = zu none (d + 3) mX10_init Q 68 576 95 [some (.ref 0), none] [.int (nI 0)] gs16 gr25 gi16 gl16 := ol_iconst dX10_init_94 rfl
set_option maxRecDepth 20000 in
theorem q10_45 {d : Nat} {Q : zPo} : zu none (d + 3) mX10_init Q 68 576 95 [some (.ref 0), none] [.int (nI 0)] gs16 gr25 gi16 gl16 = zu none (d + 3) mX10_init Q 68 576 96 [some (.ref 0), some (.int (nI 0))] [] gs16 gr25 gi16 gl16 := ol_istore_n dX10_init_95 (Nat.le_of_ble_eq_true rfl) rfl
set_option maxRecDepth 20000 in
theorem q10_46 {d : Nat} {Q : zPo} : zu none (d + 3) mX10_init Q 68 576 96 [some (.ref 0), some (.int (nI 0))] [] gs16 gr25 gi16 gl16 = zu none (d + 3) mX10_init Q 68 576 97 [some (.ref 0), some (.int (nI 0))] [.int (nI 0)] gs16 gr25 gi16 gl16 := ol_iload_n dX10_init_96 rfl
set_option maxRecDepth 20000 in
theorem q10_47 {d : Nat} {Q : zPo} : zu none (d + 3) mX10_init Q 68 576 97 [some (.ref 0), some (.int (nI 0))] [.int (nI 0)] gs16 gr25 gi16 gl16 = zu none (d + 3) mX10_init Q 68 576 98 [some (.ref 0), some (.int (nI 0))] [.int (nI 2), .int (nI 0)] gs16 gr25 gi16 gl16 := ol_iconst dX10_init_97 rfl
set_option maxRecDepth 20000 in
theorem q10_48 {d : Nat} {Q : zPo} : zu none (d + 3) mX10_init Q 68 576 98 [some (.ref 0), some (.int (nI 0))] [.int (nI 2), .int (nI 0)] gs16 gr25 gi16 gl16 = zu none (d + 3) mX10_init Q 68 576 101 [some (.ref 0), some (.int (nI 0))] [] gs16 gr25 gi16 gl16 := (ol_icmpge (t := 120) dX10_init_98 rfl).trans (if_neg (by decide +kernel))
set_option maxRecDepth 20000 in
theorem q10_49 {d : Nat} {Q : zPo} : zu none (d + 3) mX10_init Q 68 576 101 [some (.ref 0), some (.int (nI 0))] [] gs16 gr25 gi16 gl16 = zu none (d + 3) mX10_init Q 68 576 102 [some (.ref 0), some (.int (nI 0))] [.ref 0] gs16 gr25 gi16 gl16 := ol_aload_n dX10_init_101 rfl
set_option maxRecDepth 20000 in
theorem q10_50 {d : Nat} {Q : zPo} : zu none (d + 3) mX10_init Q 68 576 102 [some (.ref 0), some (.int (nI 0))] [.ref 0] gs16 gr25 gi16 gl16 = zu none (d + 3) mX10_init Q 68 576 105 [some (.ref 0), some (.int (nI 0))] [.ref 61] gs16 gr25 gi16 gl16 := ol_getr dX10_init_102 (by decide) yF_10_36 (by decide +kernel) (by decide +kernel) (by decide +kernel)
set_option maxRecDepth 20000 in
theorem q10_51 {d : Nat} {Q : zPo} : zu none (d + 3) mX10_init Q 68 576 105 [some (.ref 0), some (.int (nI 0))] [.ref 61] gs16 gr25 gi16 gl16 = zu none (d + 3) mX10_init Q 68 576 106 [some (.ref 0), some (.int (nI 0))] [.int (nI 0), .ref 61] gs16 gr25 gi16 gl16 := ol_iload_n dX10_init_105 rfl
set_option maxRecDepth 20000 in
theorem q10_52 {d : Nat} {Q : zPo} : zu none (d + 3) mX10_init Q 68 576 106 [some (.ref 0), some (.int (nI 0))] [.int (nI 0), .ref 61] gs16 gr25 gi16 gl16 = zu none (d + 3) mX10_init Q 69 585 109 [some (.ref 0), some (.int (nI 0))] [.ref 69, .int (nI 0), .ref 61] gs17 gr26 gi17 gl17 := ol_new (ci := 7) (n := 9) (σ := gs16) (ρ := gr25) (I := gi16) (L := gl16) dX10_init_106 yN_10_26 rfl (Nat.le_of_ble_eq_true rfl) (Nat.le_of_ble_eq_true rfl) (show gs16.1 < 4000 by decide +kernel) (Nat.le_of_ble_eq_true rfl)
set_option maxRecDepth 20000 in
theorem q10_53 {d : Nat} {Q : zPo} : zu none (d + 3) mX10_init Q 69 585 109 [some (.ref 0), some (.int (nI 0))] [.ref 69, .int (nI 0), .ref 61] gs17 gr26 gi17 gl17 = zu none (d + 3) mX10_init Q 69 585 110 [some (.ref 0), some (.int (nI 0))] [.ref 69, .ref 69, .int (nI 0), .ref 61] gs17 gr26 gi17 gl17 := ol_dup dX10_init_109 rfl
set_option maxRecDepth 20000 in
theorem q10_54 {d : Nat} {Q : zPo} : zu none (d + 3) mX10_init Q 69 585 110 [some (.ref 0), some (.int (nI 0))] [.ref 69, .ref 69, .int (nI 0), .ref 61] gs17 gr26 gi17 gl17 = zu none (d + 3) mX10_init Q 74 617 113 [some (.ref 0), some (.int (nI 0))] [.ref 69, .int (nI 0), .ref 61] gs18 gr27 gi18 gl18 := (ol_sp (as := []) (r := [.ref 69, .int (nI 0), .ref 61]) dX10_init_110 yO_10_28 yI_10_28 rfl rfl (by decide +kernel) (by decide +kernel) yM_18 (by decide) (Nat.le_of_ble_eq_true rfl) (Nat.le_of_ble_eq_true rfl)).trans (w7 (d := d + 2) (by decide +kernel) (by decide +kernel) (by decide +kernel))
set_option maxRecDepth 20000 in
theorem q10_55 {d : Nat} {Q : zPo} : zu none (d + 3) mX10_init Q 74 617 113 [some (.ref 0), some (.int (nI 0))] [.ref 69, .int (nI 0), .ref 61] gs18 gr27 gi18 gl18 = zu none (d + 3) mX10_init Q 74 617 114 [some (.ref 0), some (.int (nI 0))] [] gs18 gr28 gi18 gl18 := ol_aas dX10_init_113 (by decide +kernel) (by decide +kernel) (vp_in_nI (by decide +kernel) (by decide +kernel)) (by decide +kernel)
set_option maxRecDepth 20000 in
theorem q10_56 {d : Nat} {Q : zPo} : zu none (d + 3) mX10_init Q 74 617 114 [some (.ref 0), some (.int (nI 0))] [] gs18 gr28 gi18 gl18 = zu none (d + 3) mX10_init Q 74 617 117 [some (.ref 0), some (.int (nI 1))] [] gs18 gr28 gi18 gl18 := ol_iinc dX10_init_114 rfl rfl (by decide +kernel)
set_option maxRecDepth 20000 in
theorem q10_57 {d : Nat} {Q : zPo} : zu none (d + 3) mX10_init Q 74 617 117 [some (.ref 0), some (.int (nI 1))] [] gs18 gr28 gi18 gl18 = zu none (d + 3) mX10_init Q 74 617 96 [some (.ref 0), some (.int (nI 1))] [] gs18 gr28 gi18 gl18 := ol_goto dX10_init_117 rfl
set_option maxRecDepth 20000 in
theorem q10_58 {d : Nat} {Q : zPo} : zu none (d + 3) mX10_init Q 74 617 96 [some (.ref 0), some (.int (nI 1))] [] gs18 gr28 gi18 gl18 = zu none (d + 3) mX10_init Q 74 617 97 [some (.ref 0), some (.int (nI 1))] [.int (nI 1)] gs18 gr28 gi18 gl18 := ol_iload_n dX10_init_96 rfl
set_option maxRecDepth 20000 in
theorem q10_59 {d : Nat} {Q : zPo} : zu none (d + 3) mX10_init Q 74 617 97 [some (.ref 0), some (.int (nI 1))] [.int (nI 1)] gs18 gr28 gi18 gl18 = zu none (d + 3) mX10_init Q 74 617 98 [some (.ref 0), some (.int (nI 1))] [.int (nI 2), .int (nI 1)] gs18 gr28 gi18 gl18 := ol_iconst dX10_init_97 rfl
set_option maxRecDepth 20000 in
theorem q10_60 {d : Nat} {Q : zPo} : zu none (d + 3) mX10_init Q 74 617 98 [some (.ref 0), some (.int (nI 1))] [.int (nI 2), .int (nI 1)] gs18 gr28 gi18 gl18 = zu none (d + 3) mX10_init Q 74 617 101 [some (.ref 0), some (.int (nI 1))] [] gs18 gr28 gi18 gl18 := (ol_icmpge (t := 120) dX10_init_98 rfl).trans (if_neg (by decide +kernel))
set_option maxRecDepth 20000 in
theorem q10_61 {d : Nat} {Q : zPo} : zu none (d + 3) mX10_init Q 74 617 101 [some (.ref 0), some (.int (nI 1))] [] gs18 gr28 gi18 gl18 = zu none (d + 3) mX10_init Q 74 617 102 [some (.ref 0), some (.int (nI 1))] [.ref 0] gs18 gr28 gi18 gl18 := ol_aload_n dX10_init_101 rfl
set_option maxRecDepth 20000 in
theorem q10_62 {d : Nat} {Q : zPo} : zu none (d + 3) mX10_init Q 74 617 102 [some (.ref 0), some (.int (nI 1))] [.ref 0] gs18 gr28 gi18 gl18 = zu none (d + 3) mX10_init Q 74 617 105 [some (.ref 0), some (.int (nI 1))] [.ref 61] gs18 gr28 gi18 gl18 := ol_getr dX10_init_102 (by decide) yF_10_36 (by decide +kernel) (by decide +kernel) (by decide +kernel)
set_option maxRecDepth 20000 in
theorem q10_63 {d : Nat} {Q : zPo} : zu none (d + 3) mX10_init Q 74 617 105 [some (.ref 0), some (.int (nI 1))] [.ref 61] gs18 gr28 gi18 gl18 = zu none (d + 3) mX10_init Q 74 617 106 [some (.ref 0), some (.int (nI 1))] [.int (nI 1), .ref 61] gs18 gr28 gi18 gl18 := ol_iload_n dX10_init_105 rfl
set_option maxRecDepth 20000 in
theorem q10_64 {d : Nat} {Q : zPo} : zu none (d + 3) mX10_init Q 74 617 106 [some (.ref 0), some (.int (nI 1))] [.int (nI 1), .ref 61] gs18 gr28 gi18 gl18 = zu none (d + 3) mX10_init Q 75 626 109 [some (.ref 0), some (.int (nI 1))] [.ref 75, .int (nI 1), .ref 61] gs19 gr29 gi19 gl19 := ol_new (ci := 7) (n := 9) (σ := gs18) (ρ := gr28) (I := gi18) (L := gl18) dX10_init_106 yN_10_26 rfl (Nat.le_of_ble_eq_true rfl) (Nat.le_of_ble_eq_true rfl) (show gs18.1 < 4000 by decide +kernel) (Nat.le_of_ble_eq_true rfl)
set_option maxRecDepth 20000 in
theorem q10_65 {d : Nat} {Q : zPo} : zu none (d + 3) mX10_init Q 75 626 109 [some (.ref 0), some (.int (nI 1))] [.ref 75, .int (nI 1), .ref 61] gs19 gr29 gi19 gl19 = zu none (d + 3) mX10_init Q 75 626 110 [some (.ref 0), some (.int (nI 1))] [.ref 75, .ref 75, .int (nI 1), .ref 61] gs19 gr29 gi19 gl19 := ol_dup dX10_init_109 rfl
set_option maxRecDepth 20000 in
theorem q10_66 {d : Nat} {Q : zPo} : zu none (d + 3) mX10_init Q 75 626 110 [some (.ref 0), some (.int (nI 1))] [.ref 75, .ref 75, .int (nI 1), .ref 61] gs19 gr29 gi19 gl19 = zu none (d + 3) mX10_init Q 80 658 113 [some (.ref 0), some (.int (nI 1))] [.ref 75, .int (nI 1), .ref 61] gs20 gr30 gi20 gl20 := (ol_sp (as := []) (r := [.ref 75, .int (nI 1), .ref 61]) dX10_init_110 yO_10_28 yI_10_28 rfl rfl (by decide +kernel) (by decide +kernel) yM_18 (by decide) (Nat.le_of_ble_eq_true rfl) (Nat.le_of_ble_eq_true rfl)).trans (w7 (d := d + 2) (by decide +kernel) (by decide +kernel) (by decide +kernel))
set_option maxRecDepth 20000 in
theorem q10_67 {d : Nat} {Q : zPo} : zu none (d + 3) mX10_init Q 80 658 113 [some (.ref 0), some (.int (nI 1))] [.ref 75, .int (nI 1), .ref 61] gs20 gr30 gi20 gl20 = zu none (d + 3) mX10_init Q 80 658 114 [some (.ref 0), some (.int (nI 1))] [] gs20 gr31 gi20 gl20 := ol_aas dX10_init_113 (by decide +kernel) (by decide +kernel) (vp_in_nI (by decide +kernel) (by decide +kernel)) (by decide +kernel)
set_option maxRecDepth 20000 in
theorem q10_68 {d : Nat} {Q : zPo} : zu none (d + 3) mX10_init Q 80 658 114 [some (.ref 0), some (.int (nI 1))] [] gs20 gr31 gi20 gl20 = zu none (d + 3) mX10_init Q 80 658 117 [some (.ref 0), some (.int (nI 2))] [] gs20 gr31 gi20 gl20 := ol_iinc dX10_init_114 rfl rfl (by decide +kernel)
set_option maxRecDepth 20000 in
theorem q10_69 {d : Nat} {Q : zPo} : zu none (d + 3) mX10_init Q 80 658 117 [some (.ref 0), some (.int (nI 2))] [] gs20 gr31 gi20 gl20 = zu none (d + 3) mX10_init Q 80 658 96 [some (.ref 0), some (.int (nI 2))] [] gs20 gr31 gi20 gl20 := ol_goto dX10_init_117 rfl
set_option maxRecDepth 20000 in
theorem q10_70 {d : Nat} {Q : zPo} : zu none (d + 3) mX10_init Q 80 658 96 [some (.ref 0), some (.int (nI 2))] [] gs20 gr31 gi20 gl20 = zu none (d + 3) mX10_init Q 80 658 97 [some (.ref 0), some (.int (nI 2))] [.int (nI 2)] gs20 gr31 gi20 gl20 := ol_iload_n dX10_init_96 rfl
set_option maxRecDepth 20000 in
theorem q10_71 {d : Nat} {Q : zPo} : zu none (d + 3) mX10_init Q 80 658 97 [some (.ref 0), some (.int (nI 2))] [.int (nI 2)] gs20 gr31 gi20 gl20 = zu none (d + 3) mX10_init Q 80 658 98 [some (.ref 0), some (.int (nI 2))] [.int (nI 2), .int (nI 2)] gs20 gr31 gi20 gl20 := ol_iconst dX10_init_97 rfl
set_option maxRecDepth 20000 in
theorem q10_72 {d : Nat} {Q : zPo} : zu none (d + 3) mX10_init Q 80 658 98 [some (.ref 0), some (.int (nI 2))] [.int (nI 2), .int (nI 2)] gs20 gr31 gi20 gl20 = zu none (d + 3) mX10_init Q 80 658 120 [some (.ref 0), some (.int (nI 2))] [] gs20 gr31 gi20 gl20 := (ol_icmpge (t := 120) dX10_init_98 rfl).trans (if_pos (by decide +kernel))
set_option maxRecDepth 20000 in
theorem q10_73 {d : Nat} {Q : zPo} : zu none (d + 3) mX10_init Q 80 658 120 [some (.ref 0), some (.int (nI 2))] [] gs20 gr31 gi20 gl20 = zu none (d + 3) mX10_init Q 80 658 121 [some (.ref 0), some (.int (nI 2))] [.ref 0] gs20 gr31 gi20 gl20 := ol_aload_n dX10_init_120 rfl
set_option maxRecDepth 20000 in
theorem q10_74 {d : Nat} {Q : zPo} : zu none (d + 3) mX10_init Q 80 658 121 [some (.ref 0), some (.int (nI 2))] [.ref 0] gs20 gr31 gi20 gl20 = zu none (d + 3) mX10_init Q 80 658 124 [some (.ref 0), some (.int (nI 2))] [.ref 68] gs20 gr31 gi20 gl20 := ol_getr dX10_init_121 (by decide) yF_10_53 (by decide +kernel) (by decide +kernel) (by decide +kernel)
set_option maxRecDepth 20000 in
theorem q10_75 {d : Nat} {Q : zPo} : zu none (d + 3) mX10_init Q 80 658 124 [some (.ref 0), some (.int (nI 2))] [.ref 68] gs20 gr31 gi20 gl20 = zu none (d + 3) mX10_init Q 80 658 125 [some (.ref 0), some (.int (nI 2))] [.int (nI 0), .ref 68] gs20 gr31 gi20 gl20 := ol_iconst dX10_init_124 rfl
set_option maxRecDepth 20000 in
theorem q10_76 {d : Nat} {Q : zPo} : zu none (d + 3) mX10_init Q 80 658 125 [some (.ref 0), some (.int (nI 2))] [.int (nI 0), .ref 68] gs20 gr31 gi20 gl20 = zu none (d + 3) mX10_init Q 81 659 128 [some (.ref 0), some (.int (nI 2))] [.ref 81, .int (nI 0), .ref 68] gs21 gr32 gi21 gl21 := ol_new (ci := 6) (n := 1) (σ := gs20) (ρ := gr31) (I := gi20) (L := gl20) dX10_init_125 yN_10_51 rfl (Nat.le_of_ble_eq_true rfl) (Nat.le_of_ble_eq_true rfl) (show gs20.1 < 4000 by decide +kernel) (Nat.le_of_ble_eq_true rfl)
set_option maxRecDepth 20000 in
theorem q10_77 {d : Nat} {Q : zPo} : zu none (d + 3) mX10_init Q 81 659 128 [some (.ref 0), some (.int (nI 2))] [.ref 81, .int (nI 0), .ref 68] gs21 gr32 gi21 gl21 = zu none (d + 3) mX10_init Q 81 659 129 [some (.ref 0), some (.int (nI 2))] [.ref 81, .ref 81, .int (nI 0), .ref 68] gs21 gr32 gi21 gl21 := ol_dup dX10_init_128 rfl
set_option maxRecDepth 20000 in
theorem q10_78 {d : Nat} {Q : zPo} : zu none (d + 3) mX10_init Q 81 659 129 [some (.ref 0), some (.int (nI 2))] [.ref 81, .ref 81, .int (nI 0), .ref 68] gs21 gr32 gi21 gl21 = zu none (d + 3) mX10_init Q 81 659 132 [some (.ref 0), some (.int (nI 2))] [.ref 81, .int (nI 0), .ref 68] gs22 gr33 gi22 gl22 := (ol_sp (as := []) (r := [.ref 81, .int (nI 0), .ref 68]) dX10_init_129 yO_10_57 yI_10_57 rfl rfl (by decide +kernel) (by decide +kernel) yM_16 (by decide) (Nat.le_of_ble_eq_true rfl) (Nat.le_of_ble_eq_true rfl)).trans (w6 (d := d + 2) (by decide +kernel) (by decide +kernel) (by decide +kernel))
set_option maxRecDepth 20000 in
theorem q10_79 {d : Nat} {Q : zPo} : zu none (d + 3) mX10_init Q 81 659 132 [some (.ref 0), some (.int (nI 2))] [.ref 81, .int (nI 0), .ref 68] gs22 gr33 gi22 gl22 = zu none (d + 3) mX10_init Q 81 659 133 [some (.ref 0), some (.int (nI 2))] [] gs22 gr34 gi22 gl22 := ol_aas dX10_init_132 (by decide +kernel) (by decide +kernel) (vp_in_nI (by decide +kernel) (by decide +kernel)) (by decide +kernel)
set_option maxRecDepth 20000 in
theorem q10_80 {d : Nat} {Q : zPo} : zu none (d + 3) mX10_init Q 81 659 133 [some (.ref 0), some (.int (nI 2))] [] gs22 gr34 gi22 gl22 = zu none (d + 3) mX10_init Q 81 659 134 [some (.ref 0), some (.int (nI 2))] [.ref 0] gs22 gr34 gi22 gl22 := ol_aload_n dX10_init_133 rfl
set_option maxRecDepth 20000 in
theorem q10_81 {d : Nat} {Q : zPo} : zu none (d + 3) mX10_init Q 81 659 134 [some (.ref 0), some (.int (nI 2))] [.ref 0] gs22 gr34 gi22 gl22 = zu none (d + 3) mX10_init Q 81 659 137 [some (.ref 0), some (.int (nI 2))] [.ref 68] gs22 gr34 gi22 gl22 := ol_getr dX10_init_134 (by decide) yF_10_53 (by decide +kernel) (by decide +kernel) (by decide +kernel)
set_option maxRecDepth 20000 in
theorem q10_82 {d : Nat} {Q : zPo} : zu none (d + 3) mX10_init Q 81 659 137 [some (.ref 0), some (.int (nI 2))] [.ref 68] gs22 gr34 gi22 gl22 = zu none (d + 3) mX10_init Q 81 659 138 [some (.ref 0), some (.int (nI 2))] [.int (nI 1), .ref 68] gs22 gr34 gi22 gl22 := ol_iconst dX10_init_137 rfl
set_option maxRecDepth 20000 in
theorem q10_83 {d : Nat} {Q : zPo} : zu none (d + 3) mX10_init Q 81 659 138 [some (.ref 0), some (.int (nI 2))] [.int (nI 1), .ref 68] gs22 gr34 gi22 gl22 = zu none (d + 3) mX10_init Q 82 660 141 [some (.ref 0), some (.int (nI 2))] [.ref 82, .int (nI 1), .ref 68] gs23 gr35 gi23 gl23 := ol_new (ci := 2) (n := 1) (σ := gs22) (ρ := gr34) (I := gi22) (L := gl22) dX10_init_138 yN_10_58 rfl (Nat.le_of_ble_eq_true rfl) (Nat.le_of_ble_eq_true rfl) (show gs22.1 < 4000 by decide +kernel) (Nat.le_of_ble_eq_true rfl)
set_option maxRecDepth 20000 in
theorem q10_84 {d : Nat} {Q : zPo} : zu none (d + 3) mX10_init Q 82 660 141 [some (.ref 0), some (.int (nI 2))] [.ref 82, .int (nI 1), .ref 68] gs23 gr35 gi23 gl23 = zu none (d + 3) mX10_init Q 82 660 142 [some (.ref 0), some (.int (nI 2))] [.ref 82, .ref 82, .int (nI 1), .ref 68] gs23 gr35 gi23 gl23 := ol_dup dX10_init_141 rfl
set_option maxRecDepth 20000 in
theorem q10_85 {d : Nat} {Q : zPo} : zu none (d + 3) mX10_init Q 82 660 142 [some (.ref 0), some (.int (nI 2))] [.ref 82, .ref 82, .int (nI 1), .ref 68] gs23 gr35 gi23 gl23 = zu none (d + 3) mX10_init Q 82 660 145 [some (.ref 0), some (.int (nI 2))] [.ref 82, .int (nI 1), .ref 68] gs24 gr36 gi24 gl24 := (ol_sp (as := []) (r := [.ref 82, .int (nI 1), .ref 68]) dX10_init_142 yO_10_60 yI_10_60 rfl rfl (by decide +kernel) (by decide +kernel) yM_8 (by decide) (Nat.le_of_ble_eq_true rfl) (Nat.le_of_ble_eq_true rfl)).trans (w2 (d := d + 1) (by decide +kernel) (by decide +kernel) (by decide +kernel))
set_option maxRecDepth 20000 in
theorem q10_86 {d : Nat} {Q : zPo} : zu none (d + 3) mX10_init Q 82 660 145 [some (.ref 0), some (.int (nI 2))] [.ref 82, .int (nI 1), .ref 68] gs24 gr36 gi24 gl24 = zu none (d + 3) mX10_init Q 82 660 146 [some (.ref 0), some (.int (nI 2))] [] gs24 gr37 gi24 gl24 := ol_aas dX10_init_145 (by decide +kernel) (by decide +kernel) (vp_in_nI (by decide +kernel) (by decide +kernel)) (by decide +kernel)
set_option maxRecDepth 20000 in
theorem q10_87 {d : Nat} {Q : zPo} : zu none (d + 3) mX10_init Q 82 660 146 [some (.ref 0), some (.int (nI 2))] [] gs24 gr37 gi24 gl24 = zu none (d + 3) mX10_init Q 82 660 147 [some (.ref 0), some (.int (nI 2))] [.ref 0] gs24 gr37 gi24 gl24 := ol_aload_n dX10_init_146 rfl
set_option maxRecDepth 20000 in
theorem q10_88 {d : Nat} {Q : zPo} : zu none (d + 3) mX10_init Q 82 660 147 [some (.ref 0), some (.int (nI 2))] [.ref 0] gs24 gr37 gi24 gl24 = zu none (d + 3) mX10_init Q 82 660 150 [some (.ref 0), some (.int (nI 2))] [.ref 68] gs24 gr37 gi24 gl24 := ol_getr dX10_init_147 (by decide) yF_10_53 (by decide +kernel) (by decide +kernel) (by decide +kernel)
set_option maxRecDepth 20000 in
theorem q10_89 {d : Nat} {Q : zPo} : zu none (d + 3) mX10_init Q 82 660 150 [some (.ref 0), some (.int (nI 2))] [.ref 68] gs24 gr37 gi24 gl24 = zu none (d + 3) mX10_init Q 82 660 151 [some (.ref 0), some (.int (nI 2))] [.int (nI 2), .ref 68] gs24 gr37 gi24 gl24 := ol_iconst dX10_init_150 rfl
set_option maxRecDepth 20000 in
theorem q10_90 {d : Nat} {Q : zPo} : zu none (d + 3) mX10_init Q 82 660 151 [some (.ref 0), some (.int (nI 2))] [.int (nI 2), .ref 68] gs24 gr37 gi24 gl24 = zu none (d + 3) mX10_init Q 83 661 154 [some (.ref 0), some (.int (nI 2))] [.ref 83, .int (nI 2), .ref 68] gs25 gr38 gi25 gl25 := ol_new (ci := 1) (n := 1) (σ := gs24) (ρ := gr37) (I := gi24) (L := gl24) dX10_init_151 yN_10_61 rfl (Nat.le_of_ble_eq_true rfl) (Nat.le_of_ble_eq_true rfl) (show gs24.1 < 4000 by decide +kernel) (Nat.le_of_ble_eq_true rfl)
set_option maxRecDepth 20000 in
theorem q10_91 {d : Nat} {Q : zPo} : zu none (d + 3) mX10_init Q 83 661 154 [some (.ref 0), some (.int (nI 2))] [.ref 83, .int (nI 2), .ref 68] gs25 gr38 gi25 gl25 = zu none (d + 3) mX10_init Q 83 661 155 [some (.ref 0), some (.int (nI 2))] [.ref 83, .ref 83, .int (nI 2), .ref 68] gs25 gr38 gi25 gl25 := ol_dup dX10_init_154 rfl
set_option maxRecDepth 20000 in
theorem q10_92 {d : Nat} {Q : zPo} : zu none (d + 3) mX10_init Q 83 661 155 [some (.ref 0), some (.int (nI 2))] [.ref 83, .ref 83, .int (nI 2), .ref 68] gs25 gr38 gi25 gl25 = zu none (d + 3) mX10_init Q 83 661 158 [some (.ref 0), some (.int (nI 2))] [.ref 83, .int (nI 2), .ref 68] gs26 gr39 gi26 gl26 := (ol_sp (as := []) (r := [.ref 83, .int (nI 2), .ref 68]) dX10_init_155 yO_10_63 yI_10_63 rfl rfl (by decide +kernel) (by decide +kernel) yM_6 (by decide) (Nat.le_of_ble_eq_true rfl) (Nat.le_of_ble_eq_true rfl)).trans (w1 (d := d + 1) (by decide +kernel) (by decide +kernel) (by decide +kernel))
set_option maxRecDepth 20000 in
theorem q10_93 {d : Nat} {Q : zPo} : zu none (d + 3) mX10_init Q 83 661 158 [some (.ref 0), some (.int (nI 2))] [.ref 83, .int (nI 2), .ref 68] gs26 gr39 gi26 gl26 = zu none (d + 3) mX10_init Q 83 661 159 [some (.ref 0), some (.int (nI 2))] [] gs26 gr40 gi26 gl26 := ol_aas dX10_init_158 (by decide +kernel) (by decide +kernel) (vp_in_nI (by decide +kernel) (by decide +kernel)) (by decide +kernel)
set_option maxRecDepth 20000 in
theorem q10_94 {d : Nat} {Q : zPo} : zu none (d + 3) mX10_init Q 83 661 159 [some (.ref 0), some (.int (nI 2))] [] gs26 gr40 gi26 gl26 = zu none (d + 3) mX10_init Q 83 661 160 [some (.ref 0), some (.int (nI 2))] [.ref 0] gs26 gr40 gi26 gl26 := ol_aload_n dX10_init_159 rfl
set_option maxRecDepth 20000 in
theorem q10_95 {d : Nat} {Q : zPo} : zu none (d + 3) mX10_init Q 83 661 160 [some (.ref 0), some (.int (nI 2))] [.ref 0] gs26 gr40 gi26 gl26 = zu none (d + 3) mX10_init Q 83 661 163 [some (.ref 0), some (.int (nI 2))] [.ref 68] gs26 gr40 gi26 gl26 := ol_getr dX10_init_160 (by decide) yF_10_53 (by decide +kernel) (by decide +kernel) (by decide +kernel)
set_option maxRecDepth 20000 in
theorem q10_96 {d : Nat} {Q : zPo} : zu none (d + 3) mX10_init Q 83 661 163 [some (.ref 0), some (.int (nI 2))] [.ref 68] gs26 gr40 gi26 gl26 = zu none (d + 3) mX10_init Q 83 661 164 [some (.ref 0), some (.int (nI 2))] [.int (nI 3), .ref 68] gs26 gr40 gi26 gl26 := ol_iconst dX10_init_163 rfl
set_option maxRecDepth 20000 in
theorem q10_97 {d : Nat} {Q : zPo} : zu none (d + 3) mX10_init Q 83 661 164 [some (.ref 0), some (.int (nI 2))] [.int (nI 3), .ref 68] gs26 gr40 gi26 gl26 = zu none (d + 3) mX10_init Q 84 662 167 [some (.ref 0), some (.int (nI 2))] [.ref 84, .int (nI 3), .ref 68] gs27 gr41 gi27 gl27 := ol_new (ci := 3) (n := 1) (σ := gs26) (ρ := gr40) (I := gi26) (L := gl26) dX10_init_164 yN_10_64 rfl (Nat.le_of_ble_eq_true rfl) (Nat.le_of_ble_eq_true rfl) (show gs26.1 < 4000 by decide +kernel) (Nat.le_of_ble_eq_true rfl)
set_option maxRecDepth 20000 in
theorem q10_98 {d : Nat} {Q : zPo} : zu none (d + 3) mX10_init Q 84 662 167 [some (.ref 0), some (.int (nI 2))] [.ref 84, .int (nI 3), .ref 68] gs27 gr41 gi27 gl27 = zu none (d + 3) mX10_init Q 84 662 168 [some (.ref 0), some (.int (nI 2))] [.ref 84, .ref 84, .int (nI 3), .ref 68] gs27 gr41 gi27 gl27 := ol_dup dX10_init_167 rfl
set_option maxRecDepth 20000 in
theorem q10_99 {d : Nat} {Q : zPo} : zu none (d + 3) mX10_init Q 84 662 168 [some (.ref 0), some (.int (nI 2))] [.ref 84, .ref 84, .int (nI 3), .ref 68] gs27 gr41 gi27 gl27 = zu none (d + 3) mX10_init Q 84 662 171 [some (.ref 0), some (.int (nI 2))] [.ref 84, .int (nI 3), .ref 68] gs28 gr42 gi28 gl28 := (ol_sp (as := []) (r := [.ref 84, .int (nI 3), .ref 68]) dX10_init_168 yO_10_66 yI_10_66 rfl rfl (by decide +kernel) (by decide +kernel) yM_10 (by decide) (Nat.le_of_ble_eq_true rfl) (Nat.le_of_ble_eq_true rfl)).trans (w3 (d := d + 0) (by decide +kernel) (by decide +kernel) (by decide +kernel))
set_option maxRecDepth 20000 in
theorem q10_100 {d : Nat} {Q : zPo} : zu none (d + 3) mX10_init Q 84 662 171 [some (.ref 0), some (.int (nI 2))] [.ref 84, .int (nI 3), .ref 68] gs28 gr42 gi28 gl28 = zu none (d + 3) mX10_init Q 84 662 172 [some (.ref 0), some (.int (nI 2))] [] gs28 gr43 gi28 gl28 := ol_aas dX10_init_171 (by decide +kernel) (by decide +kernel) (vp_in_nI (by decide +kernel) (by decide +kernel)) (by decide +kernel)
set_option maxRecDepth 20000 in
theorem q10_101 {d : Nat} {Q : zPo} : zu none (d + 3) mX10_init Q 84 662 172 [some (.ref 0), some (.int (nI 2))] [] gs28 gr43 gi28 gl28 = zu none (d + 3) mX10_init Q 84 662 173 [some (.ref 0), some (.int (nI 2))] [.ref 0] gs28 gr43 gi28 gl28 := ol_aload_n dX10_init_172 rfl
set_option maxRecDepth 20000 in
theorem q10_102 {d : Nat} {Q : zPo} : zu none (d + 3) mX10_init Q 84 662 173 [some (.ref 0), some (.int (nI 2))] [.ref 0] gs28 gr43 gi28 gl28 = zu none (d + 3) mX10_init Q 84 662 176 [some (.ref 0), some (.int (nI 2))] [.ref 68] gs28 gr43 gi28 gl28 := ol_getr dX10_init_173 (by decide) yF_10_53 (by decide +kernel) (by decide +kernel) (by decide +kernel)
set_option maxRecDepth 20000 in
theorem q10_103 {d : Nat} {Q : zPo} : zu none (d + 3) mX10_init Q 84 662 176 [some (.ref 0), some (.int (nI 2))] [.ref 68] gs28 gr43 gi28 gl28 = zu none (d + 3) mX10_init Q 84 662 177 [some (.ref 0), some (.int (nI 2))] [.int (nI 4), .ref 68] gs28 gr43 gi28 gl28 := ol_iconst dX10_init_176 rfl
set_option maxRecDepth 20000 in
theorem q10_104 {d : Nat} {Q : zPo} : zu none (d + 3) mX10_init Q 84 662 177 [some (.ref 0), some (.int (nI 2))] [.int (nI 4), .ref 68] gs28 gr43 gi28 gl28 = zu none (d + 3) mX10_init Q 85 663 180 [some (.ref 0), some (.int (nI 2))] [.ref 85, .int (nI 4), .ref 68] gs29 gr44 gi29 gl29 := ol_new (ci := 5) (n := 1) (σ := gs28) (ρ := gr43) (I := gi28) (L := gl28) dX10_init_177 yN_10_67 rfl (Nat.le_of_ble_eq_true rfl) (Nat.le_of_ble_eq_true rfl) (show gs28.1 < 4000 by decide +kernel) (Nat.le_of_ble_eq_true rfl)
set_option maxRecDepth 20000 in
theorem q10_105 {d : Nat} {Q : zPo} : zu none (d + 3) mX10_init Q 85 663 180 [some (.ref 0), some (.int (nI 2))] [.ref 85, .int (nI 4), .ref 68] gs29 gr44 gi29 gl29 = zu none (d + 3) mX10_init Q 85 663 181 [some (.ref 0), some (.int (nI 2))] [.ref 85, .ref 85, .int (nI 4), .ref 68] gs29 gr44 gi29 gl29 := ol_dup dX10_init_180 rfl
set_option maxRecDepth 20000 in
theorem q10_106 {d : Nat} {Q : zPo} : zu none (d + 3) mX10_init Q 85 663 181 [some (.ref 0), some (.int (nI 2))] [.ref 85, .ref 85, .int (nI 4), .ref 68] gs29 gr44 gi29 gl29 = zu none (d + 3) mX10_init Q 85 663 184 [some (.ref 0), some (.int (nI 2))] [.ref 85, .int (nI 4), .ref 68] gs30 gr45 gi30 gl30 := (ol_sp (as := []) (r := [.ref 85, .int (nI 4), .ref 68]) dX10_init_181 yO_10_69 yI_10_69 rfl rfl (by decide +kernel) (by decide +kernel) yM_14 (by decide) (Nat.le_of_ble_eq_true rfl) (Nat.le_of_ble_eq_true rfl)).trans (w5 (d := d + 0) (by decide +kernel) (by decide +kernel) (by decide +kernel))
set_option maxRecDepth 20000 in
theorem q10_107 {d : Nat} {Q : zPo} : zu none (d + 3) mX10_init Q 85 663 184 [some (.ref 0), some (.int (nI 2))] [.ref 85, .int (nI 4), .ref 68] gs30 gr45 gi30 gl30 = zu none (d + 3) mX10_init Q 85 663 185 [some (.ref 0), some (.int (nI 2))] [] gs30 gr46 gi30 gl30 := ol_aas dX10_init_184 (by decide +kernel) (by decide +kernel) (vp_in_nI (by decide +kernel) (by decide +kernel)) (by decide +kernel)
set_option maxRecDepth 20000 in
theorem q10_108 {d : Nat} {Q : zPo} : zu none (d + 3) mX10_init Q 85 663 185 [some (.ref 0), some (.int (nI 2))] [] gs30 gr46 gi30 gl30 = zu none (d + 3) mX10_init Q 85 663 186 [some (.ref 0), some (.int (nI 2))] [.ref 0] gs30 gr46 gi30 gl30 := ol_aload_n dX10_init_185 rfl
set_option maxRecDepth 20000 in
theorem q10_109 {d : Nat} {Q : zPo} : zu none (d + 3) mX10_init Q 85 663 186 [some (.ref 0), some (.int (nI 2))] [.ref 0] gs30 gr46 gi30 gl30 = zu none (d + 3) mX10_init Q 85 663 189 [some (.ref 0), some (.int (nI 2))] [.ref 68] gs30 gr46 gi30 gl30 := ol_getr dX10_init_186 (by decide) yF_10_53 (by decide +kernel) (by decide +kernel) (by decide +kernel)
set_option maxRecDepth 20000 in
theorem q10_110 {d : Nat} {Q : zPo} : zu none (d + 3) mX10_init Q 85 663 189 [some (.ref 0), some (.int (nI 2))] [.ref 68] gs30 gr46 gi30 gl30 = zu none (d + 3) mX10_init Q 85 663 190 [some (.ref 0), some (.int (nI 2))] [.int (nI 5), .ref 68] gs30 gr46 gi30 gl30 := ol_iconst dX10_init_189 rfl
set_option maxRecDepth 20000 in
theorem q10_111 {d : Nat} {Q : zPo} : zu none (d + 3) mX10_init Q 85 663 190 [some (.ref 0), some (.int (nI 2))] [.int (nI 5), .ref 68] gs30 gr46 gi30 gl30 = zu none (d + 3) mX10_init Q 86 664 193 [some (.ref 0), some (.int (nI 2))] [.ref 86, .int (nI 5), .ref 68] gs31 gr47 gi31 gl31 := ol_new (ci := 4) (n := 1) (σ := gs30) (ρ := gr46) (I := gi30) (L := gl30) dX10_init_190 yN_10_70 rfl (Nat.le_of_ble_eq_true rfl) (Nat.le_of_ble_eq_true rfl) (show gs30.1 < 4000 by decide +kernel) (Nat.le_of_ble_eq_true rfl)
set_option maxRecDepth 20000 in
theorem q10_112 {d : Nat} {Q : zPo} : zu none (d + 3) mX10_init Q 86 664 193 [some (.ref 0), some (.int (nI 2))] [.ref 86, .int (nI 5), .ref 68] gs31 gr47 gi31 gl31 = zu none (d + 3) mX10_init Q 86 664 194 [some (.ref 0), some (.int (nI 2))] [.ref 86, .ref 86, .int (nI 5), .ref 68] gs31 gr47 gi31 gl31 := ol_dup dX10_init_193 rfl
set_option maxRecDepth 20000 in
theorem q10_113 {d : Nat} {Q : zPo} : zu none (d + 3) mX10_init Q 86 664 194 [some (.ref 0), some (.int (nI 2))] [.ref 86, .ref 86, .int (nI 5), .ref 68] gs31 gr47 gi31 gl31 = zu none (d + 3) mX10_init Q 86 664 197 [some (.ref 0), some (.int (nI 2))] [.ref 86, .int (nI 5), .ref 68] gs32 gr48 gi32 gl32 := (ol_sp (as := []) (r := [.ref 86, .int (nI 5), .ref 68]) dX10_init_194 yO_10_72 yI_10_72 rfl rfl (by decide +kernel) (by decide +kernel) yM_12 (by decide) (Nat.le_of_ble_eq_true rfl) (Nat.le_of_ble_eq_true rfl)).trans (w4 (d := d + 1) (by decide +kernel) (by decide +kernel) (by decide +kernel))
set_option maxRecDepth 20000 in
theorem q10_114 {d : Nat} {Q : zPo} : zu none (d + 3) mX10_init Q 86 664 197 [some (.ref 0), some (.int (nI 2))] [.ref 86, .int (nI 5), .ref 68] gs32 gr48 gi32 gl32 = zu none (d + 3) mX10_init Q 86 664 198 [some (.ref 0), some (.int (nI 2))] [] gs32 gr49 gi32 gl32 := ol_aas dX10_init_197 (by decide +kernel) (by decide +kernel) (vp_in_nI (by decide +kernel) (by decide +kernel)) (by decide +kernel)
set_option maxRecDepth 20000 in
theorem q10_115 {d : Nat} {Q : zPo} : zu none (d + 3) mX10_init Q 86 664 198 [some (.ref 0), some (.int (nI 2))] [] gs32 gr49 gi32 gl32 = Q none gs32 gr49 gi32 gl32 := ol_return dX10_init_198 rfl (Nat.le_of_ble_eq_true rfl) (Nat.le_of_ble_eq_true rfl)
set_option maxRecDepth 20000 in
theorem w10 {d : Nat} {Q : zPo} : zW (d + 4) mX10_init [.ref 0] gs1 gr1 gi1 gl1 Q = Q none gs32 gr49 gi32 gl32 := (((((((((((((((((((((((((((((((((((((((((((((((((((((((((((((((((((((((((((((((((((((((((((((((((((((((((((((((((((((ol_entry (mm := mX10_init) (Nat.le_of_ble_eq_true rfl) rfl)).trans q10_0).trans q10_1).trans q10_2).trans q10_3).trans q10_4).trans q10_5).trans q10_6).trans q10_7).trans q10_8).trans q10_9).trans q10_10).trans q10_11).trans q10_12).trans q10_13).trans q10_14).trans q10_15).trans q10_16).trans q10_17).trans q10_18).trans q10_19).trans q10_20).trans q10_21).trans q10_22).trans q10_23).trans q10_24).trans q10_25).trans q10_26).trans q10_27).trans q10_28).trans q10_29).trans q10_30).trans q10_31).trans q10_32).trans q10_33).trans q10_34).trans q10_35).trans q10_36).trans q10_37).trans q10_38).trans q10_39).trans q10_40).trans q10_41).trans q10_42).trans q10_43).trans q10_44).trans q10_45).trans q10_46).trans q10_47).trans q10_48).trans q10_49).trans q10_50).trans q10_51).trans q10_52).trans q10_53).trans q10_54).trans q10_55).trans q10_56).trans q10_57).trans q10_58).trans q10_59).trans q10_60).trans q10_61).trans q10_62).trans q10_63).trans q10_64).trans q10_65).trans q10_66).trans q10_67).trans q10_68).trans q10_69).trans q10_70).trans q10_71).trans q10_72).trans q10_73).trans q10_74).trans q10_75).trans q10_76).trans q10_77).trans q10_78).trans q10_79).trans q10_80).trans q10_81).trans q10_82).trans q10_83).trans q10_84).trans q10_85).trans q10_86).trans q10_87).trans q10_88).trans q10_89).trans q10_90).trans q10_91).trans q10_92).trans q10_93).trans q10_94).trans q10_95).trans q10_96).trans q10_97).trans q10_98).trans q10_99).trans q10_100).trans q10_101).trans q10_102).trans q10_103).trans q10_104).trans q10_105).trans q10_106).trans q10_107).trans q10_108).trans q10_109).trans q10_110).trans q10_111).trans q10_112).trans q10_113).trans q10_114).trans q10_115
set_option maxRecDepth 20000 in
theorem q11_0 {d : Nat} {Q : zPo} : zu none (d + 3) mX11_init Q 0 0 0 [some (.ref 87)] [] gs33 gr50 gi33 gl33 = zu none (d + 3) mX11_init Q 0 0 1 [some (.ref 87)] [.ref 87] gs33 gr50 gi33 gl33 := ol_aload_n dX11_init_0 rfl
set_option maxRecDepth 20000 in
theorem q11_1 {d : Nat} {Q : zPo} : zu none (d + 3) mX11_init Q 0 0 1 [some (.ref 87)] [.ref 87] gs33 gr50 gi33 gl33 = zu none (d + 3) mX11_init Q 0 0 4 [some (.ref 87)] [] gs33 gr50 gi33 gl33 := ol_obj dX11_init_1 yO_11_1 (by decide)
set_option maxRecDepth 20000 in
theorem q11_2 {d : Nat} {Q : zPo} : zu none (d + 3) mX11_init Q 0 0 4 [some (.ref 87)] [] gs33 gr50 gi33 gl33 = zu none (d + 3) mX11_init Q 0 0 5 [some (.ref 87)] [.ref 87] gs33 gr50 gi33 gl33 := ol_aload_n dX11_init_4 rfl
set_option maxRecDepth 20000 in
theorem q11_3 {d : Nat} {Q : zPo} : zu none (d + 3) mX11_init Q 0 0 5 [some (.ref 87)] [.ref 87] gs33 gr50 gi33 gl33 = zu none (d + 3) mX11_init Q 0 0 6 [some (.ref 87)] [.int (nI 1), .ref 87] gs33 gr50 gi33 gl33 := ol_iconst dX11_init_5 rfl
set_option maxRecDepth 20000 in
theorem q11_4 {d : Nat} {Q : zPo} : zu none (d + 3) mX11_init Q 0 0 6 [some (.ref 87)] [.int (nI 1), .ref 87] gs33 gr50 gi33 gl33 = zu none (d + 3) mX11_init Q 0 0 9 [some (.ref 87)] [] gs33 gr50 gi34 gl33 := ol_puti dX11_init_6 yF_11_7 (by decide +kernel) (by decide +kernel) rfl (by decide +kernel)
set_option maxRecDepth 20000 in
theorem q11_5 {d : Nat} {Q : zPo} : zu none (d + 3) mX11_init Q 0 0 9 [some (.ref 87)] [] gs33 gr50 gi34 gl33 = zu none (d + 3) mX11_init Q 0 0 10 [some (.ref 87)] [.ref 87] gs33 gr50 gi34 gl33 := ol_aload_n dX11_init_9 rfl
set_option maxRecDepth 20000 in
theorem q11_6 {d : Nat} {Q : zPo} : zu none (d + 3) mX11_init Q 0 0 10 [some (.ref 87)] [.ref 87] gs33 gr50 gi34 gl33 = zu none (d + 3) mX11_init Q 0 0 13 [some (.ref 87)] [.int (nI 200), .ref 87] gs33 gr50 gi34 gl33 := ol_sipush dX11_init_10 rfl
set_option maxRecDepth 20000 in
theorem q11_7 {d : Nat} {Q : zPo} : zu none (d + 3) mX11_init Q 0 0 13 [some (.ref 87)] [.int (nI 200), .ref 87] gs33 gr50 gi34 gl33 = zu none (d + 3) mX11_init Q 1 200 15 [some (.ref 87)] [.ref 88, .ref 87] gs34 gr51 gi35 gl34 := ol_nai (n := 200) dX11_init_13 (by decide +kernel) (by decide +kernel) (Nat.le_of_ble_eq_true rfl) (Nat.le_of_ble_eq_true rfl) (show gs33.1 < 4000 by decide +kernel) (Nat.le_of_ble_eq_true rfl)
set_option maxRecDepth 20000 in
theorem q11_8 {d : Nat} {Q : zPo} : zu none (d + 3) mX11_init Q 1 200 15 [some (.ref 87)] [.ref 88, .ref 87] gs34 gr51 gi35 gl34 = zu none (d + 3) mX11_init Q 1 200 18 [some (.ref 87)] [] gs34 gr52 gi35 gl34 := ol_putr dX11_init_15 yF_11_13 (by decide +kernel) (by decide +kernel) rfl (by decide +kernel)
set_option maxRecDepth 20000 in
theorem q11_9 {d : Nat} {Q : zPo} : zu none (d + 3) mX11_init Q 1 200 18 [some (.ref 87)] [] gs34 gr52 gi35 gl34 = zu none (d + 3) mX11_init Q 1 200 19 [some (.ref 87)] [.ref 87] gs34 gr52 gi35 gl34 := ol_aload_n dX11_init_18 rfl
set_option maxRecDepth 20000 in
theorem q11_10 {d : Nat} {Q : zPo} : zu none (d + 3) mX11_init Q 1 200 19 [some (.ref 87)] [.ref 87] gs34 gr52 gi35 gl34 = zu none (d + 3) mX11_init Q 1 200 21 [some (.ref 87)] [.int (nI 49), .ref 87] gs34 gr52 gi35 gl34 := ol_bipush dX11_init_19 rfl
set_option maxRecDepth 20000 in
theorem q11_11 {d : Nat} {Q : zPo} : zu none (d + 3) mX11_init Q 1 200 21 [some (.ref 87)] [.int (nI 49), .ref 87] gs34 gr52 gi35 gl34 = zu none (d + 3) mX11_init Q 2 249 23 [some (.ref 87)] [.ref 89, .ref 87] gs35 gr53 gi36 gl35 := ol_nai (n := 49) dX11_init_21 (by decide +kernel) (by decide +kernel) (Nat.le_of_ble_eq_true rfl) (Nat.le_of_ble_eq_true rfl) (show gs34.1 < 4000 by decide +kernel) (Nat.le_of_ble_eq_true rfl)
set_option maxRecDepth 20000 in
theorem q11_12 {d : Nat} {Q : zPo} : zu none (d + 3) mX11_init Q 2 249 23 [some (.ref 87)] [.ref 89, .ref 87] gs35 gr53 gi36 gl35 = zu none (d + 3) mX11_init Q 2 249 26 [some (.ref 87)] [] gs35 gr54 gi36 gl35 := ol_putr dX11_init_23 yF_11_17 (by decide +kernel) (by decide +kernel) rfl (by decide +kernel)
set_option maxRecDepth 20000 in
theorem q11_13 {d : Nat} {Q : zPo} : zu none (d + 3) mX11_init Q 2 249 26 [some (.ref 87)] [] gs35 gr54 gi36 gl35 = zu none (d + 3) mX11_init Q 2 249 27 [some (.ref 87)] [.ref 87] gs35 gr54 gi36 gl35 := ol_aload_n dX11_init_26 rfl
set_option maxRecDepth 20000 in
theorem q11_14 {d : Nat} {Q : zPo} : zu none (d + 3) mX11_init Q 2 249 27 [some (.ref 87)] [.ref 87] gs35 gr54 gi36 gl35 = zu none (d + 3) mX11_init Q 2 249 29 [some (.ref 87)] [.int (nI 49), .ref 87] gs35 gr54 gi36 gl35 := ol_bipush dX11_init_27 rfl
set_option maxRecDepth 20000 in
theorem q11_15 {d : Nat} {Q : zPo} : zu none (d + 3) mX11_init Q 2 249 29 [some (.ref 87)] [.int (nI 49), .ref 87] gs35 gr54 gi36 gl35 = zu none (d + 3) mX11_init Q 3 298 31 [some (.ref 87)] [.ref 90, .ref 87] gs36 gr55 gi37 gl36 := ol_nai (n := 49) dX11_init_29 (by decide +kernel) (by decide +kernel) (Nat.le_of_ble_eq_true rfl) (Nat.le_of_ble_eq_true rfl) (show gs35.1 < 4000 by decide +kernel) (Nat.le_of_ble_eq_true rfl)
set_option maxRecDepth 20000 in
theorem q11_16 {d : Nat} {Q : zPo} : zu none (d + 3) mX11_init Q 3 298 31 [some (.ref 87)] [.ref 90, .ref 87] gs36 gr55 gi37 gl36 = zu none (d + 3) mX11_init Q 3 298 34 [some (.ref 87)] [] gs36 gr56 gi37 gl36 := ol_putr dX11_init_31 yF_11_20 (by decide +kernel) (by decide +kernel) rfl (by decide +kernel)
set_option maxRecDepth 20000 in
theorem q11_17 {d : Nat} {Q : zPo} : zu none (d + 3) mX11_init Q 3 298 34 [some (.ref 87)] [] gs36 gr56 gi37 gl36 = zu none (d + 3) mX11_init Q 3 298 35 [some (.ref 87)] [.ref 87] gs36 gr56 gi37 gl36 := ol_aload_n dX11_init_34 rfl
set_option maxRecDepth 20000 in
theorem q11_18 {d : Nat} {Q : zPo} : zu none (d + 3) mX11_init Q 3 298 35 [some (.ref 87)] [.ref 87] gs36 gr56 gi37 gl36 = zu none (d + 3) mX11_init Q 3 298 37 [some (.ref 87)] [.int (nI 36), .ref 87] gs36 gr56 gi37 gl36 := ol_bipush dX11_init_35 rfl
set_option maxRecDepth 20000 in
theorem q11_19 {d : Nat} {Q : zPo} : zu none (d + 3) mX11_init Q 3 298 37 [some (.ref 87)] [.int (nI 36), .ref 87] gs36 gr56 gi37 gl36 = zu none (d + 3) mX11_init Q 4 334 39 [some (.ref 87)] [.ref 91, .ref 87] gs37 gr57 gi38 gl37 := ol_nai (n := 36) dX11_init_37 (by decide +kernel) (by decide +kernel) (Nat.le_of_ble_eq_true rfl) (Nat.le_of_ble_eq_true rfl) (show gs36.1 < 4000 by decide +kernel) (Nat.le_of_ble_eq_true rfl)
set_option maxRecDepth 20000 in
theorem q11_20 {d : Nat} {Q : zPo} : zu none (d + 3) mX11_init Q 4 334 39 [some (.ref 87)] [.ref 91, .ref 87] gs37 gr57 gi38 gl37 = zu none (d + 3) mX11_init Q 4 334 42 [some (.ref 87)] [] gs37 gr58 gi38 gl37 := ol_putr dX11_init_39 yF_11_23 (by decide +kernel) (by decide +kernel) rfl (by decide +kernel)
set_option maxRecDepth 20000 in
theorem q11_21 {d : Nat} {Q : zPo} : zu none (d + 3) mX11_init Q 4 334 42 [some (.ref 87)] [] gs37 gr58 gi38 gl37 = zu none (d + 3) mX11_init Q 4 334 43 [some (.ref 87)] [.ref 87] gs37 gr58 gi38 gl37 := ol_aload_n dX11_init_42 rfl
set_option maxRecDepth 20000 in
theorem q11_22 {d : Nat} {Q : zPo} : zu none (d + 3) mX11_init Q 4 334 43 [some (.ref 87)] [.ref 87] gs37 gr58 gi38 gl37 = zu none (d + 3) mX11_init Q 4 334 45 [some (.ref 87)] [.int (nI 72), .ref 87] gs37 gr58 gi38 gl37 := ol_bipush dX11_init_43 rfl
set_option maxRecDepth 20000 in
theorem q11_23 {d : Nat} {Q : zPo} : zu none (d + 3) mX11_init Q 4 334 45 [some (.ref 87)] [.int (nI 72), .ref 87] gs37 gr58 gi38 gl37 = zu none (d + 3) mX11_init Q 5 406 47 [some (.ref 87)] [.ref 92, .ref 87] gs38 gr59 gi39 gl38 := ol_nai (n := 72) dX11_init_45 (by decide +kernel) (by decide +kernel) (Nat.le_of_ble_eq_true rfl) (Nat.le_of_ble_eq_true rfl) (show gs37.1 < 4000 by decide +kernel) (Nat.le_of_ble_eq_true rfl)
set_option maxRecDepth 20000 in
theorem q11_24 {d : Nat} {Q : zPo} : zu none (d + 3) mX11_init Q 5 406 47 [some (.ref 87)] [.ref 92, .ref 87] gs38 gr59 gi39 gl38 = zu none (d + 3) mX11_init Q 5 406 50 [some (.ref 87)] [] gs38 gr60 gi39 gl38 := ol_putr dX11_init_47 yF_11_26 (by decide +kernel) (by decide +kernel) rfl (by decide +kernel)
set_option maxRecDepth 20000 in
theorem q11_25 {d : Nat} {Q : zPo} : zu none (d + 3) mX11_init Q 5 406 50 [some (.ref 87)] [] gs38 gr60 gi39 gl38 = zu none (d + 3) mX11_init Q 5 406 51 [some (.ref 87)] [.ref 87] gs38 gr60 gi39 gl38 := ol_aload_n dX11_init_50 rfl
set_option maxRecDepth 20000 in
theorem q11_26 {d : Nat} {Q : zPo} : zu none (d + 3) mX11_init Q 5 406 51 [some (.ref 87)] [.ref 87] gs38 gr60 gi39 gl38 = zu none (d + 3) mX11_init Q 5 406 52 [some (.ref 87)] [.int (nI 2), .ref 87] gs38 gr60 gi39 gl38 := ol_iconst dX11_init_51 rfl
set_option maxRecDepth 20000 in
theorem q11_27 {d : Nat} {Q : zPo} : zu none (d + 3) mX11_init Q 5 406 52 [some (.ref 87)] [.int (nI 2), .ref 87] gs38 gr60 gi39 gl38 = zu none (d + 3) mX11_init Q 6 408 54 [some (.ref 87)] [.ref 93, .ref 87] gs39 gr61 gi40 gl39 := ol_naz (n := 2) dX11_init_52 (by decide +kernel) (by decide +kernel) (Nat.le_of_ble_eq_true rfl) (Nat.le_of_ble_eq_true rfl) (show gs38.1 < 4000 by decide +kernel) (Nat.le_of_ble_eq_true rfl)
set_option maxRecDepth 20000 in
theorem q11_28 {d : Nat} {Q : zPo} : zu none (d + 3) mX11_init Q 6 408 54 [some (.ref 87)] [.ref 93, .ref 87] gs39 gr61 gi40 gl39 = zu none (d + 3) mX11_init Q 6 408 57 [some (.ref 87)] [] gs39 gr62 gi40 gl39 := ol_putr dX11_init_54 yF_11_29 (by decide +kernel) (by decide +kernel) rfl (by decide +kernel)
set_option maxRecDepth 20000 in
theorem q11_29 {d : Nat} {Q : zPo} : zu none (d + 3) mX11_init Q 6 408 57 [some (.ref 87)] [] gs39 gr62 gi40 gl39 = zu none (d + 3) mX11_init Q 6 408 58 [some (.ref 87)] [.ref 87] gs39 gr62 gi40 gl39 := ol_aload_n dX11_init_57 rfl
set_option maxRecDepth 20000 in
theorem q11_30 {d : Nat} {Q : zPo} : zu none (d + 3) mX11_init Q 6 408 58 [some (.ref 87)] [.ref 87] gs39 gr62 gi40 gl39 = zu none (d + 3) mX11_init Q 6 408 59 [some (.ref 87)] [.int (nI 4), .ref 87] gs39 gr62 gi40 gl39 := ol_iconst dX11_init_58 rfl
set_option maxRecDepth 20000 in
theorem q11_31 {d : Nat} {Q : zPo} : zu none (d + 3) mX11_init Q 6 408 59 [some (.ref 87)] [.int (nI 4), .ref 87] gs39 gr62 gi40 gl39 = zu none (d + 3) mX11_init Q 7 412 61 [some (.ref 87)] [.ref 94, .ref 87] gs40 gr63 gi41 gl40 := ol_nai (n := 4) dX11_init_59 (by decide +kernel) (by decide +kernel) (Nat.le_of_ble_eq_true rfl) (Nat.le_of_ble_eq_true rfl) (show gs39.1 < 4000 by decide +kernel) (Nat.le_of_ble_eq_true rfl)
set_option maxRecDepth 20000 in
theorem q11_32 {d : Nat} {Q : zPo} : zu none (d + 3) mX11_init Q 7 412 61 [some (.ref 87)] [.ref 94, .ref 87] gs40 gr63 gi41 gl40 = zu none (d + 3) mX11_init Q 7 412 64 [some (.ref 87)] [] gs40 gr64 gi41 gl40 := ol_putr dX11_init_61 yF_11_33 (by decide +kernel) (by decide +kernel) rfl (by decide +kernel)
set_option maxRecDepth 20000 in
theorem q11_33 {d : Nat} {Q : zPo} : zu none (d + 3) mX11_init Q 7 412 64 [some (.ref 87)] [] gs40 gr64 gi41 gl40 = zu none (d + 3) mX11_init Q 7 412 65 [some (.ref 87)] [.ref 87] gs40 gr64 gi41 gl40 := ol_aload_n dX11_init_64 rfl
set_option maxRecDepth 20000 in
theorem q11_34 {d : Nat} {Q : zPo} : zu none (d + 3) mX11_init Q 7 412 65 [some (.ref 87)] [.ref 87] gs40 gr64 gi41 gl40 = zu none (d + 3) mX11_init Q 7 412 68 [some (.ref 87)] [.int (nI 3750), .ref 87] gs40 gr64 gi41 gl40 := ol_sipush dX11_init_65 rfl
set_option maxRecDepth 20000 in
theorem q11_35 {d : Nat} {Q : zPo} : zu none (d + 3) mX11_init Q 7 412 68 [some (.ref 87)] [.int (nI 3750), .ref 87] gs40 gr64 gi41 gl40 = zu none (d + 3) mX11_init Q 8 4162 70 [some (.ref 87)] [.ref 95, .ref 87] gs41 gr65 gi42 gl41 := ol_nal (n := 3750) dX11_init_68 (by decide +kernel) (by decide +kernel) (Nat.le_of_ble_eq_true rfl) (Nat.le_of_ble_eq_true rfl) (show gs40.1 < 4000 by decide +kernel) (Nat.le_of_ble_eq_true rfl)
set_option maxRecDepth 20000 in
theorem q11_36 {d : Nat} {Q : zPo} : zu none (d + 3) mX11_init Q 8 4162 70 [some (.ref 87)] [.ref 95, .ref 87] gs41 gr65 gi42 gl41 = zu none (d + 3) mX11_init Q 8 4162 73 [some (.ref 87)] [] gs41 gr66 gi42 gl41 := ol_putr dX11_init_70 yF_11_36 (by decide +kernel) (by decide +kernel) rfl (by decide +kernel)
set_option maxRecDepth 20000 in
theorem q11_37 {d : Nat} {Q : zPo} : zu none (d + 3) mX11_init Q 8 4162 73 [some (.ref 87)] [] gs41 gr66 gi42 gl41 = zu none (d + 3) mX11_init Q 8 4162 74 [some (.ref 87)] [.ref 87] gs41 gr66 gi42 gl41 := ol_aload_n dX11_init_73 rfl
set_option maxRecDepth 20000 in
theorem q11_38 {d : Nat} {Q : zPo} : zu none (d + 3) mX11_init Q 8 4162 74 [some (.ref 87)] [.ref 87] gs41 gr66 gi42 gl41 = zu none (d + 3) mX11_init Q 8 4162 77 [some (.ref 87)] [.int (nI 3750), .ref 87] gs41 gr66 gi42 gl41 := ol_sipush dX11_init_74 rfl
set_option maxRecDepth 20000 in
theorem q11_39 {d : Nat} {Q : zPo} : zu none (d + 3) mX11_init Q 8 4162 77 [some (.ref 87)] [.int (nI 3750), .ref 87] gs41 gr66 gi42 gl41 = zu none (d + 3) mX11_init Q 9 7912 79 [some (.ref 87)] [.ref 96, .ref 87] gs42 gr67 gi43 gl42 := ol_nal (n := 3750) dX11_init_77 (by decide +kernel) (by decide +kernel) (Nat.le_of_ble_eq_true rfl) (Nat.le_of_ble_eq_true rfl) (show gs41.1 < 4000 by decide +kernel) (Nat.le_of_ble_eq_true rfl)
set_option maxRecDepth 20000 in
theorem q11_40 {d : Nat} {Q : zPo} : zu none (d + 3) mX11_init Q 9 7912 79 [some (.ref 87)] [.ref 96, .ref 87] gs42 gr67 gi43 gl42 = zu none (d + 3) mX11_init Q 9 7912 82 [some (.ref 87)] [] gs42 gr68 gi43 gl42 := ol_putr dX11_init_79 yF_11_40 (by decide +kernel) (by decide +kernel) rfl (by decide +kernel)
set_option maxRecDepth 20000 in
theorem q11_41 {d : Nat} {Q : zPo} : zu none (d + 3) mX11_init Q 9 7912 82 [some (.ref 87)] [] gs42 gr68 gi43 gl42 = zu none (d + 3) mX11_init Q 9 7912 83 [some (.ref 87)] [.ref 87] gs42 gr68 gi43 gl42 := ol_aload_n dX11_init_82 rfl
set_option maxRecDepth 20000 in
theorem q11_42 {d : Nat} {Q : zPo} : zu none (d + 3) mX11_init Q 9 7912 83 [some (.ref 87)] [.ref 87] gs42 gr68 gi43 gl42 = zu none (d + 3) mX11_init Q 9 7912 84 [some (.ref 87)] [.int (nI 2), .ref 87] gs42 gr68 gi43 gl42 := ol_iconst dX11_init_83 rfl
set_option maxRecDepth 20000 in
theorem q11_43 {d : Nat} {Q : zPo} : zu none (d + 3) mX11_init Q 9 7912 84 [some (.ref 87)] [.int (nI 2), .ref 87] gs42 gr68 gi43 gl42 = zu none (d + 3) mX11_init Q 10 7914 86 [some (.ref 87)] [.ref 97, .ref 87] gs43 gr69 gi44 gl43 := ol_nai (n := 2) dX11_init_84 (by decide +kernel) (by decide +kernel) (Nat.le_of_ble_eq_true rfl) (Nat.le_of_ble_eq_true rfl) (show gs42.1 < 4000 by decide +kernel) (Nat.le_of_ble_eq_true rfl)
set_option maxRecDepth 20000 in
theorem q11_44 {d : Nat} {Q : zPo} : zu none (d + 3) mX11_init Q 10 7914 86 [some (.ref 87)] [.ref 97, .ref 87] gs43 gr69 gi44 gl43 = zu none (d + 3) mX11_init Q 10 7914 89 [some (.ref 87)] [] gs43 gr70 gi44 gl43 := ol_putr dX11_init_86 yF_11_43 (by decide +kernel) (by decide +kernel) rfl (by decide +kernel)
set_option maxRecDepth 20000 in
theorem q11_45 {d : Nat} {Q : zPo} : zu none (d + 3) mX11_init Q 10 7914 89 [some (.ref 87)] [] gs43 gr70 gi44 gl43 = zu none (d + 3) mX11_init Q 10 7914 90 [some (.ref 87)] [.ref 87] gs43 gr70 gi44 gl43 := ol_aload_n dX11_init_89 rfl
set_option maxRecDepth 20000 in
theorem q11_46 {d : Nat} {Q : zPo} : zu none (d + 3) mX11_init Q 10 7914 90 [some (.ref 87)] [.ref 87] gs43 gr70 gi44 gl43 = zu none (d + 3) mX11_init Q 10 7914 93 [some (.ref 87)] [.ref 91] gs43 gr70 gi44 gl43 := ol_getr dX11_init_90 (by decide) yF_11_23 (by decide +kernel) (by decide +kernel) (by decide +kernel)
set_option maxRecDepth 20000 in
theorem q11_47 {d : Nat} {Q : zPo} : zu none (d + 3) mX11_init Q 10 7914 93 [some (.ref 87)] [.ref 91] gs43 gr70 gi44 gl43 = zu none (d + 3) mX11_init Q 10 7914 94 [some (.ref 87)] [.int (nI 0), .ref 91] gs43 gr70 gi44 gl43 := ol_iconst dX11_init_93 rfl
set_option maxRecDepth 20000 in
theorem q11_48 {d : Nat} {Q : zPo} : zu none (d + 3) mX11_init Q 10 7914 94 [some (.ref 87)] [.int (nI 0), .ref 91] gs43 gr70 gi44 gl43 = zu none (d + 3) mX11_init Q 10 7914 96 [some (.ref 87)] [.int (-9), .int (nI 0), .ref 91] gs43 gr70 gi44 gl43 := ol_bipush dX11_init_94 rfl
set_option maxRecDepth 20000 in
theorem q11_49 {d : Nat} {Q : zPo} : zu none (d + 3) mX11_init Q 10 7914 96 [some (.ref 87)] [.int (-9), .int (nI 0), .ref 91] gs43 gr70 gi44 gl43 = zu none (d + 3) mX11_init Q 10 7914 97 [some (.ref 87)] [] gs43 gr70 gi45 gl43 := ol_ias dX11_init_96 ⟨by decide +kernel, by decide +kernel, vp_in_nI (by decide +kernel) (by decide +kernel)⟩
set_option maxRecDepth 20000 in
theorem q11_50 {d : Nat} {Q : zPo} : zu none (d + 3) mX11_init Q 10 7914 97 [some (.ref 87)] [] gs43 gr70 gi45 gl43 = Q none gs43 gr70 gi45 gl43 := ol_return dX11_init_97 rfl (Nat.le_of_ble_eq_true rfl) (Nat.le_of_ble_eq_true rfl)
set_option maxRecDepth 20000 in
theorem w11 {d : Nat} {Q : zPo} : zW (d + 4) mX11_init [.ref 87] gs33 gr50 gi33 gl33 Q = Q none gs43 gr70 gi45 gl43 := ((((((((((((((((((((((((((((((((((((((((((((((((((((ol_entry (mm := mX11_init) (Nat.le_of_ble_eq_true rfl) rfl)).trans q11_0).trans q11_1).trans q11_2).trans q11_3).trans q11_4).trans q11_5).trans q11_6).trans q11_7).trans q11_8).trans q11_9).trans q11_10).trans q11_11).trans q11_12).trans q11_13).trans q11_14).trans q11_15).trans q11_16).trans q11_17).trans q11_18).trans q11_19).trans q11_20).trans q11_21).trans q11_22).trans q11_23).trans q11_24).trans q11_25).trans q11_26).trans q11_27).trans q11_28).trans q11_29).trans q11_30).trans q11_31).trans q11_32).trans q11_33).trans q11_34).trans q11_35).trans q11_36).trans q11_37).trans q11_38).trans q11_39).trans q11_40).trans q11_41).trans q11_42).trans q11_43).trans q11_44).trans q11_45).trans q11_46).trans q11_47).trans q11_48).trans q11_49).trans q11_50
