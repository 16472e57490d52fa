/-! THE CLASS reads the text: memory, words, tokens -/
/-- as it reads: at, start, token, number, ringTold, lawTold; the town that is told to -/
def zxc (I : zIm) (x : Bool) (a s t m e f : Int32) (F : zIm) : zIm := fun c j => if c = 1 then (if j = 2 then a else if j = 3 then s else if j = 4 then t else if j = 5 then m else if j = 6 then e else if j = 7 then f else I 1 j) else if tc x 0 ≤ c ∧ c ≤ tc x 22 then F (c - tc x 0) j else I c j
section ZX
variable {I F : zIm} {x : Bool} {a s t m e f v : Int32}
theorem tc_b (x : Bool) {c : Nat} (h : c ≤ 22) : tc x 0 ≤ tc x c ∧ tc x c ≤ tc x 22 ∧ tc x c - tc x 0 = c ∧ tc x c ≠ 1 := by
  unfold tc; rw [show min c 22 = c by omega, show min 0 22 = 0 by omega, show min 22 22 = 22 by omega]
  cases x <;> simp <;> omega
theorem zxc_2 : zxc I x a s t m e f F 1 2 = a := rfl
theorem zxc_3 : zxc I x a s t m e f F 1 3 = s := rfl
theorem zxc_4 : zxc I x a s t m e f F 1 4 = t := rfl
theorem zxc_5 : zxc I x a s t m e f F 1 5 = m := rfl
theorem zxc_6 : zxc I x a s t m e f F 1 6 = e := rfl
theorem zxc_7 : zxc I x a s t m e f F 1 7 = f := rfl
theorem zxc_0 : zxc I x a s t m e f F 1 0 = I 1 0 := rfl
theorem zxc_b : zxc I x a s t m e f F 2 = I 2 := by
  funext j; unfold zxc
  rw [if_neg (by decide), if_neg (fun q => by have := tc_r x 0; omega)]
theorem zxc_r {c : Nat} (h1 : c ≠ 1) (h2 : ¬ (tc x 0 ≤ c ∧ c ≤ tc x 22)) : zxc I x a s t m e f F c = I c := by
  funext j; unfold zxc
  rw [if_neg h1, if_neg h2]
theorem zxc_T {c : Nat} (h : c ≤ 22) : zxc I x a s t m e f F (tc x c) = F c := by
  obtain ⟨h1, h2, h3, h4⟩ := tc_b x h
  funext j; unfold zxc
  rw [if_neg h4, if_pos ⟨h1, h2⟩, h3]
theorem zxc_uT {c j : Nat} (h : c ≤ 22) : zup (zxc I x a s t m e f F) (tc x c) j v = zxc I x a s t m e f (zup F c j v) := by
  obtain ⟨h1, h2, h3, h4⟩ := tc_b x h
  funext b i; unfold zup zxc
  by_cases q : b = tc x c
  · rw [q]
    by_cases q2 : i = j
    · rw [if_pos ⟨rfl, q2⟩, if_neg h4, if_pos ⟨h1, h2⟩, h3]; exact (if_pos ⟨rfl, q2⟩).symm
    · rw [if_neg (fun p => q2 p.2), if_neg h4, if_neg h4, if_pos ⟨h1, h2⟩, if_pos ⟨h1, h2⟩, h3]; exact (if_neg (fun p => q2 p.2)).symm
  · rw [if_neg (fun p => q p.1)]
    by_cases q1 : b = 1
    · rw [if_pos q1, if_pos q1]
    · rw [if_neg q1, if_neg q1]
      by_cases q3 : tc x 0 ≤ b ∧ b ≤ tc x 22
      · rw [if_pos q3, if_pos q3]
        exact (if_neg (fun p => q (by omega))).symm
      · rw [if_neg q3, if_neg q3]
theorem zxc_u2 : zup (zxc I x a s t m e f F) 1 2 v = zxc I x v s t m e f F := by
  funext b i; unfold zup zxc
  by_cases q : b = 1
  · by_cases q2 : i = 2
    · rw [if_pos ⟨q, q2⟩, if_pos q, q2]; rfl
    · rw [if_neg (fun p => q2 p.2), if_pos q, if_pos q]; simp only [if_neg q2]
  · rw [if_neg (fun p => q p.1), if_neg q, if_neg q]
theorem zxc_u3 : zup (zxc I x a s t m e f F) 1 3 v = zxc I x a v t m e f F := by
  funext b i; unfold zup zxc
  by_cases q : b = 1
  · by_cases q2 : i = 3
    · rw [if_pos ⟨q, q2⟩, if_pos q, q2]; rfl
    · rw [if_neg (fun p => q2 p.2), if_pos q, if_pos q]; simp only [if_neg q2]
  · rw [if_neg (fun p => q p.1), if_neg q, if_neg q]
theorem zxc_u4 : zup (zxc I x a s t m e f F) 1 4 v = zxc I x a s v m e f F := by
  funext b i; unfold zup zxc
  by_cases q : b = 1
  · by_cases q2 : i = 4
    · rw [if_pos ⟨q, q2⟩, if_pos q, q2]; rfl
    · rw [if_neg (fun p => q2 p.2), if_pos q, if_pos q]; simp only [if_neg q2]
  · rw [if_neg (fun p => q p.1), if_neg q, if_neg q]
theorem zxc_u5 : zup (zxc I x a s t m e f F) 1 5 v = zxc I x a s t v e f F := by
  funext b i; unfold zup zxc
  by_cases q : b = 1
  · by_cases q2 : i = 5
    · rw [if_pos ⟨q, q2⟩, if_pos q, q2]; rfl
    · rw [if_neg (fun p => q2 p.2), if_pos q, if_pos q]; simp only [if_neg q2]
  · rw [if_neg (fun p => q p.1), if_neg q, if_neg q]
theorem zxc_u6 : zup (zxc I x a s t m e f F) 1 6 v = zxc I x a s t m v f F := by
  funext b i; unfold zup zxc
  by_cases q : b = 1
  · by_cases q2 : i = 6
    · rw [if_pos ⟨q, q2⟩, if_pos q, q2]; rfl
    · rw [if_neg (fun p => q2 p.2), if_pos q, if_pos q]; simp only [if_neg q2]
  · rw [if_neg (fun p => q p.1), if_neg q, if_neg q]
theorem zxc_u7 : zup (zxc I x a s t m e f F) 1 7 v = zxc I x a s t m e v F := by
  funext b i; unfold zup zxc
  by_cases q : b = 1
  · by_cases q2 : i = 7
    · rw [if_pos ⟨q, q2⟩, if_pos q, q2]; rfl
    · rw [if_neg (fun p => q2 p.2), if_pos q, if_pos q]; simp only [if_neg q2]
  · rw [if_neg (fun p => q p.1), if_neg q, if_neg q]
end ZX
def zxcZ := And.intro @zxc_2 (And.intro @zxc_3 (And.intro @zxc_4 (And.intro @zxc_5 (And.intro @zxc_6 (And.intro @zxc_7 (And.intro @zxc_0 (And.intro @zxc_b (And.intro @zxc_T (And.intro @zxc_uT (And.intro @zxc_u2 (And.intro @zxc_u3 (And.intro @zxc_u4 (And.intro @zxc_u5 (And.intro @zxc_u6 (@zxc_u7)))))))))))))))
/-- the bytes as the class keeps them -/
def zBc (bt : Nat → Fin 256) (n : Nat) (I : zIm) : Prop := n ≤ 200 ∧ I 1 0 = nI n ∧ ∀ k, k < n → I 2 k = nI (bt k)
def wch (i j : Nat) : Nat := (([[112, 108, 97, 99, 101], [115, 101, 101, 107, 101, 114], [114, 105, 110, 103], [108, 97, 119]] : List (List Nat)).getD i []).getD j 0
theorem wch_1 : ∀ i, i < 4 → ∀ j, j < 6 → ((((zbyt.getD i []).getD j 0) &&& nI 255).toUInt32 % 65536).toInt32 = nI (wch i j) := by decide +kernel
theorem wch_2 : ∀ i, i < 4 → ∀ j, j < 6 → wch i j < 128 := by decide +kernel
theorem wln_6 : ∀ i, i < 4 → zlen.getD i 0 ≤ 6 ∧ 0 < zlen.getD i 0 := by decide +kernel
theorem znw_h : ∀ c, c < 128 → (match narrow .char (.int (nI c)) with
  | .int y => decide (y = nI c)
  | _ => false) = true := by decide +kernel
theorem znw_c : ∀ i, i < 4 → ∀ j, j < 6 → znw (nI (wch i j)) .char := by
  intro i hi j hj
  have h := znw_h _ (wch_2 i hi j hj)
  unfold znw
  split at h
  · rename_i y e
    rw [e, of_decide_eq_true h]
  · exact Bool.noConfusion h
theorem znw_b : znw (nI 0) .byte = True := eq_true rfl
/-- as far as that word goes -/
def alw (bt : Nat → Fin 256) (st i : Nat) : Nat → Bool
  | 0 => true
  | j + 1 => alw bt st i j && decide ((bt (st + j)).val = wch i j)
theorem alw_s (bt : Nat → Fin 256) (st i j : Nat) : alw bt st i (j + 1) = (alw bt st i j && decide ((bt (st + j)).val = wch i j)) := rfl
theorem alw_f {bt : Nat → Fin 256} {st i j : Nat} (h : alw bt st i j = false) : ∀ n, j ≤ n → alw bt st i n = false
  | 0, hn => by rw [show j = 0 by omega] at h; exact h
  | n + 1, hn => by
    by_cases e : j = n + 1
    · rw [← e]; exact h
    · rw [alw_s, alw_f h n (by omega)]; rfl
section S
variable {d : Nat} {Q : zPo} {σ : zSh} {ρ : zRf} {I F : zIm} {L : zLm} {b x : Bool} {T : zT} {bt : Nat → Fin 256} {n : Nat} {a s t m e f : Int32}
theorem k_coder {i : Nat} (hi : i < 4) : zW (d + 1) mJ0_coder_7d493 [.ref (5000 + i)] σ ρ I L Q = Q (some (.int (nI 0))) σ ρ I L := by
  simp (disch := omega) only [nJ0_coder_7d493, bJ0_coder_7d493, zZ, znw_b, if_neg]
theorem k_len {i : Nat} (hi : i < 4) : zW (d + 2) mJ0_length_8abf5 [.ref (5000 + i)] sg ρ I L Q = Q (some (.int (nI (zlen.getD i 0)))) sg ρ I L := by
  have e0 : 5000 + i + 1000 - 6000 = i := by omega
  have e1 : ∀ n : Nat, nI n >>> (nI 0 &&& 31) = nI n := fun n => by
    rw [show nI 0 &&& 31 = 0 by decide +kernel]; exact Int32.shiftRight_zero
  simp (disch := omega) only [nJ0_length_8abf5, bJ0_length_8abf5, zZ, k_coder hi, e0, e1]
  done
theorem k_latin {i : Nat} (hi : i < 4) : zW (d + 1) mJ0_isLatin1_aae02 [.ref (5000 + i)] σ ρ I L Q = Q (some (.int (nI 1))) σ ρ I L := by
  simp (disch := omega) only [nJ0_isLatin1_aae02, bJ0_isLatin1_aae02, zZ, if_neg]
  done
theorem k_check {v w : Nat} (h : v < w) (hw : w < 2 ^ 30) : zW (d + 2) mJ0_checkIndex_df160 [.int (nI v), .int (nI w)] σ ρ I L Q = Q none σ ρ I L := by
  simp (disch := omega) only [nJ0_checkIndex_df160, bJ0_checkIndex_df160, nJ3_checkIndex_8e157, bJ3_checkIndex_8e157, zZ, if_neg, if_pos]
  done
theorem k_char {i j : Nat} (hi : i < 4) (hj : j < zlen.getD i 0) : zW (d + 4) mJ0_charAt_5068e [.ref (5000 + i), .int (nI j)] sg ρ I L Q = Q (some (.int (nI (wch i j)))) sg ρ I L := by
  have h6 := (wln_6 i hi).1
  have e0 : 5000 + i + 1000 - 6000 = i := by omega
  have e1 := wch_1 i hi j (by omega)
  have e2 := eq_true (znw_c i hi j (by omega))
  simp (disch := omega) only [nJ0_charAt_5068e, bJ0_charAt_5068e, nJ1_charAt_3b067, bJ1_charAt_3b067, zZ, k_latin hi, k_check hj, e0, e1, e2, if_neg]
  done
end S
