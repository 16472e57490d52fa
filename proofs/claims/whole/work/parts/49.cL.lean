/-! THE CLASS reads a token -/
def ctk (bt : Nat → Fin 256) (t : Nat × Nat × Nat) : Nat :=
  if t.2.1 = 0 then 0 else if t.2.1 = 1 then (match vrb bt t with
    | some v => 4 + v
    | none => 1) else if t.2.1 = 2 then (match fig bt t with
    | some _ => 2
    | none => 1) else if t.2.1 = 3 then 3 else 1
theorem vrb_w {bt : Nat → Fin 256} {t : Nat × Nat × Nat} (h : t.2.1 = 1) : vrb bt t = if (decide (t.2.2 = 5) && alw bt t.1 0 5) = true then some 0 else if (decide (t.2.2 = 6) && alw bt t.1 1 6) = true then some 1 else if (decide (t.2.2 = 4) && alw bt t.1 2 4) = true then some 2 else if (decide (t.2.2 = 3) && alw bt t.1 3 3) = true then some 3 else none := by
  have key : ∀ {a b c e a' b' c' e' : Prop} [Decidable a] [Decidable b] [Decidable c] [Decidable e] [Decidable a'] [Decidable b'] [Decidable c'] [Decidable e'], (a ↔ a') → (b ↔ b') → (c ↔ c') → (e ↔ e') → (if a then some 0 else if b then some 1 else if c then some 2 else if e then some 3 else none) = (if a' then some 0 else if b' then some 1 else if c' then some 2 else if e' then some 3 else (none : Option Nat)) := by
    intro a b c e a' b' c' e' _ _ _ _ _ _ _ _ h1 h2 h3 h4
    simp only [h1, h2, h3, h4]
  unfold vrb
  rw [if_pos h]
  refine key ?_ ?_ ?_ ?_ <;> simp only [Bool.and_eq_true, decide_eq_true_eq, alw, Nat.add_zero, true_and, wch, and_assoc, List.getD_cons_zero, List.getD_cons_succ] <;> rfl
/-- the number of a row of digits, held down -/
def nmv (bt : Nat → Fin 256) (st : Nat) : Nat → Nat
  | 0 => 0
  | k + 1 => if nmv bt st k * 10 + (bt (st + k)).val - 48 < 100 then nmv bt st k * 10 + (bt (st + k)).val - 48 else 100
theorem nmv_s (bt : Nat → Fin 256) (st k : Nat) : nmv bt st (k + 1) = if nmv bt st k * 10 + (bt (st + k)).val - 48 < 100 then nmv bt st k * 10 + (bt (st + k)).val - 48 else 100 := rfl
theorem nmv_le (bt : Nat → Fin 256) (st : Nat) : ∀ k, nmv bt st k ≤ 100
  | 0 => by show 0 ≤ 100; decide
  | k + 1 => by rw [nmv_s]; split <;> omega
theorem nmv_100 {bt : Nat → Fin 256} {st : Nat} {sz : Nat} (h : ∀ j, j < sz → 48 ≤ (bt (st + j)).val ∧ (bt (st + j)).val ≤ 57) (h0 : 49 ≤ (bt st).val) : ∀ k, k + 3 ≤ sz → nmv bt st (k + 3) = 100
  | 0, hk => by
    have b0 := h 0 (by omega); have b1 := h 1 (by omega); have b2 := h 2 (by omega)
    have e0 : (bt (st + 0)).val = (bt st).val := rfl
    have e1 : nmv bt st 1 = (bt st).val - 48 := by
      show (if 0 * 10 + (bt (st + 0)).val - 48 < 100 then _ else _) = _
      rw [if_pos (by omega)]; show 0 * 10 + (bt st).val - 48 = _; omega
    have e2 : nmv bt st 2 = ((bt st).val - 48) * 10 + (bt (st + 1)).val - 48 := by
      rw [nmv_s, e1, if_pos (by omega)]
    show nmv bt st (2 + 1) = 100
    rw [nmv_s, e2, if_neg (by omega)]
  | k + 1, hk => by
    have ih := nmv_100 h h0 k (by omega)
    have b := h (k + 3) (by omega)
    rw [show k + 1 + 3 = (k + 3) + 1 by omega, nmv_s, ih, if_neg (by omega)]
section
variable {bt : Nat → Fin 256} {n : Nat}
theorem rnf_end {s st : Nat} (hs : s ≠ 0) : ∀ f z, n ≤ st + z + f → srt bt n (st + rnf bt n s st f z) ≠ s
  | 0, z, h => fun q => hs (by rw [← q]; exact srt_0.2 (by show n ≤ st + z; omega))
  | f + 1, z, h => by
    rw [rnf_s]
    by_cases c : srt bt n (st + z) = s
    · rw [if_pos c]; exact rnf_end hs f (z + 1) (by omega)
    · rw [if_neg c]; exact c
theorem tkz_e {st s : Nat} (h : srt bt n st = s) (hs : s = 1 ∨ s = 2) : srt bt n (st + tkz bt n st) ≠ s := by
  unfold tkz
  rw [if_neg (by omega), if_pos (by omega), h]
  exact rnf_end (by omega) n 1 (by omega)
/-- digits: the number that the class makes of them -/
theorem fig_d {t : Nat × Nat × Nat} (h : tkr bt n t) (h2 : t.2.1 = 2) : (fig bt t = none → ¬ (nmv bt t.1 t.2.2 ≤ 99 ∧ ¬ ((bt t.1).val = 48 ∧ 1 < t.2.2))) ∧ ∀ v, fig bt t = some v → nmv bt t.1 t.2.2 = v ∧ v ≤ 99 ∧ ¬ ((bt t.1).val = 48 ∧ 1 < t.2.2) := by
  have hd : ∀ j, j < t.2.2 → 48 ≤ (bt (t.1 + j)).val ∧ (bt (t.1 + j)).val ≤ 57 := fun j hj => (srt_2.1 (tkr_in h h2 (Or.inr rfl) j hj)).2
  have hp := (tkr_1 h).2.2.1 (by rw [h2]; decide)
  have b0 := hd 0 hp
  have e0 : (bt (t.1 + 0)).val = (bt t.1).val := rfl
  rw [e0] at b0
  have e1 : nmv bt t.1 1 = (bt t.1).val - 48 := by
    show (if 0 * 10 + (bt (t.1 + 0)).val - 48 < 100 then _ else _) = _
    rw [if_pos (by omega)]; show 0 * 10 + (bt t.1).val - 48 = _; omega
  by_cases c1 : t.2.2 = 1
  · have hf : fig bt t = some ((bt t.1).val - 48) := by
      unfold fig; rw [if_pos ⟨h2, Or.inl c1⟩, if_neg (by omega)]
    rw [hf, c1, e1]
    refine ⟨(fun q => by cases q), fun v hv => ?_⟩
    cases hv; omega
  · by_cases c2 : t.2.2 = 2
    · have b1 := hd 1 (by omega)
      have e2 : nmv bt t.1 2 = ((bt t.1).val - 48) * 10 + (bt (t.1 + 1)).val - 48 := by
        rw [nmv_s, e1, if_pos (by omega)]
      rw [c2, e2]
      by_cases d0 : 48 < (bt t.1).val
      · have hf : fig bt t = some (10 * ((bt t.1).val - 48) + ((bt (t.1 + 1)).val - 48)) := by
          unfold fig; rw [if_pos ⟨h2, Or.inr ⟨c2, d0⟩⟩, if_pos c2]
        rw [hf]
        refine ⟨(fun q => by cases q), fun v hv => ?_⟩
        cases hv; omega
      · have hf : fig bt t = none := by unfold fig; rw [if_neg]; omega
        rw [hf]
        exact ⟨fun _ q => by omega, fun v hv => by cases hv⟩
    · have hf : fig bt t = none := by unfold fig; rw [if_neg]; omega
      rw [hf]
      refine ⟨fun _ q => ?_, fun v hv => by cases hv⟩
      have := nmv_100 hd (by omega) (t.2.2 - 3) (by omega)
      rw [show t.2.2 - 3 + 3 = t.2.2 by omega] at this
      omega
end
section S
variable {d : Nat} {Q : zPo} {σ : zSh} {ρ : zRf} {I F : zIm} {L : zLm} {b x : Bool} {T : zT} {bt : Nat → Fin 256} {n : Nat} {a s t m e f : Int32}
theorem k_isLetter {c : Nat} (hc : c < 256) : zW (d + 1) mX8_isLetter [.ref 1, .int (nI c)] σ ρ I L Q = Q (some (.int (if 97 ≤ c ∧ c ≤ 122 then nI 1 else nI 0))) σ ρ I L := by
  by_cases h1 : 97 ≤ c
  · by_cases h2 : c ≤ 122
    · simp (disch := omega) only [nX8_isLetter, bX8_isLetter, zZ, if_pos, if_neg]
    · simp (disch := omega) only [nX8_isLetter, bX8_isLetter, zZ, if_pos, if_neg]
  · simp (disch := omega) only [nX8_isLetter, bX8_isLetter, zZ, if_pos, if_neg]
theorem k_isDigit {c : Nat} (hc : c < 256) : zW (d + 1) mX8_isDigit [.ref 1, .int (nI c)] σ ρ I L Q = Q (some (.int (if 48 ≤ c ∧ c ≤ 57 then nI 1 else nI 0))) σ ρ I L := by
  by_cases h1 : 48 ≤ c
  · by_cases h2 : c ≤ 57
    · simp (disch := omega) only [nX8_isDigit, bX8_isDigit, zZ, if_pos, if_neg]
    · simp (disch := omega) only [nX8_isDigit, bX8_isDigit, zZ, if_pos, if_neg]
  · simp (disch := omega) only [nX8_isDigit, bX8_isDigit, zZ, if_pos, if_neg]
theorem k_isWord {i st sz : Nat} (hB : zBc bt n I) (hi : i < 4) (h : st + sz ≤ n) : zW (d + 5) mX8_isWord [.ref 1, .ref (5000 + i)] sg (rg b) (zxc I x (nI (st + sz)) (nI st) t m e f F) L Q = Q (some (.int (bI (decide (sz = zlen.getD i 0) && alw bt st i (zlen.getD i 0))))) sg (rg b) (zxc I x (nI (st + sz)) (nI st) t m e f F) L := by
  have hn := hB.1
  have h6 := wln_6 i hi
  have hby := hB.2.2
  have e1 : st + sz - st = sz := by omega
  by_cases c : sz = zlen.getD i 0
  · have hl : ∀ j, j ≤ zlen.getD i 0 → alw bt st i j = true → zq (d + 4) mX8_isWord Q 20 [some (.ref 1), some (.ref (5000 + i)), some (.int (nI j))] [] sg (rg b) (zxc I x (nI (st + sz)) (nI st) t m e f F) L = Q (some (.int (bI (alw bt st i (zlen.getD i 0))))) sg (rg b) (zxc I x (nI (st + sz)) (nI st) t m e f F) L := by
      refine z_down _ (fun ha => ?_) (fun j hj ih ha => ?_)
      · rw [ha, eX8_isWord_20]
        simp (disch := omega) only [bX8_isWord, zZ, k_len hi, if_pos]
        rfl
      · have hb := (bt (st + j)).isLt
        have hw := wch_2 i hi j (by omega)
        rw [alw_s, ha, Bool.true_and] at ih
        rw [eX8_isWord_20]
        by_cases c2 : (bt (st + j)).val = wch i j
        · simp (disch := omega) only [bX8_isWord, zZ, k_len hi, zxcZ, hby, k_char hi hj, c2, if_neg, if_pos]
          exact ih (decide_eq_true c2)
        · have hf : alw bt st i (j + 1) = false := by rw [alw_s, ha, decide_eq_false c2]; rfl
          rw [alw_f hf _ hj]
          simp (disch := omega) only [bX8_isWord, zZ, k_len hi, zxcZ, hby, k_char hi hj, c2, if_neg, if_pos]
          rfl
    rw [decide_eq_true c, Bool.true_and]
    have h0 := hl 0 (Nat.zero_le _) rfl
    simp (disch := omega) only [nX8_isWord, bX8_isWord, zZ, k_len hi, zxcZ, pk_sub, e1, c, if_pos]
    rw [c] at h0
    exact h0
  · rw [decide_eq_false c, Bool.false_and]
    simp (disch := omega) only [nX8_isWord, bX8_isWord, zZ, k_len hi, zxcZ, pk_sub, e1, c, if_neg]
    rfl
theorem k_readWord {st : Nat} (hB : zBc bt n I) (hs : srt bt n st = 1) (hst : st ≤ n) : zW (d + 6) mX8_readWord [.ref 1] sg (rg b) (zxc I x (nI st) (nI st) t m e f F) L Q = Q none sg (rg b) (zxc I x (nI (st + tkz bt n st)) (nI st) (nI (ctk bt (st, 1, tkz bt n st))) m e f F) L := by
  have hn := hB.1
  have hby := hB.2.2
  have hl0 := hB.2.1
  have hsz := tkz_le (bt := bt) hst
  have hin := tkz_in hs (Or.inl rfl)
  have hend := tkz_e hs (Or.inl rfl)
  have hpos := hsz.2 (by rw [hs]; decide)
  have hv := vrb_w (bt := bt) (t := (st, 1, tkz bt n st)) rfl
  have hw := fun {i : Nat} (hi : i < 4) (Q : zPo) (t m e f : Int32) => k_isWord (d := d) (Q := Q) (L := L) (b := b) (x := x) (F := F) (t := t) (m := m) (e := e) (f := f) (sz := tkz bt n st) hB hi hsz.1
  generalize hz : tkz bt n st = sz at *
  have hl : ∀ z, z ≤ sz → zq (d + 5) mX8_readWord Q 0 [some (.ref 1)] [] sg (rg b) (zxc I x (nI (st + z)) (nI st) t m e f F) L = Q none sg (rg b) (zxc I x (nI (st + sz)) (nI st) (nI (ctk bt (st, 1, sz))) m e f F) L := by
    refine z_down _ ?_ (fun z hz2 ih => ?_)
    · have hgo : zq (d + 5) mX8_readWord Q 40 [some (.ref 1)] [] sg (rg b) (zxc I x (nI (st + sz)) (nI st) t m e f F) L = Q none sg (rg b) (zxc I x (nI (st + sz)) (nI st) (nI (ctk bt (st, 1, sz))) m e f F) L := by
        have w0 := fun Q => hw (i := 0) (by decide) Q t m e f
        have w1 := fun Q => hw (i := 1) (by decide) Q t m e f
        have w2 := fun Q => hw (i := 2) (by decide) Q t m e f
        have w3 := fun Q => hw (i := 3) (by decide) Q t m e f
        simp only [Nat.add_zero, show 5000 + 0 = 5000 from rfl, show 5000 + 1 = 5001 from rfl, show 5000 + 2 = 5002 from rfl, show 5000 + 3 = 5003 from rfl, show zlen.getD 0 0 = 5 from rfl, show zlen.getD 1 0 = 6 from rfl, show zlen.getD 2 0 = 4 from rfl, show zlen.getD 3 0 = 3 from rfl] at w0 w1 w2 w3
        have hc : ctk bt (st, 1, sz) = (match vrb bt (st, 1, sz) with
          | some v => 4 + v
          | none => 1) := rfl
        rw [hc, hv]
        show _ = Q none sg (rg b) (zxc I x (nI (st + sz)) (nI st) (nI (match (if (decide (sz = 5) && alw bt st 0 5) = true then some 0 else if (decide (sz = 6) && alw bt st 1 6) = true then some 1 else if (decide (sz = 4) && alw bt st 2 4) = true then some 2 else if (decide (sz = 3) && alw bt st 3 3) = true then some 3 else none) with
          | some v => 4 + v
          | none => 1)) m e f F) L
        cases q0 : (decide (sz = 5) && alw bt st 0 5) with
        | true =>
          rw [q0] at w0
          simp (disch := omega) only [bX8_readWord, zZ, w0, bI_t, if_neg, zxcZ, if_true]
        | false =>
          rw [q0] at w0
          cases q1 : (decide (sz = 6) && alw bt st 1 6) with
          | true =>
            rw [q1] at w1
            simp (disch := omega) only [bX8_readWord, zZ, w0, w1, bI_t, bI_f, if_neg, zxcZ, if_true, if_false, Bool.false_eq_true]
          | false =>
            rw [q1] at w1
            cases q2 : (decide (sz = 4) && alw bt st 2 4) with
            | true =>
              rw [q2] at w2
              simp (disch := omega) only [bX8_readWord, zZ, w0, w1, w2, bI_t, bI_f, if_neg, zxcZ, if_true, if_false, Bool.false_eq_true]
            | false =>
              rw [q2] at w2
              cases q3 : (decide (sz = 3) && alw bt st 3 3) with
              | true =>
                rw [q3] at w3
                simp (disch := omega) only [bX8_readWord, zZ, w0, w1, w2, w3, bI_t, bI_f, if_neg, zxcZ, if_true, if_false, Bool.false_eq_true]
              | false =>
                rw [q3] at w3
                simp (disch := omega) only [bX8_readWord, zZ, w0, w1, w2, w3, bI_t, bI_f, if_neg, zxcZ, if_true, if_false, Bool.false_eq_true]
      have H := hgo
      rw [eX8_readWord_0]
      by_cases c : st + sz < n
      · have hb := (bt (st + sz)).isLt
        have hnl : ¬ (97 ≤ (bt (st + sz)).val ∧ (bt (st + sz)).val ≤ 122) := fun q => hend (srt_1.2 ⟨c, q⟩)
        simp (disch := omega) only [eX8_readWord_1, eX8_readWord_4, eX8_readWord_5, eX8_readWord_8, eX8_readWord_11, eX8_readWord_12, eX8_readWord_13, eX8_readWord_16, eX8_readWord_17, eX8_readWord_20, eX8_readWord_21, eX8_readWord_24, zZ, zxcZ, hl0, hby, if_neg, k_isLetter, hnl, if_false]
        exact H
      · simp (disch := omega) only [eX8_readWord_1, eX8_readWord_4, eX8_readWord_5, eX8_readWord_8, zZ, zxcZ, hl0, if_pos]
        exact H
    · have hi := srt_1.1 (hin z hz2)
      have hb := (bt (st + z)).isLt
      have hlt := hi.1
      rw [eX8_readWord_0]
      simp (disch := omega) only [bX8_readWord, zZ, zxcZ, hl0, hby, if_neg, k_isLetter, hi.2, and_self, if_true]
      exact ih
  rw [nX8_readWord]
  exact hl 0 (Nat.zero_le _)
end S
