/-! THE MODEL reads items -/
/-- a row of letters as one number -/
def wv (bt : Nat → Fin 256) (st : Nat) : Nat → Nat
  | 0 => 0
  | k + 1 => 256 * wv bt st k + (bt (st + k)).val
theorem wv_s (bt : Nat → Fin 256) (st k : Nat) : wv bt st (k + 1) = 256 * wv bt st k + (bt (st + k)).val := rfl
theorem wv_lt (bt : Nat → Fin 256) (st : Nat) : ∀ k, wv bt st k < 256 ^ k
  | 0 => Nat.one_pos
  | k + 1 => by
    have := wv_lt bt st k
    have := (bt (st + k)).isLt
    rw [wv_s, Nat.pow_succ]; omega
theorem wv_62 (bt : Nat → Fin 256) (st : Nat) {k : Nat} (h : k ≤ 6) : wv bt st k < 2 ^ 48 := Nat.lt_of_lt_of_le (wv_lt bt st k) (by rw [show (2 : Nat) ^ 48 = 256 ^ 6 by decide]; exact Nat.pow_le_pow_right (by decide) h)
/-- its sizes tell the words apart -/
theorem wv_w {bt : Nat → Fin 256} {st z : Nat} (hz : z < 7) (hl : ∀ j, j < z → 97 ≤ (bt (st + j)).val) :
    (if wv bt st z = 482854658917 then some 0 else if wv bt st z = 126879330428274 then some 1 else if wv bt st z = 1919512167 then some 2 else if wv bt st z = 7102839 then some 3 else none)
      = (if z = 5 ∧ (bt st).val = 112 ∧ (bt (st + 1)).val = 108 ∧ (bt (st + 2)).val = 97 ∧ (bt (st + 3)).val = 99 ∧ (bt (st + 4)).val = 101 then some 0
    else if z = 6 ∧ (bt st).val = 115 ∧ (bt (st + 1)).val = 101 ∧ (bt (st + 2)).val = 101 ∧ (bt (st + 3)).val = 107 ∧ (bt (st + 4)).val = 101 ∧ (bt (st + 5)).val = 114 then some 1
    else if z = 4 ∧ (bt st).val = 114 ∧ (bt (st + 1)).val = 105 ∧ (bt (st + 2)).val = 110 ∧ (bt (st + 3)).val = 103 then some 2
    else if z = 3 ∧ (bt st).val = 108 ∧ (bt (st + 1)).val = 97 ∧ (bt (st + 2)).val = 119 then some 3
    else (none : Option Nat)) := by
  have b0 := (bt st).isLt; have b1 := (bt (st + 1)).isLt; have b2 := (bt (st + 2)).isLt; have b3 := (bt (st + 3)).isLt; have b4 := (bt (st + 4)).isLt; have b5 := (bt (st + 5)).isLt
  have hc : z = 0 ∨ z = 1 ∨ z = 2 ∨ z = 3 ∨ z = 4 ∨ z = 5 ∨ z = 6 := by omega
  have key : ∀ {a b c e a' b' c' e' : Prop} [Decidable a] [Decidable b] [Decidable c] [Decidable e] [Decidable a'] [Decidable b'] [Decidable c'] [Decidable e'], (a ↔ a') → (b ↔ b') → (c ↔ c') → (e ↔ e') → (if a then some 0 else if b then some 1 else if c then some 2 else if e then some 3 else none) = (if a' then some 0 else if b' then some 1 else if c' then some 2 else if e' then some 3 else (none : Option Nat)) := by
    intro a b c e a' b' c' e' _ _ _ _ _ _ _ _ h1 h2 h3 h4
    simp only [h1, h2, h3, h4]
  rcases hc with rfl | rfl | rfl | rfl | rfl | rfl | rfl
  · rw [show wv bt st 0 = 0 from rfl]
    refine key ?_ ?_ ?_ ?_ <;> omega
  · rw [show wv bt st 1 = 256 * (0) + (bt st).val from rfl]
    have l0 : 97 ≤ (bt st).val := hl 0 (by decide)
    refine key ?_ ?_ ?_ ?_ <;> omega
  · rw [show wv bt st 2 = 256 * (256 * (0) + (bt st).val) + (bt (st + 1)).val from rfl]
    have l0 : 97 ≤ (bt st).val := hl 0 (by decide)
    have l1 : 97 ≤ (bt (st + 1)).val := hl 1 (by decide)
    refine key ?_ ?_ ?_ ?_ <;> omega
  · rw [show wv bt st 3 = 256 * (256 * (256 * (0) + (bt st).val) + (bt (st + 1)).val) + (bt (st + 2)).val from rfl]
    have l0 : 97 ≤ (bt st).val := hl 0 (by decide)
    have l1 : 97 ≤ (bt (st + 1)).val := hl 1 (by decide)
    have l2 : 97 ≤ (bt (st + 2)).val := hl 2 (by decide)
    refine key ?_ ?_ ?_ ?_ <;> omega
  · rw [show wv bt st 4 = 256 * (256 * (256 * (256 * (0) + (bt st).val) + (bt (st + 1)).val) + (bt (st + 2)).val) + (bt (st + 3)).val from rfl]
    have l0 : 97 ≤ (bt st).val := hl 0 (by decide)
    have l1 : 97 ≤ (bt (st + 1)).val := hl 1 (by decide)
    have l2 : 97 ≤ (bt (st + 2)).val := hl 2 (by decide)
    have l3 : 97 ≤ (bt (st + 3)).val := hl 3 (by decide)
    refine key ?_ ?_ ?_ ?_ <;> omega
  · rw [show wv bt st 5 = 256 * (256 * (256 * (256 * (256 * (0) + (bt st).val) + (bt (st + 1)).val) + (bt (st + 2)).val) + (bt (st + 3)).val) + (bt (st + 4)).val from rfl]
    have l0 : 97 ≤ (bt st).val := hl 0 (by decide)
    have l1 : 97 ≤ (bt (st + 1)).val := hl 1 (by decide)
    have l2 : 97 ≤ (bt (st + 2)).val := hl 2 (by decide)
    have l3 : 97 ≤ (bt (st + 3)).val := hl 3 (by decide)
    have l4 : 97 ≤ (bt (st + 4)).val := hl 4 (by decide)
    refine key ?_ ?_ ?_ ?_ <;> omega
  · rw [show wv bt st 6 = 256 * (256 * (256 * (256 * (256 * (256 * (0) + (bt st).val) + (bt (st + 1)).val) + (bt (st + 2)).val) + (bt (st + 3)).val) + (bt (st + 4)).val) + (bt (st + 5)).val from rfl]
    have l0 : 97 ≤ (bt st).val := hl 0 (by decide)
    have l1 : 97 ≤ (bt (st + 1)).val := hl 1 (by decide)
    have l2 : 97 ≤ (bt (st + 2)).val := hl 2 (by decide)
    have l3 : 97 ≤ (bt (st + 3)).val := hl 3 (by decide)
    have l4 : 97 ≤ (bt (st + 4)).val := hl 4 (by decide)
    have l5 : 97 ≤ (bt (st + 5)).val := hl 5 (by decide)
    refine key ?_ ?_ ?_ ?_ <;> omega
section S
variable {d : Nat} {Q : zPo} {σ : zSh} {ρ : zRf} {I : zIm} {L : zLm} {b : Bool} {bt : Nat → Fin 256} {n : Nat} {a : Int32} {f : Nat → Int32}
/-- a token that was read -/
def tkr (bt : Nat → Fin 256) (n : Nat) (t : Nat × Nat × Nat) : Prop := ∃ a, a ≤ n ∧ t = tkn bt n a
theorem tkr_1 {t : Nat × Nat × Nat} (h : tkr bt n t) : t.1 ≤ n ∧ t.1 + t.2.2 ≤ n ∧ (t.2.1 ≠ 0 → 0 < t.2.2) ∧ t.2.1 = srt bt n t.1 ∧ t.2.2 = tkz bt n t.1 := by
  obtain ⟨a, ha, rfl⟩ := h
  have h1 := skp_le bt n n a ha
  have h2 := tkz_le (bt := bt) h1.2
  exact ⟨h1.2, h2.1, h2.2, rfl, rfl⟩
theorem tkr_in {t : Nat × Nat × Nat} (h : tkr bt n t) {s : Nat} (hs : t.2.1 = s) (h2 : s = 1 ∨ s = 2) : ∀ j, j < t.2.2 → srt bt n (t.1 + j) = s := by
  obtain ⟨h1, h3, h4, h5, h6⟩ := tkr_1 h
  intro j hj
  exact tkz_in (h5.symm.trans hs) h2 j (by omega)
theorem tkr_n {t : Nat × Nat × Nat} (h : tkr bt n t) : tkr bt n (tkn bt n (t.1 + t.2.2)) := ⟨_, (tkr_1 h).2.1, rfl⟩
def ztk (I : zIm) (t : Nat × Nat × Nat) (f : Nat → Int32) : zIm := zlx I (nI (t.1 + t.2.2)) (nI t.2.1) (nI t.1) (nI t.2.2) f
theorem s_tok {t : Nat × Nat × Nat} (hB : zBy bt n I) (h : tkr bt n t) : zW (d + 3) mX11_token [.ref 87] sg (rg b) (ztk I t f) L Q = Q none sg (rg b) (ztk I (tkn bt n (t.1 + t.2.2)) f) L := s_token hB (tkr_1 h).2.1
theorem s_verb {t : Nat × Nat × Nat} (hB : zBy bt n I) (h : tkr bt n t) : zW (d + 2) mX11_verb [.ref 87] sg (rg b) (ztk I t f) L Q = Q (some (.int (zfn (vrb bt t)))) sg (rg b) (ztk I t f) L := by
  have hn : n ≤ 200 := hB.1
  obtain ⟨h1, h2, h3, h4, h5⟩ := tkr_1 h
  have hsl : t.2.1 ≤ 4 := h4 ▸ srt_le bt n t.1
  unfold ztk
  have hfin : ∀ v l3, v < 2 ^ 48 → zq (d + 1) mX11_verb Q 53 [some (.ref 87), some (.long (lN v)), none, l3] [] sg (rg b) (zlx I (nI (t.1 + t.2.2)) (nI t.2.1) (nI t.1) (nI t.2.2) f) L = Q (some (.int (zfn (if v = 482854658917 then some 0 else if v = 126879330428274 then some 1 else if v = 1919512167 then some 2 else if v = 7102839 then some 3 else none)))) sg (rg b) (zlx I (nI (t.1 + t.2.2)) (nI t.2.1) (nI t.1) (nI t.2.2) f) L := by
    intro v l3 hv
    have e1 : (482854658917 : Int64) = lN 482854658917 := rfl
    have e2 : (126879330428274 : Int64) = lN 126879330428274 := rfl
    have e3 : (1919512167 : Int64) = lN 1919512167 := rfl
    have e4 : (7102839 : Int64) = lN 7102839 := rfl
    simp (disch := omega) only [bX11_verb, zZ, lg_0, e1, e2, e3, e4, pk_lEQ]
    by_cases c1 : v = 482854658917
    · simp only [if_pos c1, zfn_s]
    · by_cases c2 : v = 126879330428274
      · simp only [if_neg c1, if_pos c2, zfn_s]
      · by_cases c3 : v = 1919512167
        · simp only [if_neg c1, if_neg c2, if_pos c3, zfn_s]
        · by_cases c4 : v = 7102839
          · simp only [if_neg c1, if_neg c2, if_neg c3, if_pos c4, zfn_s]
          · simp only [if_neg c1, if_neg c2, if_neg c3, if_neg c4, zfn_n]
  by_cases c : t.2.2 < 7 ∧ t.2.1 = 1
  · have hl : ∀ j, j < t.2.2 → t.1 + j < n ∧ 97 ≤ (bt (t.1 + j)).val := fun j hj => by
      have := srt_1.1 (tkr_in h c.2 (Or.inl rfl) j hj); omega
    have hloop : ∀ k, k ≤ t.2.2 → zq (d + 1) mX11_verb Q 4 [some (.ref 87), some (.long (lN (wv bt t.1 k))), none, some (.int (nI k))] [] sg (rg b) (zlx I (nI (t.1 + t.2.2)) (nI t.2.1) (nI t.1) (nI t.2.2) f) L = zq (d + 1) mX11_verb Q 4 [some (.ref 87), some (.long (lN (wv bt t.1 t.2.2))), none, some (.int (nI t.2.2))] [] sg (rg b) (zlx I (nI (t.1 + t.2.2)) (nI t.2.1) (nI t.1) (nI t.2.2) f) L := by
      refine z_iter _ (fun k hk => ?_)
      have := hl k hk
      have hbk := (bt (t.1 + k)).isLt
      have e256 : (256 : Int64) = lN 256 := rfl
      rw [eX11_verb_4]
      simp (disch := omega) only [bX11_verb, zZ, zlxZ, if_neg, if_pos, c.2, s_byteAt hB, byt_l, nI_l, e256, lN_mul, lN_add, wv_s]
    have hv := wv_62 bt t.1 (k := t.2.2) (by omega)
    simp (disch := omega) only [nX11_verb, bX11_verb, zZ, lN_0]
    refine (hloop 0 (Nat.zero_le _)).trans ?_
    rw [eX11_verb_4]
    simp (disch := omega) only [eX11_verb_5, eX11_verb_6, eX11_verb_9, eX11_verb_12, eX11_verb_13, eX11_verb_16, eX11_verb_18, eX11_verb_21, eX11_verb_22, eX11_verb_25, eX11_verb_26, zZ, zlxZ, if_pos]
    rw [hfin _ _ hv]
    rw [wv_w c.1 (fun j hj => (hl j hj).2)]
    unfold vrb
    rw [if_pos c.2]
  · have hv : vrb bt t = none := by
      unfold vrb
      by_cases c1 : t.2.1 = 1
      · rw [if_pos c1, if_neg (fun q => c ⟨by omega, c1⟩), if_neg (fun q => c ⟨by omega, c1⟩), if_neg (fun q => c ⟨by omega, c1⟩), if_neg (fun q => c ⟨by omega, c1⟩)]
      · rw [if_neg c1]
    rw [hv]
    have hf := hfin 0 (some (.int (nI 0))) (by decide)
    simp only [show ((0 : Nat) = 482854658917) = False by decide, show ((0 : Nat) = 126879330428274) = False by decide, show ((0 : Nat) = 1919512167) = False by decide, show ((0 : Nat) = 7102839) = False by decide, if_false] at hf
    simp (disch := omega) only [nX11_verb, bX11_verb, zZ, lN_0]
    rw [eX11_verb_4]
    simp (disch := omega) only [eX11_verb_5, eX11_verb_6, eX11_verb_9, eX11_verb_12, eX11_verb_13, eX11_verb_16, eX11_verb_18, eX11_verb_21, eX11_verb_22, eX11_verb_25, eX11_verb_26, zZ, zlxZ]
    by_cases z0 : t.2.2 ≤ 0
    · simp only [z0, zZ]; exact hf
    · by_cases z7 : t.2.2 < 7
      · have c1 : ¬ t.2.1 = 1 := fun q => c ⟨z7, q⟩
        simp (disch := omega) only [z0, c1, zZ, if_neg, if_pos]; exact hf
      · simp (disch := omega) only [z0, zZ, if_neg, if_pos]; exact hf
def zfg (o : Option Nat) (lo hi : Int32) : Int32 := match o with
  | some v => if lo ≤ nI v ∧ nI v ≤ hi then nI v else -9
  | none => -9
theorem fig_lt {t : Nat × Nat × Nat} {v : Nat} (h : tkr bt n t) (hv : fig bt t = some v) : v < 100 := by
  unfold fig at hv
  split at hv
  · rename_i c
    have h0 := srt_2.1 (tkr_in h c.1 (Or.inr rfl) 0 (by omega))
    rw [Nat.add_zero] at h0
    simp only [Option.some.injEq] at hv
    split at hv
    · have h1' := srt_2.1 (tkr_in h c.1 (Or.inr rfl) 1 (by omega))
      omega
    · omega
  · cases hv
theorem s_figure {t : Nat × Nat × Nat} {lo hi : Int32} (hB : zBy bt n I) (h : tkr bt n t) : zW (d + 2) mX11_figure [.ref 87, .int lo, .int hi] sg (rg b) (ztk I t f) L Q = Q (some (.int (zfg (fig bt t) lo hi))) sg (rg b) (ztk I t f) L := by
  have hn : n ≤ 200 := hB.1
  obtain ⟨h1, h2, h3, h4, h5⟩ := tkr_1 h
  have hsl : t.2.1 ≤ 4 := h4 ▸ srt_le bt n t.1
  unfold ztk
  by_cases c : t.2.1 = 2
  · have h0 := srt_2.1 (tkr_in h c (Or.inr rfl) 0 (by omega))
    rw [Nat.add_zero] at h0
    by_cases z1 : t.2.2 = 1
    · have hf : fig bt t = some ((bt t.1).val - 48) := by
        unfold fig; rw [if_pos ⟨c, Or.inl z1⟩, if_neg (by omega)]
      rw [hf]
      simp (disch := omega) only [nX11_figure, bX11_figure, zZ, zlxZ, s_byteAt hB, byt_l, pk_sub, z1, c, if_neg, if_pos, s_in]
      unfold zfg
      by_cases r : lo ≤ nI ((bt t.1).val - 48) ∧ nI ((bt t.1).val - 48) ≤ hi
      · simp only [r, and_self, if_true]; rfl
      · simp only [r, if_false]; rfl
    · by_cases z2 : t.2.2 = 2
      · have h1' := srt_2.1 (tkr_in h c (Or.inr rfl) 1 (by omega))
        by_cases d0 : 48 < (bt t.1).val
        · have hf : fig bt t = some (10 * ((bt t.1).val - 48) + ((bt (t.1 + 1)).val - 48)) := by
            unfold fig; rw [if_pos ⟨c, Or.inr ⟨z2, d0⟩⟩, if_pos z2]
          rw [hf]
          have e : 10 * ((bt t.1).val - 48) + (bt (t.1 + 1)).val - 48 = 10 * ((bt t.1).val - 48) + ((bt (t.1 + 1)).val - 48) := by omega
          simp (disch := omega) only [nX11_figure, bX11_figure, zZ, zlxZ, s_byteAt hB, byt_l, pk_sub, z2, c, if_neg, if_pos, s_in, e]
          unfold zfg
          by_cases r : lo ≤ nI (10 * ((bt t.1).val - 48) + ((bt (t.1 + 1)).val - 48)) ∧ nI (10 * ((bt t.1).val - 48) + ((bt (t.1 + 1)).val - 48)) ≤ hi
          · simp only [r, and_self, if_true]; rfl
          · simp only [r, if_false]; rfl
        · have hf : fig bt t = none := by
            unfold fig; rw [if_neg]; omega
          rw [hf]
          simp (disch := omega) only [nX11_figure, bX11_figure, zZ, zlxZ, s_byteAt hB, byt_l, pk_sub, z2, c, if_neg, if_pos]
          rfl
      · have hf : fig bt t = none := by
          unfold fig; rw [if_neg]; omega
        rw [hf]
        simp (disch := omega) only [nX11_figure, bX11_figure, zZ, zlxZ, s_byteAt hB, z1, z2, c, if_neg, if_pos]
        rfl
  · have hf : fig bt t = none := by
      unfold fig; rw [if_neg]; omega
    rw [hf]
    by_cases z2 : t.2.2 = 2
    · simp (disch := omega) only [nX11_figure, bX11_figure, zZ, zlxZ, s_byteAt hB, z2, c, if_neg, if_pos]
      rfl
    · simp (disch := omega) only [nX11_figure, bX11_figure, zZ, zlxZ, s_byteAt hB, z2, c, if_neg, if_pos]
      rfl
theorem s_number {t : Nat × Nat × Nat} {lo hi : Int32} (hB : zBy bt n I) (h : tkr bt n t) : zW (d + 4) mX11_number [.ref 87, .int lo, .int hi] sg (rg b) (ztk I t f) L Q = Q (some (.int (zfg (fig bt (tkn bt n (t.1 + t.2.2))) lo hi))) sg (rg b) (ztk I (tkn bt n (t.1 + t.2.2)) f) L := by
  simp only [nX11_number, bX11_number, zZ, s_tok hB h, s_figure hB (tkr_n h)]
end S
