/-! THE CLASS reads tokens, numbers -/
section S
variable {d : Nat} {Q : zPo} {σ : zSh} {ρ : zRf} {I F : zIm} {L : zLm} {b x : Bool} {T : zT} {bt : Nat → Fin 256} {n : Nat} {a s t m e f : Int32}
theorem k_readDigits {st : Nat} (hB : zBc bt n I) (hs : srt bt n st = 2) (hst : st ≤ n) (htk : tkr bt n (st, 2, tkz bt n st)) (hQ : ∀ m', (∀ v, fig bt (st, 2, tkz bt n st) = some v → m' = nI v) → Q none sg (rg b) (zxc I x (nI (st + tkz bt n st)) (nI st) (nI (ctk bt (st, 2, tkz bt n st))) m' e f F) L) : zW (d + 2) mX8_readDigits [.ref 1] sg (rg b) (zxc I x (nI st) (nI st) t m e f F) L Q := by
  have hn := hB.1
  have hby := hB.2.2
  have hl0 := hB.2.1
  have hsz := tkz_le (bt := bt) hst
  have hin := tkz_in hs (Or.inr rfl)
  have hend := tkz_e hs (Or.inr rfl)
  have hpos := hsz.2 (by rw [hs]; decide)
  have hf := fig_d htk rfl
  generalize hz : tkz bt n st = sz at *
  have hf1 : fig bt (st, 2, sz) = none → ¬ (nmv bt st sz ≤ 99 ∧ ¬ ((bt st).val = 48 ∧ 1 < sz)) := hf.1
  have hf2 : ∀ v, fig bt (st, 2, sz) = some v → nmv bt st sz = v ∧ v ≤ 99 ∧ ¬ ((bt st).val = 48 ∧ 1 < sz) := hf.2
  have hm100 := nmv_le bt st
  have hl : ∀ z, z ≤ sz → zq (d + 1) mX8_readDigits Q 5 [some (.ref 1), none] [] sg (rg b) (zxc I x (nI (st + z)) (nI st) t (nI (nmv bt st z)) e f F) L := by
    refine z_down _ ?_ (fun z hz2 ih => ?_)
    · have hgo : zq (d + 1) mX8_readDigits Q 74 [some (.ref 1), none] [] sg (rg b) (zxc I x (nI (st + sz)) (nI st) t (nI (nmv bt st sz)) e f F) L := by
        have b0 := (srt_2.1 (hin 0 hpos))
        rw [Nat.add_zero] at b0
        have e1 : st + sz - st = sz := by omega
        have hms := hm100 sz
        have hlt0 := b0.1
        have hbl := (bt st).isLt
        have hnine : (nI 99 < nI (nmv bt st sz)) = (99 < nmv bt st sz) := propext (nI_ltI (by omega) (by omega))
        have hc : ctk bt (st, 2, sz) = (match fig bt (st, 2, sz) with
          | some _ => 2
          | none => 1) := rfl
        cases hfe : fig bt (st, 2, sz) with
        | none =>
          have h1 := hf1 hfe
          have hQ' := hQ (nI (nmv bt st sz)) (fun v hv => by rw [hfe] at hv; cases hv)
          rw [hc, hfe] at hQ'
          by_cases c1 : (bt st).val = 48
          · by_cases c2 : 1 < sz
            · by_cases c3 : 99 < nmv bt st sz
              · simp (disch := omega) only [bX8_readDigits, zZ, zxcZ, hby, c1, e1, pk_sub, if_neg, if_pos]
                exact hQ'
              · simp (disch := omega) only [bX8_readDigits, zZ, zxcZ, hby, c1, e1, pk_sub, if_neg, if_pos]
                exact hQ'
            · have c3 : 99 < nmv bt st sz := by omega
              simp (disch := omega) only [bX8_readDigits, zZ, zxcZ, hby, c1, e1, pk_sub, if_neg, if_pos]
              exact hQ'
          · have c3 : 99 < nmv bt st sz := by omega
            simp (disch := omega) only [bX8_readDigits, zZ, zxcZ, hby, e1, pk_sub, if_neg, if_pos]
            exact hQ'
        | some v =>
          obtain ⟨v1, v2, v3⟩ := hf2 v hfe
          have hQ' := hQ (nI (nmv bt st sz)) (fun w hw => by rw [hfe] at hw; cases hw; rw [v1])
          rw [hc, hfe] at hQ'
          by_cases c1 : (bt st).val = 48
          · simp (disch := omega) only [bX8_readDigits, zZ, zxcZ, hby, c1, e1, pk_sub, if_neg, if_pos]
            exact hQ'
          · simp (disch := omega) only [bX8_readDigits, zZ, zxcZ, hby, e1, pk_sub, if_neg, if_pos]
            exact hQ'
      have H := hgo
      rw [eX8_readDigits_5]
      by_cases c : st + sz < n
      · have hb := (bt (st + sz)).isLt
        have hnl : ¬ (48 ≤ (bt (st + sz)).val ∧ (bt (st + sz)).val ≤ 57) := fun q => hend (srt_2.2 ⟨c, q⟩)
        simp (disch := omega) only [eX8_readDigits_6, eX8_readDigits_9, eX8_readDigits_10, eX8_readDigits_13, eX8_readDigits_16, eX8_readDigits_17, eX8_readDigits_18, eX8_readDigits_21, eX8_readDigits_22, eX8_readDigits_25, eX8_readDigits_26, eX8_readDigits_29, zZ, zxcZ, hl0, hby, if_neg, k_isDigit, hnl, if_false]
        exact H
      · simp (disch := omega) only [eX8_readDigits_6, eX8_readDigits_9, eX8_readDigits_10, eX8_readDigits_13, zZ, zxcZ, hl0, if_pos]
        exact H
    · have hi := srt_2.1 (hin z hz2)
      have hb := (bt (st + z)).isLt
      have hlt := hi.1
      have hmz := hm100 z
      rw [nmv_s] at ih
      rw [eX8_readDigits_5]
      by_cases c : nmv bt st z * 10 + (bt (st + z)).val - 48 < 100
      · rw [if_pos c] at ih
        simp (disch := omega) only [bX8_readDigits, zZ, zxcZ, hl0, hby, if_neg, if_pos, k_isDigit, hi.2, and_self, if_true, pk_sub]
        exact ih
      · rw [if_neg c] at ih
        simp (disch := omega) only [bX8_readDigits, zZ, zxcZ, hl0, hby, if_neg, if_pos, k_isDigit, hi.2, and_self, if_true, pk_sub]
        exact ih
  rw [nX8_readDigits]
  simp (disch := omega) only [bX8_readDigits, zZ, zxcZ]
  exact hl 0 (Nat.zero_le _)
theorem k_readToken {a0 : Nat} (hB : zBc bt n I) (ha : a0 ≤ n) (hQ : ∀ m', (∀ v, fig bt (tkn bt n a0) = some v → m' = nI v) → Q none sg (rg b) (zxc I x (nI ((tkn bt n a0).1 + (tkn bt n a0).2.2)) (nI (tkn bt n a0).1) (nI (ctk bt (tkn bt n a0))) m' e f F) L) : zW (d + 7) mX8_readToken [.ref 1] sg (rg b) (zxc I x (nI a0) s t m e f F) L Q := by
  have hn := hB.1
  have hby := hB.2.2
  have hl0 := hB.2.1
  have h1 : ∀ fu a, a ≤ n → n ≤ a + fu → zq (d + 6) mX8_readToken Q 38 [some (.ref 1)] [] sg (rg b) (zxc I x (nI (skp bt n fu a)) s t m e f F) L → zq (d + 6) mX8_readToken Q 0 [some (.ref 1)] [] sg (rg b) (zxc I x (nI a) s t m e f F) L := by
    intro fu
    induction fu with
    | zero =>
      intro a h1 h2 H
      rw [show skp bt n 0 a = a from rfl] at H
      rw [eX8_readToken_0]
      simp (disch := omega) only [eX8_readToken_1, eX8_readToken_4, eX8_readToken_5, eX8_readToken_8, zZ, zxcZ, hl0, if_pos]
      exact H
    | succ fu ih =>
      intro a h1 h2 H
      rw [skp_s] at H
      rw [eX8_readToken_0]
      by_cases c : a < n
      · have hb := (bt a).isLt
        by_cases c2 : (bt a).val = 32
        · rw [if_pos ⟨c, c2⟩] at H
          simp (disch := omega) only [eX8_readToken_1, eX8_readToken_4, eX8_readToken_5, eX8_readToken_8, eX8_readToken_11, eX8_readToken_12, eX8_readToken_15, eX8_readToken_16, eX8_readToken_19, eX8_readToken_20, eX8_readToken_22, eX8_readToken_25, eX8_readToken_26, eX8_readToken_27, eX8_readToken_30, eX8_readToken_31, eX8_readToken_32, eX8_readToken_35, zZ, zxcZ, hl0, hby, c2, if_neg, if_pos]
          exact ih (a + 1) (by omega) (by omega) H
        · rw [if_neg (fun q => c2 q.2)] at H
          simp (disch := omega) only [eX8_readToken_1, eX8_readToken_4, eX8_readToken_5, eX8_readToken_8, eX8_readToken_11, eX8_readToken_12, eX8_readToken_15, eX8_readToken_16, eX8_readToken_19, eX8_readToken_20, eX8_readToken_22, zZ, zxcZ, hl0, hby, c2, if_neg, if_pos]
          exact H
      · rw [if_neg (fun q => c q.1)] at H
        simp (disch := omega) only [eX8_readToken_1, eX8_readToken_4, eX8_readToken_5, eX8_readToken_8, zZ, zxcZ, hl0, if_pos]
        exact H
  have hsk := skp_le bt n n a0 ha
  have htk : tkr bt n (tkn bt n a0) := ⟨a0, ha, rfl⟩
  have htkn : tkn bt n a0 = (skp bt n n a0, srt bt n (skp bt n n a0), tkz bt n (skp bt n n a0)) := rfl
  rw [nX8_readToken]
  refine h1 n a0 ha (by omega) ?_
  rw [htkn] at hQ htk
  generalize skp bt n n a0 = st at *
  have hQ2 : ∀ m', (∀ v, fig bt (st, srt bt n st, tkz bt n st) = some v → m' = nI v) → Q none sg (rg b) (zxc I x (nI (st + tkz bt n st)) (nI st) (nI (ctk bt (st, srt bt n st, tkz bt n st))) m' e f F) L := hQ
  have hsl := srt_le bt n st
  by_cases c : st < n
  · have hb := (bt st).isLt
    have hge : ¬ n ≤ st := by omega
    by_cases c1 : 97 ≤ (bt st).val ∧ (bt st).val ≤ 122
    · have hs := srt_1.2 ⟨c, c1⟩
      rw [hs] at hQ2
      have hQ3 := hQ2 m (fun v hv => by rw [fig_no (show ¬ ((st, 1, tkz bt n st) : Nat × Nat × Nat).2.1 = 2 from (by decide : ¬ (1 : Nat) = 2))] at hv; cases hv)
      simp (disch := omega) only [bX8_readToken, zZ, zxcZ, hl0, hby, k_isLetter, c1, and_self, if_true, if_neg, if_pos, k_readWord hB hs hsk.2]
      exact hQ3
    · by_cases c2 : 48 ≤ (bt st).val ∧ (bt st).val ≤ 57
      · have hs := srt_2.2 ⟨c, c2⟩
        rw [hs] at hQ2 htk
        simp (disch := omega) only [bX8_readToken, zZ, zxcZ, hl0, hby, k_isLetter, k_isDigit, c1, c2, and_self, if_true, if_false, if_neg, if_pos]
        refine k_readDigits hB hs hsk.2 htk (fun m' hm' => ?_)
        simp (disch := omega) only [bX8_readToken, zZ]
        exact hQ2 m' hm'
      · have hz : tkz bt n st = 1 := by
          unfold tkz
          rw [if_neg (fun q => hge (srt_0.1 q)), if_neg (fun q => q.elim (fun q => c1 (srt_1.1 q).2) (fun q => c2 (srt_2.1 q).2))]
        rw [hz] at hQ2
        have hne2 : ¬ ((st, srt bt n st, 1) : Nat × Nat × Nat).2.1 = 2 := fun q => c2 (srt_2.1 q).2
        have hQ3 := hQ2 m (fun v hv => by rw [fig_no hne2] at hv; cases hv)
        by_cases c3 : (bt st).val = 59
        · have hs := srt_3.2 ⟨c, c3⟩
          rw [hs] at hQ3
          simp (disch := omega) only [bX8_readToken, zZ, zxcZ, hl0, hby, k_isLetter, k_isDigit, c1, c2, c3, and_self, if_true, if_false, if_neg, if_pos]
          exact hQ3
        · have hs : ctk bt (st, srt bt n st, 1) = 1 := by
            unfold ctk
            rw [if_neg (fun q => hge (srt_0.1 q)), if_neg (fun q => c1 (srt_1.1 q).2), if_neg (fun q => c2 (srt_2.1 q).2), if_neg (fun q => c3 (srt_3.1 q).2)]
          rw [hs] at hQ3
          simp (disch := omega) only [bX8_readToken, zZ, zxcZ, hl0, hby, k_isLetter, k_isDigit, c1, c2, c3, and_self, if_true, if_false, if_neg, if_pos]
          exact hQ3
  · have hs : srt bt n st = 0 := srt_0.2 (by omega)
    have hz : tkz bt n st = 0 := by unfold tkz; rw [if_pos hs]
    rw [hs, hz] at hQ2
    have hQ3 := hQ2 m (fun v hv => by rw [fig_no (show ¬ ((st, 0, 0) : Nat × Nat × Nat).2.1 = 2 from (by decide : ¬ (0 : Nat) = 2))] at hv; cases hv)
    simp (disch := omega) only [bX8_readToken, zZ, zxcZ, hl0, if_pos, if_neg]
    exact hQ3
/-- a token as the class keeps it -/
def zct (bt : Nat → Fin 256) (I : zIm) (x : Bool) (t : Nat × Nat × Nat) (m e f : Int32) (F : zIm) : zIm := zxc I x (nI (t.1 + t.2.2)) (nI t.1) (nI (ctk bt t)) m e f F
def znm (bt : Nat → Fin 256) (t : Nat × Nat × Nat) (m : Int32) : Prop := ∀ v, fig bt t = some v → m = nI v
theorem k_tok {t : Nat × Nat × Nat} (hB : zBc bt n I) (h : tkr bt n t) (hQ : ∀ m', znm bt (tkn bt n (t.1 + t.2.2)) m' → Q none sg (rg b) (zct bt I x (tkn bt n (t.1 + t.2.2)) m' e f F) L) : zW (d + 7) mX8_readToken [.ref 1] sg (rg b) (zct bt I x t m e f F) L Q := k_readToken hB (tkr_1 h).2.1 hQ
theorem ctk_9 {t : Nat × Nat × Nat} : ctk bt t < 9 := by
  unfold ctk
  split
  · decide
  · split
    · split
      · rename_i v hv; have := vrb_4 hv; omega
      · decide
    · split
      · split <;> decide
      · split <;> decide
theorem ctk_2 {t : Nat × Nat × Nat} : ctk bt t = 2 ↔ ∃ v, fig bt t = some v := by
  constructor
  · intro h
    unfold ctk at h
    split at h
    · omega
    · split at h
      · split at h <;> omega
      · split at h
        · split at h
          · rename_i v hv; exact ⟨v, hv⟩
          · omega
        · split at h <;> omega
  · rintro ⟨v, hv⟩
    have h2 := fig_s hv
    unfold ctk
    rw [if_neg (by omega), if_neg (by omega), if_pos h2, hv]
theorem ctk_3 {t : Nat × Nat × Nat} : ctk bt t = 3 ↔ t.2.1 = 3 := by
  constructor
  · intro h
    unfold ctk at h
    split at h
    · omega
    · split at h
      · split at h <;> omega
      · split at h
        · split at h <;> omega
        · split at h
          · assumption
          · omega
  · intro h
    unfold ctk
    rw [if_neg (by omega), if_neg (by omega), if_neg (by omega), if_pos h]
theorem ctk_0 {t : Nat × Nat × Nat} : ctk bt t = 0 ↔ t.2.1 = 0 := by
  constructor
  · intro h
    unfold ctk at h
    split at h
    · assumption
    · split at h
      · split at h <;> omega
      · split at h
        · split at h <;> omega
        · split at h <;> omega
  · intro h
    unfold ctk
    rw [if_pos h]
theorem ctk_w {t : Nat × Nat × Nat} {v : Nat} (h : vrb bt t = some v) : ctk bt t = 4 + v := by
  have h1 : t.2.1 = 1 := by
    unfold vrb at h; split at h
    · assumption
    · cases h
  unfold ctk
  rw [if_neg (by omega), if_pos h1, h]
theorem ctk_n {t : Nat × Nat × Nat} (h : vrb bt t = none) : ctk bt t < 4 := by
  unfold ctk
  split
  · decide
  · split
    · rw [h]; decide
    · split
      · split <;> decide
      · split <;> decide
end S
