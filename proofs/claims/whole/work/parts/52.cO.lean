/-! THE CLASS reads items, the text -/
section S
variable {d : Nat} {Q : zPo} {σ : zSh} {ρ : zRf} {I F : zIm} {L : zLm} {b x : Bool} {bt : Nat → Fin 256} {n : Nat} {m e f : Int32} {D : zD} {t : Nat × Nat × Nat}
theorem k_readsRing (hB : zBc bt n I) (h : tkr bt n t) (hD : zDc D F) (hm : znm bt t m) (hw : vrb bt t = some 2)
    (hQ : ∀ y m' e' f' F', zCi bt (pit bt n D t) y m' e' f' F' → Q (some (.int y)) sg (rg b) (zct bt I x (pit bt n D t).2.2 m' e' f' F') L) : zW (d + 8) mX8_readsRing [.ref 1, .ref (tc x 0)] sg (rg b) (zct bt I x t m (bI (dr D)) (bI (dl D)) F) L Q := by
  have hD' := hD
  obtain ⟨h0, h1, h2, h3, h4, h5, h7⟩ := hD
  rw [pit_2 hw] at hQ
  by_cases c : dr D = true
  · rw [if_pos c] at hQ
    rw [c, bI_t]
    simp (disch := omega) only [nX8_readsRing, bX8_readsRing, zZ, zctZ, if_neg]
    exact hQ _ _ _ _ _ (zCi_f hm)
  · rw [if_neg c] at hQ
    rw [show dr D = false from Bool.not_eq_true _ ▸ c, bI_f]
    simp (disch := omega) only [nX8_readsRing, bX8_readsRing, zZ, zctZ, if_pos]
    refine k_tok hB h (fun m' hm' => ?_)
    cases e : fig bt (tkn bt n (t.1 + t.2.2)) with
    | none =>
      rw [e] at hQ
      simp (disch := omega) only [bX8_readsRing, zZ, zctZ, h0, k_num0 e]
      exact hQ _ _ _ _ _ (zCi_f hm')
    | some v =>
      rw [e] at hQ
      have hv := fig_lt (tkr_n h) e
      have hmv := hm' v e
      by_cases c2 : v < (tpn (dT D)).val
      · simp only [if_pos c2] at hQ
        simp (disch := omega) only [bX8_readsRing, zZ, zctZ, h0, k_num1 e hm', c2, and_true, Nat.zero_le, if_true, if_neg]
        rw [hmv]
        refine k_tok hB (tkr_n h) (fun m2 hm2 => ?_)
        simp (disch := omega) only [bX8_readsRing, zZ]
        exact hQ _ _ _ _ _ (zCi_t hm2 (zDc_R hD') rfl rfl)
      · simp only [if_neg c2] at hQ
        simp (disch := omega) only [bX8_readsRing, zZ, zctZ, h0, k_num1 e hm', c2, and_false, if_false]
        exact hQ _ _ _ _ _ (zCi_f hm')
theorem k_readsLaw (hB : zBc bt n I) (h : tkr bt n t) (hD : zDc D F) (hm : znm bt t m) (hw : vrb bt t = some 3)
    (hQ : ∀ y m' e' f' F', zCi bt (pit bt n D t) y m' e' f' F' → Q (some (.int y)) sg (rg b) (zct bt I x (pit bt n D t).2.2 m' e' f' F') L) : zW (d + 8) mX8_readsLaw [.ref 1, .ref (tc x 0)] sg (rg b) (zct bt I x t m (bI (dr D)) (bI (dl D)) F) L Q := by
  have hD' := hD
  obtain ⟨h0, h1, h2, h3, h4, h5, h7⟩ := hD
  rw [pit_3 hw] at hQ
  by_cases c : dl D = true
  · rw [if_pos c] at hQ
    rw [c, bI_t]
    simp (disch := omega) only [nX8_readsLaw, bX8_readsLaw, zZ, zctZ, if_neg]
    exact hQ _ _ _ _ _ (zCi_f hm)
  · rw [if_neg c] at hQ
    rw [show dl D = false from Bool.not_eq_true _ ▸ c, bI_f]
    simp (disch := omega) only [nX8_readsLaw, bX8_readsLaw, zZ, zctZ, if_pos]
    refine k_tok hB h (fun m' hm' => ?_)
    cases e : fig bt (tkn bt n (t.1 + t.2.2)) with
    | none =>
      rw [e] at hQ
      simp (disch := omega) only [bX8_readsLaw, zZ, zctZ, k_num0 e]
      exact hQ _ _ _ _ _ (zCi_f hm')
    | some v =>
      rw [e] at hQ
      have hv := fig_lt (tkr_n h) e
      have hmv := hm' v e
      by_cases c2 : v ≤ 2
      · simp only [if_pos c2] at hQ
        simp (disch := omega) only [bX8_readsLaw, zZ, zctZ, k_num1 e hm', c2, and_true, Nat.zero_le, if_true, if_neg]
        rw [hmv]
        refine k_tok hB (tkr_n h) (fun m2 hm2 => ?_)
        simp (disch := omega) only [bX8_readsLaw, zZ]
        exact hQ _ _ _ _ _ (zCi_t hm2 (zDc_L hD' (by omega)) rfl rfl)
      · simp only [if_neg c2] at hQ
        simp (disch := omega) only [bX8_readsLaw, zZ, zctZ, k_num1 e hm', c2, and_false, if_false]
        exact hQ _ _ _ _ _ (zCi_f hm')
/-- how a row of habits ends in the class -/
def zCs (bt : Nat → Fin 256) (P : Bool × Nat × (Nat → Fin 6) × (Nat × Nat × Nat)) (D : zD) (v : Nat) (y m e f : Int32) (F : zIm) : Prop := zCi bt ((P.1 && (decide (0 < P.2.1) && decide (P.2.2.2.2.1 = 3))), adS D v P.2.1 P.2.2.1, P.2.2.2) y m e f F
theorem k_habits {v0 : Nat} (hB : zBc bt n I) (hv0 : v0 < 31) (h4 : (tsn (dT D)).val < 4) : ∀ fu c h t m F, c + fu = 5 → tkr bt n t → zDc (adS D v0 c h) F → znm bt t m →
    (∀ y m' e' f' F', zCs bt (pha bt n (tpn (dT D)) fu c h t) D v0 y m' e' f' F' → Q (some (.int y)) sg (rg b) (zct bt I x (pha bt n (tpn (dT D)) fu c h t).2.2.2 m' e' f' F') L) →
    zq (d + 7) mX8_readsSeeker Q 40 [some (.ref 1), some (.ref (tc x 0)), some (.int (nI c))] [] sg (rg b) (zct bt I x t m (bI (dr D)) (bI (dl D)) F) L := by
  intro fu
  have hexit : ∀ c h t m F, c < 6 → tkr bt n t → zDc (adS D v0 c h) F → znm bt t m →
      (∀ y m' e' f' F', zCs bt (true, c, h, t) D v0 y m' e' f' F' → Q (some (.int y)) sg (rg b) (zct bt I x t m' e' f' F') L) → zq (d + 7) mX8_readsSeeker Q 84 [some (.ref 1), some (.ref (tc x 0)), some (.int (nI c))] [] sg (rg b) (zct bt I x t m (bI (dr D)) (bI (dl D)) F) L := by
    intro c h t m F hc ht hD hm hQ
    by_cases c0 : c = 0
    · subst c0
      simp (disch := omega) only [bX8_readsSeeker, zZ, if_pos]
      refine hQ _ _ _ _ _ ⟨Or.inl rfl, hm, fun q => ?_, fun _ q => absurd q.1 (by decide +kernel)⟩
      exact absurd q (by simp)
    · simp (disch := omega) only [bX8_readsSeeker, zZ, if_neg]
      refine hQ _ _ _ _ _ ⟨Or.inr rfl, hm, fun q => ⟨rfl, ?_, hD, rfl, rfl⟩, fun q q2 => ?_⟩
      · simpa [Nat.pos_of_ne_zero c0] using q
      · simp only [Nat.pos_of_ne_zero c0, decide_true, Bool.true_and] at q
        exact absurd q2.2 (of_decide_eq_false q)
  induction fu with
  | zero =>
    intro c h t m F hc ht hD hm hQ
    rw [eX8_readsSeeker_40]
    simp (disch := omega) only [eX8_readsSeeker_41, eX8_readsSeeker_42, zZ, if_pos]
    exact hexit c h t m F (by omega) ht hD hm hQ
  | succ fu ih =>
    intro c h t m F hc ht hD hm hQ
    have h9 := ctk_9 (bt := bt) (t := t)
    rw [pha_s] at hQ
    rw [eX8_readsSeeker_40]
    cases e : fig bt t with
    | none =>
      rw [e] at hQ
      have c2 : ¬ ctk bt t = 2 := fun q => by obtain ⟨v, hv⟩ := ctk_2.1 q; rw [e] at hv; cases hv
      have := hexit c h t m F (by omega) ht hD hm hQ
      simp (disch := omega) only [eX8_readsSeeker_41, eX8_readsSeeker_42, eX8_readsSeeker_45, eX8_readsSeeker_46, eX8_readsSeeker_49, eX8_readsSeeker_50, zZ, zctZ, if_neg, c2]
      exact this
    | some v =>
      rw [e] at hQ
      have c2 : ctk bt t = 2 := ctk_2.2 ⟨v, e⟩
      have hv := fig_lt ht e
      have hmv := hm v e
      have h0 : zct bt I x t m (bI (dr D)) (bI (dl D)) F (tc x 0) 0 = nI (tpn (dT D)) := by rw [zct_T (by decide)]; exact hD.1
      have h1 : zct bt I x t m (bI (dr D)) (bI (dl D)) F (tc x 0) 1 = nI (tsn (dT (adS D v0 c h))) := by rw [zct_T (by decide)]; exact hD.2.1
      by_cases c3 : v < (tpn (dT D)).val
      · simp only [if_pos c3] at hQ
        have hs := adS_n (D := D) (v := v0) (c := c) (h := h) h4
        have hk := hD.2.2.2.2.2.2 (tsn (dT D)).val (by omega)
        have h7 : F 7 (tsn (dT D)) = nI c := by rw [hk.2.1, adS_l, pup_s, fo_v (by omega)]
        simp (disch := omega) only [eX8_readsSeeker_41, eX8_readsSeeker_42, eX8_readsSeeker_45, eX8_readsSeeker_46, eX8_readsSeeker_49, eX8_readsSeeker_50, eX8_readsSeeker_53, eX8_readsSeeker_54, eX8_readsSeeker_55, eX8_readsSeeker_58, eX8_readsSeeker_61, eX8_readsSeeker_66, eX8_readsSeeker_67, eX8_readsSeeker_68, eX8_readsSeeker_71, zZ, zctZ, if_neg, c2]
        rw [hmv] at h0 h1 ⊢
        have e9 : 8 + 1 + (tsn (dT D)).val = 9 + (tsn (dT D)).val := rfl
        simp (disch := omega) only [bX8_readsSeeker, k_isPlace h0, nX9_addHabit, bX9_addHabit, zZ, k_isSeeker h1, hs, pk_sub, Nat.add_sub_cancel, zct_T, zct_uT, h7, rg_tr, va_rf_s, c3, and_true, Nat.zero_le, if_true, if_neg, if_pos, zup_r, hD.2.1]
        refine k_tok hB ht (fun m2 hm2 => ?_)
        simp (disch := omega) only [bX8_readsSeeker, zZ]
        exact ih (c + 1) _ _ _ _ (by omega) (tkr_n ht) (zDc_H hD h4 (by omega) (by omega)) hm2 hQ
      · simp only [if_neg c3] at hQ
        simp (disch := omega) only [eX8_readsSeeker_41, eX8_readsSeeker_42, eX8_readsSeeker_45, eX8_readsSeeker_46, eX8_readsSeeker_49, eX8_readsSeeker_50, eX8_readsSeeker_53, eX8_readsSeeker_54, eX8_readsSeeker_55, eX8_readsSeeker_58, eX8_readsSeeker_61, eX8_readsSeeker_66, eX8_readsSeeker_67, eX8_readsSeeker_68, eX8_readsSeeker_71, zZ, zctZ, if_neg, c2]
        rw [hmv] at h0 ⊢
        simp (disch := omega) only [bX8_readsSeeker, k_isPlace h0, zZ, c3, and_false, if_false]
        have hm3 : znm bt t (nI v) := fun w hw => by rw [e] at hw; cases hw; rfl
        exact hQ _ _ _ _ _ ⟨Or.inl rfl, hm3, fun q => Bool.noConfusion q, fun _ q => absurd q.1 (by decide +kernel)⟩
theorem k_readsSeeker (hB : zBc bt n I) (h : tkr bt n t) (hD : zDc D F) (hm : znm bt t m) (hw : vrb bt t = some 1)
    (hQ : ∀ y m' e' f' F', zCi bt (pit bt n D t) y m' e' f' F' → Q (some (.int y)) sg (rg b) (zct bt I x (pit bt n D t).2.2 m' e' f' F') L) : zW (d + 8) mX8_readsSeeker [.ref 1, .ref (tc x 0)] sg (rg b) (zct bt I x t m (bI (dr D)) (bI (dl D)) F) L Q := by
  have h1 := hD.2.1
  rw [pit_1 hw] at hQ
  by_cases c : (tsn (dT D)).val = 4
  · rw [if_pos c] at hQ
    simp (disch := omega) only [nX8_readsSeeker, bX8_readsSeeker, zZ, zctZ, h1, if_neg]
    exact hQ _ _ _ _ _ (zCi_f hm)
  · rw [if_neg c] at hQ
    have h4 : (tsn (dT D)).val < 4 := by omega
    simp (disch := omega) only [nX8_readsSeeker, bX8_readsSeeker, zZ, zctZ, h1, if_pos]
    refine k_tok hB h (fun m' hm' => ?_)
    cases e : fig bt (tkn bt n (t.1 + t.2.2)) with
    | none =>
      rw [e] at hQ
      simp (disch := omega) only [bX8_readsSeeker, zZ, k_num0 e]
      exact hQ _ _ _ _ _ (zCi_f hm')
    | some v =>
      rw [e] at hQ
      have hv := fig_lt (tkr_n h) e
      have hmv := hm' v e
      by_cases c2 : v ≤ 30
      · simp only [if_pos c2] at hQ
        simp (disch := omega) only [bX8_readsSeeker, zZ, k_num1 e hm', c2, and_true, Nat.zero_le, if_true, if_neg]
        rw [hmv]
        simp (disch := omega) only [bX8_readsSeeker, nX9_addSeeker, bX9_addSeeker, zZ, zctZ, h1, if_neg, zup_r, zup_k]
        refine k_tok hB (tkr_n h) (fun m2 hm2 => ?_)
        simp (disch := omega) only [bX8_readsSeeker, zZ]
        exact k_habits hB (by omega) h4 5 0 _ _ _ _ rfl (tkr_n (tkr_n h)) (zDc_S hD h4 (by omega)) hm2 hQ
      · simp only [if_neg c2] at hQ
        simp (disch := omega) only [bX8_readsSeeker, zZ, k_num1 e hm', c2, and_false, if_false]
        exact hQ _ _ _ _ _ (zCi_f hm')
end S
