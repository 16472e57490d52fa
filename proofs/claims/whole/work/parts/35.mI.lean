/-! THE MODEL reads items, the text; a new town -/
section S
variable {d : Nat} {Q : zPo} {σ : zSh} {ρ : zRf} {I : zIm} {L : zLm} {b : Bool} {bt : Nat → Fin 256} {n : Nat} {a v : Int32} {f : Nat → Int32} {D : zD} {it : Nat} {t : Nat × Nat × Nat}
theorem m9_n {n : Nat} (h : n < 2 ^ 31) : (-9 : Int32) = nI n ↔ False := ⟨fun q => by have := nI_m9 h; rw [← this]; exact q.symm, False.elim⟩
theorem s_onceR (hB : zBy bt n I) (h : tkr bt n t) (hD : zDo D it f) (hw : vrb bt t = some 2)
    (hQ : ∀ f' x, zItm (pit bt n D t) it f' x → Q (some (.int x)) sg (rg b) (ztk I (pit bt n D t).2.2 f') L) : zW (d + 5) mX11_once [.ref 87, .int (nI 39), .int (nI 3), .int (nI (tpn (dT D)) - nI 1)] sg (rg b) (ztk I t f) L Q := by
  have hD' := hD
  obtain ⟨⟨h0, -⟩, r3, r38, r39, r40⟩ := hD
  rw [pit_2 hw] at hQ
  by_cases c : dr D = true
  · rw [if_pos c] at hQ
    have e1 : bI (dr D) = nI 1 := by rw [c]; rfl
    simp (disch := omega) only [nX11_once, bX11_once, zZ, ztkZ, r39, e1, if_neg, if_pos]
    exact hQ _ _ zItm_f
  · rw [if_neg c] at hQ
    have e1 : bI (dr D) = nI 0 := by unfold bI; rw [if_neg c]
    cases e : fig bt (tkn bt n (t.1 + t.2.2)) with
    | none =>
      rw [e] at hQ
      simp (disch := omega) only [nX11_once, bX11_once, zZ, ztkZ, r39, e1, if_neg, if_pos, s_number hB h, e, zfg_n]
      exact hQ _ _ zItm_f
    | some v =>
      rw [e] at hQ
      have hv := fig_lt (tkr_n h) e
      by_cases c2 : v < (tpn (dT D)).val
      · simp only [if_pos c2] at hQ
        simp (disch := omega) only [nX11_once, bX11_once, zZ, ztkZ, r39, e1, if_neg, if_pos, s_number hB h, e, zfg_st, nI_m9, s_tok hB (tkr_n h)]
        exact hQ _ _ (zItm_t (zDo_R hD'))
      · simp only [if_neg c2] at hQ
        simp (disch := omega) only [nX11_once, bX11_once, zZ, ztkZ, r39, e1, if_neg, if_pos, s_number hB h, e, zfg_sf]
        exact hQ _ _ zItm_f
theorem s_onceL (hB : zBy bt n I) (h : tkr bt n t) (hD : zDo D it f) (hw : vrb bt t = some 3)
    (hQ : ∀ f' x, zItm (pit bt n D t) it f' x → Q (some (.int x)) sg (rg b) (ztk I (pit bt n D t).2.2 f') L) : zW (d + 5) mX11_once [.ref 87, .int (nI 40), .int (nI 2), .int (nI 2)] sg (rg b) (ztk I t f) L Q := by
  have hD' := hD
  obtain ⟨⟨h0, -⟩, r3, r38, r39, r40⟩ := hD
  rw [pit_3 hw] at hQ
  by_cases c : dl D = true
  · rw [if_pos c] at hQ
    have e1 : bI (dl D) = nI 1 := by rw [c]; rfl
    simp (disch := omega) only [nX11_once, bX11_once, zZ, ztkZ, r40, e1, if_neg, if_pos]
    exact hQ _ _ zItm_f
  · rw [if_neg c] at hQ
    have e1 : bI (dl D) = nI 0 := by unfold bI; rw [if_neg c]
    cases e : fig bt (tkn bt n (t.1 + t.2.2)) with
    | none =>
      rw [e] at hQ
      simp (disch := omega) only [nX11_once, bX11_once, zZ, ztkZ, r40, e1, if_neg, if_pos, s_number hB h, e, zfg_n]
      exact hQ _ _ zItm_f
    | some v =>
      rw [e] at hQ
      have hv := fig_lt (tkr_n h) e
      by_cases c2 : v ≤ 2
      · simp only [if_pos c2] at hQ
        simp (disch := omega) only [nX11_once, bX11_once, zZ, ztkZ, r40, e1, if_neg, if_pos, s_number hB h, e, zfg_t, nI_m9, s_tok hB (tkr_n h)]
        exact hQ _ _ (zItm_t (zDo_L hD' (by omega)))
      · simp only [if_neg c2] at hQ
        simp (disch := omega) only [nX11_once, bX11_once, zZ, ztkZ, r40, e1, if_neg, if_pos, s_number hB h, e, zfg_f]
        exact hQ _ _ zItm_f
/-- how a row of habits ends -/
def zItS (P : Bool × Nat × (Nat → Fin 6) × (Nat × Nat × Nat)) (D : zD) (v it : Nat) (f' : Nat → Int32) (x : Int32) : Prop := zItm ((P.1 && (decide (0 < P.2.1) && decide (P.2.2.2.2.1 = 3))), adS D v P.2.1 P.2.2.1, P.2.2.2) it f' x
theorem fig_s {t : Nat × Nat × Nat} {v : Nat} (h : fig bt t = some v) : t.2.1 = 2 := by
  unfold fig at h; split at h
  · rename_i c; exact c.1
  · cases h
theorem zDo_h {D : zD} {it i : Nat} {f : Nat → Int32} {x : Int32} (hD : zDo D it f) (h4 : (tsn (dT D)).val < 4) (hi : i < 5) : zDo D it (pup f (18 + 5 * (tsn (dT D)).val + i) x) := by
  obtain ⟨⟨h0, h1, h2, h3, h4', h5, h6'⟩, r3, r38, r39, r40⟩ := hD
  refine ⟨⟨?_, ?_, ?_, ?_, ?_, ?_, ?_⟩, ?_, ?_, ?_, ?_⟩
  · rw [pup_n (by omega)]; exact h0
  · rw [pup_n (by omega)]; exact h1
  · rw [pup_n (by omega)]; exact h2
  · intro p hp
    rw [pup_n (by omega)]; exact h3 p hp
  · intro k hk
    rw [pup_n (by omega)]; exact h4' k hk
  · intro k hk
    rw [pup_n (by omega)]; exact h5 k hk
  · intro k hk i hi
    rw [pup_n (by omega)]; exact h6' k hk i hi
  · rw [pup_n (by omega)]; exact r3
  · rw [pup_n (by omega)]; exact r38
  · rw [pup_n (by omega)]; exact r39
  · rw [pup_n (by omega)]; exact r40
theorem zDo_m {D : zD} {it : Nat} {f : Nat → Int32} {x : Int32} (hD : zDo D it f) (h4 : (tsn (dT D)).val < 4) : zDo D it (pup f (10 + (tsn (dT D)).val) x) := by
  obtain ⟨⟨h0, h1, h2, h3, h4', h5, h6'⟩, r3, r38, r39, r40⟩ := hD
  refine ⟨⟨?_, ?_, ?_, ?_, ?_, ?_, ?_⟩, ?_, ?_, ?_, ?_⟩
  · rw [pup_n (by omega)]; exact h0
  · rw [pup_n (by omega)]; exact h1
  · rw [pup_n (by omega)]; exact h2
  · intro p hp
    rw [pup_n (by omega)]; exact h3 p hp
  · intro k hk
    rw [pup_n (by omega)]; exact h4' k hk
  · intro k hk
    rw [pup_n (by omega)]; exact h5 k hk
  · intro k hk i hi
    rw [pup_n (by omega)]; exact h6' k hk i hi
  · rw [pup_n (by omega)]; exact r3
  · rw [pup_n (by omega)]; exact r38
  · rw [pup_n (by omega)]; exact r39
  · rw [pup_n (by omega)]; exact r40
theorem fig_no {t : Nat × Nat × Nat} (h : ¬ t.2.1 = 2) : fig bt t = none := by
  unfold fig; rw [if_neg (fun q => h q.1)]
theorem s_habits {v0 : Nat} (hB : zBy bt n I) (hv0 : v0 < 31) (h4 : (tsn (dT D)).val < 4) : ∀ fu c h t f l4, c + fu = 5 → tkr bt n t → zDo D it f → f (10 + (tsn (dT D)).val) = nI v0 → (∀ i, i < c → f (18 + 5 * (tsn (dT D)).val + i) = nI (h i)) →
    (∀ f' x, zItS (pha bt n (tpn (dT D)) fu c h t) D v0 it f' x → Q (some (.int x)) sg (rg b) (ztk I (pha bt n (tpn (dT D)) fu c h t).2.2.2 f') L) →
    zq (d + 4) mX11_readsSeeker Q 49 [some (.ref 87), some (.int (nI (tsn (dT D)))), some (.int (nI v0)), some (.int (nI c)), l4] [] sg (rg b) (ztk I t f) L := by
  intro fu
  have hexit : ∀ c h t f l4, c < 6 → tkr bt n t → zDo D it f → f (10 + (tsn (dT D)).val) = nI v0 → (∀ i, i < c → f (18 + 5 * (tsn (dT D)).val + i) = nI (h i)) →
      (∀ f' x, zItS (true, c, h, t) D v0 it f' x → Q (some (.int x)) sg (rg b) (ztk I t f') L) → zq (d + 4) mX11_readsSeeker Q 111 [some (.ref 87), some (.int (nI (tsn (dT D)))), some (.int (nI v0)), some (.int (nI c)), l4] [] sg (rg b) (ztk I t f) L := by
    intro c h t f l4 hc ht hD hm hh hQ
    have h1 := hD.1.2.1
    have hz := zDo_S (h := h) hD h4 hv0 hc hm hh
    by_cases c0 : c = 0
    · subst c0
      simp (disch := omega) only [bX11_readsSeeker, zZ, ztkZ, pup_n, h1, if_pos]
      refine hQ _ _ ⟨Or.inl rfl, fun q => ?_, fun _ q => absurd q.1 (by decide +kernel)⟩
      exact absurd q (by simp)
    · simp (disch := omega) only [bX11_readsSeeker, zZ, ztkZ, pup_n, h1, if_neg]
      refine hQ _ _ ⟨Or.inr rfl, fun q => ⟨rfl, ?_, hz⟩, fun q q2 => ?_⟩
      · simpa [Nat.pos_of_ne_zero c0] using q
      · simp only [Nat.pos_of_ne_zero c0, decide_true, Bool.true_and] at q
        exact absurd q2.2 (of_decide_eq_false q)
  induction fu with
  | zero =>
    intro c h t f l4 hc ht hD hm hh hQ
    rw [eX11_readsSeeker_49]
    simp (disch := omega) only [eX11_readsSeeker_50, eX11_readsSeeker_51, zZ, if_pos]
    exact hexit c h t f l4 (by omega) ht hD hm hh hQ
  | succ fu ih =>
    intro c h t f l4 hc ht hD hm hh hQ
    have h0 := hD.1.1
    have hsl : t.2.1 ≤ 4 := (tkr_1 ht).2.2.2.1 ▸ srt_le bt n t.1
    rw [pha_s] at hQ
    rw [eX11_readsSeeker_49]
    by_cases c2 : t.2.1 = 2
    · cases e : fig bt t with
      | none =>
        rw [e] at hQ
        simp (disch := omega) only [bX11_readsSeeker, zZ, ztkZ, if_neg, c2, h0, s_figure hB ht, e, zfg_n]
        refine hQ _ _ ⟨Or.inl rfl, fun q => ?_, fun _ q => absurd q.1 (by decide +kernel)⟩
        exact absurd q (by simp [c2])
      | some v =>
        rw [e] at hQ
        have hv := fig_lt ht e
        by_cases c3 : v < (tpn (dT D)).val
        · simp only [if_pos c3] at hQ
          simp (disch := omega) only [bX11_readsSeeker, zZ, ztkZ, if_neg, c2, h0, s_figure hB ht, e, zfg_st, nI_m9, s_tok hB ht]
          refine ih (c + 1) _ _ _ _ (by omega) (tkr_n ht) (zDo_h hD h4 (by omega)) ?_ ?_ hQ
          · rw [pup_n (by omega)]; exact hm
          · intro i hi
            by_cases e2 : i = c
            · rw [e2, pup_s, pup_s, fo_v (by omega)]
            · rw [pup_n (by omega), pup_n e2]; exact hh i (by omega)
        · simp only [if_neg c3] at hQ
          simp (disch := omega) only [bX11_readsSeeker, zZ, ztkZ, if_neg, c2, h0, s_figure hB ht, e, zfg_sf]
          exact hQ _ _ ⟨Or.inl rfl, fun q => Bool.noConfusion q, fun _ q => absurd q.1 (by decide +kernel)⟩
    · rw [fig_no c2] at hQ
      have := hexit c h t f l4 (by omega) ht hD hm hh hQ
      simp (disch := omega) only [eX11_readsSeeker_50, eX11_readsSeeker_51, eX11_readsSeeker_54, eX11_readsSeeker_55, eX11_readsSeeker_58, eX11_readsSeeker_59, zZ, ztkZ, if_neg, c2]
      exact this
theorem s_readsSeeker (hB : zBy bt n I) (h : tkr bt n t) (hD : zDo D it f) (hw : vrb bt t = some 1)
    (hQ : ∀ f' x, zItm (pit bt n D t) it f' x → Q (some (.int x)) sg (rg b) (ztk I (pit bt n D t).2.2 f') L) : zW (d + 5) mX11_readsSeeker [.ref 87] sg (rg b) (ztk I t f) L Q := by
  have h1 := hD.1.2.1
  rw [pit_1 hw] at hQ
  by_cases c : (tsn (dT D)).val = 4
  · rw [if_pos c] at hQ
    simp (disch := omega) only [nX11_readsSeeker, bX11_readsSeeker, zZ, ztkZ, h1, c, if_pos]
    exact hQ _ _ zItm_f
  · rw [if_neg c] at hQ
    have h4 : (tsn (dT D)).val < 4 := by omega
    cases e : fig bt (tkn bt n (t.1 + t.2.2)) with
    | none =>
      rw [e] at hQ
      simp (disch := omega) only [nX11_readsSeeker, bX11_readsSeeker, zZ, ztkZ, h1, if_neg, if_pos, s_number hB h, e, zfg_n]
      exact hQ _ _ zItm_f
    | some v =>
      rw [e] at hQ
      have hv := fig_lt (tkr_n h) e
      by_cases c2 : v ≤ 30
      · simp only [if_pos c2] at hQ
        simp (disch := omega) only [nX11_readsSeeker, bX11_readsSeeker, zZ, ztkZ, h1, if_neg, if_pos, s_number hB h, e, zfg_t, nI_m9, s_tok hB (tkr_n h)]
        exact s_habits hB (by omega) h4 5 0 _ _ _ _ rfl (tkr_n (tkr_n h)) (zDo_m hD h4) pup_s (fun i hi => absurd hi (Nat.not_lt_zero i)) hQ
      · simp only [if_neg c2] at hQ
        simp (disch := omega) only [nX11_readsSeeker, bX11_readsSeeker, zZ, ztkZ, h1, if_neg, if_pos, s_number hB h, e, zfg_f]
        exact hQ _ _ zItm_f
theorem s_readsItem (hB : zBy bt n I) (h : tkr bt n t) (hD : zDo D it f)
    (hQ : ∀ f' x, zItm (pit bt n D t) it f' x → Q (some (.int x)) sg (rg b) (ztk I (pit bt n D t).2.2 f') L) : zW (d + 6) mX11_readsItem [.ref 87, .int (zfn (vrb bt t))] sg (rg b) (ztk I t f) L Q := by
  have h0 := hD.1.1
  cases e : vrb bt t with
  | none =>
    rw [pit_n e] at hQ
    simp (disch := omega) only [nX11_readsItem, bX11_readsItem, zZ, zfn_n, m9_n]
    exact hQ _ _ zItm_f
  | some v =>
    have hv := vrb_4 e
    have hc : v = 0 ∨ v = 1 ∨ v = 2 ∨ v = 3 := by omega
    rcases hc with rfl | rfl | rfl | rfl
    · simp (disch := omega) only [nX11_readsItem, bX11_readsItem, zZ, zfn_s]
      refine s_readsPlace hB h hD e (fun f' x hx => ?_)
      simp only [zZ, bX11_readsItem]
      rcases hx.1 with rfl | rfl
      · simp (disch := omega) only [zZ]; exact hQ _ _ hx
      · simp (disch := omega) only [zZ]; exact hQ _ _ hx
    · simp (disch := omega) only [nX11_readsItem, bX11_readsItem, zZ, zfn_s, if_neg]
      refine s_readsSeeker hB h hD e (fun f' x hx => ?_)
      simp only [zZ, bX11_readsItem]
      rcases hx.1 with rfl | rfl
      · simp (disch := omega) only [zZ]; exact hQ _ _ hx
      · simp (disch := omega) only [zZ]; exact hQ _ _ hx
    · simp (disch := omega) only [nX11_readsItem, bX11_readsItem, zZ, ztkZ, h0, zfn_s, if_neg]
      refine s_onceR hB h hD e (fun f' x hx => ?_)
      simp only [zZ, bX11_readsItem]
      rcases hx.1 with rfl | rfl
      · simp (disch := omega) only [zZ]; exact hQ _ _ hx
      · simp (disch := omega) only [zZ]; exact hQ _ _ hx
    · simp (disch := omega) only [nX11_readsItem, bX11_readsItem, zZ, zfn_s, if_neg]
      refine s_onceL hB h hD e (fun f' x hx => ?_)
      simp only [zZ, bX11_readsItem]
      rcases hx.1 with rfl | rfl
      · simp (disch := omega) only [zZ]; exact hQ _ _ hx
      · simp (disch := omega) only [zZ, if_neg]; exact hQ _ _ hx
end S
