/-! what is told, as the model drafts it -/
def zDo (D : zD) (it : Nat) (f : Nat → Int32) : Prop := zTo (dT D) f ∧ f 3 = nI (dR D) ∧ f 38 = nI it ∧ f 39 = bI (dr D) ∧ f 40 = bI (dl D)
theorem adP_n {D : zD} {v : Nat} (h : (tpn (dT D)).val < 6) : (tpn (dT (adP D v))).val = (tpn (dT D)).val + 1 := Nat.mod_eq_of_lt (by omega)
theorem adP_h {D : zD} {v p : Nat} : thd (dT (adP D v)) p = pup (thd (dT D)) (tpn (dT D)).val (Fin.ofNat 10 v) p := rfl
theorem adS_n {D : zD} {v c : Nat} {h : Nat → Fin 6} (h4 : (tsn (dT D)).val < 4) : (tsn (dT (adS D v c h))).val = (tsn (dT D)).val + 1 := Nat.mod_eq_of_lt (by omega)
theorem adS_m {D : zD} {v c k : Nat} {h : Nat → Fin 6} : tmn (dT (adS D v c h)) k = pup (tmn (dT D)) (tsn (dT D)).val (Fin.ofNat 31 v) k := rfl
theorem adS_l {D : zD} {v c k : Nat} {h : Nat → Fin 6} : tln (dT (adS D v c h)) k = pup (tln (dT D)) (tsn (dT D)).val (Fin.ofNat 6 c) k := rfl
theorem adS_h {D : zD} {v c k : Nat} {h : Nat → Fin 6} : thb (dT (adS D v c h)) k = pup (thb (dT D)) (tsn (dT D)).val h k := rfl
theorem fo_v {n v : Nat} [NeZero n] (h : v < n) : (Fin.ofNat n v).val = v := Nat.mod_eq_of_lt h
theorem zDo_P {D : zD} {it v : Nat} {f : Nat → Int32} (hD : zDo D it f) (h6 : (tpn (dT D)).val < 6) (hv : v < 10) : zDo (adP D v) it (pup (pup f (4 + (tpn (dT D)).val) (nI v)) 0 (nI ((tpn (dT D)).val + 1))) := by
  obtain ⟨⟨h0, h1, h2, h3, h4, h5, h6'⟩, r3, r38, r39, r40⟩ := hD
  refine ⟨⟨?_, ?_, ?_, ?_, ?_, ?_, ?_⟩, ?_, ?_, ?_, ?_⟩
  · rw [pup_s, adP_n h6]
  · rw [pup_n (by decide), pup_n (by omega)]; exact h1
  · rw [pup_n (by decide), pup_n (by omega)]; exact h2
  · intro p hp
    rw [adP_n h6] at hp
    rw [pup_n (by omega), adP_h]
    by_cases e : p = (tpn (dT D)).val
    · rw [e, pup_s, pup_s, fo_v hv]
    · rw [pup_n (by omega), pup_n e]; exact h3 p (by omega)
  · intro k hk
    rw [pup_n (by omega), pup_n (by omega)]; exact h4 k hk
  · intro k hk
    rw [pup_n (by omega), pup_n (by omega)]; exact h5 k hk
  · intro k hk i hi
    rw [pup_n (by omega), pup_n (by omega)]; exact h6' k hk i hi
  · rw [pup_n (by decide), pup_n (by omega)]; exact r3
  · rw [pup_n (by decide), pup_n (by omega)]; exact r38
  · rw [pup_n (by decide), pup_n (by omega)]; exact r39
  · rw [pup_n (by decide), pup_n (by omega)]; exact r40
theorem zDo_S {D : zD} {it v c : Nat} {h : Nat → Fin 6} {f : Nat → Int32} (hD : zDo D it f) (h4 : (tsn (dT D)).val < 4) (hv : v < 31) (hc : c < 6) (hm : f (10 + (tsn (dT D)).val) = nI v) (hh : ∀ i, i < c → f (18 + 5 * (tsn (dT D)).val + i) = nI (h i)) : zDo (adS D v c h) it (pup (pup f (14 + (tsn (dT D)).val) (nI c)) 1 (nI ((tsn (dT D)).val + 1))) := by
  obtain ⟨⟨h0, h1, h2, h3, h4', h5, h6'⟩, r3, r38, r39, r40⟩ := hD
  refine ⟨⟨?_, ?_, ?_, ?_, ?_, ?_, ?_⟩, ?_, ?_, ?_, ?_⟩
  · rw [pup_n (by decide), pup_n (by omega)]; exact h0
  · rw [pup_s, adS_n h4]
  · rw [pup_n (by decide), pup_n (by omega)]; exact h2
  · intro p hp
    have hp' : p < (tpn (dT D)).val := hp
    rw [pup_n (by omega), pup_n (by omega)]; exact h3 p hp
  · intro k hk
    rw [adS_n h4] at hk
    rw [pup_n (by omega), pup_n (by omega), adS_m]
    by_cases e : k = (tsn (dT D)).val
    · rw [e, pup_s, fo_v hv]; exact hm
    · rw [pup_n e]; exact h4' k (by omega)
  · intro k hk
    rw [adS_n h4] at hk
    rw [pup_n (by omega), adS_l]
    by_cases e : k = (tsn (dT D)).val
    · rw [e, pup_s, pup_s, fo_v hc]
    · rw [pup_n (by omega), pup_n e]; exact h5 k (by omega)
  · intro k hk i hi
    rw [adS_n h4] at hk
    rw [adS_l] at hi
    rw [adS_h]
    by_cases e : k = (tsn (dT D)).val
    · subst e
      rw [pup_s, fo_v hc] at hi
      rw [pup_n (by omega), pup_n (by omega), pup_s]
      exact hh i hi
    · rw [pup_n e] at hi
      rw [pup_n (by omega), pup_n (by omega), pup_n e]
      exact h6' k (by omega) i hi
  · rw [pup_n (by decide), pup_n (by omega)]; exact r3
  · rw [pup_n (by decide), pup_n (by omega)]; exact r38
  · rw [pup_n (by decide), pup_n (by omega)]; exact r39
  · rw [pup_n (by decide), pup_n (by omega)]; exact r40
theorem zDo_R {D : zD} {it v : Nat} {f : Nat → Int32} (hD : zDo D it f) : zDo (adR D v) it (pup (pup f 39 (nI 1)) 3 (nI v)) := by
  obtain ⟨⟨h0, h1, h2, h3, h4', h5, h6'⟩, r3, r38, r39, r40⟩ := hD
  refine ⟨⟨?_, ?_, ?_, ?_, ?_, ?_, ?_⟩, ?_, ?_, ?_, ?_⟩
  · rw [pup_n (by decide), pup_n (by omega)]; exact h0
  · rw [pup_n (by decide), pup_n (by omega)]; exact h1
  · rw [pup_n (by decide), pup_n (by omega)]; exact h2
  · intro p hp
    have hp' : p < (tpn (dT D)).val := hp
    rw [pup_n (by omega), pup_n (by omega)]; exact h3 p hp
  · intro k hk
    have hk' : k < (tsn (dT D)).val := hk
    rw [pup_n (by omega), pup_n (by omega)]; exact h4' k hk
  · intro k hk
    have hk' : k < (tsn (dT D)).val := hk
    rw [pup_n (by omega), pup_n (by omega)]; exact h5 k hk
  · intro k hk i hi
    have hk' : k < (tsn (dT D)).val := hk
    have hi' : i < (tln (dT D) k).val := hi
    rw [pup_n (by omega), pup_n (by omega)]; exact h6' k hk i hi
  · rw [pup_s]; rfl
  · rw [pup_n (by decide), pup_n (by omega)]; exact r38
  · rw [pup_n (by decide), pup_s]; rfl
  · rw [pup_n (by decide), pup_n (by omega)]; exact r40
theorem zDo_L {D : zD} {it v : Nat} {f : Nat → Int32} (hD : zDo D it f) (hv : v < 3) : zDo (adL D v) it (pup (pup f 40 (nI 1)) 2 (nI v)) := by
  obtain ⟨⟨h0, h1, h2, h3, h4', h5, h6'⟩, r3, r38, r39, r40⟩ := hD
  refine ⟨⟨?_, ?_, ?_, ?_, ?_, ?_, ?_⟩, ?_, ?_, ?_, ?_⟩
  · rw [pup_n (by decide), pup_n (by omega)]; exact h0
  · rw [pup_n (by decide), pup_n (by omega)]; exact h1
  · rw [pup_s]; show nI v = nI (Fin.ofNat 3 v).val; rw [fo_v hv]
  · intro p hp
    have hp' : p < (tpn (dT D)).val := hp
    rw [pup_n (by omega), pup_n (by omega)]; exact h3 p hp
  · intro k hk
    have hk' : k < (tsn (dT D)).val := hk
    rw [pup_n (by omega), pup_n (by omega)]; exact h4' k hk
  · intro k hk
    have hk' : k < (tsn (dT D)).val := hk
    rw [pup_n (by omega), pup_n (by omega)]; exact h5 k hk
  · intro k hk i hi
    have hk' : k < (tsn (dT D)).val := hk
    have hi' : i < (tln (dT D) k).val := hi
    rw [pup_n (by omega), pup_n (by omega)]; exact h6' k hk i hi
  · rw [pup_n (by decide), pup_n (by omega)]; exact r3
  · rw [pup_n (by decide), pup_n (by omega)]; exact r38
  · rw [pup_n (by decide), pup_n (by omega)]; exact r39
  · rw [pup_n (by decide), pup_s]; rfl
theorem zDo_I {D : zD} {it : Nat} {f : Nat → Int32} (hD : zDo D it f) : zDo D (it + 1) (pup f 38 (nI (it + 1))) := by
  obtain ⟨⟨h0, h1, h2, h3, h4', h5, h6'⟩, r3, r38, r39, r40⟩ := hD
  refine ⟨⟨?_, ?_, ?_, ?_, ?_, ?_, ?_⟩, ?_, ?_, ?_, ?_⟩
  · rw [pup_n (by decide)]; exact h0
  · rw [pup_n (by decide)]; exact h1
  · rw [pup_n (by decide)]; exact h2
  · intro p hp
    rw [pup_n (by omega)]; exact h3 p hp
  · intro k hk
    rw [pup_n (by omega)]; exact h4' k hk
  · intro k hk
    rw [pup_n (by omega)]; exact h5 k hk
  · intro k hk i hi
    rw [pup_n (by omega)]; exact h6' k hk i hi
  · rw [pup_n (by decide)]; exact r3
  · rw [pup_s]
  · rw [pup_n (by decide)]; exact r39
  · rw [pup_n (by decide)]; exact r40
/-! what an item's reading comes to -/
section
variable {bt : Nat → Fin 256} {n : Nat} {D : zD} {t : Nat × Nat × Nat}
theorem pit_0 (h : vrb bt t = some 0) : pit bt n D t = if (tpn (dT D)).val = 6 then (false, D, t) else
      match fig bt (tkn bt n (t.1 + t.2.2)) with
      | some v => if 1 ≤ v ∧ v ≤ 9 then (decide ((tkn bt n ((tkn bt n (t.1 + t.2.2)).1 + (tkn bt n (t.1 + t.2.2)).2.2)).2.1 = 3), adP D v, tkn bt n ((tkn bt n (t.1 + t.2.2)).1 + (tkn bt n (t.1 + t.2.2)).2.2)) else (false, D, tkn bt n (t.1 + t.2.2))
      | none => (false, D, tkn bt n (t.1 + t.2.2)) := by unfold pit; rw [h]; rfl
theorem pit_1 (h : vrb bt t = some 1) : pit bt n D t = if (tsn (dT D)).val = 4 then (false, D, t) else
      match fig bt (tkn bt n (t.1 + t.2.2)) with
      | some v => if v ≤ 30 then
          ((pha bt n (tpn (dT D)) 5 0 (thb (dT D) (tsn (dT D))) (tkn bt n ((tkn bt n (t.1 + t.2.2)).1 + (tkn bt n (t.1 + t.2.2)).2.2))).1 && (decide (0 < (pha bt n (tpn (dT D)) 5 0 (thb (dT D) (tsn (dT D))) (tkn bt n ((tkn bt n (t.1 + t.2.2)).1 + (tkn bt n (t.1 + t.2.2)).2.2))).2.1) && decide ((pha bt n (tpn (dT D)) 5 0 (thb (dT D) (tsn (dT D))) (tkn bt n ((tkn bt n (t.1 + t.2.2)).1 + (tkn bt n (t.1 + t.2.2)).2.2))).2.2.2.2.1 = 3)),
            adS D v (pha bt n (tpn (dT D)) 5 0 (thb (dT D) (tsn (dT D))) (tkn bt n ((tkn bt n (t.1 + t.2.2)).1 + (tkn bt n (t.1 + t.2.2)).2.2))).2.1 (pha bt n (tpn (dT D)) 5 0 (thb (dT D) (tsn (dT D))) (tkn bt n ((tkn bt n (t.1 + t.2.2)).1 + (tkn bt n (t.1 + t.2.2)).2.2))).2.2.1,
            (pha bt n (tpn (dT D)) 5 0 (thb (dT D) (tsn (dT D))) (tkn bt n ((tkn bt n (t.1 + t.2.2)).1 + (tkn bt n (t.1 + t.2.2)).2.2))).2.2.2) else (false, D, tkn bt n (t.1 + t.2.2))
      | none => (false, D, tkn bt n (t.1 + t.2.2)) := by unfold pit; rw [h]; rfl
theorem pit_2 (h : vrb bt t = some 2) : pit bt n D t = if dr D = true then (false, D, t) else
      match fig bt (tkn bt n (t.1 + t.2.2)) with
      | some v => if v < (tpn (dT D)).val then (decide ((tkn bt n ((tkn bt n (t.1 + t.2.2)).1 + (tkn bt n (t.1 + t.2.2)).2.2)).2.1 = 3), adR D v, tkn bt n ((tkn bt n (t.1 + t.2.2)).1 + (tkn bt n (t.1 + t.2.2)).2.2)) else (false, D, tkn bt n (t.1 + t.2.2))
      | none => (false, D, tkn bt n (t.1 + t.2.2)) := by unfold pit; rw [h]; rfl
theorem pit_3 (h : vrb bt t = some 3) : pit bt n D t = if dl D = true then (false, D, t) else
      match fig bt (tkn bt n (t.1 + t.2.2)) with
      | some v => if v ≤ 2 then (decide ((tkn bt n ((tkn bt n (t.1 + t.2.2)).1 + (tkn bt n (t.1 + t.2.2)).2.2)).2.1 = 3), adL D v, tkn bt n ((tkn bt n (t.1 + t.2.2)).1 + (tkn bt n (t.1 + t.2.2)).2.2)) else (false, D, tkn bt n (t.1 + t.2.2))
      | none => (false, D, tkn bt n (t.1 + t.2.2)) := by unfold pit; rw [h]; rfl
theorem pit_n (h : vrb bt t = none) : pit bt n D t = (false, D, t) := by unfold pit; rw [h]
theorem vrb_4 {v : Nat} (h : vrb bt t = some v) : v < 4 := by
  unfold vrb at h
  split at h
  · split at h
    · cases h; decide
    · split at h
      · cases h; decide
      · split at h
        · cases h; decide
        · split at h
          · cases h; decide
          · cases h
  · cases h
theorem pha_s (np f c : Nat) (h : Nat → Fin 6) (t : Nat × Nat × Nat) : pha bt n np (f + 1) c h t = match fig bt t with
    | some v => if v < np then pha bt n np f (c + 1) (pup h c (Fin.ofNat 6 v)) (tkn bt n (t.1 + t.2.2)) else (false, c, h, t)
    | none => (true, c, h, t) := rfl
/-- how an item ends: x was answered, f' is the draft -/
def zItm (P : Bool × zD × (Nat × Nat × Nat)) (it : Nat) (f' : Nat → Int32) (x : Int32) : Prop := (x = nI 0 ∨ x = nI 1) ∧ (P.1 = true → x = nI 1 ∧ P.2.2.2.1 = 3 ∧ zDo P.2.1 it f') ∧ (P.1 = false → ¬ (x = nI 1 ∧ P.2.2.2.1 = 3))
theorem zItm_f {D : zD} {t : Nat × Nat × Nat} {it : Nat} {f' : Nat → Int32} : zItm (false, D, t) it f' (nI 0) := ⟨Or.inl rfl, fun h => Bool.noConfusion h, fun _ h => absurd h.1 (by decide +kernel)⟩
theorem zItm_t {D : zD} {t : Nat × Nat × Nat} {it : Nat} {f' : Nat → Int32} (h : zDo D it f') : zItm (decide (t.2.1 = 3), D, t) it f' (nI 1) := ⟨Or.inr rfl, fun h2 => ⟨rfl, of_decide_eq_true h2, h⟩, fun h2 h3 => absurd h3.2 (of_decide_eq_false h2)⟩
end
section S
variable {d : Nat} {Q : zPo} {σ : zSh} {ρ : zRf} {I : zIm} {L : zLm} {b : Bool} {bt : Nat → Fin 256} {n : Nat} {a v : Int32} {f : Nat → Int32} {D : zD} {it : Nat} {t : Nat × Nat × Nat}
theorem ztk_90 {j : Nat} : ztk I t f 90 j = f j := rfl
theorem ztk_10 : ztk I t f 87 10 = nI t.2.1 := rfl
theorem ztk_11 : ztk I t f 87 11 = nI t.1 := rfl
theorem ztk_u90 {j : Nat} : zup (ztk I t f) 90 j v = ztk I t (pup f j v) := zlx_u90
end S
def ztkZ := And.intro @ztk_90 (And.intro @ztk_10 (And.intro @ztk_11 @ztk_u90))
section S
variable {d : Nat} {Q : zPo} {σ : zSh} {ρ : zRf} {I : zIm} {L : zLm} {b : Bool} {bt : Nat → Fin 256} {n : Nat} {a v : Int32} {f : Nat → Int32} {D : zD} {it : Nat} {t : Nat × Nat × Nat}
theorem m9_0 : (-9 : Int32) = nI 0 ↔ False := by decide +kernel
theorem zfg_n {lo hi : Int32} : zfg none lo hi = -9 := rfl
theorem zfg_t {lo hi v : Nat} (h1 : lo ≤ v) (h2 : v ≤ hi) (h : hi < 2 ^ 31) : zfg (some v) (nI lo) (nI hi) = nI v := if_pos ⟨(nI_leI (by omega) (by omega)).2 h1, (nI_leI (by omega) (by omega)).2 h2⟩
theorem zfg_f {lo hi v : Nat} (h1 : ¬ (lo ≤ v ∧ v ≤ hi)) (hl : lo < 2 ^ 31) (h : hi < 2 ^ 31) (hv : v < 2 ^ 31) : zfg (some v) (nI lo) (nI hi) = -9 := if_neg (fun q => h1 ⟨(nI_leI (by omega) (by omega)).1 q.1, (nI_leI (by omega) (by omega)).1 q.2⟩)
theorem zfg_st {hi v : Nat} (h2 : v < hi) (h : hi < 2 ^ 30) : zfg (some v) (nI 0) (nI hi - nI 1) = nI v := if_pos ⟨(nI_leI (by omega) (by omega)).2 (Nat.zero_le _), (nI_les (by omega) h).2 h2⟩
theorem zfg_sf {hi v : Nat} (h2 : ¬ v < hi) (h : hi < 2 ^ 30) (hv : v < 2 ^ 31) : zfg (some v) (nI 0) (nI hi - nI 1) = -9 := if_neg (fun q => h2 ((nI_les hv h).1 q.2))
theorem s_readsPlace (hB : zBy bt n I) (h : tkr bt n t) (hD : zDo D it f) (hw : vrb bt t = some 0)
    (hQ : ∀ f' x, zItm (pit bt n D t) it f' x → Q (some (.int x)) sg (rg b) (ztk I (pit bt n D t).2.2 f') L) : zW (d + 5) mX11_readsPlace [.ref 87] sg (rg b) (ztk I t f) L Q := by
  have hD' := hD
  obtain ⟨⟨h0, -⟩, -⟩ := hD
  rw [pit_0 hw] at hQ
  by_cases c : (tpn (dT D)).val = 6
  · rw [if_pos c] at hQ
    simp (disch := omega) only [nX11_readsPlace, bX11_readsPlace, zZ, ztkZ, h0, if_pos]
    exact hQ _ _ zItm_f
  · rw [if_neg c] at hQ
    have h6 : (tpn (dT D)).val < 6 := by omega
    cases e : fig bt (tkn bt n (t.1 + t.2.2)) with
    | none =>
      rw [e] at hQ
      simp (disch := omega) only [nX11_readsPlace, bX11_readsPlace, zZ, ztkZ, h0, if_neg, if_pos, s_number hB h, e, zfg_n]
      exact hQ _ _ zItm_f
    | some v =>
      rw [e] at hQ
      have hv := fig_lt (tkr_n h) e
      by_cases c2 : 1 ≤ v ∧ v ≤ 9
      · simp only [if_pos c2] at hQ
        simp (disch := omega) only [nX11_readsPlace, bX11_readsPlace, zZ, ztkZ, h0, if_neg, if_pos, s_number hB h, e, zfg_t, nI_m9, pup_n, s_tok hB (tkr_n h)]
        exact hQ _ _ (zItm_t (zDo_P hD' h6 (by omega)))
      · simp only [if_neg c2] at hQ
        simp (disch := omega) only [nX11_readsPlace, bX11_readsPlace, zZ, ztkZ, h0, if_neg, if_pos, s_number hB h, e, zfg_f]
        exact hQ _ _ zItm_f
end S
