/-! THE CLASS reads items -/
/-- what is told, as the class keeps it in the town that is told to -/
def zDc (D : zD) (F : zIm) : Prop := F 0 0 = nI (tpn (dT D)) ∧ F 0 1 = nI (tsn (dT D)) ∧ F 0 2 = nI (tlw (dT D)) ∧ F 0 3 = (if dr D = true then nI (dR D) else -9) ∧ F 0 4 = nI (tsm (dT D) (tpn (dT D))) ∧ (∀ p, p < (tpn (dT D)).val → F 1 p = nI (thd (dT D) p)) ∧ (∀ k, k < (tsn (dT D)).val → F 6 k = nI (tmn (dT D) k) ∧ F 7 k = nI (tln (dT D) k) ∧ ∀ i, i < (tln (dT D) k).val → F (9 + k) i = nI (thb (dT D) k i))
theorem tsm_cg {T T' : zT} : ∀ n, (∀ p, p < n → thd T p = thd T' p) → tsm T n = tsm T' n
  | 0, _ => rfl
  | n + 1, h => by rw [tsm_s, tsm_s, tsm_cg n (fun p hp => h p (by omega)), h n (by omega)]
theorem zDc_P {D : zD} {v : Nat} {F : zIm} (hD : zDc D F) (h6 : (tpn (dT D)).val < 6) (hv : v < 10) : zDc (adP D v) (zup (zup (zup F 1 (tpn (dT D)) (nI v)) 0 4 (nI (tsm (dT D) (tpn (dT D)) + v))) 0 0 (nI ((tpn (dT D)).val + 1))) := by
  obtain ⟨h0, h1, h2, h3, h4, h5, h7⟩ := hD
  have hth : thd (dT (adP D v)) (tpn (dT D)) = Fin.ofNat 10 v := by rw [adP_h, pup_s]
  refine ⟨?_, ?_, ?_, ?_, ?_, fun p hp => ?_, fun k hk => ?_⟩
  · rw [zup_s, adP_n h6]
  · rw [zup_k (by decide), zup_k (by decide), zup_r (by decide)]; exact h1
  · rw [zup_k (by decide), zup_k (by decide), zup_r (by decide)]; exact h2
  · rw [zup_k (by decide), zup_k (by decide), zup_r (by decide)]; exact h3
  · rw [zup_k (by decide), zup_s, adP_n h6, tsm_s, hth, fo_v hv]
    rw [tsm_cg (T := dT (adP D v)) (T' := dT D) _ (fun p hp => by rw [adP_h, pup_n (by omega)])]
  · rw [adP_n h6] at hp
    rw [zup_r (by decide), zup_r (by decide), adP_h]
    by_cases e : p = (tpn (dT D)).val
    · rw [e, pup_s, zup_s, fo_v hv]
    · rw [pup_n e, zup_k e]; exact h5 p (by omega)
  · obtain ⟨i1, i2, i3⟩ := h7 k hk
    refine ⟨?_, ?_, fun i hi => ?_⟩
    · rw [zup_r (by decide), zup_r (by decide), zup_r (by decide)]; exact i1
    · rw [zup_r (by decide), zup_r (by decide), zup_r (by decide)]; exact i2
    · rw [zup_r (by omega), zup_r (by omega), zup_r (by omega)]; exact i3 i hi
theorem zDc_S {D : zD} {v : Nat} {F : zIm} {h : Nat → Fin 6} (hD : zDc D F) (h4' : (tsn (dT D)).val < 4) (hv : v < 31) : zDc (adS D v 0 h) (zup (zup (zup F 6 (tsn (dT D)) (nI v)) 7 (tsn (dT D)) (nI 0)) 0 1 (nI ((tsn (dT D)).val + 1))) := by
  obtain ⟨h0, h1, h2, h3, h4, h5, h7⟩ := hD
  refine ⟨?_, ?_, ?_, ?_, ?_, fun p hp => ?_, fun k hk => ?_⟩
  · rw [zup_k (by decide), zup_r (by decide), zup_r (by decide)]; exact h0
  · rw [zup_s, adS_n h4']
  · rw [zup_k (by decide), zup_r (by decide), zup_r (by decide)]; exact h2
  · rw [zup_k (by decide), zup_r (by decide), zup_r (by decide)]; exact h3
  · rw [zup_k (by decide), zup_r (by decide), zup_r (by decide)]; exact h4.trans (congrArg nI (tsm_cg _ (fun _ _ => rfl)))
  · rw [zup_r (by decide), zup_r (by decide), zup_r (by decide)]; exact h5 p hp
  · rw [adS_n h4'] at hk
    rw [adS_m, adS_l]
    by_cases e : k = (tsn (dT D)).val
    · subst e
      rw [pup_s, pup_s, fo_v hv, fo_v (by decide)]
      refine ⟨?_, ?_, fun i hi => absurd hi (Nat.not_lt_zero i)⟩
      · rw [zup_r (by decide), zup_r (by decide), zup_s]
      · rw [zup_r (by decide), zup_s]
    · obtain ⟨i1, i2, i3⟩ := h7 k (by omega)
      have e' : ¬ (tsn (dT D)).val = k := fun q => e q.symm
      rw [pup_n e, pup_n e]
      refine ⟨?_, ?_, fun i hi => ?_⟩
      · rw [zup_r (by decide), zup_r (by decide), zup_k e]; exact i1
      · rw [zup_r (by decide), zup_k e, zup_r (by decide)]; exact i2
      · rw [adS_h, pup_n e, zup_r (by omega), zup_r (by omega), zup_r (by omega)]; exact i3 i hi
theorem zDc_H {D : zD} {v c p : Nat} {F : zIm} {h : Nat → Fin 6} (hD : zDc (adS D v c h) F) (h4' : (tsn (dT D)).val < 4) (hc : c < 5) (hp : p < 6) : zDc (adS D v (c + 1) (pup h c (Fin.ofNat 6 p))) (zup (zup F (9 + (tsn (dT D)).val) c (nI p)) 7 (tsn (dT D)) (nI (c + 1))) := by
  obtain ⟨h0, h1, h2, h3, h4, h5, h7⟩ := hD
  refine ⟨?_, ?_, ?_, ?_, ?_, fun p hp => ?_, fun k hk => ?_⟩
  · rw [zup_r (by decide), zup_r (by omega)]; exact h0
  · rw [zup_r (by decide), zup_r (by omega)]; exact h1
  · rw [zup_r (by decide), zup_r (by omega)]; exact h2
  · rw [zup_r (by decide), zup_r (by omega)]; exact h3
  · rw [zup_r (by decide), zup_r (by omega)]; exact h4.trans (congrArg nI (tsm_cg _ (fun _ _ => rfl)))
  · rw [zup_r (by decide), zup_r (by omega)]; exact h5 p hp
  · have hk' : k < (tsn (dT (adS D v c h))).val := hk
    obtain ⟨i1, i2, i3⟩ := h7 k hk'
    rw [adS_m] at i1 ⊢
    rw [adS_l] at i2 i3 ⊢
    by_cases e : k = (tsn (dT D)).val
    · subst e
      rw [pup_s, fo_v (by omega)] at i3
      have es : (pup (tln (dT D)) (tsn (dT D)).val (Fin.ofNat 6 (c + 1)) (tsn (dT D)).val).val = c + 1 := by rw [pup_s]; exact fo_v (by omega)
      rw [es]
      refine ⟨?_, ?_, fun i hi => ?_⟩
      · rw [zup_r (by decide), zup_r (by omega)]; exact i1
      · rw [zup_s]
      · rw [zup_r (by omega), adS_h, pup_s]
        by_cases ei : i = c
        · rw [ei, zup_s, pup_s, fo_v hp]
        · rw [zup_k ei, pup_n ei]
          have := i3 i (by omega)
          rw [adS_h, pup_s] at this
          exact this
    · have e' : ¬ (tsn (dT D)).val = k := fun q => e q.symm
      have es : pup (tln (dT D)) (tsn (dT D)).val (Fin.ofNat 6 (c + 1)) k = tln (dT D) k := pup_n e
      rw [pup_n e] at i2 i3
      rw [es]
      refine ⟨?_, ?_, fun i hi => ?_⟩
      · rw [zup_r (by decide), zup_r (by omega)]; exact i1
      · rw [zup_k e, zup_r (by omega)]; exact i2
      · have := i3 i hi
        rw [adS_h, pup_n e] at this
        rw [adS_h, pup_n e, zup_r (by omega), zup_r (by omega)]
        exact this
theorem zDc_R {D : zD} {v : Nat} {F : zIm} (hD : zDc D F) : zDc (adR D v) (zup F 0 3 (nI v)) := by
  obtain ⟨h0, h1, h2, h3, h4, h5, h7⟩ := hD
  refine ⟨?_, ?_, ?_, ?_, ?_, fun p hp => ?_, fun k hk => ?_⟩
  · rw [zup_k (by decide)]; exact h0
  · rw [zup_k (by decide)]; exact h1
  · rw [zup_k (by decide)]; exact h2
  · rw [zup_s]; rfl
  · rw [zup_k (by decide)]; exact h4
  · rw [zup_r (by decide)]; exact h5 p hp
  · obtain ⟨i1, i2, i3⟩ := h7 k hk
    refine ⟨?_, ?_, fun i hi => ?_⟩
    · rw [zup_r (by decide)]; exact i1
    · rw [zup_r (by decide)]; exact i2
    · rw [zup_r (by omega)]; exact i3 i hi
theorem zDc_L {D : zD} {v : Nat} {F : zIm} (hD : zDc D F) (hv : v < 3) : zDc (adL D v) (zup F 0 2 (nI v)) := by
  obtain ⟨h0, h1, h2, h3, h4, h5, h7⟩ := hD
  refine ⟨?_, ?_, ?_, ?_, ?_, fun p hp => ?_, fun k hk => ?_⟩
  · rw [zup_k (by decide)]; exact h0
  · rw [zup_k (by decide)]; exact h1
  · rw [zup_s]; show nI v = nI (Fin.ofNat 3 v).val; rw [fo_v hv]
  · rw [zup_k (by decide)]; exact h3
  · rw [zup_k (by decide)]; exact h4.trans (congrArg nI (tsm_cg _ (fun _ _ => rfl)))
  · rw [zup_r (by decide)]; exact h5 p hp
  · obtain ⟨i1, i2, i3⟩ := h7 k hk
    refine ⟨?_, ?_, fun i hi => ?_⟩
    · rw [zup_r (by decide)]; exact i1
    · rw [zup_r (by decide)]; exact i2
    · rw [zup_r (by omega)]; exact i3 i hi
section ZT
variable {bt : Nat → Fin 256} {n : Nat} {I F : zIm} {x : Bool} {t : Nat × Nat × Nat} {m e f v : Int32}
theorem zct_3 : zct bt I x t m e f F 1 3 = nI t.1 := rfl
theorem zct_4 : zct bt I x t m e f F 1 4 = nI (ctk bt t) := rfl
theorem zct_5 : zct bt I x t m e f F 1 5 = m := rfl
theorem zct_6 : zct bt I x t m e f F 1 6 = e := rfl
theorem zct_7 : zct bt I x t m e f F 1 7 = f := rfl
theorem zct_T {c : Nat} (h : c ≤ 22) : zct bt I x t m e f F (tc x c) = F c := zxc_T h
theorem zct_uT {c j : Nat} (h : c ≤ 22) : zup (zct bt I x t m e f F) (tc x c) j v = zct bt I x t m e f (zup F c j v) := zxc_uT h
theorem zct_u6 : zup (zct bt I x t m e f F) 1 6 v = zct bt I x t m v f F := zxc_u6
theorem zct_u7 : zup (zct bt I x t m e f F) 1 7 v = zct bt I x t m e v F := zxc_u7
end ZT
def zctZ := And.intro @zct_3 (And.intro @zct_4 (And.intro @zct_5 (And.intro @zct_6 (And.intro @zct_7 (And.intro @zct_T (And.intro @zct_uT (And.intro @zct_u6 @zct_u7)))))))
/-- how an item ends in the class -/
def zCi (bt : Nat → Fin 256) (P : Bool × zD × (Nat × Nat × Nat)) (y m e f : Int32) (F : zIm) : Prop := (y = nI 0 ∨ y = nI 1) ∧ znm bt P.2.2 m ∧ (P.1 = true → y = nI 1 ∧ P.2.2.2.1 = 3 ∧ zDc P.2.1 F ∧ e = bI (dr P.2.1) ∧ f = bI (dl P.2.1)) ∧ (P.1 = false → ¬ (y = nI 1 ∧ P.2.2.2.1 = 3))
section S
variable {d : Nat} {Q : zPo} {σ : zSh} {ρ : zRf} {I F : zIm} {L : zLm} {b x : Bool} {bt : Nat → Fin 256} {n : Nat} {m e f : Int32} {D : zD} {t : Nat × Nat × Nat}
theorem zCi_f {D : zD} (hm : znm bt t m) : zCi bt (false, D, t) (nI 0) m e f F := ⟨Or.inl rfl, hm, fun q => Bool.noConfusion q, fun _ q => absurd q.1 (by decide +kernel)⟩
theorem zCi_t {D : zD} (hm : znm bt t m) (hD : zDc D F) (he : e = bI (dr D)) (hf : f = bI (dl D)) : zCi bt (decide (t.2.1 = 3), D, t) (nI 1) m e f F := ⟨Or.inr rfl, hm, fun q => ⟨rfl, of_decide_eq_true q, hD, he, hf⟩, fun q q2 => absurd q2.2 (of_decide_eq_false q)⟩
theorem k_num0 {lo hi : Int32} (h : fig bt t = none) : zW (d + 1) mX8_isNumber [.ref 1, .int lo, .int hi] sg (rg b) (zct bt I x t m e f F) L Q = Q (some (.int (nI 0))) sg (rg b) (zct bt I x t m e f F) L := by
  have h2 : ¬ ctk bt t = 2 := fun q => by obtain ⟨v, hv⟩ := ctk_2.1 q; rw [h] at hv; cases hv
  have h9 := ctk_9 (bt := bt) (t := t)
  simp (disch := omega) only [nX8_isNumber, bX8_isNumber, zZ, zctZ, if_neg]
theorem k_num1 {lo hi : Int32} {v : Nat} (h : fig bt t = some v) (hm : znm bt t m) : zW (d + 1) mX8_isNumber [.ref 1, .int lo, .int hi] sg (rg b) (zct bt I x t m e f F) L Q = Q (some (.int (if lo ≤ nI v ∧ nI v ≤ hi then nI 1 else nI 0))) sg (rg b) (zct bt I x t m e f F) L := by
  have h2 : ctk bt t = 2 := ctk_2.2 ⟨v, h⟩
  have hmv := hm v h
  simp (disch := omega) only [nX8_isNumber, bX8_isNumber, zZ, zctZ, h2, hmv, if_pos]
  by_cases c1 : nI v < lo
  · rw [if_pos c1, if_neg (fun q => Int32.not_le.2 c1 q.1)]
  · rw [if_neg c1]
    by_cases c2 : hi < nI v
    · rw [if_pos c2, if_neg (fun q => Int32.not_le.2 c2 q.2)]
    · rw [if_neg c2, if_pos ⟨Int32.not_lt.1 c1, Int32.not_lt.1 c2⟩]
theorem k_readsPlace (hB : zBc bt n I) (h : tkr bt n t) (hD : zDc D F) (hm : znm bt t m) (hw : vrb bt t = some 0)
    (hQ : ∀ y m' e' f' F', zCi bt (pit bt n D t) y m' e' f' F' → Q (some (.int y)) sg (rg b) (zct bt I x (pit bt n D t).2.2 m' e' f' F') L) : zW (d + 8) mX8_readsPlace [.ref 1, .ref (tc x 0)] sg (rg b) (zct bt I x t m (bI (dr D)) (bI (dl D)) F) L Q := by
  have hD' := hD
  obtain ⟨h0, h1, h2, h3, h4, h5, h7⟩ := hD
  rw [pit_0 hw] at hQ
  by_cases c : (tpn (dT D)).val = 6
  · rw [if_pos c] at hQ
    simp (disch := omega) only [nX8_readsPlace, bX8_readsPlace, zZ, zctZ, h0, if_neg]
    exact hQ _ _ _ _ _ (zCi_f hm)
  · rw [if_neg c] at hQ
    have h6 : (tpn (dT D)).val < 6 := by omega
    simp (disch := omega) only [nX8_readsPlace, bX8_readsPlace, zZ, zctZ, h0, if_pos]
    refine k_tok hB h (fun m' hm' => ?_)
    cases e : fig bt (tkn bt n (t.1 + t.2.2)) with
    | none =>
      rw [e] at hQ
      simp (disch := omega) only [bX8_readsPlace, zZ, k_num0 e]
      exact hQ _ _ _ _ _ (zCi_f hm')
    | some v =>
      rw [e] at hQ
      have hv := fig_lt (tkr_n h) e
      have hmv := hm' v e
      by_cases c2 : 1 ≤ v ∧ v ≤ 9
      · simp only [if_pos c2] at hQ
        have hs := tsm_le (dT D) (tpn (dT D))
        simp (disch := omega) only [bX8_readsPlace, zZ, k_num1 e hm', c2, and_self, if_true, if_neg]
        rw [hmv]
        simp (disch := omega) only [bX8_readsPlace, nX9_addPlace, bX9_addPlace, zZ, zctZ, h0, h4, if_neg, zup_r, zup_k]
        refine k_tok hB (tkr_n h) (fun m2 hm2 => ?_)
        simp (disch := omega) only [bX8_readsPlace, zZ]
        exact hQ _ _ _ _ _ (zCi_t hm2 (zDc_P hD' h6 (by omega)) rfl rfl)
      · simp only [if_neg c2] at hQ
        simp (disch := omega) only [bX8_readsPlace, zZ, k_num1 e hm', c2, if_false]
        exact hQ _ _ _ _ _ (zCi_f hm')
end S
