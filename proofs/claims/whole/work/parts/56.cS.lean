/-! THE CLASS: the text told; TOWN -/
theorem zsw_4 {t0 dt : Nat} {ts : List Nat} : zsw (nI (4 + 0)) 4 7 (t0 :: ts) dt = t0 := rfl
theorem zsw_5 {t0 t1 dt : Nat} {ts : List Nat} : zsw (nI (4 + 1)) 4 7 (t0 :: t1 :: ts) dt = t1 := rfl
theorem zsw_6 {t0 t1 t2 dt : Nat} {ts : List Nat} : zsw (nI (4 + 2)) 4 7 (t0 :: t1 :: t2 :: ts) dt = t2 := rfl
theorem zsw_7 {t0 t1 t2 t3 dt : Nat} {ts : List Nat} : zsw (nI (4 + 3)) 4 7 (t0 :: t1 :: t2 :: t3 :: ts) dt = t3 := rfl
theorem zsw_l {c dt : Nat} {ts : List Nat} (h : c < 4) : zsw (nI c) 4 7 ts dt = dt := by
  unfold zsw
  rw [nI_toInt (by omega), if_pos (by omega)]
/-- the ring and whether it was told -/
def zDv (D : zD) : Prop := (dr D = false → dR D = 0) ∧ (dr D = true → 0 < (tpn (dT D)).val) ∧ dR D < 6
section
variable {bt : Nat → Fin 256} {n : Nat} {D : zD} {t : Nat × Nat × Nat}
theorem pit_v (hD : zDv D) (h : (pit bt n D t).1 = true) : zDv (pit bt n D t).2.1 := by
  obtain ⟨v1, v2, v3⟩ := hD
  cases e : vrb bt t with
  | none => rw [pit_n e] at h; exact Bool.noConfusion h
  | some v =>
    have hv := vrb_4 e
    have hc : v = 0 ∨ v = 1 ∨ v = 2 ∨ v = 3 := by omega
    rcases hc with rfl | rfl | rfl | rfl
    · rw [pit_0 e] at h ⊢
      by_cases c : (tpn (dT D)).val = 6
      · rw [if_pos c] at h; exact Bool.noConfusion h
      · rw [if_neg c] at h ⊢
        cases e2 : fig bt (tkn bt n (t.1 + t.2.2)) with
        | none => rw [e2] at h; exact Bool.noConfusion h
        | some v =>
          rw [e2] at h
          by_cases c2 : 1 ≤ v ∧ v ≤ 9
          · simp only [if_pos c2]
            refine ⟨v1, fun q => ?_, v3⟩
            have := v2 q
            rw [adP_n (by omega)]; omega
          · simp only [if_neg c2] at h; exact Bool.noConfusion h
    · rw [pit_1 e] at h ⊢
      by_cases c : (tsn (dT D)).val = 4
      · rw [if_pos c] at h; exact Bool.noConfusion h
      · rw [if_neg c] at h ⊢
        cases e2 : fig bt (tkn bt n (t.1 + t.2.2)) with
        | none => rw [e2] at h; exact Bool.noConfusion h
        | some v =>
          rw [e2] at h
          by_cases c2 : v ≤ 30
          · simp only [if_pos c2]; exact ⟨v1, v2, v3⟩
          · simp only [if_neg c2] at h; exact Bool.noConfusion h
    · rw [pit_2 e] at h ⊢
      by_cases c : dr D = true
      · rw [if_pos c] at h; exact Bool.noConfusion h
      · rw [if_neg c] at h ⊢
        cases e2 : fig bt (tkn bt n (t.1 + t.2.2)) with
        | none => rw [e2] at h; exact Bool.noConfusion h
        | some v =>
          rw [e2] at h
          by_cases c2 : v < (tpn (dT D)).val
          · simp only [if_pos c2]
            exact ⟨fun q => Bool.noConfusion q, fun _ => by show 0 < (tpn (dT D)).val; omega, by show v < 6; omega⟩
          · simp only [if_neg c2] at h; exact Bool.noConfusion h
    · rw [pit_3 e] at h ⊢
      by_cases c : dl D = true
      · rw [if_pos c] at h; exact Bool.noConfusion h
      · rw [if_neg c] at h ⊢
        cases e2 : fig bt (tkn bt n (t.1 + t.2.2)) with
        | none => rw [e2] at h; exact Bool.noConfusion h
        | some v =>
          rw [e2] at h
          by_cases c2 : v ≤ 2
          · simp only [if_pos c2]; exact ⟨v1, v2, v3⟩
          · simp only [if_neg c2] at h; exact Bool.noConfusion h
theorem ptx_v : ∀ f it D t, zDv D → zDv (ptx bt n f it D t).2.2.1
  | 0, _, _, _, h => h
  | f + 1, it, D, t, h => by
    rw [ptx_s]
    by_cases c : t.2.1 = 0
    · rw [if_pos c]; exact h
    · rw [if_neg c]
      by_cases c2 : (pit bt n D t).1 = true
      · rw [if_pos c2]; exact ptx_v f _ _ _ (pit_v h c2)
      · rw [if_neg c2]; exact h
theorem ptx_k : ∀ f it D t, tkr bt n t → tkr bt n (ptx bt n f it D t).2.2.2
  | 0, _, _, _, h => h
  | f + 1, it, D, t, h => by
    rw [ptx_s]
    by_cases c : t.2.1 = 0
    · rw [if_pos c]; exact h
    · rw [if_neg c]
      by_cases c2 : (pit bt n D t).1 = true
      · rw [if_pos c2]; exact ptx_k f _ _ _ (tkr_n (pit_ok h).1)
      · rw [if_neg c2]; exact (pit_ok h).1
theorem pta_k : (pta bt n).2.2.2.1 ≤ n := (tkr_1 (ptx_k (n + 1) 0 zD0 (tkn bt n 0) ⟨0, Nat.zero_le _, rfl⟩)).1
theorem pta_v : zDv (pta bt n).2.2.1 := ptx_v _ _ _ _ ⟨fun _ => rfl, fun q => Bool.noConfusion q, by decide⟩
theorem pta_w : zDw (pta bt n).2.2.1 := ptx_w _ _ _ _ zD0_w
end
section S
variable {d : Nat} {Q : zPo} {σ : zSh} {ρ : zRf} {I F : zIm} {L : zLm} {b x : Bool} {bt : Nat → Fin 256} {n : Nat} {m e f : Int32} {D : zD} {t : Nat × Nat × Nat}
theorem k_readsItem (hB : zBc bt n I) (h : tkr bt n t) (hD : zDc D F) (hm : znm bt t m)
    (h1 : (pit bt n D t).1 = true → ∀ m' F', zDc (pit bt n D t).2.1 F' → znm bt (tkn bt n ((pit bt n D t).2.2.1 + (pit bt n D t).2.2.2.2)) m' → Q (some (.int (nI 1))) sg (rg b) (zct bt I x (tkn bt n ((pit bt n D t).2.2.1 + (pit bt n D t).2.2.2.2)) m' (bI (dr (pit bt n D t).2.1)) (bI (dl (pit bt n D t).2.1)) F') L)
    (h2 : (pit bt n D t).1 = false → ∀ m' e' f' F', Q (some (.int (nI 0))) sg (rg b) (zct bt I x (pit bt n D t).2.2 m' e' f' F') L) :
    zW (d + 9) mX8_readsItem [.ref 1, .ref (tc x 0)] sg (rg b) (zct bt I x t m (bI (dr D)) (bI (dl D)) F) L Q := by
  obtain ⟨p1, p2, p3⟩ := pit_ok (D := D) h
  have hend : ∀ y m' e' f' F', zCi bt (pit bt n D t) y m' e' f' F' → zq (d + 8) mX8_readsItem Q 74 [some (.ref 1), some (.ref (tc x 0)), some (.int y)] [] sg (rg b) (zct bt I x (pit bt n D t).2.2 m' e' f' F') L := by
    intro y m' e' f' F' hc
    obtain ⟨c1, c2, c3, c4⟩ := hc
    by_cases c : (pit bt n D t).1 = true
    · obtain ⟨rfl, q1, q2, rfl, rfl⟩ := c3 c
      have q3 := (ctk_3 (bt := bt)).2 q1
      simp (disch := omega) only [bX8_readsItem, zZ, zctZ, q3, if_pos, if_neg]
      refine k_tok hB p1 (fun m2 hm2 => ?_)
      simp (disch := omega) only [bX8_readsItem, zZ]
      exact h1 c m2 F' q2 hm2
    · have c' : (pit bt n D t).1 = false := Bool.not_eq_true _ ▸ c
      have hq := h2 c' m' e' f' F'
      rcases c1 with rfl | rfl
      · simp (disch := omega) only [bX8_readsItem, zZ]
        exact hq
      · have q3 : ¬ ctk bt (pit bt n D t).2.2 = 3 := fun q => c4 c' ⟨rfl, ctk_3.1 q⟩
        have q9 := ctk_9 (bt := bt) (t := (pit bt n D t).2.2)
        simp (disch := omega) only [bX8_readsItem, zZ, zctZ, q3, if_neg]
        exact hq
  cases ev : vrb bt t with
  | none =>
    have h4 := ctk_n ev
    have := hend (nI 0) m (bI (dr D)) (bI (dl D)) F
    rw [pit_n ev] at this
    have this := this (zCi_f hm)
    simp (disch := omega) only [nX8_readsItem, eX8_readsItem_0, eX8_readsItem_1, eX8_readsItem_4, eX8_readsItem_72, eX8_readsItem_73, zZ, zctZ, zsw_l h4]
    exact this
  | some v =>
    have hv := vrb_4 ev
    have hk := ctk_w ev
    have hc : v = 0 ∨ v = 1 ∨ v = 2 ∨ v = 3 := by omega
    rcases hc with rfl | rfl | rfl | rfl
    · simp (disch := omega) only [nX8_readsItem, eX8_readsItem_0, eX8_readsItem_1, eX8_readsItem_4, eX8_readsItem_36, eX8_readsItem_37, eX8_readsItem_38, zZ, zctZ, hk, zsw_4]
      refine k_readsPlace hB h hD hm ev (fun y m' e' f' F' hc => ?_)
      have := hend y m' e' f' F' hc
      simp (disch := omega) only [eX8_readsItem_41, eX8_readsItem_42, zZ]
      exact this
    · simp (disch := omega) only [nX8_readsItem, eX8_readsItem_0, eX8_readsItem_1, eX8_readsItem_4, eX8_readsItem_45, eX8_readsItem_46, eX8_readsItem_47, zZ, zctZ, hk, zsw_5]
      refine k_readsSeeker hB h hD hm ev (fun y m' e' f' F' hc => ?_)
      have := hend y m' e' f' F' hc
      simp (disch := omega) only [eX8_readsItem_50, eX8_readsItem_51, zZ]
      exact this
    · simp (disch := omega) only [nX8_readsItem, eX8_readsItem_0, eX8_readsItem_1, eX8_readsItem_4, eX8_readsItem_54, eX8_readsItem_55, eX8_readsItem_56, zZ, zctZ, hk, zsw_6]
      refine k_readsRing hB h hD hm ev (fun y m' e' f' F' hc => ?_)
      have := hend y m' e' f' F' hc
      simp (disch := omega) only [eX8_readsItem_59, eX8_readsItem_60, zZ]
      exact this
    · simp (disch := omega) only [nX8_readsItem, eX8_readsItem_0, eX8_readsItem_1, eX8_readsItem_4, eX8_readsItem_63, eX8_readsItem_64, eX8_readsItem_65, zZ, zctZ, hk, zsw_7]
      refine k_readsLaw hB h hD hm ev (fun y m' e' f' F' hc => ?_)
      have := hend y m' e' f' F' hc
      simp (disch := omega) only [eX8_readsItem_68, eX8_readsItem_69, zZ]
      exact this
theorem k_text (hB : zBc bt n I) (hf : ∀ T R F' a s t m e f, zTf T F' → F' 0 3 = zrv T R → T = dT (pta bt n).2.2.1 → R = dR (pta bt n).2.2.1 → (pta bt n).1 = true → Q (some (.int (nI (pta bt n).2.1))) sg (rg b) (zxc I x a s t m e f F') L)
    (hn : ∀ a t m e f F', (pta bt n).1 = false → Q (some (.int (-10 - nI (pta bt n).2.2.2.1))) sg (rg b) (zxc I x a (nI (pta bt n).2.2.2.1) t m e f F') L) : ∀ fu it D t m F, ptx bt n fu it D t = pta bt n → tkr bt n t → n < t.1 + fu → it ≤ t.1 → zDc D F → znm bt t m →
    zq (d + 10) mX8_tellTo Q 25 [some (.ref 1), some (.ref (tc x 0)), some (.int (nI it))] [] sg (rg b) (zct bt I x t m (bI (dr D)) (bI (dl D)) F) L := by
  intro fu
  induction fu with
  | zero =>
    intro it D t m F hp ht h1 h2 hD hm
    exact absurd (tkr_1 ht).1 (by omega)
  | succ fu ih =>
    intro it D t m F hp ht h1 h2 hD hm
    have hn200 : n ≤ 200 := hB.1
    have h9 := ctk_9 (bt := bt) (t := t)
    rw [ptx_s] at hp
    rw [eX8_tellTo_25]
    by_cases c : t.2.1 = 0
    · rw [if_pos c] at hp
      have h0 := (ctk_0 (bt := bt)).2 c
      have e1 : (pta bt n).1 = true := by rw [← hp]
      have e2 : (pta bt n).2.1 = it := by rw [← hp]
      have e3 : (pta bt n).2.2.1 = D := by rw [← hp]
      have hw := pta_w (bt := bt) (n := n)
      have hv := pta_v (bt := bt) (n := n)
      have hlt := (tkr_1 ht).1
      rw [e3] at hw hv
      rw [e2] at hf
      simp (disch := omega) only [eX8_tellTo_26, eX8_tellTo_29, eX8_tellTo_61, eX8_tellTo_62, zZ, zctZ, h0]
      obtain ⟨g0, g1, g2, g3, g4, g5, g7⟩ := hD
      refine k_settle (R := dR D) ⟨g0, g1, g2, g4, g5, g7⟩ hw.1 ?_ (fun F' q1 q2 => ?_)
      · by_cases cr : dr D = true
        · rw [if_pos cr] at g3; exact Or.inr ⟨hv.2.1 cr, g3, by have := hv.2.2; omega⟩
        · rw [if_neg cr] at g3; exact Or.inl ⟨g3, hv.1 (Bool.not_eq_true _ ▸ cr)⟩
      · simp (disch := omega) only [eX8_tellTo_65, eX8_tellTo_66, zZ]
        exact hf _ (dR D) F' _ _ _ _ _ _ q2 q1 (by rw [e3]) (by rw [e3]) e1
    · rw [if_neg c] at hp
      have h0 : ¬ ctk bt t = 0 := fun q => c (ctk_0.1 q)
      have hlt : t.1 < n := by
        have := (tkr_0 ht); omega
      simp (disch := omega) only [eX8_tellTo_26, eX8_tellTo_29, eX8_tellTo_32, eX8_tellTo_33, eX8_tellTo_36, eX8_tellTo_39, eX8_tellTo_40, eX8_tellTo_41, zZ, zctZ, h0, if_neg]
      refine k_readsItem hB ht hD hm (fun c2 m' F' hD' hm' => ?_) (fun c2 m' e' f' F' => ?_)
      · rw [if_pos c2] at hp
        have hz := pit_z ht c2
        simp (disch := omega) only [eX8_tellTo_44, eX8_tellTo_55, eX8_tellTo_58, zZ, if_neg]
        exact ih (it + 1) _ _ _ _ hp (tkr_n (pit_ok ht).1) (by omega) (by omega) hD' hm'
      · rw [if_neg (by rw [c2]; decide)] at hp
        have e1 : (pta bt n).1 = false := by rw [← hp]
        have e2 : (pta bt n).2.2.2 = (pit bt n D t).2.2 := by rw [← hp]
        simp (disch := omega) only [eX8_tellTo_44, eX8_tellTo_47, eX8_tellTo_49, eX8_tellTo_50, eX8_tellTo_53, eX8_tellTo_54, zZ, zctZ]
        rw [e2] at hn
        exact hn _ _ _ _ _ _ e1
end S
