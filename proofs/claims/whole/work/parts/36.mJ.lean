/-! THE MODEL reads the text -/
section
variable {bt : Nat → Fin 256} {n : Nat} {D : zD} {t : Nat × Nat × Nat}
theorem tkn_ge {a : Nat} (h : a ≤ n) : a ≤ (tkn bt n a).1 := (skp_le bt n n a h).1
theorem tkr_g (h : tkr bt n t) : t.1 ≤ (tkn bt n (t.1 + t.2.2)).1 := Nat.le_trans (Nat.le_add_right _ _) (tkn_ge (tkr_1 h).2.1)
theorem pha_ok (np : Nat) : ∀ f c h t, tkr bt n t → tkr bt n (pha bt n np f c h t).2.2.2 ∧ t.1 ≤ (pha bt n np f c h t).2.2.2.1
  | 0, _, _, _, ht => ⟨ht, Nat.le_refl _⟩
  | f + 1, c, h, t, ht => by
    rw [pha_s]
    cases e : fig bt t with
    | none => exact ⟨ht, Nat.le_refl _⟩
    | some v =>
      by_cases c2 : v < np
      · simp only [if_pos c2]
        have h1 := pha_ok np f (c + 1) (pup h c (Fin.ofNat 6 v)) _ (tkr_n ht)
        exact ⟨h1.1, Nat.le_trans (tkr_g ht) h1.2⟩
      · simp only [if_neg c2]; exact ⟨ht, Nat.le_refl _⟩
theorem pha_c (np : Nat) (h6 : np ≤ 6) : ∀ f c h t, (∀ i, i < c → (h i).val < np) → (pha bt n np f c h t).2.1 ≤ c + f ∧ ∀ i, i < (pha bt n np f c h t).2.1 → ((pha bt n np f c h t).2.2.1 i).val < np
  | 0, _, _, _, hh => ⟨Nat.le_refl _, hh⟩
  | f + 1, c, h, t, hh => by
    rw [pha_s]
    cases e : fig bt t with
    | none => exact ⟨Nat.le_add_right _ _, hh⟩
    | some v =>
      by_cases c2 : v < np
      · simp only [if_pos c2]
        have h1 := pha_c np h6 f (c + 1) (pup h c (Fin.ofNat 6 v)) (tkn bt n (t.1 + t.2.2)) (fun i hi => by
          by_cases e : i = c
          · rw [e, pup_s, fo_v (by omega)]; exact c2
          · rw [pup_n e]; exact hh i (by omega))
        exact ⟨by omega, h1.2⟩
      · simp only [if_neg c2]; exact ⟨Nat.le_add_right _ _, hh⟩
theorem pit_ok (h : tkr bt n t) : tkr bt n (pit bt n D t).2.2 ∧ t.1 ≤ (pit bt n D t).2.2.1 ∧ ((pit bt n D t).1 = true → (pit bt n D t).2.2.2.1 = 3) := by
  have h1 := tkr_n h
  have h2 := tkr_n h1
  have g1 := tkr_g h
  have g2 := Nat.le_trans g1 (tkr_g h1)
  cases e : vrb bt t with
  | none => rw [pit_n e]; exact ⟨h, Nat.le_refl _, fun q => Bool.noConfusion q⟩
  | some v =>
    have hv := vrb_4 e
    have hc : v = 0 ∨ v = 1 ∨ v = 2 ∨ v = 3 := by omega
    have hf : ∀ {D : zD} {t' : Nat × Nat × Nat}, tkr bt n t' → t.1 ≤ t'.1 → tkr bt n ((false, D, t') : Bool × zD × (Nat × Nat × Nat)).2.2 ∧ t.1 ≤ ((false, D, t') : Bool × zD × (Nat × Nat × Nat)).2.2.1 ∧ (((false, D, t') : Bool × zD × (Nat × Nat × Nat)).1 = true → ((false, D, t') : Bool × zD × (Nat × Nat × Nat)).2.2.2.1 = 3) := fun a b => ⟨a, b, fun q => Bool.noConfusion q⟩
    rcases hc with rfl | rfl | rfl | rfl
    · rw [pit_0 e]; split
      · exact hf h (Nat.le_refl _)
      · split
        · split
          · exact ⟨h2, g2, fun q => of_decide_eq_true q⟩
          · exact hf h1 g1
        · exact hf h1 g1
    · rw [pit_1 e]; split
      · exact hf h (Nat.le_refl _)
      · split
        · split
          · have h3 := pha_ok (tpn (dT D)) 5 0 (thb (dT D) (tsn (dT D))) _ h2
            refine ⟨h3.1, Nat.le_trans g2 h3.2, fun q => ?_⟩
            simp only [Bool.and_eq_true, decide_eq_true_eq] at q
            exact q.2.2
          · exact hf h1 g1
        · exact hf h1 g1
    · rw [pit_2 e]; split
      · exact hf h (Nat.le_refl _)
      · split
        · split
          · exact ⟨h2, g2, fun q => of_decide_eq_true q⟩
          · exact hf h1 g1
        · exact hf h1 g1
    · rw [pit_3 e]; split
      · exact hf h (Nat.le_refl _)
      · split
        · split
          · exact ⟨h2, g2, fun q => of_decide_eq_true q⟩
          · exact hf h1 g1
        · exact hf h1 g1
/-- what is told is in its bounds -/
def zDw (D : zD) : Prop := zTw (dT D) ∧ dR D ≤ (tpn (dT D)).val - 1
theorem adP_w {v : Nat} (hD : zDw D) (h6 : (tpn (dT D)).val < 6) (h1 : 1 ≤ v) (h9 : v ≤ 9) : zDw (adP D v) := by
  obtain ⟨⟨h2, h3⟩, h4⟩ := hD
  refine ⟨⟨fun p hp => ?_, fun k hk => ⟨(h3 k hk).1, fun i hi => ?_⟩⟩, ?_⟩
  · rw [adP_n h6] at hp
    rw [adP_h]
    by_cases e : p = (tpn (dT D)).val
    · rw [e, pup_s, fo_v (by omega)]; omega
    · rw [pup_n e]; exact h2 p (by omega)
  · rw [adP_n h6]; exact Nat.lt_succ_of_lt ((h3 k hk).2 i hi)
  · rw [adP_n h6]
    show dR D ≤ _
    omega
theorem adS_w {v c : Nat} {h : Nat → Fin 6} (hD : zDw D) (h4 : (tsn (dT D)).val < 4) (hc0 : 0 < c) (hc : c < 6) (hh : ∀ i, i < c → (h i).val < (tpn (dT D)).val) : zDw (adS D v c h) := by
  obtain ⟨⟨h2, h3⟩, h5⟩ := hD
  refine ⟨⟨h2, fun k hk => ?_⟩, h5⟩
  rw [adS_n h4] at hk
  rw [adS_l]
  by_cases e : k = (tsn (dT D)).val
  · rw [e, pup_s, fo_v hc]
    refine ⟨hc0, fun i hi => ?_⟩
    rw [adS_h, pup_s]; exact hh i hi
  · rw [pup_n e]
    refine ⟨(h3 k (by omega)).1, fun i hi => ?_⟩
    rw [adS_h, pup_n e]; exact (h3 k (by omega)).2 i hi
theorem pit_w (hD : zDw D) (h : (pit bt n D t).1 = true) : zDw (pit bt n D t).2.1 := by
  cases e : vrb bt t with
  | none => rw [pit_n e] at h; exact Bool.noConfusion h
  | some v =>
    have hv := vrb_4 e
    have hc : v = 0 ∨ v = 1 ∨ v = 2 ∨ v = 3 := by omega
    rcases hc with rfl | rfl | rfl | rfl
    · rw [pit_0 e] at h ⊢
      by_cases c : (tpn (dT D)).val = 6
      · rw [if_pos c] at h; exact Bool.noConfusion h
      · rw [if_neg c] at h ⊢
        cases e2 : fig bt (tkn bt n (t.1 + t.2.2)) with
        | none => rw [e2] at h; exact Bool.noConfusion h
        | some v =>
          rw [e2] at h
          by_cases c2 : 1 ≤ v ∧ v ≤ 9
          · simp only [if_pos c2]; exact adP_w hD (by omega) c2.1 c2.2
          · simp only [if_neg c2] at h; exact Bool.noConfusion h
    · rw [pit_1 e] at h ⊢
      by_cases c : (tsn (dT D)).val = 4
      · rw [if_pos c] at h; exact Bool.noConfusion h
      · rw [if_neg c] at h ⊢
        cases e2 : fig bt (tkn bt n (t.1 + t.2.2)) with
        | none => rw [e2] at h; exact Bool.noConfusion h
        | some v =>
          rw [e2] at h
          by_cases c2 : v ≤ 30
          · simp only [if_pos c2, Bool.and_eq_true, decide_eq_true_eq] at h
            simp only [if_pos c2]
            have h1 := pha_c (bt := bt) (n := n) (tpn (dT D)) (by omega) 5 0 (thb (dT D) (tsn (dT D))) (tkn bt n ((tkn bt n (t.1 + t.2.2)).1 + (tkn bt n (t.1 + t.2.2)).2.2)) (fun i hi => absurd hi (Nat.not_lt_zero i))
            exact adS_w hD (by omega) h.2.1 (by omega) h1.2
          · simp only [if_neg c2] at h; exact Bool.noConfusion h
    · rw [pit_2 e] at h ⊢
      by_cases c : dr D = true
      · rw [if_pos c] at h; exact Bool.noConfusion h
      · rw [if_neg c] at h ⊢
        cases e2 : fig bt (tkn bt n (t.1 + t.2.2)) with
        | none => rw [e2] at h; exact Bool.noConfusion h
        | some v =>
          rw [e2] at h
          by_cases c2 : v < (tpn (dT D)).val
          · simp only [if_pos c2]; exact ⟨hD.1, show v ≤ (tpn (dT D)).val - 1 by omega⟩
          · simp only [if_neg c2] at h; exact Bool.noConfusion h
    · rw [pit_3 e] at h ⊢
      by_cases c : dl D = true
      · rw [if_pos c] at h; exact Bool.noConfusion h
      · rw [if_neg c] at h ⊢
        cases e2 : fig bt (tkn bt n (t.1 + t.2.2)) with
        | none => rw [e2] at h; exact Bool.noConfusion h
        | some v =>
          rw [e2] at h
          by_cases c2 : v ≤ 2
          · simp only [if_pos c2]; exact hD
          · simp only [if_neg c2] at h; exact Bool.noConfusion h
theorem ptx_w : ∀ f it D t, zDw D → zDw (ptx bt n f it D t).2.2.1
  | 0, _, _, _, h => h
  | f + 1, it, D, t, h => by
    rw [ptx_s]
    by_cases c : t.2.1 = 0
    · rw [if_pos c]; exact h
    · rw [if_neg c]
      by_cases c2 : (pit bt n D t).1 = true
      · rw [if_pos c2]; exact ptx_w f _ _ _ (pit_w h c2)
      · rw [if_neg c2]; exact h
theorem pit_z (h : tkr bt n t) (hp : (pit bt n D t).1 = true) : t.1 < (tkn bt n ((pit bt n D t).2.2.1 + (pit bt n D t).2.2.2.2)).1 := by
  obtain ⟨h1, h2, h3⟩ := pit_ok (D := D) h
  have h4 := tkn_ge (bt := bt) (tkr_1 h1).2.1
  have h5 := (tkr_1 h1).2.2.1 (by rw [h3 hp]; decide)
  omega
theorem tkr_0 (h : tkr bt n t) : t.2.1 = 0 ↔ n ≤ t.1 := by rw [(tkr_1 h).2.2.2.1]; exact srt_0
/-- nothing is told yet -/
def zD0 : zD := ((0, 0, 0, fun _ => 0, fun _ => 0, fun _ => 0, fun _ _ => 0), 0, false, false)
theorem zD0_w : zDw zD0 := ⟨⟨fun p hp => absurd hp (Nat.not_lt_zero p), fun k hk => absurd hk (Nat.not_lt_zero k)⟩, Nat.le_refl _⟩
/-- the text -/
def pta (bt : Nat → Fin 256) (n : Nat) : Bool × Nat × zD × (Nat × Nat × Nat) := ptx bt n (n + 1) 0 zD0 (tkn bt n 0)
end
section S
variable {d : Nat} {Q : zPo} {σ : zSh} {ρ : zRf} {I : zIm} {L : zLm} {b : Bool} {bt : Nat → Fin 256} {n : Nat}
theorem s_text (hB : zBy bt n I) : ∀ fu it D t f, tkr bt n t → n < t.1 + fu → it + fu ≤ 300 → zDo D it f →
    (∀ f' x, (if (ptx bt n fu it D t).1 = true then x = nI 1 ∧ zDo (ptx bt n fu it D t).2.2.1 (ptx bt n fu it D t).2.1 f' else x = nI 0) → Q (some (.int x)) sg (rg b) (ztk I (ptx bt n fu it D t).2.2.2 f') L) →
    ∀ l1, zq (d + 6) mX11_reads Q 30 [some (.ref 87), l1] [] sg (rg b) (ztk I t f) L := by
  intro fu
  induction fu with
  | zero =>
    intro it D t f ht h1 h2 hD hQ l1
    exact absurd (tkr_1 ht).1 (by omega)
  | succ fu ih =>
    intro it D t f ht h1 h2 hD hQ l1
    have hn : n ≤ 200 := hB.1
    have hsl : t.2.1 ≤ 4 := (tkr_1 ht).2.2.2.1 ▸ srt_le bt n t.1
    rw [ptx_s] at hQ
    rw [eX11_reads_30]
    by_cases c : t.2.1 = 0
    · rw [if_pos c] at hQ
      simp (disch := omega) only [bX11_reads, zZ, ztkZ, c, if_pos]
      exact hQ f _ (by rw [if_pos rfl]; exact ⟨rfl, hD⟩)
    · rw [if_neg c] at hQ
      obtain ⟨p1, p2, p3⟩ := pit_ok (D := D) ht
      have hsp : (pit bt n D t).2.2.2.1 ≤ 4 := (tkr_1 p1).2.2.2.1 ▸ srt_le bt n _
      simp (disch := omega) only [bX11_reads, zZ, ztkZ, c, if_neg, s_verb hB ht]
      refine s_readsItem hB ht hD (fun f' x hx => ?_)
      by_cases c2 : (pit bt n D t).1 = true
      · rw [if_pos c2] at hQ
        obtain ⟨rfl, h3, hD'⟩ := hx.2.1 c2
        have hz := pit_z ht c2
        simp (disch := omega) only [bX11_reads, zZ, ztkZ, h3, hD'.2.2.1, s_tok hB p1]
        exact ih (it + 1) _ _ _ (tkr_n p1) (by omega) (by omega) (zDo_I hD') hQ _
      · rw [if_neg c2] at hQ
        have hx3 := hx.2.2 (Bool.not_eq_true _ ▸ c2)
        rcases hx.1 with rfl | rfl
        · simp (disch := omega) only [bX11_reads, zZ]
          exact hQ _ _ (by rw [if_neg Bool.false_ne_true])
        · have h3 : ¬ (pit bt n D t).2.2.2.1 = 3 := fun q => hx3 ⟨rfl, q⟩
          simp (disch := omega) only [bX11_reads, zZ, ztkZ, h3, if_neg]
          exact hQ _ _ (by rw [if_neg Bool.false_ne_true])
theorem zlx_i : zlx I (I 87 9) (I 87 10) (I 87 11) (I 87 12) (I 90) = I := by
  funext c j; unfold zlx
  by_cases h : c = 87
  · rw [if_pos h, h]
    split
    · rename_i e; rw [e]
    · split
      · rename_i e; rw [e]
      · split
        · rename_i e; rw [e]
        · split
          · rename_i e; rw [e]
          · rfl
  · rw [if_neg h]; split
    · rename_i e; rw [e]
    · rfl
theorem fil_p {α : Type} {f g : Nat → α} {k : Nat} : pup (fun j => if j < k then g j else f j) k (g k) = fun j => if j < k + 1 then g j else f j := by
  funext j; unfold pup
  by_cases h : j = k
  · rw [if_pos h, if_pos (by omega), h]
  · rw [if_neg h]
    show (if j < k then g j else f j) = _
    by_cases h2 : j < k
    · rw [if_pos h2, if_pos (by omega)]
    · rw [if_neg h2, if_neg (by omega)]
theorem zDo_0 {f : Nat → Int32} : zDo zD0 0 (fun j => if j < 49 then nI 0 else f j) := ⟨⟨rfl, rfl, rfl, fun p hp => absurd hp (Nat.not_lt_zero p), fun k hk => absurd hk (Nat.not_lt_zero k), fun k hk => absurd hk (Nat.not_lt_zero k), fun k hk => absurd hk (Nat.not_lt_zero k)⟩, rfl, rfl, rfl, rfl⟩
theorem s_reads (hB : zBy bt n I)
    (hQ : ∀ f' x, (if (pta bt n).1 = true then x = nI 1 ∧ zDo (pta bt n).2.2.1 (pta bt n).2.1 f' else x = nI 0) → Q (some (.int x)) sg (rg b) (ztk I (pta bt n).2.2.2 f') L) :
    zW (d + 7) mX11_reads [.ref 87] sg (rg b) I L Q := by
  have hn : n ≤ 200 := hB.1
  have h : ∀ k, k ≤ 49 → zq (d + 6) mX11_reads Q 2 [some (.ref 87), some (.int (nI k))] [] sg (rg b) (zlx I (I 87 9) (I 87 10) (I 87 11) (I 87 12) (fun j => if j < k then (fun _ => nI 0) j else I 90 j)) L := by
    refine z_down 49 ?_ (fun k hk ih => ?_)
    · rw [eX11_reads_2]
      simp (disch := omega) only [bX11_reads, zZ, zlxZ, if_pos]
      rw [show nI 0 = nI 0 from rfl, s_token hB (Nat.zero_le n)]
      simp only [bX11_reads, zZ]
      exact s_text hB (n + 1) 0 zD0 (tkn bt n 0) _ ⟨0, Nat.zero_le _, rfl⟩ (by omega) (by omega) zDo_0 hQ _
    · rw [eX11_reads_2]
      simp (disch := omega) only [bX11_reads, zZ, zlxZ, if_neg]
      rw [fil_p (g := fun _ => nI 0)]
      exact ih
  have h0 := h 0 (Nat.zero_le _)
  rw [show (fun j => if j < 0 then (fun _ => nI 0) j else I 90 j) = I 90 from funext fun j => if_neg (Nat.not_lt_zero j), zlx_i] at h0
  simp (disch := omega) only [nX11_reads, bX11_reads, zZ]
  exact h0
/-- the memory behind a new town -/
def zTn (I I' : zIm) (it : Nat) (T : zT) (r : Nat) : Prop := (∀ a, a ≠ 87 → a ≠ 89 → a ≠ 90 → a ≠ 91 → a ≠ 93 → I' a = I a) ∧ I' 87 1 = I 87 1 ∧ I' 87 3 = nI 0 ∧ zTo T (I' 89) ∧ I' 91 = (fun j => if j = 0 then zrv T r else if j < 36 then nI 0 else I 91 j) ∧ I' 93 0 = nI 0 ∧ I' 93 1 = nI 0
theorem ite_pr {α : Type} {c : Prop} [Decidable c] {a b x : α} (h : x = if c then a else b) : x = if c then a else b := h
theorem m_town (hB : zBy bt n I)
    (h1 : (pta bt n).1 = true → ∀ I', zTn I I' (pta bt n).2.1 (dT (pta bt n).2.2.1) (dR (pta bt n).2.2.1) → Q (some (.int (nI (pta bt n).2.1))) sg (rg b) I' L)
    (h2 : (pta bt n).1 = false → ∀ I', kq I I' → Q (some (.int (-10 - nI (pta bt n).2.2.2.1))) sg (rg b) I' L) :
    zW (d + 8) mX11_town [.ref 87] sg (rg b) I L Q := by
  simp (disch := omega) only [nX11_town, bX11_town, zZ]
  refine s_reads hB (fun f' x hx => ?_)
  by_cases c : (pta bt n).1 = true
  · rw [if_pos c] at hx
    obtain ⟨rfl, hD⟩ := hx
    have hD' := hD
    obtain ⟨⟨g0, -⟩, g3, g38, -, -⟩ := hD
    generalize pta bt n = P at *
    have ha : ∀ k, k ≤ 49 → zq (d + 7) mX11_town Q 17 [some (.ref 87), some (.int (nI k))] [] sg (rg b) (zrw (ztk I P.2.2.2 f') 89 (fun j => if j < k then f' j else I 89 j)) L := by
      refine z_down 49 ?_ (fun k hk ih => ?_)
      · rw [eX11_town_17]
        have hb : ∀ k, k ≤ 36 → zq (d + 7) mX11_town Q 43 [some (.ref 87), some (.int (nI k))] [] sg (rg b) (zrw (zrw (ztk I P.2.2.2 f') 89 (fun j => if j < 49 then f' j else I 89 j)) 91 (fun j => if j < k then (fun _ => nI 0) j else I 91 j)) L := by
          refine z_down 36 ?_ (fun k hk ih => ?_)
          · rw [eX11_town_43]
            have e0 : (if (0 : Nat) < 49 then f' 0 else I 89 0) = nI (tpn (dT P.2.2.1)) := g0
            have e3 : (if (3 : Nat) < 49 then f' 3 else I 89 3) = nI (dR P.2.2.1) := g3
            have e38 : (if (38 : Nat) < 49 then f' 38 else I 89 38) = nI P.2.1 := g38
            have hfin : ∀ r, r = zrv (dT P.2.2.1) (dR P.2.2.1) → zTn I (zup (zup (zup (zrw (zrw (ztk I P.2.2.2 f') 89 (fun j => if j < 49 then f' j else I 89 j)) 91 (pup (fun j => if j < 36 then (fun _ => nI 0) j else I 91 j) 0 r)) 93 0 (nI 0)) 93 1 (nI 0)) 87 3 (nI 0)) P.2.1 (dT P.2.2.1) (dR P.2.2.1) := by
              intro r hr
              refine ⟨fun a h1 h2 h3 h4 h5 => ?_, rfl, rfl, ?_, ?_, rfl, rfl⟩
              · rw [zup_r h1, zup_r h5, zup_r h5, zrw_r h4, zrw_r h2]; exact zlx_r h1 h3
              · rw [zup_r (by decide), zup_r (by decide), zup_r (by decide), zrw_r (by decide), zrw_s]
                obtain ⟨⟨i0, i1, i2, i3, i4, i5, i6⟩, -⟩ := hD'
                refine ⟨i0, i1, i2, fun p hp => ?_, fun k hk => ?_, fun k hk => ?_, fun k hk i hi => ?_⟩
                · exact (if_pos (show 4 + p < 49 by omega)).trans (i3 p hp)
                · exact (if_pos (show 10 + k < 49 by omega)).trans (i4 k hk)
                · exact (if_pos (show 14 + k < 49 by omega)).trans (i5 k hk)
                · exact (if_pos (show 18 + 5 * k + i < 49 by omega)).trans (i6 k hk i hi)
              · rw [zup_r (by decide), zup_r (by decide), zup_r (by decide), zrw_s]
                funext j; unfold pup
                by_cases hj : j = 0
                · rw [if_pos hj, if_pos hj, hr]
                · rw [if_neg hj, if_neg hj]
            by_cases ct : (tpn (dT P.2.2.1)).val = 0
            · simp (disch := omega) only [bX11_town, zZ, zrw_u, zrw_r, zrw_s, zup_r, e0, e38, ct, if_pos]
              exact h1 c _ (hfin _ (by unfold zrv; rw [if_pos ct]))
            · simp (disch := omega) only [bX11_town, zZ, zrw_u, zrw_r, zrw_s, zup_r, e0, e3, e38, ct, if_pos, if_neg]
              exact h1 c _ (hfin _ (by unfold zrv; rw [if_neg ct]))
          · rw [eX11_town_43]
            simp (disch := omega) only [bX11_town, zZ, zrw_u, if_neg]
            rw [fil_p (g := fun _ => nI 0)]
            exact ih
        have hb0 := hb 0 (Nat.zero_le _)
        rw [show (fun j => if j < 0 then (fun _ => nI 0) j else I 91 j) = zrw (ztk I P.2.2.2 f') 89 (fun j => if j < 49 then f' j else I 89 j) 91 from (funext fun j => if_neg (Nat.not_lt_zero j)), zrw_i] at hb0
        simp (disch := omega) only [bX11_town, zZ, if_pos]
        exact hb0
      · rw [eX11_town_17]
        simp (disch := omega) only [bX11_town, zZ, zrw_u, zrw_r, ztkZ, if_neg]
        rw [fil_p (g := f')]
        exact ih
    have ha0 := ha 0 (Nat.zero_le _)
    rw [show (fun j => if j < 0 then f' j else I 89 j) = ztk I P.2.2.2 f' 89 from (funext fun j => if_neg (Nat.not_lt_zero j)), zrw_i] at ha0
    simp (disch := omega) only [zZ, bX11_town, if_neg]
    exact ha0
  · rw [if_neg c] at hx
    subst hx
    simp (disch := omega) only [zZ, bX11_town, ztkZ]
    refine h2 (Bool.not_eq_true _ ▸ c) _ ⟨⟨fun a e1 e2 e3 e4 e5 e6 => ?_, rfl⟩, ?_, rfl⟩
    · exact zlx_r e1 e3
    · exact zlx_r (by decide) (by decide)
end S
