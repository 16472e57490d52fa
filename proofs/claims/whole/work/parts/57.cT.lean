/-! THE CLASS: TOWN -/
def zS0 (r : Nat) : zU := (r, 0, fun _ => 0, fun _ => nI 0, 0, fun _ => 0, fun _ => 0, fun _ => 0)
/-- cells that a telling may change: the text's own and the spare town's -/
def zTl (x : Bool) (I I' : zIm) : Prop := (∀ c, c ≠ 1 → ¬ (tc x 0 ≤ c ∧ c ≤ tc x 22) → I' c = I c) ∧ I' 1 0 = I 1 0
/-- the memory behind a new town, the class's half -/
def zCn (b : Bool) (I I' : zIm) (T : zT) (r : Nat) : Prop := (∀ c, c ≠ 1 → c ≠ 62 → ¬ (tc (!b) 0 ≤ c ∧ c ≤ tc (!b) 22) → ¬ (49 ≤ c ∧ c ≤ 54) → I' c = I c) ∧ I' 1 0 = nI 0 ∧ zTc T (!b) I' ∧ zSk T (zS0 r) (I (sc 0 0) 2) 0 I' ∧ I' 62 0 = nI 0 ∧ I' 62 1 = nI 0
theorem zTc_e {T : zT} {x : Bool} {I I' : zIm} (hT : zTc T x I) (e : ∀ c, I' (tc x c) = I (tc x c)) : zTc T x I' := by
  unfold zTc at hT ⊢
  simp only [e]
  exact hT
theorem zSk_e {T : zT} {S : zU} {l : Int32} {s : Nat} {I I' : zIm} (hS : zSk T S l s I) (e : ∀ c, I' (sc s c) = I (sc s c)) : zSk T S l s I' := by
  unfold zSk at hS ⊢
  simp only [e]
  exact hS
section S
variable {d : Nat} {Q : zPo} {σ : zSh} {ρ : zRf} {I F : zIm} {L : zLm} {b x : Bool} {bt : Nat → Fin 256} {n : Nat} {a s t m e f : Int32}
theorem tc_bk {c : Nat} (h : tc x 0 ≤ c ∧ c ≤ tc x 22) : tc x (c - tc x 0) = c := by
  have h0 : tc x 0 = if x then 26 else 3 := by cases x <;> rfl
  have h22 : tc x 22 = (if x then 26 else 3) + 22 := by cases x <;> rfl
  rw [h0, h22] at h
  rw [h0]
  unfold tc
  cases x
  · simp at h ⊢; omega
  · simp at h ⊢; omega
theorem zxc_of : I = zxc I x (I 1 2) (I 1 3) (I 1 4) (I 1 5) (I 1 6) (I 1 7) (fun c => I (tc x c)) := by
  funext c j; unfold zxc
  by_cases h : c = 1
  · rw [if_pos h, h]
    split
    · rename_i q; rw [q]
    · split
      · rename_i q; rw [q]
      · split
        · rename_i q; rw [q]
        · split
          · rename_i q; rw [q]
          · split
            · rename_i q; rw [q]
            · split
              · rename_i q; rw [q]
              · rfl
  · rw [if_neg h]
    by_cases h2 : tc x 0 ≤ c ∧ c ≤ tc x 22
    · rw [if_pos h2]; show I c j = I (tc x (c - tc x 0)) j; rw [tc_bk h2]
    · rw [if_neg h2]
theorem zTl_x : zTl x I (zxc I x a s t m e f F) := ⟨fun c h1 h2 => zxc_r h1 h2, rfl⟩
theorem k_tellTo (hB : zBc bt n I)
    (hf : (pta bt n).1 = true → ∀ I', zTl x I I' → zTc (dT (pta bt n).2.2.1) x I' → I' (tc x 0) 3 = zrv (dT (pta bt n).2.2.1) (dR (pta bt n).2.2.1) → Q (some (.int (nI (pta bt n).2.1))) sg (rg b) I' L)
    (hn : (pta bt n).1 = false → ∀ I', zTl x I I' → Q (some (.int (-10 - nI (pta bt n).2.2.2.1))) sg (rg b) I' L) : zW (d + 11) mX8_tellTo [.ref 1, .ref (tc x 0)] sg (rg b) I L Q := by
  have hI := zxc_of (I := I) (x := x)
  have key : ∀ a s t m e f F, zW (d + 11) mX8_tellTo [.ref 1, .ref (tc x 0)] sg (rg b) (zxc I x a s t m e f F) L Q := by
    intro a s t m e f F
    have hD0 : zDc zD0 (zup (zup (zup (zup (zup F 0 0 (nI 0)) 0 1 (nI 0)) 0 2 (nI 0)) 0 3 (-9)) 0 4 (nI 0)) := by
      refine ⟨rfl, rfl, rfl, rfl, rfl, fun p hp => absurd hp (Nat.not_lt_zero p), fun k hk => absurd hk (Nat.not_lt_zero k)⟩
    simp (disch := omega) only [nX8_tellTo, eX8_tellTo_0, eX8_tellTo_1, eX8_tellTo_4, eX8_tellTo_5, eX8_tellTo_6, eX8_tellTo_9, eX8_tellTo_10, eX8_tellTo_11, eX8_tellTo_14, eX8_tellTo_15, eX8_tellTo_16, eX8_tellTo_19, eX8_tellTo_20, nX9_empty, bX9_empty, zZ, zxcZ]
    refine k_readToken hB (Nat.zero_le n) (fun m' hm' => ?_)
    simp (disch := omega) only [eX8_tellTo_23, eX8_tellTo_24, zZ]
    refine k_text (x := x) hB ?_ ?_ (n + 1) 0 zD0 (tkn bt n 0) m' _ rfl ⟨0, Nat.zero_le _, rfl⟩ (by omega) (Nat.zero_le _) hD0 hm'
    · intro T R F' a s t m e f h1 h2 h3 h4 h5
      refine hf h5 _ zTl_x (zTc_f (by rw [← h3]; exact h1) (fun c hc => zxc_T hc)) ?_
      rw [zxc_T (by decide), ← h3, ← h4]; exact h2
    · intro a t m e f F' h5
      exact hn h5 _ zTl_x
  rw [hI]
  exact key _ _ _ _ _ _ _
theorem c_town (hB : zBc bt n I)
    (hf : (pta bt n).1 = true → ∀ I', zCn b I I' (dT (pta bt n).2.2.1) (dR (pta bt n).2.2.1) → Q (some (.int (nI (pta bt n).2.1))) sg (rg (!b)) I' L)
    (hn : (pta bt n).1 = false → ∀ I', zTl (!b) I I' → Q (some (.int (-10 - nI (pta bt n).2.2.2.1))) sg (rg b) I' L) : zW (d + 12) mX10_town [.ref 0] sg (rg b) I L Q := by
  have hn200 := hB.1
  have hk := pta_k (bt := bt) (n := n)
  simp (disch := omega) only [nX10_town, eX10_town_0, eX10_town_1, eX10_town_4, eX10_town_5, eX10_town_8, zZ]
  refine k_tellTo hB (fun h1 I1 hl hT h3 => ?_) (fun h1 I1 hl => ?_)
  · have hit : ∀ f it D t, (ptx bt n f it D t).2.1 ≤ it + f := by
      intro f
      induction f with
      | zero => intro it D t; exact Nat.le_refl _
      | succ f ih =>
        intro it D t
        rw [ptx_s]
        by_cases c : t.2.1 = 0
        · rw [if_pos c]; exact Nat.le_add_right _ _
        · rw [if_neg c]
          by_cases c2 : (pit bt n D t).1 = true
          · rw [if_pos c2]; have := ih (it + 1) (pit bt n D t).2.1 (tkn bt n ((pit bt n D t).2.2.1 + (pit bt n D t).2.2.2.2)); omega
          · rw [if_neg c2]; exact Nat.le_add_right _ _
    have hi2 : (pta bt n).2.1 ≤ 0 + (n + 1) := hit _ _ _ _
    have l2 : I1 (sc 0 0) 2 = I (sc 0 0) 2 := by
      rw [hl.1 _ (fun q => by have := sc_r 0 0; omega) (fun q => by have := sc_r 0 0; have := tc_r (!b) 22; omega)]
    simp (disch := omega) only [bX10_town, zZ, rg_swap, h3, k_begin, if_pos, if_neg]
    rw [eX10_town_49]
    simp (disch := omega) only [bX10_town, zZ, if_neg]
    rw [eX10_town_49]
    simp (disch := omega) only [bX10_town, zZ, if_neg]
    rw [eX10_town_49]
    simp (disch := omega) only [bX10_town, zZ, if_pos]
    rw [l2]
    generalize dT (pta bt n).2.2.1 = T at *
    generalize dR (pta bt n).2.2.1 = r at *
    have s0 : ∀ c, c ≤ 5 → c ≠ 0 → sc 0 c ≠ sc 0 0 := fun c h5 h0 q => by rw [sc_eqc h5 (by decide)] at q; exact h0 q
    have fr : ∀ c, c ≠ 1 → c ≠ 62 → (zup (zup (zup (zup (zcs (zup I1 (sc 0 0) 3 (nI 0)) 0 0 0 (I (sc 0 0) 2) (fun _ => 0) fun _ => nI 0) (sc 0 0) 0 (zrv T r)) 62 0 (nI 0)) 62 1 (nI 0)) 1 0 (nI 0)) c = (zup (zcs (zup I1 (sc 0 0) 3 (nI 0)) 0 0 0 (I (sc 0 0) 2) (fun _ => 0) fun _ => nI 0) (sc 0 0) 0 (zrv T r)) c := fun c h1 h62 => by rw [zup_r h1, zup_r h62, zup_r h62]
    have fs : ∀ c, (zup (zup (zup (zup (zcs (zup I1 (sc 0 0) 3 (nI 0)) 0 0 0 (I (sc 0 0) 2) (fun _ => 0) fun _ => nI 0) (sc 0 0) 0 (zrv T r)) 62 0 (nI 0)) 62 1 (nI 0)) 1 0 (nI 0)) (sc 0 c) = (zup (zcs (zup I1 (sc 0 0) 3 (nI 0)) 0 0 0 (I (sc 0 0) 2) (fun _ => 0) fun _ => nI 0) (sc 0 0) 0 (zrv T r)) (sc 0 c) := fun c => fr _ (fun q => by have := sc_r 0 c; omega) (fun q => by have := sc_r 0 c; omega)
    refine hf h1 _ ⟨fun c h1 h62 ht h49 => ?_, zup_s, ?_, ⟨⟨?_, ?_, ?_, ?_⟩, fun k hk => ⟨?_, ?_⟩, fun i hi => absurd hi (Nat.not_lt_zero i)⟩, ?_, ?_⟩
    · have n49 : ∀ c', c ≠ sc 0 c' := fun c' q => h49 (by rw [q]; exact sc0_r c')
      rw [fr c h1 h62, zup_r (n49 0), zcs_r (n49 0) (n49 1) (n49 2), zup_r (n49 0)]
      exact hl.1 c h1 ht
    · refine zTc_e hT (fun c => ?_)
      have h3 := tc_r (!b) c
      have n49 : ∀ c', tc (!b) c ≠ sc 0 c' := fun c' q => by have := sc_r 0 c'; omega
      rw [fr _ (by omega) (by omega), zup_r (n49 0), zcs_t, zup_r (n49 0)]
    · rw [fs, zup_s]; rfl
    · rw [fs, zup_k (by decide), zcs_1]; rfl
    · rw [fs, zup_k (by decide), zcs_2]
    · rw [fs, zup_k (by decide), zcs_3, zup_s]; rfl
    · rw [fs, zup_r (s0 1 (by decide) (by decide)), zcs_n hk]; rfl
    · rw [fs, zup_r (s0 2 (by decide) (by decide)), zcs_h hk]; rfl
    · rw [zup_r (by decide), zup_k (by decide), zup_s]
    · rw [zup_r (by decide), zup_s]
  · have hneg : (nI 0 ≤ -10 - nI (pta bt n).2.2.2.1) = False := by
      generalize (pta bt n).2.2.2.1 = v at *
      have e : (-10 : Int32) - nI v = nI 0 - nI (10 + v) := by
        rw [← nI_add, show (-10 : Int32) = nI 0 + -nI 10 by decide +kernel, Int32.sub_eq_add_neg, Int32.sub_eq_add_neg (nI 0), Int32.neg_add, Int32.sub_eq_add_neg (-nI 10), Int32.add_assoc]
      have h := pk_sneg (a := 0) (b := 10 + v) (by omega) (by omega)
      rw [← nI_0] at h
      rw [e]
      exact eq_false (fun q => Int32.not_lt.2 q h)
    simp (disch := omega) only [bX10_town, zZ, hneg, if_false]
    exact hn h1 I1 hl
end S
