/-! THE CLASS: a town is settled: how far seekers reach; the whole -/
section S
variable {d : Nat} {Q : zPo} {σ : zSh} {ρ : zRf} {I F : zIm} {L : zLm} {b x : Bool} {a s t m e f : Int32} {T : zT}
theorem k_beh {k i : Nat} (h7 : I (tc x 7) k = nI (tln T k)) (hk : k < 4) (hi : i < (tln T k).val) : zW (d + 1) mX9_behind [.ref (tc x 0), .int (nI k), .int (nI i)] sg (rg b) I L Q = Q (some (.int (nI (tnx T k i)))) sg (rg b) I L := by
  unfold tnx
  by_cases c : i + 1 < (tln T k).val
  · simp (disch := omega) only [nX9_behind, bX9_behind, zZ, h7, if_pos, if_neg]
  · simp (disch := omega) only [nX9_behind, bX9_behind, zZ, h7, if_pos, if_neg]
theorem k_sReach {k i0 : Nat} (hD : zDs T F) (hw : zTw T) (hk : k < (tsn T).val) (hi0 : i0 < (tln T k).val)
    (hQ : ∀ F' m' st, (∀ c, c ≠ 14 + k → c ≠ 19 + k → F' c = F c) → (∀ j, j ≠ i0 → F' (14 + k) j = F (14 + k) j ∧ F' (19 + k) j = F (19 + k) j) → zRc T k i0 m' st → F' (14 + k) i0 = nI m' → F' (19 + k) i0 = nI st → Q none sg (rg b) (zxc I x a s t m e f F') L) :
    zW (d + 2) mX9_settleReach [.ref (tc x 0), .int (nI k), .int (nI i0)] sg (rg b) (zxc I x a s t m e f F) L Q := by
  obtain ⟨h0, h1, h2, h4, h5, h7⟩ := hD
  obtain ⟨j6, j7, j9⟩ := h7 k hk
  have hb7 : zxc I x a s t m e f F (tc x 7) k = nI (tln T k) := by rw [zxc_T (by decide)]; exact j7
  have hw2 := (hw.2 k hk).2
  have hex : ∀ left i bits l6, (∀ r, r < (tpn T).val → (bits / 2 ^ r % 2 = 1 ∧ (tfi T k r i0).1 = true) ∨ (bits / 2 ^ r % 2 = 0 ∧ (tfi T k r i0) = (false, i))) → bits < 64 → i < (tln T k).val → zq (d + 1) mX9_settleReach Q 89 [some (.ref (tc x 0)), some (.int (nI k)), some (.int (nI i0)), some (.int (nI left)), some (.int (nI i)), some (.int (nI bits)), l6] [] sg (rg b) (zxc I x a s t m e f F) L := by
    intro left i bits l6 hr hb hi
    have e14 : 13 + 1 + k = 14 + k := by omega
    simp (disch := omega) only [bX9_settleReach, zZ, zxcZ, rg_tr, va_rf_s]
    refine hQ _ bits i (fun c c1 c2 => ?_) (fun j hj => ⟨?_, ?_⟩) ⟨hb, by omega, fun r hr2 => ?_⟩ ?_ ?_
    · rw [zup_r c2, zup_r c1]
    · rw [zup_r (by omega), zup_k hj]
    · rw [zup_k hj, zup_r (by omega)]
    · rcases hr r hr2 with ⟨h1, h2⟩ | ⟨h1, h2⟩
      · rw [h1, if_pos h2]; exact ⟨rfl, fun q => by rw [h2] at q; cases q⟩
      · rw [h1, h2]; exact ⟨rfl, fun _ => rfl⟩
    · rw [zup_r (by omega), zup_s]
    · rw [zup_s]
  have hl : ∀ fu look left i bits, look + fu = 30 → left + look ≤ (tmn T k).val → bits < 64 → i < (tln T k).val → (∀ r, r < (tpn T).val → (bits / 2 ^ r % 2 = 1 ∧ (tfi T k r i0).1 = true) ∨ (bits / 2 ^ r % 2 = 0 ∧ tfi T k r i0 = twk T k r ((tmn T k).val + 1 - look) left i)) →
      zq (d + 1) mX9_settleReach Q 16 [some (.ref (tc x 0)), some (.int (nI k)), some (.int (nI i0)), some (.int (nI left)), some (.int (nI i)), some (.int (nI bits)), some (.int (nI look))] [] sg (rg b) (zxc I x a s t m e f F) L := by
    intro fu
    induction fu with
    | zero =>
      intro look left i bits hlk hlf hb hi hr
      have hm := (tmn T k).isLt
      have hp := hw2 i hi
      have hh := hw.1 _ hp
      rw [eX9_settleReach_16]
      simp (disch := omega) only [eX9_settleReach_18, eX9_settleReach_20, zZ, if_pos]
      refine hex left i bits _ (fun r hr2 => ?_) hb hi
      rcases hr r hr2 with ⟨h1, h2⟩ | ⟨h1, h2⟩
      · exact Or.inl ⟨h1, h2⟩
      · refine Or.inr ⟨h1, ?_⟩
        rw [h2, show (tmn T k).val + 1 - look = ((tmn T k).val - look) + 1 by omega, twk_s, if_pos (by omega)]
    | succ fu ih =>
      intro look left i bits hlk hlf hb hi hr
      have hm := (tmn T k).isLt
      have hp := hw2 i hi
      have hh := hw.1 _ hp
      have hp6 : (thb T k i).val < 6 := by omega
      have e9 : 8 + 1 + k = 9 + k := by omega
      have j9i := j9 i hi
      have h5i := h5 _ hp
      have hfu : (tmn T k).val + 1 - look = ((tmn T k).val - look) + 1 := by omega
      rw [hfu] at hr
      simp only [twk_s] at hr
      rw [eX9_settleReach_16]
      by_cases c : left < (thd T (thb T k i)).val
      · have := hex left i bits (some (.int (nI look))) (fun r hr2 => by
          rcases hr r hr2 with h1 | ⟨h1, h2⟩
          · exact Or.inl h1
          · rw [if_pos c] at h2; exact Or.inr ⟨h1, h2⟩) hb hi
        simp (disch := omega) only [eX9_settleReach_18, eX9_settleReach_20, eX9_settleReach_23, eX9_settleReach_24, eX9_settleReach_25, eX9_settleReach_28, eX9_settleReach_29, eX9_settleReach_32, eX9_settleReach_33, eX9_settleReach_34, eX9_settleReach_36, eX9_settleReach_37, eX9_settleReach_38, zZ, zxcZ, rg_tr, va_rf_s, j9i, h5i, if_neg, if_pos]
        exact this
      · obtain ⟨o1, o2⟩ := orb_e _ hp6 bits hb
        have ob := orb_b _ hp6 bits hb
        have hnx := tnx_lt (T := T) (k := k) (i := i) (by omega)
        simp (disch := omega) only [bX9_settleReach, zZ, zxcZ, rg_tr, va_rf_s, j9i, h5i, if_neg, if_pos, pk_sub, o1, k_beh hb7]
        refine ih (look + 1) _ _ _ (by omega) (by omega) o2 hnx (fun r hr2 => ?_)
        rw [ob r (by omega), show (tmn T k).val + 1 - (look + 1) = (tmn T k).val - look by omega]
        rcases hr r hr2 with ⟨h1, h2⟩ | ⟨h1, h2⟩
        · refine Or.inl ⟨?_, h2⟩
          split
          · rfl
          · exact h1
        · rw [if_neg c] at h2
          by_cases c2 : (thb T k i).val = r
          · rw [if_pos c2] at h2
            exact Or.inl ⟨if_pos c2.symm, by rw [h2]⟩
          · rw [if_neg c2] at h2
            exact Or.inr ⟨by rw [if_neg (fun q => c2 q.symm)]; exact h1, h2⟩
  simp (disch := omega) only [nX9_settleReach, bX9_settleReach, zZ, zxcZ, j6]
  refine hl 30 0 _ i0 0 rfl (by omega) (by decide) hi0 (fun r hr => Or.inr ⟨?_, ?_⟩)
  · rw [Nat.zero_div]
  · rfl
end S
