/-! THE CLASS: the whole town settled; the text told to it -/
def zTf (T : zT) (F : zIm) : Prop := (F 0 0 = nI (tpn T) ∧ F 0 1 = nI (tsn T) ∧ F 0 2 = nI (tlw T) ∧ F 0 4 = nI (tsm T (tpn T)) ∧ (∀ p, p < (tpn T).val → F 1 p = nI (thd T p))) ∧ (∀ p, p < (tpn T).val → F 2 p = nI (tnw T p) ∧ F 3 p = nI ((tbe T false p (tpn T)).getD p) ∧ F 4 p = nI ((tbe T true p (tpn T)).getD p)) ∧ (∀ i, i < (tpn T).val → ∃ j, j < (tpn T).val ∧ tor T i (tpn T) = some j ∧ F 5 i = nI j) ∧ (∀ k, k < (tsn T).val → F 6 k = nI (tmn T k) ∧ F 7 k = nI (tln T k) ∧ ∀ i, i < (tln T k).val → F (9 + k) i = nI (thb T k i) ∧ ∃ m st, zRc T k i m st ∧ F (14 + k) i = nI m ∧ F (19 + k) i = nI st)
theorem zTc_f {T : zT} {x : Bool} {I F : zIm} (h : zTf T F) (he : ∀ c, c ≤ 22 → I (tc x c) = F c) : zTc T x I := by
  obtain ⟨⟨h0, h1, h2, h4, h5⟩, h6, h7, h8⟩ := h
  refine ⟨⟨by rw [he 0 (by decide)]; exact h0, by rw [he 0 (by decide)]; exact h1, by rw [he 0 (by decide)]; exact h2, by rw [he 0 (by decide)]; exact h4, fun p hp => by rw [he 1 (by decide)]; exact h5 p hp⟩, fun p hp => ?_, fun i hi => ?_, fun k hk => ?_⟩
  · rw [he 2 (by decide), he 3 (by decide), he 4 (by decide)]; exact h6 p hp
  · rw [he 5 (by decide)]; exact h7 i hi
  · obtain ⟨i1, i2, i3⟩ := h8 k hk
    rw [he 6 (by decide), he 7 (by decide), he (9 + k) (by omega), he (14 + k) (by omega), he (19 + k) (by omega)]
    exact ⟨i1, i2, i3⟩
section S
variable {d : Nat} {Q : zPo} {σ : zSh} {ρ : zRf} {I F : zIm} {L : zLm} {b x : Bool} {a s t m e f : Int32} {T : zT}
theorem k_settle {R : Nat} (hD : zDs T F) (hw : zTw T) (hR : (F 0 3 = -9 ∧ R = 0) ∨ (0 < (tpn T).val ∧ F 0 3 = nI R ∧ R < 100))
    (hQ : ∀ F', F' 0 3 = zrv T R → zTf T F' → Q none sg (rg b) (zxc I x a s t m e f F') L) : zW (d + 3) mX9_settle [.ref (tc x 0)] sg (rg b) (zxc I x a s t m e f F) L Q := by
  have hrest : ∀ F l1 l2, zDs T F → F 0 3 = zrv T R → zq (d + 2) mX9_settle Q 21 [some (.ref (tc x 0)), l1, l2] [] sg (rg b) (zxc I x a s t m e f F) L := by
    intro F l1 l2 hD h3
    have hreach : ∀ F2, zDs T F2 → F2 0 3 = zrv T R → (∀ p, p < (tpn T).val → F2 5 (trk T p) = nI p) → (∀ p, p < (tpn T).val → F2 2 p = nI (tnw T p) ∧ F2 3 p = nI ((tbe T false p (tpn T)).getD p) ∧ F2 4 p = nI ((tbe T true p (tpn T)).getD p)) → ∀ l2, zq (d + 2) mX9_settle Q 48 [some (.ref (tc x 0)), some (.int (nI 0)), l2] [] sg (rg b) (zxc I x a s t m e f F2) L := by
      intro F2 hD2 h32 ho2 hn2 l2
      have hk : ∀ k, k ≤ (tsn T).val → ∀ F3 l2, zDs T F3 → F3 0 3 = zrv T R → (∀ p, p < (tpn T).val → F3 5 (trk T p) = nI p) → (∀ p, p < (tpn T).val → F3 2 p = nI (tnw T p) ∧ F3 3 p = nI ((tbe T false p (tpn T)).getD p) ∧ F3 4 p = nI ((tbe T true p (tpn T)).getD p)) → (∀ k', k' < k → ∀ i, i < (tln T k').val → ∃ m st, zRc T k' i m st ∧ F3 (14 + k') i = nI m ∧ F3 (19 + k') i = nI st) → zq (d + 2) mX9_settle Q 48 [some (.ref (tc x 0)), some (.int (nI k)), l2] [] sg (rg b) (zxc I x a s t m e f F3) L := by
        refine z_down _ (fun F3 l2 hD3 h33 ho3 hn3 hr3 => ?_) (fun k hk ih F3 l2 hD3 h33 ho3 hn3 hr3 => ?_)
        · have e1 := hD3.2.1
          rw [eX9_settle_48]
          simp (disch := omega) only [eX9_settle_49, eX9_settle_50, eX9_settle_53, bX9_settle, zZ, zxcZ, e1, if_pos]
          obtain ⟨g0, g1, g2, g4, g5, g7⟩ := hD3
          refine hQ F3 h33 ⟨⟨g0, g1, g2, g4, g5⟩, hn3, fun i hi => ?_, fun k hk => ?_⟩
          · obtain ⟨p, hp, hpi⟩ := trk_at (T := T) hi
            exact ⟨p, hp, tor_p hp hpi, by rw [← hpi]; exact ho3 p hp⟩
          · obtain ⟨i1, i2, i3⟩ := g7 k hk
            exact ⟨i1, i2, fun i hi => ⟨i3 i hi, hr3 k hk i hi⟩⟩
        · have e1 := hD3.2.1
          have hli : ∀ i, i ≤ (tln T k).val → ∀ F4, zDs T F4 → F4 0 3 = zrv T R → (∀ p, p < (tpn T).val → F4 5 (trk T p) = nI p) → (∀ p, p < (tpn T).val → F4 2 p = nI (tnw T p) ∧ F4 3 p = nI ((tbe T false p (tpn T)).getD p) ∧ F4 4 p = nI ((tbe T true p (tpn T)).getD p)) → (∀ k', k' < k → ∀ i, i < (tln T k').val → ∃ m st, zRc T k' i m st ∧ F4 (14 + k') i = nI m ∧ F4 (19 + k') i = nI st) → (∀ j, j < i → ∃ m st, zRc T k j m st ∧ F4 (14 + k) j = nI m ∧ F4 (19 + k) j = nI st) → zq (d + 2) mX9_settle Q 58 [some (.ref (tc x 0)), some (.int (nI k)), some (.int (nI i))] [] sg (rg b) (zxc I x a s t m e f F4) L := by
            refine z_down _ (fun F4 hD4 h34 ho4 hn4 hr4 hi4 => ?_) (fun i hi ih2 F4 hD4 h34 ho4 hn4 hr4 hi4 => ?_)
            · have e7 := (hD4.2.2.2.2.2 k hk).2.1
              rw [eX9_settle_58]
              simp (disch := omega) only [bX9_settle, zZ, zxcZ, e7, if_pos]
              refine ih F4 _ hD4 h34 ho4 hn4 (fun k' hk' => ?_)
              by_cases ek : k' = k
              · rw [ek]; exact hi4
              · exact hr4 k' (by omega)
            · have e7 := (hD4.2.2.2.2.2 k hk).2.1
              rw [eX9_settle_58]
              simp (disch := omega) only [bX9_settle, zZ, zxcZ, e7, if_neg]
              refine k_sReach hD4 hw hk hi (fun F5 m' st hf hg hrc h14 h19 => ?_)
              simp (disch := omega) only [bX9_settle, zZ]
              have hk4 : k < 4 := by omega
              have kr : zKr F4 F5 := ⟨hf 0 (by omega) (by omega), hf 1 (by omega) (by omega), hf 6 (by omega) (by omega), hf 7 (by omega) (by omega), hf 9 (by omega) (by omega), hf 10 (by omega) (by omega), hf 11 (by omega) (by omega), hf 12 (by omega) (by omega)⟩
              refine ih2 F5 (zDs_k hD4 kr) (by rw [kr.1]; exact h34) (fun p hp => by rw [hf 5 (by omega) (by omega)]; exact ho4 p hp) (fun p hp => by rw [hf 2 (by omega) (by omega), hf 3 (by omega) (by omega), hf 4 (by omega) (by omega)]; exact hn4 p hp) (fun k' hk' j hj => ?_) (fun j hj => ?_)
              · rw [hf (14 + k') (by omega) (by omega), hf (19 + k') (by omega) (by omega)]; exact hr4 k' hk' j hj
              · by_cases ej : j = i
                · rw [ej]; exact ⟨m', st, hrc, h14, h19⟩
                · rw [(hg j ej).1, (hg j ej).2]; exact hi4 j (by omega)
          rw [eX9_settle_48]
          simp (disch := omega) only [eX9_settle_49, eX9_settle_50, eX9_settle_53, eX9_settle_56, eX9_settle_57, zZ, zxcZ, e1, if_neg]
          exact hli 0 (Nat.zero_le _) F3 hD3 h33 ho3 hn3 hr3 (fun j hj => absurd hj (Nat.not_lt_zero j))
      exact hk 0 (Nat.zero_le _) F2 l2 hD2 h32 ho2 hn2 (fun k' hk' => absurd hk' (Nat.not_lt_zero k'))
    simp (disch := omega) only [eX9_settle_21, eX9_settle_22, zZ]
    refine k_sOrder hD (fun F1 hf1 ho1 => ?_)
    have kr1 : zKr F F1 := ⟨hf1 0 (by decide), hf1 1 (by decide), hf1 6 (by decide), hf1 7 (by decide), hf1 9 (by decide), hf1 10 (by decide), hf1 11 (by decide), hf1 12 (by decide)⟩
    have hp : ∀ p, p ≤ (tpn T).val → ∀ F2 l2, zDs T F2 → F2 0 3 = zrv T R → (∀ p, p < (tpn T).val → F2 5 (trk T p) = nI p) → (∀ q, q < p → F2 2 q = nI (tnw T q) ∧ F2 3 q = nI ((tbe T false q (tpn T)).getD q) ∧ F2 4 q = nI ((tbe T true q (tpn T)).getD q)) → zq (d + 2) mX9_settle Q 27 [some (.ref (tc x 0)), some (.int (nI p)), l2] [] sg (rg b) (zxc I x a s t m e f F2) L := by
      refine z_down _ (fun F2 l2 hD2 h32 ho2 hn2 => ?_) (fun p hp ih F2 l2 hD2 h32 ho2 hn2 => ?_)
      · have e0 := hD2.1
        have := hreach F2 hD2 h32 ho2 hn2 l2
        rw [eX9_settle_27]
        simp (disch := omega) only [eX9_settle_28, eX9_settle_29, eX9_settle_32, eX9_settle_46, eX9_settle_47, zZ, zxcZ, e0, if_pos]
        exact this
      · have e0 := hD2.1
        rw [eX9_settle_27]
        simp (disch := omega) only [eX9_settle_28, eX9_settle_29, eX9_settle_32, eX9_settle_35, eX9_settle_36, eX9_settle_37, zZ, zxcZ, e0, if_neg]
        refine k_sNoWorse hD2 hp (fun F3 hf hg f2 f3 f4 => ?_)
        have kr : zKr F2 F3 := ⟨hf 0 (by decide) (by decide) (by decide), hf 1 (by decide) (by decide) (by decide), hf 6 (by decide) (by decide) (by decide), hf 7 (by decide) (by decide) (by decide), hf 9 (by decide) (by decide) (by decide), hf 10 (by decide) (by decide) (by decide), hf 11 (by decide) (by decide) (by decide), hf 12 (by decide) (by decide) (by decide)⟩
        simp (disch := omega) only [eX9_settle_40, eX9_settle_43, zZ]
        refine ih F3 _ (zDs_k hD2 kr) (by rw [kr.1]; exact h32) (fun q hq => by rw [hf 5 (by decide) (by decide) (by decide)]; exact ho2 q hq) (fun q hq => ?_)
        by_cases eq : q = p
        · rw [eq]; exact ⟨f2, f3, f4⟩
        · rw [(hg q eq).1, (hg q eq).2.1, (hg q eq).2.2]; exact hn2 q (by omega)
    simp (disch := omega) only [eX9_settle_25, eX9_settle_26, zZ]
    exact hp 0 (Nat.zero_le _) F1 _ (zDs_k hD kr1) (by rw [kr1.1]; exact h3) ho1 (fun q hq => absurd hq (Nat.not_lt_zero q))
  have e0 := hD.1
  rw [nX9_settle]
  rcases hR with ⟨r1, r2⟩ | ⟨r1, r2, r3⟩
  · by_cases c : (tpn T).val = 0
    · have := hrest F none none hD (by rw [r1]; exact (if_pos c).symm)
      simp (disch := omega) only [eX9_settle_0, eX9_settle_1, eX9_settle_4, eX9_settle_6, eX9_settle_9, eX9_settle_10, eX9_settle_13, zZ, zxcZ, r1, e0, if_pos]
      exact this
    · have hD0 : zDs T (zup F 0 3 (nI 0)) := by
        obtain ⟨g0, g1, g2, g4, g5, g7⟩ := hD
        refine ⟨by rw [zup_k (by decide)]; exact g0, by rw [zup_k (by decide)]; exact g1, by rw [zup_k (by decide)]; exact g2, by rw [zup_k (by decide)]; exact g4, fun p hp => by rw [zup_r (by decide)]; exact g5 p hp, fun k hk => ?_⟩
        obtain ⟨i1, i2, i3⟩ := g7 k hk
        exact ⟨by rw [zup_r (by decide)]; exact i1, by rw [zup_r (by decide)]; exact i2, fun i hi => by rw [zup_r (by omega)]; exact i3 i hi⟩
      have := hrest _ none none hD0 (by rw [zup_s, r2]; exact (if_neg c).symm)
      simp (disch := omega) only [eX9_settle_0, eX9_settle_1, eX9_settle_4, eX9_settle_6, eX9_settle_9, eX9_settle_10, eX9_settle_13, eX9_settle_16, eX9_settle_17, eX9_settle_18, zZ, zxcZ, r1, e0, if_neg]
      exact this
  · have := hrest F none none hD (by rw [r2]; exact (if_neg (by omega)).symm)
    have hne := nI_m9 (n := R) (by omega)
    simp (disch := omega) only [eX9_settle_0, eX9_settle_1, eX9_settle_4, eX9_settle_6, zZ, zxcZ, r2, hne, if_false]
    exact this
end S
