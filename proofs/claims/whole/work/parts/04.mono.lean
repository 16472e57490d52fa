/-! 'zstp' grows with what it goes on with: so 'zR' is one step of itself -/
def zBmono (B : zBd) : Prop := ∀ mm as σ ρ I L (Q Q' : zPo), (∀ o σ ρ I L, Q o σ ρ I L → Q' o σ ρ I L) → B mm as σ ρ I L Q → B mm as σ ρ I L Q'
theorem zcl_mono {X X' : zCt} {B : zBd} (hB : zBmono B) (hX : ∀ pc ls st u v σ ρ I L, X pc ls st u v σ ρ I L → X' pc ls st u v σ ρ I L) {mm pc ls u v σ ρ I L mi as r} (h : zcl X B mm pc ls u v σ ρ I L mi as r) : zcl X' B mm pc ls u v σ ρ I L mi as r := by
  unfold zcl at h ⊢
  split at h
  · exact ⟨h.1, h.2.1, h.2.2.1, hB _ _ _ _ _ _ _ _ (fun o σ ρ I L q => hX _ _ _ _ _ _ _ _ _ q) h.2.2.2⟩
  · exact h
theorem z1_mono {st : List Value} {K K' : Int32 → List Value → Prop} (h : ∀ x r, K x r → K' x r) (q : z1 st K) : z1 st K' := by
  unfold z1 at q ⊢; split at q <;> first | exact h _ _ q | exact q
theorem z2_mono {st : List Value} {K K' : Int32 → Int32 → List Value → Prop} (h : ∀ x y r, K x y r → K' x y r) (q : z2 st K) : z2 st K' := by
  unfold z2 at q ⊢; split at q <;> first | exact h _ _ _ q | exact q
theorem z1l_mono {st : List Value} {K K' : Int64 → List Value → Prop} (h : ∀ x r, K x r → K' x r) (q : z1l st K) : z1l st K' := by
  unfold z1l at q ⊢; split at q <;> first | exact h _ _ q | exact q
theorem z2l_mono {st : List Value} {K K' : Int64 → Int64 → List Value → Prop} (h : ∀ x y r, K x y r → K' x y r) (q : z2l st K) : z2l st K' := by
  unfold z2l at q ⊢; split at q <;> first | exact h _ _ _ q | exact q
theorem zli_mono {st : List Value} {K K' : Int64 → Int32 → List Value → Prop} (h : ∀ x y r, K x y r → K' x y r) (q : zli st K) : zli st K' := by
  unfold zli at q ⊢; split at q <;> first | exact h _ _ _ q | exact q
theorem z1r_mono {st : List Value} {K K' : Nat → List Value → Prop} (h : ∀ x r, K x r → K' x r) (q : z1r st K) : z1r st K' := by
  unfold z1r at q ⊢; split at q <;> first | exact h _ _ q | exact q
theorem zra_mono {st : List Value} {K K' : Nat → Int32 → List Value → Prop} (h : ∀ x y r, K x y r → K' x y r) (q : zra st K) : zra st K' := by
  unfold zra at q ⊢; split at q <;> first | exact h _ _ _ q | exact q
theorem zia_mono {st : List Value} {K K' : Nat → Int32 → Int32 → List Value → Prop} (h : ∀ x y z r, K x y z r → K' x y z r) (q : zia st K) : zia st K' := by
  unfold zia at q ⊢; split at q <;> first | exact h _ _ _ _ q | exact q
theorem zil_mono {st : List Value} {K K' : Nat → Int32 → Int64 → List Value → Prop} (h : ∀ x y z r, K x y z r → K' x y z r) (q : zil st K) : zil st K' := by
  unfold zil at q ⊢; split at q <;> first | exact h _ _ _ _ q | exact q
theorem zir_mono {st : List Value} {K K' : Nat → Int32 → Nat → List Value → Prop} (h : ∀ x y z r, K x y z r → K' x y z r) (q : zir st K) : zir st K' := by
  unfold zir at q ⊢; split at q <;> first | exact h _ _ _ _ q | exact q
theorem z1v_mono {st : List Value} {K K' : Value → List Value → Prop} (h : ∀ x r, K x r → K' x r) (q : z1v st K) : z1v st K' := by
  unfold z1v at q ⊢; split at q <;> first | exact h _ _ q | exact q
theorem z2v_mono {st : List Value} {K K' : Value → Value → List Value → Prop} (h : ∀ x y r, K x y r → K' x y r) (q : z2v st K) : z2v st K' := by
  unfold z2v at q ⊢; split at q <;> first | exact h _ _ _ q | exact q
theorem zj_mono {pc off} {K K' : Nat → Prop} (h : ∀ t, K t → K' t) (q : zj pc off K) : zj pc off K' := by
  unfold zj at q ⊢; split at q <;> first | exact h _ q | exact q
theorem zif_mono {c A B A' B' : Prop} [Decidable c] (h1 : A → A') (h2 : B → B') (q : if c then A else B) : if c then A' else B' := by
  by_cases hc : c
  · rw [if_pos hc] at q ⊢; exact h1 q
  · rw [if_neg hc] at q ⊢; exact h2 q
theorem zkd_mono {σ a} {K K' : Nat → Prop} (h : ∀ t, K t → K' t) (q : zkd σ a K) : zkd σ a K' := zif_mono (fun q => ⟨q.1, h _ q.2⟩) (zif_mono (h _) id) q
theorem zkons_mono {K K' : Value → Prop} {mm i} (h : ∀ t, K t → K' t) (q : zkons K mm i) : zkons K' mm i := by
  unfold zkons at q ⊢; split at q <;> first | exact h _ q | exact q
theorem zgf_mono {X X' : zCt} (hX : ∀ pc ls st u v σ ρ I L, X pc ls st u v σ ρ I L → X' pc ls st u v σ ρ I L) {mm pc ls st u v σ ρ I L i} (h : zgf X mm pc ls st u v σ ρ I L i) : zgf X' mm pc ls st u v σ ρ I L i := by
  unfold zgf at h ⊢
  refine z1r_mono (fun a r q => zif_mono (fun q => ⟨q.1, q.2.1, zif_mono (hX _ _ _ _ _ _ _ _ _) (zif_mono (hX _ _ _ _ _ _ _ _ _) id) q.2.2⟩) (fun q => ?_) q) h
  split at q
  · exact ⟨q.1, q.2.1, hX _ _ _ _ _ _ _ _ _ q.2.2⟩
  · exact q
theorem zpf_mono {X X' : zCt} (hX : ∀ pc ls st u v σ ρ I L, X pc ls st u v σ ρ I L → X' pc ls st u v σ ρ I L) {mm pc ls st u v σ ρ I L i} (h : zpf X mm pc ls st u v σ ρ I L i) : zpf X' mm pc ls st u v σ ρ I L i := by
  unfold zpf at h ⊢
  refine z2v_mono (fun w y r q => ?_) h
  split at q
  · split at q
    · refine ⟨q.1, q.2.1, q.2.2.1, ?_⟩
      have q := q.2.2.2
      split at q
      · exact hX _ _ _ _ _ _ _ _ _ q
      · exact ⟨q.1, hX _ _ _ _ _ _ _ _ _ q.2⟩
      · exact hX _ _ _ _ _ _ _ _ _ q
      · exact hX _ _ _ _ _ _ _ _ _ q
      · exact q
    · exact q
  · exact q
theorem znew_mono {X X' : zCt} (hX : ∀ pc ls st u v σ ρ I L, X pc ls st u v σ ρ I L → X' pc ls st u v σ ρ I L) {mm pc ls st u v σ ρ I L kd n} (h : znew X mm pc ls st u v σ ρ I L kd n) : znew X' mm pc ls st u v σ ρ I L kd n := ⟨h.1, h.2.1, h.2.2.1, h.2.2.2.1, hX _ _ _ _ _ _ _ _ _ h.2.2.2.2⟩
theorem zmul_mono {X X' : zCt} (hX : ∀ pc ls st u v σ ρ I L, X pc ls st u v σ ρ I L → X' pc ls st u v σ ρ I L) {mm pc ls st u v σ ρ I L n k} (h : zmul X mm pc ls st u v σ ρ I L n k) : zmul X' mm pc ls st u v σ ρ I L n k := ⟨h.1, h.2.1, h.2.2.1, h.2.2.2.1, h.2.2.2.2.1, hX _ _ _ _ _ _ _ _ _ h.2.2.2.2.2⟩
theorem zcpy_mono {X X' : zCt} (hX : ∀ pc ls st u v σ ρ I L, X pc ls st u v σ ρ I L → X' pc ls st u v σ ρ I L) {pc ls st u v σ ρ I L} (h : zcpy X pc ls st u v σ ρ I L) : zcpy X' pc ls st u v σ ρ I L := by
  unfold zcpy at h ⊢
  split at h
  · obtain ⟨a1, a2, a3, a4, a5, a6, a7, a8, a9, a10, a11⟩ := h
    exact ⟨a1, a2, a3, a4, a5, a6, a7, a8, a9, a10, hX _ _ _ _ _ _ _ _ _ a11⟩
  · exact h
theorem zret_mono {mm Q Q' ty u v o σ ρ I L} (hQ : ∀ o σ ρ I L, Q o σ ρ I L → Q' o σ ρ I L) (h : zret mm Q ty u v o σ ρ I L) : zret mm Q' ty u v o σ ρ I L := ⟨h.1, h.2.1, h.2.2.1, hQ _ _ _ _ _ h.2.2.2⟩
set_option maxHeartbeats 4000000 in
theorem zstp_mono {scr : zSc} {X X' : zCt} {B : zBd} {mm : zM} {Q Q' : zPo} (hB : zBmono B) (hX : ∀ pc ls st u v σ ρ I L, X pc ls st u v σ ρ I L → X' pc ls st u v σ ρ I L) (hQ : ∀ o σ ρ I L, Q o σ ρ I L → Q' o σ ρ I L)
    {pc ls st u v σ ρ I L n ins} (h : zstp scr X B mm Q pc ls st u v σ ρ I L n ins) : zstp scr X' B mm Q' pc ls st u v σ ρ I L n ins := by
  have hx : ∀ {pc ls st u v σ ρ I L}, X pc ls st u v σ ρ I L → X' pc ls st u v σ ρ I L := fun q => hX _ _ _ _ _ _ _ _ _ q
  unfold zstp at h ⊢
  split at h
  all_goals first
    | exact h
    | exact ⟨h.1, hx h.2⟩
    | (refine ⟨h.1, ?_⟩; have h := h.2; first
      | (split at h <;> first | exact hx h | exact h; done)
      | exact z1_mono (fun _ _ q => hx q) h
      | exact z2_mono (fun _ _ _ q => hx q) h
      | exact z2_mono (fun _ _ _ q => ⟨q.1, hx q.2⟩) h
      | exact z2l_mono (fun _ _ _ q => hx q) h
      | exact z2l_mono (fun _ _ _ q => ⟨q.1, hx q.2⟩) h
      | exact zli_mono (fun _ _ _ q => hx q) h
      | exact z1l_mono (fun _ _ q => hx q) h
      | exact z1_mono (fun _ _ q => ⟨q.1, hx q.2⟩) h
      | exact z1l_mono (fun _ _ q => ⟨q.1, hx q.2⟩) h
      | exact z1r_mono (fun _ _ q => ⟨q.1, hx q.2⟩) h
      | exact z1v_mono (fun _ _ q => ⟨q.1, hx q.2⟩) h
      | exact z1v_mono (fun _ _ q => zif_mono hx (fun q => z1v_mono (fun _ _ q => ⟨q.1, q.2.1, hx q.2.2⟩) q) q) h
      | exact zj_mono (fun _ q => hx q) h
      | exact z1_mono (fun _ _ q => zj_mono (fun _ q => zif_mono (fun q => hx q) (fun q => hx q) q) q) h
      | exact z2_mono (fun _ _ _ q => zj_mono (fun _ q => zif_mono (fun q => hx q) (fun q => hx q) q) q) h
      | exact zia_mono (fun _ _ _ _ q => ⟨q.1, hx q.2⟩) h
      | exact zia_mono (fun _ _ _ _ q => ⟨q.1, q.2.1, hx q.2.2⟩) h
      | exact zil_mono (fun _ _ _ _ q => ⟨q.1, hx q.2⟩) h
      | exact zra_mono (fun _ _ _ q => ⟨q.1, hx q.2⟩) h
      | exact zra_mono (fun _ _ _ q => ⟨q.1, q.2.1, q.2.2.1, hx q.2.2.2⟩) h
      | exact zra_mono (fun _ _ _ q => zif_mono (fun q => ⟨q.1, hx q.2⟩) (fun q => ⟨q.1, hx q.2⟩) q) h
      | exact zra_mono (fun _ _ _ q => zif_mono (fun q => by split at q; exact ⟨q.1, hx q.2⟩; exact q) (fun q => ⟨q.1, hx q.2⟩) q) h
      | exact zir_mono (fun _ _ _ _ q => ⟨q.1, q.2.1, q.2.2.1, q.2.2.2.1, hx q.2.2.2.2⟩) h
      | exact z1r_mono (fun _ _ q => zif_mono (fun q => by split at q; exact hx q; exact q) (fun q => zif_mono (fun q => hx q) (fun q => ⟨q.1, q.2.1, q.2.2.1, hx q.2.2.2⟩) q) q) h)
    | skip
  · refine ⟨h.1, zkons_mono (fun w q => ?_) h.2⟩
    split at q
    · exact q
    · exact hx q
  · refine ⟨h.1, zkons_mono (fun w q => ?_) h.2⟩
    split at q
    · exact hx q
    · exact q
  · refine ⟨h.1, zkons_mono (fun w q => ?_) h.2⟩
    split at q
    · exact hx q
    · exact q
  · refine z1_mono (fun x r q => zif_mono (fun q => zj_mono (fun _ q => hx q) q) (fun q => ?_) q) h
    split at q
    · exact zj_mono (fun _ q => hx q) q
    · exact q
  · exact ⟨h.1, zgf_mono hX h.2⟩
  · exact ⟨h.1, zpf_mono hX h.2⟩
  · exact ⟨h.1, h.2.1, zif_mono hx (zif_mono hx id) h.2.2⟩
  · refine ⟨h.1, ?_⟩
    have h := h.2
    split at h
    · exact znew_mono hX h
    · exact h
  · refine ⟨h.1, z1_mono (fun x r q => ⟨q.1, ?_⟩) h.2⟩
    have q := q.2
    split at q
    · exact znew_mono hX q
    · exact znew_mono hX q
    · exact znew_mono hX q
    · exact q
  · refine ⟨h.1, z1_mono (fun x r q => ⟨q.1, ?_⟩) h.2⟩
    have q := q.2
    split at q
    · exact znew_mono hX q
    · exact q
  · exact ⟨h.1, h.2.1, h.2.2.1, h.2.2.2.1, z2_mono (fun x y r q => ⟨q.1, q.2.1, zmul_mono hX q.2.2⟩) h.2.2.2.2⟩
  · refine ⟨h.1, ?_⟩
    have h := h.2
    split at h
    · refine z1r_mono (fun a r q => zkd_mono (fun kd q => ?_) q) h
      split at q
      · exact zcl_mono hB hX q
      · exact q
    · exact h
  · refine ⟨h.1, zif_mono (fun q => z1r_mono (fun _ _ q => ⟨q.1, hx q.2⟩) q) (fun q => ?_) h.2⟩
    split at q
    · exact z1r_mono (fun _ _ q => ⟨q.1, q.2.1, zcl_mono hB hX q.2.2⟩) q
    · exact q
  · refine ⟨h.1, zif_mono (zcpy_mono hX) (zif_mono (z2_mono (fun _ _ _ q => ⟨q.1, q.2.1, q.2.2.1, hx q.2.2.2⟩)) (zif_mono (z2_mono (fun _ _ _ q => ⟨q.1, q.2.1, q.2.2.1, hx q.2.2.2⟩)) (fun q => ?_))) h.2⟩
    split at q
    · exact ⟨q.1, zcl_mono hB hX q.2⟩
    · exact q
  · refine ⟨h.1, ?_⟩
    have h := h.2
    split at h
    · split at h
      · exact ⟨h.1, zret_mono hQ h.2⟩
      · exact h
    · exact h
  · refine ⟨h.1, ?_⟩
    have h := h.2
    split at h
    · exact zret_mono hQ h
    · exact h
  · refine ⟨h.1, ?_⟩
    have h := h.2
    split at h
    · exact zret_mono hQ h
    · exact h
theorem zst_mono {scr : zSc} {X X' : zCt} {B : zBd} {mm : zM} {Q Q' : zPo} (hB : zBmono B) (hX : ∀ pc ls st u v σ ρ I L, X pc ls st u v σ ρ I L → X' pc ls st u v σ ρ I L) (hQ : ∀ o σ ρ I L, Q o σ ρ I L → Q' o σ ρ I L)
    {pc ls st u v σ ρ I L} (h : zst scr X B mm Q pc ls st u v σ ρ I L) : zst scr X' B mm Q' pc ls st u v σ ρ I L := by
  unfold zst at h ⊢
  split at h
  · exact zstp_mono hB hX hQ h
  · exact h
theorem zR_fold {scr B mm Q} (hB : zBmono B) {pc ls st u v σ ρ I L} (h : zst scr (zR scr B mm Q) B mm Q pc ls st u v σ ρ I L) : zR scr B mm Q pc ls st u v σ ρ I L :=
  fun X hX => hX _ _ _ _ _ _ _ _ _ (zst_mono hB (fun _ _ _ _ _ _ _ _ _ q => q X hX) (fun _ _ _ _ _ q => q) h)
theorem zR_unfold {scr B mm Q} (hB : zBmono B) {pc ls st u v σ ρ I L} (h : zR scr B mm Q pc ls st u v σ ρ I L) : zst scr (zR scr B mm Q) B mm Q pc ls st u v σ ρ I L :=
  h (fun pc ls st u v σ ρ I L => zst scr (zR scr B mm Q) B mm Q pc ls st u v σ ρ I L) (fun _ _ _ _ _ _ _ _ _ q => zst_mono hB (fun _ _ _ _ _ _ _ _ _ q => zR_fold hB q) (fun _ _ _ _ _ q => q) q)
theorem zR_post {scr B mm} {Q Q' : zPo} (hB : zBmono B) (hQ : ∀ o σ ρ I L, Q o σ ρ I L → Q' o σ ρ I L) {pc ls st u v σ ρ I L} (h : zR scr B mm Q pc ls st u v σ ρ I L) : zR scr B mm Q' pc ls st u v σ ρ I L :=
  h (zR scr B mm Q') (fun _ _ _ _ _ _ _ _ _ q => zR_fold hB (zst_mono hB (fun _ _ _ _ _ _ _ _ _ q => q) hQ q))
theorem zW_mono : ∀ d, zBmono (zW d)
  | 0 => fun _ _ _ _ _ _ _ _ _ h => h
  | d + 1 => fun _ _ _ _ _ _ _ _ hQ h => ⟨h.1, zR_post (zW_mono d) hQ h.2⟩
/-- one step of a frame, as an equation -/
theorem zR_eq {scr d mm Q pc ls st u v σ ρ I L} : zR scr (zW d) mm Q pc ls st u v σ ρ I L = zst scr (zR scr (zW d) mm Q) (zW d) mm Q pc ls st u v σ ρ I L := propext ⟨zR_unfold (zW_mono d), zR_fold (zW_mono d)⟩
theorem zR_op {scr d mm Q pc ls st u v σ ρ I L ins n} (hd : decode mm.2.1 pc = .ok (ins, n)) : zR scr (zW d) mm Q pc ls st u v σ ρ I L = zstp scr (zR scr (zW d) mm Q) (zW d) mm Q pc ls st u v σ ρ I L n ins := by
  rw [zR_eq]; unfold zst; rw [hd]
