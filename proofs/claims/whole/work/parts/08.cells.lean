/-! ARRAYS AND NEW CELLS -/
theorem zty_at (E : zE) {kd : Nat} (h1 : 20 ≤ kd) (h2 : kd ≤ 25) : (zty E)[kd - 20]? = some (E.2.2.2.2.2.2 kd, zaty kd) := by
  have h : kd = 20 ∨ kd = 21 ∨ kd = 22 ∨ kd = 23 ∨ kd = 24 ∨ kd = 25 := by omega
  rcases h with rfl | rfl | rfl | rfl | rfl | rfl <;> rfl
theorem zat_sh {E σ σ' ρ I L c H} (h : zat E σ ρ I L c H) (hs : σ'.2 c = σ.2 c) : zat E σ' ρ I L c H := by
  unfold zat at h ⊢
  rw [hs]
  exact h
/-- a cell that is an array -/
theorem zP.arr {E σ ρ I L H a kd} (hP : zP E σ ρ I L H) (ha : a < σ.1) (hk : (σ.2 a).1 = kd) (h20 : 20 ≤ kd) : kd ≤ 25 ∧ H[zad E a]? = some (arrV (E.2.2.2.2.2.2 kd) (σ.2 a).2 (zav E kd ρ I L a)) := by
  rcases hP.2.2 a ha with ⟨h1, -⟩ | ⟨-, h2, h3⟩
  · omega
  · rw [hk] at h2 h3
    exact ⟨h2, by rw [hP.adr ha]; exact h3⟩
theorem zP.ast {E σ ρ I L H H1 ρ' I' L' a kd j w} (hP : zP E σ ρ I L H) (ha : a < σ.1) (hk : (σ.2 a).1 = kd) (h20 : 20 ≤ kd) (h25 : kd ≤ 25) (e : H1[E.1 + a]? = some ((arrV (E.2.2.2.2.2.2 kd) (σ.2 a).2 (zav E kd ρ I L a)).setSlot j w)) (z : H1.size = H.size) (oq : ∀ q : Nat, q ≠ E.1 + a → H1[q]? = H[q]?)
    (hv : ∀ q, zav E kd ρ' I' L' a q = if q = j then w else zav E kd ρ I L a q) (h1 : ∀ c k, c ≠ a → ρ' c k = ρ c k) (h2 : ∀ c k, c ≠ a → I' c k = I c k) (h3 : ∀ c k, c ≠ a → L' c k = L c k) : zP E σ ρ' I' L' H1 := by
  refine hP.put z oq (Or.inr ⟨by omega, by omega, ?_⟩) h1 h2 h3
  rw [e, arrV_store, hk]
  congr 2
  funext q
  rw [hv q]
  rfl
theorem zP.new {E σ ρ I L H H1 kd n} (h : zP E σ ρ I L H) (hs : σ.1 < 5000) (z : H1.size = H.size + 1) (oq : ∀ q : Nat, q < H.size → H1[q]? = H[q]?) (hat : zat E (zsh σ kd n) (zfr ρ σ.1 none) (zfr I σ.1 0) (zfr L σ.1 0) σ.1 H1) : zP E (zsh σ kd n) (zfr ρ σ.1 none) (zfr I σ.1 0) (zfr L σ.1 0) H1 := by
  refine ⟨hs, by rw [z, h.2.1]; rfl, fun c hc => ?_⟩
  have hc : c < σ.1 + 1 := hc
  by_cases e : c = σ.1
  · subst e; exact hat
  · have hl : c < σ.1 := by omega
    refine zat_sh (σ := σ) (zat_kept (h.2.2 c hl) (oq _ (by rw [h.2.1]; omega)) (fun k => if_neg e) (fun k => if_neg e) (fun k => if_neg e)) (if_neg e)
section ZG
variable {p : Program} {l : Launch} {e : Env} {R : Room} {s : State} {m : MethodId} {args : Array Value} {below : List Frame} {meth : Method} {c : Code} {H : Heap} {locs : List Loc} {cells slots : Nat} {Qe : State → Prop}
variable {E : zE} {mm : zM} {d : Nat} {σ : zSh} {ρ : zRf} {I : zIm} {L : zLm} {pc : Nat} {lsr : Array Slot} {rest : List Value}
theorem zr_ild (C : zCx p R s m args meth c E mm d) (hP : zP E σ ρ I L H) {a : Nat} {i : Int32} (h : zin σ a 20 i) (hd : decode mm.2.1 pc = .ok (.iaload, 1))
    (kk : W p l e R s m args below meth c H locs cells slots Qe (F0 m (pc + 1) lsr (.int (I a i.toNatClampNeg) :: rest))) : W p l e R s m args below meth c H locs cells slots Qe (F0 m pc lsr (.int i :: .ref (zad E a) :: rest)) := by
  obtain ⟨hx, hb, -, -, -, -, hEv, -⟩ := C
  obtain ⟨ha, hk, hi⟩ := h
  obtain ⟨-, hc⟩ := hP.arr ha hk (by omega)
  have hlt : i.toNatClampNeg < (σ.2 a).2 := Nat.not_le.mp fun q => hi (Or.inr q)
  exact W.iald (v := .int (I a i.toNatClampNeg)) hx hb hc ((hEv.1.2 _ _ (zty_at E (kd := 20) (by omega) (by omega))).1 _ _) (fun q => by cases q) (by rw [arrV_size]; exact hi) (by rw [arrV_read _ _ hlt]; rfl) rfl rfl hd kk
theorem zr_zld (C : zCx p R s m args meth c E mm d) (hP : zP E σ ρ I L H) {a : Nat} {i : Int32} (h : zin σ a 21 i) (hd : decode mm.2.1 pc = .ok (.baload, 1))
    (kk : W p l e R s m args below meth c H locs cells slots Qe (F0 m (pc + 1) lsr (.int (I a i.toNatClampNeg) :: rest))) : W p l e R s m args below meth c H locs cells slots Qe (F0 m pc lsr (.int i :: .ref (zad E a) :: rest)) := by
  obtain ⟨hx, hb, -, -, -, -, hEv, -⟩ := C
  obtain ⟨ha, hk, hi⟩ := h
  obtain ⟨-, hc⟩ := hP.arr ha hk (by omega)
  have hlt : i.toNatClampNeg < (σ.2 a).2 := Nat.not_le.mp fun q => hi (Or.inr q)
  exact W.zald (v := .int (I a i.toNatClampNeg)) hx hb hc ((hEv.1.2 _ _ (zty_at E (kd := 21) (by omega) (by omega))).1 _ _) (fun q => by cases q) (by rw [arrV_size]; exact hi) (by rw [arrV_read _ _ hlt]; rfl) rfl rfl hd kk
theorem zr_lld (C : zCx p R s m args meth c E mm d) (hP : zP E σ ρ I L H) {a : Nat} {i : Int32} (h : zin σ a 22 i) (hd : decode mm.2.1 pc = .ok (.laload, 1))
    (kk : W p l e R s m args below meth c H locs cells slots Qe (F0 m (pc + 1) lsr (.long (L a i.toNatClampNeg) :: rest))) : W p l e R s m args below meth c H locs cells slots Qe (F0 m pc lsr (.int i :: .ref (zad E a) :: rest)) := by
  obtain ⟨hx, hb, -, -, -, -, hEv, -⟩ := C
  obtain ⟨ha, hk, hi⟩ := h
  obtain ⟨-, hc⟩ := hP.arr ha hk (by omega)
  have hlt : i.toNatClampNeg < (σ.2 a).2 := Nat.not_le.mp fun q => hi (Or.inr q)
  exact W.lald (v := .long (L a i.toNatClampNeg)) hx hb hc ((hEv.1.2 _ _ (zty_at E (kd := 22) (by omega) (by omega))).1 _ _) (fun q => by cases q) (by rw [arrV_size]; exact hi) (by rw [arrV_read _ _ hlt]; rfl) rfl rfl hd kk
theorem zr_ald (C : zCx p R s m args meth c E mm d) (hP : zP E σ ρ I L H) {a : Nat} {i : Int32} (ha : a < σ.1) (hk : (σ.2 a).1 = 23 ∨ (σ.2 a).1 = 24 ∨ (σ.2 a).1 = 25) (hi : vp_in i (σ.2 a).2) (hd : decode mm.2.1 pc = .ok (.aaload, 1))
    (kk : W p l e R s m args below meth c H locs cells slots Qe (F0 m (pc + 1) lsr (zco E (va_rf (ρ a i.toNatClampNeg)) :: rest))) : W p l e R s m args below meth c H locs cells slots Qe (F0 m pc lsr (.int i :: .ref (zad E a) :: rest)) := by
  obtain ⟨hx, hb, -, -, -, -, hEv, -⟩ := C
  generalize hkd : (σ.2 a).1 = kd at hk
  obtain ⟨-, hc⟩ := hP.arr ha hkd (by omega)
  have hlt : i.toNatClampNeg < (σ.2 a).2 := Nat.not_le.mp fun q => hi (Or.inr q)
  refine W.aald (v := zco E (va_rf (ρ a i.toNatClampNeg))) (ty := zaty kd) hx hb hc ((hEv.1.2 _ _ (zty_at E (kd := kd) (by omega) (by omega))).1 _ _) ?_ (fun q => by cases q) (by rw [arrV_size]; exact hi) ?_ rfl rfl hd kk
  · rcases hk with rfl | rfl | rfl <;> rfl
  · rw [arrV_read _ _ hlt]
    rcases hk with rfl | rfl | rfl <;> rfl
theorem zr_alen (C : zCx p R s m args meth c E mm d) (hP : zP E σ ρ I L H) {a : Nat} (ha : a < σ.1) (hk : 20 ≤ (σ.2 a).1) (hd : decode mm.2.1 pc = .ok (.arraylength, 1))
    (kk : W p l e R s m args below meth c H locs cells slots Qe (F0 m (pc + 1) lsr (.int (Int32.ofNat (σ.2 a).2) :: rest))) : W p l e R s m args below meth c H locs cells slots Qe (F0 m pc lsr (.ref (zad E a) :: rest)) := by
  obtain ⟨hx, hb, -, -, -, -, hEv, -⟩ := C
  obtain ⟨h25, hc⟩ := hP.arr ha rfl hk
  exact W.alen hx hb hc ((hEv.1.2 _ _ (zty_at E hk h25)).1 _ _) (by rw [arrV_size]) rfl rfl hd kk
theorem zr_ist (C : zCx p R s m args meth c E mm d) (hP : zP E σ ρ I L H) (hS : va_S (zAd E) s.heap H locs) {a : Nat} {i x : Int32} (h : zin σ a 20 i) (hd : decode mm.2.1 pc = .ok (.iastore, 1))
    (kk : ∀ (H1 : Heap) (locs1 : List Loc), zP E σ ρ (zup I a i.toNatClampNeg x) L H1 → va_S (zAd E) s.heap H1 locs1 → W p l e R s m args below meth c H1 locs1 cells slots Qe (F0 m (pc + 1) lsr rest)) : W p l e R s m args below meth c H locs cells slots Qe (F0 m pc lsr (.int x :: .int i :: .ref (zad E a) :: rest)) := by
  obtain ⟨hx, hb, -, -, -, -, hEv, -⟩ := C
  obtain ⟨ha, hk, hi⟩ := h
  obtain ⟨-, hc⟩ := hP.arr ha hk (by omega)
  refine W.iast hx hb hc ((hEv.1.2 _ _ (zty_at E (kd := 20) (by omega) (by omega))).1 _ _) (fun q => by cases q) (by rw [arrV_size]; exact hi) rfl rfl hd fun H1 e1 z oq => ?_
  rw [hP.adr ha] at e1 oq ⊢
  refine kk H1 _ (hP.ast ha hk (by omega) (by omega) e1 z oq (fun q => ?_) (fun _ _ _ => rfl) (fun _ _ h => zup_c h) (fun _ _ _ => rfl)) (hS.put z oq (Nat.le_add_right _ _))
  by_cases e : q = i.toNatClampNeg
  · rw [if_pos e, e]
    show Value.int (zup I a i.toNatClampNeg x a i.toNatClampNeg) = _
    rw [zup_s]
  · rw [if_neg e]
    show Value.int (zup I a i.toNatClampNeg x a q) = Value.int (I a q)
    rw [zup_k e]
theorem zr_zst (C : zCx p R s m args meth c E mm d) (hP : zP E σ ρ I L H) (hS : va_S (zAd E) s.heap H locs) {a : Nat} {i x : Int32} (h : zin σ a 21 i) (h01 : x = 0 ∨ x = 1) (hd : decode mm.2.1 pc = .ok (.bastore, 1))
    (kk : ∀ (H1 : Heap) (locs1 : List Loc), zP E σ ρ (zup I a i.toNatClampNeg x) L H1 → va_S (zAd E) s.heap H1 locs1 → W p l e R s m args below meth c H1 locs1 cells slots Qe (F0 m (pc + 1) lsr rest)) : W p l e R s m args below meth c H locs cells slots Qe (F0 m pc lsr (.int x :: .int i :: .ref (zad E a) :: rest)) := by
  obtain ⟨hx, hb, -, -, -, -, hEv, -⟩ := C
  obtain ⟨ha, hk, hi⟩ := h
  obtain ⟨-, hc⟩ := hP.arr ha hk (by omega)
  have hn : narrow .boolean (.int x) = .int x := by rcases h01 with rfl | rfl <;> rfl
  refine W.zast hx hb hc ((hEv.1.2 _ _ (zty_at E (kd := 21) (by omega) (by omega))).1 _ _) (fun q => by cases q) (by rw [arrV_size]; exact hi) rfl rfl hd fun H1 e1 z oq => ?_
  rw [hP.adr ha] at e1 oq ⊢
  rw [hn] at e1
  refine kk H1 _ (hP.ast ha hk (by omega) (by omega) e1 z oq (fun q => ?_) (fun _ _ _ => rfl) (fun _ _ h => zup_c h) (fun _ _ _ => rfl)) (hS.put z oq (Nat.le_add_right _ _))
  by_cases e : q = i.toNatClampNeg
  · rw [if_pos e, e]
    show Value.int (zup I a i.toNatClampNeg x a i.toNatClampNeg) = _
    rw [zup_s]
  · rw [if_neg e]
    show Value.int (zup I a i.toNatClampNeg x a q) = Value.int (I a q)
    rw [zup_k e]
theorem zr_lst (C : zCx p R s m args meth c E mm d) (hP : zP E σ ρ I L H) (hS : va_S (zAd E) s.heap H locs) {a : Nat} {i : Int32} {x : Int64} (h : zin σ a 22 i) (hd : decode mm.2.1 pc = .ok (.lastore, 1))
    (kk : ∀ (H1 : Heap) (locs1 : List Loc), zP E σ ρ I (zup L a i.toNatClampNeg x) H1 → va_S (zAd E) s.heap H1 locs1 → W p l e R s m args below meth c H1 locs1 cells slots Qe (F0 m (pc + 1) lsr rest)) : W p l e R s m args below meth c H locs cells slots Qe (F0 m pc lsr (.long x :: .int i :: .ref (zad E a) :: rest)) := by
  obtain ⟨hx, hb, -, -, -, -, hEv, -⟩ := C
  obtain ⟨ha, hk, hi⟩ := h
  obtain ⟨-, hc⟩ := hP.arr ha hk (by omega)
  refine W.last hx hb hc ((hEv.1.2 _ _ (zty_at E (kd := 22) (by omega) (by omega))).1 _ _) (fun q => by cases q) (by rw [arrV_size]; exact hi) rfl rfl hd fun H1 e1 z oq => ?_
  rw [hP.adr ha] at e1 oq ⊢
  refine kk H1 _ (hP.ast ha hk (by omega) (by omega) e1 z oq (fun q => ?_) (fun _ _ _ => rfl) (fun _ _ _ => rfl) (fun _ _ h => zup_c h)) (hS.put z oq (Nat.le_add_right _ _))
  by_cases e : q = i.toNatClampNeg
  · rw [if_pos e, e]
    show Value.long (zup L a i.toNatClampNeg x a i.toNatClampNeg) = _
    rw [zup_s]
  · rw [if_neg e]
    show Value.long (zup L a i.toNatClampNeg x a q) = Value.long (L a q)
    rw [zup_k e]
theorem zr_ast (C : zCx p R s m args meth c E mm d) (hP : zP E σ ρ I L H) (hS : va_S (zAd E) s.heap H locs) {a b : Nat} {i : Int32} (ha : a < σ.1) (hbb : b < σ.1) (hi : vp_in i (σ.2 a).2) (hk : (σ.2 a).1 = 23 ∧ (σ.2 b).1 = 7 ∨ (σ.2 a).1 = 24 ∧ 1 ≤ (σ.2 b).1 ∧ (σ.2 b).1 ≤ 6) (hd : decode mm.2.1 pc = .ok (.aastore, 1))
    (kk : ∀ (H1 : Heap) (locs1 : List Loc), zP E σ (zup ρ a i.toNatClampNeg (some b)) I L H1 → va_S (zAd E) s.heap H1 locs1 → W p l e R s m args below meth c H1 locs1 cells slots Qe (F0 m (pc + 1) lsr rest)) : W p l e R s m args below meth c H locs cells slots Qe (F0 m pc lsr (.ref (zad E b) :: .int i :: .ref (zad E a) :: rest)) := by
  obtain ⟨hx, hb, -, -, hts, -, hEv, -⟩ := C
  have hlt : i.toNatClampNeg < (σ.2 a).2 := Nat.not_le.mp fun q => hi (Or.inr q)
  have h0 : ¬ i < 0 := fun q => hi (Or.inl q)
  generalize hkd : (σ.2 a).1 = kd at hk
  have h2 : kd = 23 ∨ kd = 24 := by omega
  obtain ⟨h25, hc⟩ := hP.arr ha hkd (by omega)
  rcases hP.2.2 b hbb with ⟨hb12, cellV, g1, g2, g3, g4⟩ | ⟨hb20, -⟩
  · obtain ⟨r, hr, hr1, -⟩ := zcl_row hb12
    obtain ⟨-, hcls⟩ := hEv.1.1 _ r hr
    obtain ⟨E1, hE1⟩ : ∃ E1, zaty kd = .object E1 := by rcases h2 with rfl | rfl <;> exact ⟨_, rfl⟩
    obtain ⟨hAr, hRA⟩ := hEv.1.2 _ _ (zty_at E (kd := kd) (by omega) (by omega))
    rw [hE1] at hRA hAr
    obtain ⟨kA, comp, k1, k2, k3, -⟩ := hRA
    obtain ⟨kE, hkE, -⟩ := Vm.findClass_spec k3
    obtain ⟨kC, hkC, hkCk⟩ := hcls.2
    have hasg : s.vm.assignable (E.2.2.2.2.2.1.1 (σ.2 b).1) comp = true := by
      by_cases he : r.1 = E1
      · have : comp = E.2.2.2.2.2.1.1 (σ.2 b).1 := by
          have h9 := hcls.1
          rw [he] at h9
          exact Option.some.inj (k3.symm.trans h9)
        rw [this]
        exact va_assign hcls
      · have hkb : kd = 24 ∧ (1 ≤ (σ.2 b).1 ∧ (σ.2 b).1 ≤ 6) := by
          rcases hk with ⟨e1, e2⟩ | ⟨e1, e2⟩
          · exfalso
            apply he
            rw [hr1, e2]
            subst e1
            exact FieldType.object.inj hE1
          · exact ⟨e1, e2⟩
        have hE6 : E1 = RX6 := by
          have := hkb.1
          subst this
          exact (FieldType.object.inj hE1).symm
        have hca := hEv.2.2.2.2.2.2.2.2.2.2 (σ.2 b).1 hkb.2.1 (by
          have h6 : (σ.2 b).1 ≠ 6 := fun q => he (by rw [hr1, q, hE6]; rfl)
          have := hkb.2.2
          omega)
        rw [← hr1] at hca
        obtain ⟨c0, t1, f1, f2, f3⟩ := Cond.castable_spec (va_Nw.use (A := args) rfl hca)
        rw [hE6] at k3
        cases hcls.1.symm.trans f1
        cases k3.symm.trans f2
        exact f3
    refine W.aast hx hb hc (fun q h => by cases h) (fun h => by cases h) k1 k2 rfl hkE ⟨h0, by rw [arrV_size]; exact hlt⟩ (by rw [hP.adr hbb]; exact g1) (fun q h => by rw [g3] at h; cases h) (by rw [g2]; exact hkC) (by rw [g2]; exact hasg) rfl rfl hd fun H1 e1 z oq => ?_
    rw [hP.adr ha] at e1 oq ⊢
    refine kk H1 _ (hP.ast ha hkd (by omega) (by omega) e1 z oq (fun q => ?_) (fun _ _ h => zup_c h) (fun _ _ _ => rfl) (fun _ _ _ => rfl)) (hS.put z oq (Nat.le_add_right _ _))
    have hz : ∀ (ρ : zRf) j, zav E kd ρ I L a j = zco E (va_rf (ρ a j)) := fun ρ j => by rcases h2 with rfl | rfl <;> rfl
    rw [hz, hz]
    by_cases e : q = i.toNatClampNeg
    · rw [if_pos e, e, zup_s]
      rfl
    · rw [if_neg e, zup_k e]
  · omega
theorem zr_new (C : zCx p R s m args meth c E mm d) (hP : zP E σ ρ I L H) (hS : va_S (zAd E) s.heap H locs) {i ci : Nat} (hN : zN mm.2.2.2.2.1 i = some ci) (h1 : cells + 1 ≤ mm.2.2.2.2.2.1) (h2 : slots + (zfl.getD ci []).length ≤ mm.2.2.2.2.2.2) (h3 : σ.1 < 4000) (hd : decode mm.2.1 pc = .ok (.new i, 3))
    (kk : ∀ (H1 : Heap) (locs1 : List Loc), zP E (zsh σ ci ((zfl.getD ci []).length)) (zfr ρ σ.1 none) (zfr I σ.1 0) (zfr L σ.1 0) H1 → va_S (zAd E) s.heap H1 locs1 → W p l e R s m args below meth c H1 locs1 (cells + 1) (slots + (zfl.getD ci []).length) Qe (F0 m (pc + 3) lsr (.ref (zad E σ.1) :: rest))) : W p l e R s m args below meth c H locs cells slots Qe (F0 m pc lsr rest) := by
  obtain ⟨hx, hb, -, hown, hts, -, hEv, -, -, hRc, hRs⟩ := C
  unfold zN at hN
  cases hf : zNt.find? (fun e => e.1.1 == mm.2.2.2.2.1 && e.1.2 == i) with
  | none => rw [hf] at hN; cases hN
  | some en =>
    rw [hf] at hN
    have e2 : en.2.1 = ci := Option.some.inj hN
    have hp := List.find?_some hf
    simp only [Bool.and_eq_true, beq_iff_eq] at hp
    have hcc := List.all_eq_true.mp zNt_ok en (List.mem_of_find?_eq_some hf)
    unfold zNc at hcc
    rw [e2] at hcc
    split at hcc
    · cases hcc
    · rename_i r hr
      simp only [Bool.and_eq_true, decide_eq_true_eq] at hcc
      obtain ⟨⟨a1, a2⟩, a3⟩ := hcc
      rw [hp.1, hp.2] at a1
      have hci := zkd_lt hr
      obtain ⟨r', hr', hr1, hNN, huw, htys, hnm⟩ := zcl_row hci
      cases hr.symm.trans hr'
      obtain ⟨hSl, hfc, kC0, hkC0, hkind⟩ := hEv.1.1 _ r hr
      have hNe : r.2.2 = (zfl.getD ci []).length := hNN
      rw [hNe] at a2
      refine W.newcK hx hb hown (hts _ (zTG_in a1 rfl)) (hts _ (zTG_in a2 rfl)) (hts _ (zTG_in a3 rfl)) rfl hd (by rw [hRc]; exact h1) (by rw [hRs]; exact h2) hfc rfl fun H1 kC hkC e1 z1 o1 => ?_
      have hadr : zad E σ.1 = H.size := by rw [zad_lt (by omega), hP.2.1]
      rw [hadr] at kk
      refine kk H1 _ (hP.new (by omega) z1 o1 (Or.inl ?_)) ⟨Nat.le_trans hS.1 (by omega), fun x g1 g2 => (o1 x (Nat.lt_of_lt_of_le g1 hS.1)).trans (hS.2.1 x g1 g2), hS.2.2⟩
      have hsh : (zsh σ ci ((zfl.getD ci []).length)).2 σ.1 = (ci, (zfl.getD ci []).length) := if_pos rfl
      rw [hsh]
      refine ⟨hci, ?_⟩
      have hty : ∀ k, k < r.2.2 → parseFieldDescriptor (r.2.1 k).2.2.1 = some ((parseFieldDescriptor (r.2.1 k).2.2.1).getD .int) := fun k hk => by
        obtain ⟨t, ht, -⟩ := htys k hk
        rw [ht]; rfl
      have hob := u_born (fun k => (parseFieldDescriptor (r.2.1 k).2.2.1).getD .int) hts huw ⟨hSl, hfc, kC0, hkC0, hkind⟩ hkC e1 hty
      rw [hP.2.1] at hob
      rw [hNe] at hob
      refine hob.to fun k hk => ?_
      obtain ⟨t, ht, hdv, -⟩ := htys k (by rw [hNe]; exact hk)
      show defaultValue ((parseFieldDescriptor (r.2.1 k).2.2.1).getD .int) = zco E (zfv (zft ci k) (zfr ρ σ.1 none) (zfr I σ.1 0) (zfr L σ.1 0) σ.1 k)
      rw [ht]
      show defaultValue t = _
      rw [hdv]
      have g1 : zfr ρ σ.1 none σ.1 k = none := if_pos rfl
      have g2 : zfr I σ.1 0 σ.1 k = 0 := if_pos rfl
      have g3 : zfr L σ.1 0 σ.1 k = 0 := if_pos rfl
      have hz : ∀ ty, zdf ty = zco E (zfv ty (zfr ρ σ.1 none) (zfr I σ.1 0) (zfr L σ.1 0) σ.1 k) := by
        intro ty
        unfold zfv zdf
        rw [g1, g2, g3]
        match ty with
        | 0 => rfl
        | 1 => rfl
        | 2 => rfl
        | 3 => rfl
        | n + 4 => rfl
      exact hz _
theorem zr_newa (C : zCx p R s m args meth c E mm d) (hP : zP E σ ρ I L H) (hS : va_S (zAd E) s.heap H locs) {x : Int32} {at' : ArrayType} {kd : Nat} (hkd : (at' = .int ∧ kd = 20) ∨ (at' = .boolean ∧ kd = 21) ∨ (at' = .long ∧ kd = 22)) (hx0 : ¬ x < 0) (h1 : cells + 1 ≤ mm.2.2.2.2.2.1) (h2 : slots + x.toNatClampNeg ≤ mm.2.2.2.2.2.2) (h3 : σ.1 < 4000) (h4 : x.toNatClampNeg ≤ 100000) (hd : decode mm.2.1 pc = .ok (.newarray at', 2))
    (kk : ∀ (H1 : Heap) (locs1 : List Loc), zP E (zsh σ kd x.toNatClampNeg) (zfr ρ σ.1 none) (zfr I σ.1 0) (zfr L σ.1 0) H1 → va_S (zAd E) s.heap H1 locs1 → W p l e R s m args below meth c H1 locs1 (cells + 1) (slots + x.toNatClampNeg) Qe (F0 m (pc + 2) lsr (.ref (zad E σ.1) :: rest))) : W p l e R s m args below meth c H locs cells slots Qe (F0 m pc lsr (.int x :: rest)) := by
  obtain ⟨hx, hb, -, hown, hts, -, hEv, -, -, hRc, hRs⟩ := C
  have hty : newarray.typeOf at' = zaty kd := by rcases hkd with ⟨rfl, rfl⟩ | ⟨rfl, rfl⟩ | ⟨rfl, rfl⟩ <;> rfl
  have h20 : 20 ≤ kd ∧ kd ≤ 22 := by omega
  have harr : (Cond.arrayClass (newarray.typeOf at')).before args s = true := by
    rcases hkd with ⟨rfl, -⟩ | ⟨rfl, -⟩ | ⟨rfl, -⟩
    · exact hts _ (zTG_in (i := 109) (by decide +kernel) rfl)
    · exact hts _ (zTG_in (i := 253) (by decide +kernel) rfl)
    · exact hts _ (zTG_in (i := 254) (by decide +kernel) rfl)
  obtain ⟨hAr, hRA⟩ := hEv.1.2 _ _ (zty_at E h20.1 (show kd ≤ 25 by omega))
  refine va_newaK hx hb harr rfl hd rfl hx0 rfl ?_ (by rw [hRc]; exact h1) (by rw [hRs]; exact h2) rfl fun H1 cA e1 z1 o1 hAr2 hNm => ?_
  · have : componentBytes (newarray.typeOf at') ≤ 8 := by rcases hkd with ⟨rfl, -⟩ | ⟨rfl, -⟩ | ⟨rfl, -⟩ <;> decide
    calc x.toNatClampNeg * componentBytes (newarray.typeOf at') ≤ 100000 * 8 := Nat.mul_le_mul h4 this
      _ ≤ 536870912 := by decide
  · have hcA : cA = E.2.2.2.2.2.2 kd := by
      rw [hty] at hNm
      have : s.vm.findClass ("[" ++ (zaty kd).toString) = some (E.2.2.2.2.2.2 kd) := by
        rcases hkd with ⟨-, rfl⟩ | ⟨-, rfl⟩ | ⟨-, rfl⟩ <;> exact hRA
      exact Option.some.inj (hNm.symm.trans this)
    subst hcA
    have hadr : zad E σ.1 = H.size := by rw [zad_lt (by omega), hP.2.1]
    rw [hadr] at kk
    refine kk H1 _ (hP.new (by omega) z1 o1 (Or.inr ?_)) ⟨Nat.le_trans hS.1 (by omega), fun x g1 g2 => (o1 x (Nat.lt_of_lt_of_le g1 hS.1)).trans (hS.2.1 x g1 g2), hS.2.2⟩
    have hsh : (zsh σ kd x.toNatClampNeg).2 σ.1 = (kd, x.toNatClampNeg) := if_pos rfl
    rw [hsh]
    refine ⟨h20.1, by omega, ?_⟩
    rw [← hP.2.1, e1, hty]
    congr 2
    funext j
    have g2 : zfr I σ.1 0 σ.1 j = 0 := if_pos rfl
    have g3 : zfr L σ.1 0 σ.1 j = 0 := if_pos rfl
    unfold zav
    rw [g2, g3]
    rcases hkd with ⟨-, rfl⟩ | ⟨-, rfl⟩ | ⟨-, rfl⟩ <;> rfl
theorem zr_anew (C : zCx p R s m args meth c E mm d) (hP : zP E σ ρ I L H) (hS : va_S (zAd E) s.heap H locs) {x : Int32} {i kd : Nat} (hA : zA mm.2.2.2.2.1 i = some kd) (hx0 : ¬ x < 0) (h1 : cells + 1 ≤ mm.2.2.2.2.2.1) (h2 : slots + x.toNatClampNeg ≤ mm.2.2.2.2.2.2) (h3 : σ.1 < 4000) (h4 : x.toNatClampNeg ≤ 100000) (hd : decode mm.2.1 pc = .ok (.anewarray i, 3))
    (kk : ∀ (H1 : Heap) (locs1 : List Loc), zP E (zsh σ kd x.toNatClampNeg) (zfr ρ σ.1 none) (zfr I σ.1 0) (zfr L σ.1 0) H1 → va_S (zAd E) s.heap H1 locs1 → W p l e R s m args below meth c H1 locs1 (cells + 1) (slots + x.toNatClampNeg) Qe (F0 m (pc + 3) lsr (.ref (zad E σ.1) :: rest))) : W p l e R s m args below meth c H locs cells slots Qe (F0 m pc lsr (.int x :: rest)) := by
  obtain ⟨hx, hb, -, hown, hts, -, hEv, -, -, hRc, hRs⟩ := C
  unfold zA at hA
  cases hf : zAt.find? (fun e => e.1.1 == mm.2.2.2.2.1 && e.1.2 == i) with
  | none => rw [hf] at hA; cases hA
  | some en =>
    rw [hf] at hA
    have e2 : en.2.1 = kd := Option.some.inj hA
    have hp := List.find?_some hf
    simp only [Bool.and_eq_true, beq_iff_eq] at hp
    have hcc := List.all_eq_true.mp zAt_ok en (List.mem_of_find?_eq_some hf)
    unfold zAc at hcc
    rw [e2] at hcc
    simp only [Bool.and_eq_true, decide_eq_true_eq] at hcc
    obtain ⟨a1, a2⟩ := hcc
    rw [hp.1, hp.2] at a1
    have hzt : zaty kd = .object (zAn kd) := by rcases a2 with rfl | rfl <;> rfl
    have hover : (Cond.arrayOver (.object (zAn kd))).before args s = true := by
      rcases a2 with rfl | rfl
      · exact va_AO.use hEv.2.2.2.2.2.2.2.1
      · exact va_AO.use hEv.2.2.2.2.2.2.2.2.1
    obtain ⟨hAr, hRA⟩ := hEv.1.2 _ _ (zty_at E (kd := kd) (by omega) (by omega))
    rw [hzt] at hRA
    obtain ⟨kA0, comp0, k1, k2, k3, k4⟩ := hRA
    refine W.anew hx hb hown (hts _ (zTG_in a1 rfl)) hover rfl hd rfl hx0 (by omega) (by rw [hRc]; exact h1) (by rw [hRs]; exact h2) fun cA kA comp f1 f2 f3 f4 => ?_
    cases k4.symm.trans f1
    generalize hH1 : H.push ({ cls := E.2.2.2.2.2.2 kd, slots := Array.replicate x.toNatClampNeg .null, vm := .none } : Cell) = H1
    have z1 : H1.size = H.size + 1 := by rw [← hH1, Array.size_push]
    have e1 : H1[H.size]? = some (arrV (E.2.2.2.2.2.2 kd) x.toNatClampNeg (fun _ => .null)) := by rw [← hH1, Array.getElem?_push_size, ← arrV_new]
    have o1 : ∀ q : Nat, q < H.size → H1[q]? = H[q]? := fun q hq => by rw [← hH1, Array.getElem?_push, if_neg (Nat.ne_of_lt hq)]
    have hadr : zad E σ.1 = H.size := by rw [zad_lt (by omega), hP.2.1]
    rw [hadr] at kk
    refine kk H1 _ (hP.new (by omega) z1 o1 (Or.inr ?_)) ⟨Nat.le_trans hS.1 (by omega), fun x g1 g2 => (o1 x (Nat.lt_of_lt_of_le g1 hS.1)).trans (hS.2.1 x g1 g2), hS.2.2⟩
    have hsh : (zsh σ kd x.toNatClampNeg).2 σ.1 = (kd, x.toNatClampNeg) := if_pos rfl
    rw [hsh]
    refine ⟨by show 20 ≤ kd; omega, by show kd ≤ 25; omega, ?_⟩
    rw [← hP.2.1, e1]
    congr 2
    funext j
    have g1 : zfr ρ σ.1 none σ.1 j = none := if_pos rfl
    unfold zav
    rw [g1]
    rcases a2 with rfl | rfl <;> rfl
end ZG
