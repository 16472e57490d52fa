/-! CALLS -/
theorem zsum_co {E : zE} (hE : E.2.2.2.2.1.category = 1) (r : List Value) : ((r.map (zco E)).map fun v => v.category).sum = zsum r := by
  unfold zsum
  rw [List.map_map]
  congr 2
  funext v
  exact zco_cat hE v
theorem zV_row {j i k : Nat} {ts : List (Nat × Nat × Nat × List Nat)} (h : zV j i = some (k, ts)) : ∃ mi0 : Nat, ∀ t ∈ ts, ∃ cm m0 : zM, zMs[t.2.1]? = some cm ∧ zMs[mi0]? = some m0 ∧ (parseMethodDescriptor cm.1.desc).map (fun d => d.parameters.length) = some k ∧ cm.1.cls = zR0 t.1 ∧
    ((∀ w ∈ zw0 (zR0 j) i (zR0 t.1) cm.1, w ∈ zTG) ∨ (cm.1.desc = m0.1.desc ∧ ∀ w ∈ zw1 (zR0 j) i (zR0 t.1) m0.1 cm.1, w ∈ zTG)) := by
  unfold zV at h
  cases hf : zVt.find? (fun e => e.1.1 == j && e.1.2 == i) with
  | none => rw [hf] at h; cases h
  | some e =>
    rw [hf] at h
    have h2 : (e.2.1, e.2.2.2) = (k, ts) := Option.some.inj h
    have hk : e.2.1 = k := congrArg Prod.fst h2
    have hts : e.2.2.2 = ts := congrArg Prod.snd h2
    have hp := List.find?_some hf
    simp only [Bool.and_eq_true, beq_iff_eq] at hp
    have hc := List.all_eq_true.mp zVt_ok e (List.mem_of_find?_eq_some hf)
    unfold zVc at hc
    rw [hts, hk, hp.1, hp.2] at hc
    refine ⟨e.2.2.1, fun t ht => ?_⟩
    have hc := List.all_eq_true.mp hc t ht
    split at hc
    · rename_i cm m0 e1 e2
      simp only [Bool.and_eq_true, decide_eq_true_eq] at hc
      obtain ⟨⟨a1, a2⟩, a3⟩ := hc
      refine ⟨cm, m0, e1, e2, a1, a2, ?_⟩
      split at a3
      · exact Or.inl (zal_in a3)
      · simp only [Bool.and_eq_true, decide_eq_true_eq] at a3
        exact Or.inr ⟨a3.1.2.2, zal_in a3.2⟩
    · cases hc
theorem zS_row {j i k mi : Nat} (h : zS j i = some (k, mi)) {cm : zM} (hcm : zMs[mi]? = some cm) : (parseMethodDescriptor cm.1.desc).map (fun d => d.parameters.length) = some k ∧ ∀ w ∈ ([.methodLink (zR0 j) i cm.1, .static cm.1, .initialized cm.1.cls] : List Cond), w ∈ zTG := by
  unfold zS at h
  cases hf : zSt.find? (fun e => e.1.1 == j && e.1.2 == i) with
  | none => rw [hf] at h; cases h
  | some e =>
    rw [hf] at h
    have h2 : (e.2.1, e.2.2.1) = (k, mi) := Option.some.inj h
    have hk : e.2.1 = k := congrArg Prod.fst h2
    have hmi : e.2.2.1 = mi := congrArg Prod.snd h2
    have hp := List.find?_some hf
    simp only [Bool.and_eq_true, beq_iff_eq] at hp
    have hc := List.all_eq_true.mp zSt_ok e (List.mem_of_find?_eq_some hf)
    unfold zSc0 at hc
    rw [hk, hmi, hp.1, hp.2, hcm] at hc
    simp only [Bool.and_eq_true, decide_eq_true_eq] at hc
    exact ⟨hc.1, zal_in hc.2⟩
theorem zI_row {j i k mi md : Nat} (h : zI j i = some (k, mi, md)) {cm : zM} (hcm : zMs[mi]? = some cm) : (parseMethodDescriptor cm.1.desc).map (fun d => d.parameters.length) = some k ∧
    ((cm.1.name = "<init>" ∧ cm.2.2.2.1 = none ∧ ∀ w ∈ ([.initialized cm.1.cls, .methodLink (zR0 j) i cm.1, .instanceMethod cm.1] : List Cond), w ∈ zTG) ∨
     (cm.1.name ≠ "<init>" ∧ ∀ w ∈ ([.methodLink (zR0 j) i cm.1, .sameMethod cm.1.cls cm.1.cls cm.1.name cm.1.desc, .superclass (zR0 j) cm.1.cls, .instanceMethod cm.1, .initialized cm.1.cls] : List Cond), w ∈ zTG) ∨
     (cm.1.name = "<init>" ∧ cm.2.2.2.1 = none ∧ Cond.methodLinkNest (zR0 j) i cm.1 RX10 ∈ lw_tbl ∧ ∀ w ∈ ([.initialized cm.1.cls, .instanceMethod cm.1] : List Cond), w ∈ zTG)) := by
  unfold zI at h
  cases hf : zIt.find? (fun e => e.1.1 == j && e.1.2 == i) with
  | none => rw [hf] at h; cases h
  | some e =>
    rw [hf] at h
    have h2 : (e.2.1, e.2.2.1, e.2.2.2.1) = (k, mi, md) := Option.some.inj h
    have hk : e.2.1 = k := congrArg (fun x => x.1) h2
    have hmi : e.2.2.1 = mi := congrArg (fun x => x.2.1) h2
    have hp := List.find?_some hf
    simp only [Bool.and_eq_true, beq_iff_eq] at hp
    have hc := List.all_eq_true.mp zIt_ok e (List.mem_of_find?_eq_some hf)
    unfold zIc at hc
    rw [hk, hmi, hp.1, hp.2, hcm] at hc
    simp only [Bool.and_eq_true, decide_eq_true_eq] at hc
    refine ⟨hc.1, ?_⟩
    have hc := hc.2
    split at hc
    · simp only [Bool.and_eq_true, decide_eq_true_eq] at hc
      exact Or.inl ⟨hc.1.1, hc.1.2, zal_in hc.2⟩
    · simp only [Bool.and_eq_true, decide_eq_true_eq] at hc
      exact Or.inr (Or.inl ⟨hc.1, zal_in hc.2⟩)
    · simp only [Bool.and_eq_true, decide_eq_true_eq] at hc
      obtain ⟨⟨b1, b2⟩, hc⟩ := hc
      split at hc
      · simp only [Bool.and_eq_true, decide_eq_true_eq] at hc
        exact Or.inr (Or.inr ⟨b1, b2, List.mem_of_getElem? hc.1, zal_in hc.2⟩)
      · cases hc
theorem zO_row {j i : Nat} (h : zO j i = true) : Cond.methodLink (zR0 j) i objectInit ∈ zTG := by
  unfold zO at h
  obtain ⟨e, he, hp⟩ := List.any_eq_true.mp h
  simp only [Bool.and_eq_true, beq_iff_eq] at hp
  have hc := of_decide_eq_true (List.all_eq_true.mp zOt_ok e he)
  rw [hp.1, hp.2] at hc
  exact zTG_in hc rfl
section ZJ
variable {p : Program} {l : Launch} {e : Env} {R : Room} {s : State} {m : MethodId} {args : Array Value} {below : List Frame} {meth : Method} {c : Code} {H : Heap} {locs : List Loc} {cells slots : Nat} {Qe : State → Prop}
variable {E : zE} {mm : zM} {d : Nat} {σ : zSh} {ρ : zRf} {I : zIm} {L : zLm} {pc : Nat} {lsr : Array Slot} {rest : List Value}
theorem zr_fin {Q' : zPo} {mc ms : Nat} {st0 : List Value} {a : Array Value} (hr : va_Run p l e R s m args below meth c H locs cells slots mc ms (F0 m pc lsr st0) rest (zQc E Q' a) (zAd E)) (hS : va_S (zAd E) s.heap H locs)
    (kk : ∀ (o : Option Value) (σ' : zSh) (ρ' : zRf) (I' : zIm) (L' : zLm) (H1 : Heap) (locs1 : List Loc), Q' o σ' ρ' I' L' → zP E σ' ρ' I' L' H1 → va_S (zAd E) s.heap H1 locs1 → W p l e R s m args below meth c H1 locs1 (cells + mc) (slots + ms) Qe (F0 m (pc + 3) lsr ((o.map (zco E)).toList ++ rest))) : W p l e R s m args below meth c H locs cells slots Qe (F0 m pc lsr st0) := by
  intro T hT X
  obtain ⟨v, st₀, t, T', L0, h0, X', hL, e1, e2, ⟨⟨o, σ', ρ', I', L', hv, hq, hp⟩, hz, hk⟩, st⟩ := hr T hT X
  cases hv
  rw [h0] at hz hk
  obtain ⟨t2, a1, b1⟩ := kk o σ' ρ' I' L' T'.heap (locs ++ L0) hq (by rw [e1]; exact hp)
    ⟨Nat.le_trans hS.1 (by rw [e1]; exact hz), fun q h1 h2 => by rw [e1, hk q (Nat.lt_of_lt_of_le h1 hS.1) h2]; exact hS.2.1 q h1 h2, fun q hq => by
      rcases List.mem_append.mp hq with h | h
      · exact hS.2.2 q h
      · exact hL q h⟩ T' rfl X'
  exact ⟨t2, st t2 a1, b1⟩
theorem zCx.room (C : zCx p R s m args meth c E mm d) {cm : zM} (h : cm.2.2.1 ≤ 21) : (zrm d cm).frames + 1 ≤ R.frames ∧ 8 + (cm.2.2.1 + 11) + (zrm d cm).locals ≤ R.locals := by
  obtain ⟨-, -, -, -, -, -, -, h1, h2, -⟩ := C
  refine ⟨h1, ?_⟩
  show 8 + (cm.2.2.1 + 11) + 40 * (d + 2) ≤ R.locals
  omega
theorem zr_iv (C : zCx p R s m args meth c E mm d) (hP : zP E σ ρ I L H) (hS : va_S (zAd E) s.heap H locs) (hls : lsr.size = mm.2.2.1) {i k a kd : Nat} {ts : List (Nat × Nat × Nat × List Nat)} {t : Nat × Nat × Nat × List Nat} {cm : zM} {as r : List Value} {Q' : zPo} (hV : zV mm.2.2.2.2.1 i = some (k, ts)) (ht : ts.find? (fun t => t.1 == kd) = some t)
    (hrc : ∃ cell : Cell, H[zad E a]? = some cell ∧ cell.vm.isStatics = false ∧ s.vm.findClass (zR0 kd) = some cell.cls) (hcm : zMs[t.2.1]? = some cm) (hk : as.length = k) (hr : zsum r ≤ 8) (hu : cells + cm.2.2.2.2.2.1 ≤ mm.2.2.2.2.2.1) (hv : slots + cm.2.2.2.2.2.2 ≤ mm.2.2.2.2.2.2)
    (hM : Met l cm.1 (zws cm) (zrm d cm) (zPc E (.ref a :: as) σ ρ I L) (zQc E Q') cm.2.2.2.2.2.1 cm.2.2.2.2.2.2 (zAd E)) (hd : decode mm.2.1 pc = .ok (.invokevirtual i, 3))
    (kk : ∀ (o : Option Value) (σ' : zSh) (ρ' : zRf) (I' : zIm) (L' : zLm) (H1 : Heap) (locs1 : List Loc), Q' o σ' ρ' I' L' → zP E σ' ρ' I' L' H1 → va_S (zAd E) s.heap H1 locs1 → W p l e R s m args below meth c H1 locs1 (cells + cm.2.2.2.2.2.1) (slots + cm.2.2.2.2.2.2) Qe (F0 m (pc + 3) lsr ((o.map (zco E)).toList ++ r.map (zco E)))) :
    W p l e R s m args below meth c H locs cells slots Qe (F0 m pc lsr ((as.map (zco E)).reverse ++ .ref (zad E a) :: r.map (zco E))) := by
  obtain ⟨hcode, hini, -, hcls, hmh, hnl⟩ := zM_row hcm
  have hR := C.room hnl
  obtain ⟨hx, hb, hml, hown, hts, -, hEv, -, -, hRc, hRs⟩ := C
  have htm := List.mem_of_find?_eq_some ht
  have htk : t.1 = kd := by have := List.find?_some ht; simpa using this
  obtain ⟨mi0, hrow⟩ := zV_row hV
  obtain ⟨cm', m0, hcm', hm0, hdesc, hcls', hw⟩ := hrow t htm
  cases hcm.symm.trans hcm'
  rw [htk] at hcls' hw
  have hpre : PreV s H (zR0 kd) (zad E a) (zPc E (.ref a :: as) σ ρ I L) (as.map (zco E)) := ⟨zPc_blind _ _ _ _ _ _, hrc, fun U hU hW => ⟨rfl, by rw [hU]; exact hP, hEv.warm hW hS hU⟩⟩
  have hW : 2 * (F0 m pc lsr ((as.map (zco E)).reverse ++ .ref (zad E a) :: r.map (zco E))).monitorRoom + ((r.map (zco E)).map fun v => v.category).sum ≤ 8 := by
    rw [zsum_co hEv.2.2.2.2.2.1]
    show 2 * 0 + _ ≤ 8
    omega
  rcases hw with hw | ⟨hdsc, hw⟩
  · exact zr_fin (va_runV (As := as.map (zco E)) (rest := r.map (zco E)) ⟨hx, hb, hml, hown, hts⟩ hM (cwV k hts (zgood_app hcode hw) rfl rfl rfl ⟨hcls', hmh.1, hmh.2, hdesc⟩ hR) hpre rfl (by rw [List.length_map]; exact hk) hls rfl hW hd ⟨by rw [hRc]; exact hu, by rw [hRs]; exact hv⟩) hS kk
  · obtain ⟨hcode0, -, -, -, hmh0, -⟩ := zM_row hm0
    exact zr_fin (va_runU (As := as.map (zco E)) (rest := r.map (zco E)) ⟨hx, hb, hml, hown, hts⟩ hM (va_cwO (owner := m0.1.cls) (x := m0.1) k hts (zgood_app hcode hw) rfl rfl rfl hcode0 ⟨hmh0.1, hmh0.2, by rw [← hdsc]; exact hdesc⟩ hR) hpre rfl (by rw [List.length_map]; exact hk) hls rfl hW hd ⟨by rw [hRc]; exact hu, by rw [hRs]; exact hv⟩) hS kk
theorem zr_is (C : zCx p R s m args meth c E mm d) (hP : zP E σ ρ I L H) (hS : va_S (zAd E) s.heap H locs) (hls : lsr.size = mm.2.2.1) {i k mi : Nat} {cm : zM} {as r : List Value} {Q' : zPo} (hV : zS mm.2.2.2.2.1 i = some (k, mi)) (hcm : zMs[mi]? = some cm) (hk : as.length = k) (hr : zsum r ≤ 8) (hu : cells + cm.2.2.2.2.2.1 ≤ mm.2.2.2.2.2.1) (hv : slots + cm.2.2.2.2.2.2 ≤ mm.2.2.2.2.2.2)
    (hM : Met l cm.1 (zws cm) (zrm d cm) (zPc E as σ ρ I L) (zQc E Q') cm.2.2.2.2.2.1 cm.2.2.2.2.2.2 (zAd E)) (hd : decode mm.2.1 pc = .ok (.invokestatic i, 3))
    (kk : ∀ (o : Option Value) (σ' : zSh) (ρ' : zRf) (I' : zIm) (L' : zLm) (H1 : Heap) (locs1 : List Loc), Q' o σ' ρ' I' L' → zP E σ' ρ' I' L' H1 → va_S (zAd E) s.heap H1 locs1 → W p l e R s m args below meth c H1 locs1 (cells + cm.2.2.2.2.2.1) (slots + cm.2.2.2.2.2.2) Qe (F0 m (pc + 3) lsr ((o.map (zco E)).toList ++ r.map (zco E)))) :
    W p l e R s m args below meth c H locs cells slots Qe (F0 m pc lsr ((as.map (zco E)).reverse ++ r.map (zco E))) := by
  obtain ⟨hcode, hini, -, hcls, hmh, hnl⟩ := zM_row hcm
  have hR := C.room hnl
  obtain ⟨hx, hb, hml, hown, hts, -, hEv, -, -, hRc, hRs⟩ := C
  obtain ⟨hdesc, hw⟩ := zS_row hV hcm
  have hpre : PreS s H (zPc E as σ ρ I L) (as.map (zco E)) := ⟨zPc_blind _ _ _ _ _ _, fun U hU hW => ⟨rfl, by rw [hU]; exact hP, hEv.warm hW hS hU⟩⟩
  have hW : 2 * (F0 m pc lsr ((as.map (zco E)).reverse ++ r.map (zco E))).monitorRoom + ((r.map (zco E)).map fun v => v.category).sum ≤ 8 := by
    rw [zsum_co hEv.2.2.2.2.2.1]
    show 2 * 0 + _ ≤ 8
    omega
  exact zr_fin (va_runS (As := as.map (zco E)) (rest := r.map (zco E)) ⟨hx, hb, hml, hown, hts⟩ hM (va_cwS k hts (zgood_app hcode hw) rfl rfl rfl ⟨hmh.1, hmh.2, hdesc⟩ hR) hpre rfl (by rw [List.length_map]; exact hk) hls rfl hW hd ⟨by rw [hRc]; exact hu, by rw [hRs]; exact hv⟩) hS kk
theorem zr_ii (C : zCx p R s m args meth c E mm d) (hP : zP E σ ρ I L H) (hS : va_S (zAd E) s.heap H locs) (hls : lsr.size = mm.2.2.1) {i k mi md a : Nat} {cm : zM} {as r : List Value} {Q' : zPo} (hV : zI mm.2.2.2.2.1 i = some (k, mi, md)) (ha : a < σ.1) (hak : (σ.2 a).1 < 12) (hcm : zMs[mi]? = some cm) (hk : as.length = k) (hr : zsum r ≤ 8) (hu : cells + cm.2.2.2.2.2.1 ≤ mm.2.2.2.2.2.1) (hv : slots + cm.2.2.2.2.2.2 ≤ mm.2.2.2.2.2.2)
    (hM : Met l cm.1 (zws cm) (zrm d cm) (zPc E (.ref a :: as) σ ρ I L) (zQc E Q') cm.2.2.2.2.2.1 cm.2.2.2.2.2.2 (zAd E)) (hd : decode mm.2.1 pc = .ok (.invokespecial i, 3))
    (kk : ∀ (o : Option Value) (σ' : zSh) (ρ' : zRf) (I' : zIm) (L' : zLm) (H1 : Heap) (locs1 : List Loc), Q' o σ' ρ' I' L' → zP E σ' ρ' I' L' H1 → va_S (zAd E) s.heap H1 locs1 → W p l e R s m args below meth c H1 locs1 (cells + cm.2.2.2.2.2.1) (slots + cm.2.2.2.2.2.2) Qe (F0 m (pc + 3) lsr ((o.map (zco E)).toList ++ r.map (zco E)))) :
    W p l e R s m args below meth c H locs cells slots Qe (F0 m pc lsr ((as.map (zco E)).reverse ++ .ref (zad E a) :: r.map (zco E))) := by
  obtain ⟨hcode, hini, -, hcls, hmh, hnl⟩ := zM_row hcm
  have hR := C.room hnl
  obtain ⟨hx, hb, hml, hown, hts, -, hEv, -, -, hRc, hRs⟩ := C
  obtain ⟨hdesc, hw⟩ := zI_row hV hcm
  have hpre : PreS s H (zPc E (.ref a :: as) σ ρ I L) (.ref (zad E a) :: as.map (zco E)) := ⟨zPc_blind _ _ _ _ _ _, fun U hU hW => ⟨rfl, by rw [hU]; exact hP, hEv.warm hW hS hU⟩⟩
  have hW : 2 * (F0 m pc lsr ((as.map (zco E)).reverse ++ .ref (zad E a) :: r.map (zco E))).monitorRoom + ((r.map (zco E)).map fun v => v.category).sum ≤ 8 := by
    rw [zsum_co hEv.2.2.2.2.2.1]
    show 2 * 0 + _ ≤ 8
    omega
  have hf : cells + cm.2.2.2.2.2.1 ≤ R.cells ∧ slots + cm.2.2.2.2.2.2 ≤ R.slots := ⟨by rw [hRc]; exact hu, by rw [hRs]; exact hv⟩
  rcases hw with ⟨w1, w2, w3⟩ | ⟨w1, w3⟩ | ⟨w1, w2, w4, w3⟩
  · have hzws : zws cm = Cond.code cm.1 cm.2.1 cm.2.2.1 none :: zTG := by unfold zws; rw [w2]
    exact zr_fin (va_runI (As := as.map (zco E)) (rest := r.map (zco E)) (bytes := cm.2.1) (maxL := cm.2.2.1) ⟨hx, hb, hml, hown, hts⟩ hM (cwI k hts (zws_good hcode) hzws rfl rfl (hts _ (w3 _ (by simp))) (hts _ (w3 _ (by simp))) (hts _ (w3 _ (by simp))) w1 ⟨hmh.1, hmh.2, hdesc⟩ hR) hpre rfl (by rw [List.length_map]; exact hk) hls rfl hW hd hf) hS kk
  · rcases hP.2.2 a ha with ⟨h12, cell, g1, g2, g3, g4⟩ | ⟨h20, -⟩
    · obtain ⟨r0, hr0, hr1, -⟩ := zcl_row h12
      obtain ⟨-, hat⟩ := hEv.1.1 _ r0 hr0
      have hpre2 : PreV s H r0.1 (zad E a) (zPc E (.ref a :: as) σ ρ I L) (as.map (zco E)) := ⟨hpre.1, ⟨cell, by rw [hP.adr ha]; exact g1, by rw [g3]; rfl, by rw [g2]; exact hat.1⟩, hpre.2⟩
      exact zr_fin (va_runSU (As := as.map (zco E)) (rest := r.map (zco E)) hat ⟨hx, hb, hml, hown, hts⟩ hM (va_cwSU k hts (zgood_app hcode w3) rfl rfl rfl ⟨w1, hdesc⟩ hR) hpre2 rfl (by rw [List.length_map]; exact hk) hls rfl hW hd hf) hS kk
    · omega
  · have hzws : zws cm = Cond.code cm.1 cm.2.1 cm.2.2.1 none :: zTG := by unfold zws; rw [w2]
    exact zr_fin (va_runIN (As := as.map (zco E)) (rest := r.map (zco E)) (bytes := cm.2.1) (maxL := cm.2.2.1) ⟨hx, hb, hml, hown, hts⟩ hM ⟨va_cnB k hts (zws_good hcode) hzws rfl rfl (hEv.2.2.2.2.2.2.1 _ _ _ w4) (hts _ (w3 _ (by simp))) ⟨hmh.1, hmh.2, hdesc⟩ hR, w1, hts _ (w3 _ (by simp))⟩ hpre rfl (by rw [List.length_map]; exact hk) hls rfl hW hd hf) hS kk
end ZJ
