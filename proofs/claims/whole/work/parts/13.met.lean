/-! A CALL OF THE SMALL MACHINE IS A CONTRACT OF THE MACHINE -/
theorem zla_in {E : zE} (hE : E.2.2.2.2.1.category = 1) : ∀ (as : List Value) (i0 j : Nat) (w : Value), (zla as)[j]? = some (some w) → (i0 + j, zco E w) ∈ lv_args i0 (as.map (zco E))
  | [], i0, j, w, h => by simp [zla] at h
  | v :: vs, i0, j, w, h => by
    show (i0 + j, zco E w) ∈ (i0, zco E v) :: lv_args (if (zco E v).category = 2 then i0 + 2 else i0 + 1) (vs.map (zco E))
    rw [zco_cat hE]
    unfold zla at h
    by_cases hc : v.category = 2
    · rw [if_pos hc] at h ⊢
      match j, h with
      | 0, h => simp at h; subst h; exact List.mem_cons_self
      | 1, h => simp at h
      | j + 2, h =>
        have := zla_in hE vs (i0 + 2) j w (by simpa using h)
        rw [show i0 + 2 + j = i0 + (j + 2) by omega] at this
        exact List.mem_cons_of_mem _ this
    · rw [if_neg hc] at h ⊢
      match j, h with
      | 0, h => simp at h; subst h; exact List.mem_cons_self
      | j + 1, h =>
        have := zla_in hE vs (i0 + 1) j w (by simpa using h)
        rw [show i0 + 1 + j = i0 + (j + 1) by omega] at this
        exact List.mem_cons_of_mem _ this
theorem zla_len {E : zE} (hE : E.2.2.2.2.1.category = 1) : ∀ as : List Value, (lg_sl (as.map (zco E))).length = (zla as).length
  | [] => rfl
  | v :: vs => by
    have ih := zla_len hE vs
    have e1 : zla (v :: vs) = if v.category = 2 then some v :: none :: zla vs else some v :: zla vs := rfl
    unfold lg_sl at ih ⊢
    rw [List.map_cons, List.flatMap_cons, List.length_append, ih, e1, zco_cat hE]
    by_cases hc : v.category = 2
    · rw [if_pos hc, if_pos hc]; simp; omega
    · rw [if_neg hc, if_neg hc]; simp; omega
theorem zen_get {n : Nat} {as : List Value} {i : Nat} {w : Value} (h : (zen n as)[i]? = some (some w)) : (zla as)[i]? = some (some w) := by
  unfold zen at h
  by_cases hi : i < (zla as).length
  · rw [List.getElem?_append_left hi] at h; exact h
  · rw [List.getElem?_append_right (by omega)] at h
    have := List.eq_of_mem_replicate (List.mem_of_getElem? h)
    cases this
theorem zLs.entry {E : zE} (hE : E.2.2.2.2.1.category = 1) {as : List Value} {n : Nat} (h : (zla as).length ≤ n) {lsr : Array Slot} (hl : lv_has lsr n (lv_args 0 (as.map (zco E)))) : zLs E n lsr (zen n as) := by
  refine ⟨hl.1, hl.2.1, ?_, fun i w hw => ?_⟩
  · unfold zen
    rw [List.length_append, List.length_replicate]
    omega
  · have := zla_in hE as 0 i w (zen_get hw)
    rw [Nat.zero_add] at this
    exact hl.2.2 _ this
set_option maxHeartbeats 4000000 in
theorem zsound (l : Launch) (E : zE) : ∀ d, zIH l E d
  | 0 => fun _ _ _ _ _ _ _ _ _ h => h.elim
  | d + 1 => by
    intro mi cm hcm as σ ρ I L Q' h
    obtain ⟨hlen, hR⟩ := h
    obtain ⟨hcode, hini, hpl, hcls, hmh, hnl⟩ := zM_row hcm
    refine Met.ofW (cc := cm.2.1) (maxL := cm.2.2.1) (ret := cm.2.2.2.1) hpl rfl ?_
    intro p e s m args below meth c s₁ B hml hv
    obtain ⟨rfl, hP, hEv⟩ := hv
    have hx := B.exec
    have hb := B.bytes
    have hr := B.returns
    have hts0 := atoms_spec (ws := zws cm) B.pre
    have hts : ∀ w ∈ zTG, w.before (as.map (zco E)).toArray s = true := fun w hw => hts0 w (List.mem_cons_of_mem _ hw)
    have hown : s.vm.findClass (zR0 cm.2.2.2.2.1) = some m.cls := by rw [← hcls]; exact findClass_of_methodNamed B.named
    have hlocks := B.notSynchronized
    have hin : meth.name = cm.1.name := (name_of_methodNamed B.named B.method).1
    have hE := hEv.2.2.2.2.2.1
    have C : zCx p (headSpec (zws cm) (zrm (d + 1) cm)).room s m (as.map (zco E)).toArray meth c E cm d := ⟨hx, hb, hml, hown, hts, fun q => hin.trans q, hEv, Nat.le_refl _, Nat.le_refl _, rfl, rfl⟩
    have hend : zEnd p l e (headSpec (zws cm) (zrm (d + 1) cm)).room s m (as.map (zco E)).toArray below meth c E cm Q' (MQ below (zQc E Q') (as.map (zco E)).toArray s cm.2.2.2.2.2.1 cm.2.2.2.2.2.2 (zAd E)) := by
      intro o σ ρ I L u v pc H locs lsr hu hv hQ hP hS hcase
      refine W.widen hu hv ?_
      rcases hcase with ⟨x, ty, rfl, hty, hn, hd⟩ | ⟨x, rfl, hty, hd⟩ | ⟨rfl, hty, hd⟩
      · exact W.zret hx hb (hr.trans hty) hn (fun t ht _ => ⟨⟨_, σ, ρ, I, L, rfl, hQ, by rw [ht]; exact hP⟩, hS.F ht⟩) hS.2.2 hd hlocks
      · exact W.lret hx hb (hr.trans hty) (fun t ht _ => ⟨⟨_, σ, ρ, I, L, rfl, hQ, by rw [ht]; exact hP⟩, hS.F ht⟩) hS.2.2 hd hlocks
      · exact W.vret hx hb (hr.trans hty) (fun t ht _ => ⟨⟨_, σ, ρ, I, L, rfl, hQ, by rw [ht]; exact hP⟩, hS.F ht⟩) hS.2.2 hd hlocks
    have key := hR _ (zstep (scr := none) C (zsound l E d) trivial hend)
    have hl := lv_entry (as.map (zco E)) (n := cm.2.2.1) (by rw [zla_len hE]; exact hlen)
    rw [lg_entry_eq]
    generalize (lg_sl (as.map (zco E)) ++ List.replicate (cm.2.2.1 - (lg_sl (as.map (zco E))).length) Slot.unset).toArray = lsr at hl ⊢
    exact key s.heap [] lsr (zLs.entry hE hlen hl) hP va_S.rf
