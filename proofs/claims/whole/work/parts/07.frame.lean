/-! A FRAME: what it stands on, its locals, and the rows of its cells -/
def zCx (p : Program) (R : Room) (s : State) (m : MethodId) (args : Array Value) (meth : Method) (c : Code) (E : zE) (mm : zM) (d : Nat) : Prop :=
  p.tables.exec = Jvm.exec ∧ c.code = mm.2.1 ∧ c.maxLocals = mm.2.2.1 ∧ s.vm.findClass (zR0 mm.2.2.2.2.1) = some m.cls ∧ (∀ w ∈ zTG, w.before args s = true) ∧ (mm.1.name = "<init>" → meth.name = "<init>") ∧ zEv E s s.heap ∧ d + 3 ≤ R.frames ∧ 40 * (d + 3) ≤ R.locals ∧ R.cells = mm.2.2.2.2.2.1 ∧ R.slots = mm.2.2.2.2.2.2
def zLs (E : zE) (nL : Nat) (lsr : Array Slot) (ls : zLo) : Prop := lsr.size = nL ∧ lv_wf lsr ∧ ls.length = nL ∧ ∀ (i : Nat) (w : Value), ls[i]? = some (some w) → lsr[i]? = some (Slot.val (zco E w))
theorem zco_cat {E : zE} (hE : E.2.2.2.2.1.category = 1) (w : Value) : (zco E w).category = w.category := by
  cases w <;> first | rfl | exact hE
def zll (E : zE) (ls : zLo) : List (Nat × Value) := (List.range ls.length).filterMap (fun i => (zlg ls i).map (fun w => (i, zco E w)))
theorem zll_in {E : zE} {ls : zLo} {q : Nat × Value} : q ∈ zll E ls ↔ ∃ w, ls[q.1]? = some (some w) ∧ q.2 = zco E w := by
  unfold zll zlg
  rw [List.mem_filterMap]
  constructor
  · rintro ⟨i, -, h⟩
    cases hx : ls[i]? with
    | none => rw [hx] at h; cases h
    | some o =>
      rw [hx] at h
      cases o with
      | none => cases h
      | some w =>
        have h2 : (i, zco E w) = q := Option.some.inj h
        subst h2
        exact ⟨w, hx, rfl⟩
  · rintro ⟨w, h1, h2⟩
    have hl : q.1 < ls.length := (List.getElem?_eq_some_iff.mp h1).1
    refine ⟨q.1, List.mem_range.mpr hl, ?_⟩
    rw [h1]
    show some (q.1, zco E w) = some q
    rw [← h2]
theorem zLs.has {E nL lsr ls} (h : zLs E nL lsr ls) : lv_has lsr nL (zll E ls) := ⟨h.1, h.2.1, fun q hq => by
  obtain ⟨w, h1, h2⟩ := zll_in.mp hq
  rw [h2]
  exact h.2.2.2 _ _ h1⟩
theorem zs1_len : ∀ (ls : zLo) (i : Nat) (v : Value), (zs1 ls i v).length = ls.length
  | [], _, _ => rfl
  | _ :: _, 0, _ => rfl
  | _ :: r, 1, v => congrArg (· + 1) (zs1_len r 0 v)
  | _ :: r, i + 2, v => congrArg (· + 1) (zs1_len r (i + 1) v)
theorem zs2_len : ∀ (ls : zLo) (i : Nat) (v : Value), (zs2 ls i v).length = ls.length
  | [], _, _ => rfl
  | [_], 0, _ => rfl
  | _ :: _ :: _, 0, _ => rfl
  | _ :: r, 1, v => congrArg (· + 1) (zs2_len r 0 v)
  | _ :: r, i + 2, v => congrArg (· + 1) (zs2_len r (i + 1) v)
theorem zk_some {o : Option Value} {w : Value} (h : zk o = some w) : o = some w ∧ w.category ≠ 2 := by
  unfold zk at h
  split at h
  · cases h
  · cases h
  · refine ⟨h, ?_⟩
    subst h
    cases w <;> simp_all [Value.category]
theorem zs1_get : ∀ (ls : zLo) (i : Nat) (v : Value) (j : Nat) (w : Value), (zs1 ls i v)[j]? = some (some w) → (j = i ∧ w = v) ∨ (j ≠ i ∧ ls[j]? = some (some w) ∧ (j + 1 = i → w.category ≠ 2))
  | [], i, v, j, w, h => by simp [zs1] at h
  | o :: r, 0, v, j, w, h => by
    cases j with
    | zero => simp [zs1] at h; exact Or.inl ⟨rfl, h.symm⟩
    | succ j => exact Or.inr ⟨by omega, by simpa [zs1] using h, by omega⟩
  | o :: r, 1, v, j, w, h => by
    cases j with
    | zero =>
      simp [zs1] at h
      obtain ⟨h1, h2⟩ := zk_some h
      exact Or.inr ⟨by omega, by simp [h1], fun _ => h2⟩
    | succ j =>
      rcases zs1_get r 0 v j w (by simpa [zs1] using h) with ⟨h1, h2⟩ | ⟨h1, h2, h3⟩
      · exact Or.inl ⟨by omega, h2⟩
      · exact Or.inr ⟨by omega, by simpa using h2, by omega⟩
  | o :: r, i + 2, v, j, w, h => by
    cases j with
    | zero =>
      simp [zs1] at h
      exact Or.inr ⟨by omega, by simp [h], by omega⟩
    | succ j =>
      rcases zs1_get r (i + 1) v j w (by simpa [zs1] using h) with ⟨h1, h2⟩ | ⟨h1, h2, h3⟩
      · exact Or.inl ⟨by omega, h2⟩
      · exact Or.inr ⟨by omega, by simpa using h2, fun q => h3 (by omega)⟩
theorem zs2_get : ∀ (ls : zLo) (i : Nat) (v : Value) (j : Nat) (w : Value), (zs2 ls i v)[j]? = some (some w) → (j = i ∧ w = v) ∨ (j ≠ i ∧ j ≠ i + 1 ∧ ls[j]? = some (some w) ∧ (j + 1 = i → w.category ≠ 2))
  | [], i, v, j, w, h => by simp [zs2] at h
  | [o], 0, v, j, w, h => by
    cases j with
    | zero => simp [zs2] at h; exact Or.inl ⟨rfl, h.symm⟩
    | succ j => simp [zs2] at h
  | o :: o2 :: r, 0, v, j, w, h => by
    cases j with
    | zero => simp [zs2] at h; exact Or.inl ⟨rfl, h.symm⟩
    | succ j =>
      cases j with
      | zero => simp [zs2] at h
      | succ j => exact Or.inr ⟨by omega, by omega, by simpa [zs2] using h, by omega⟩
  | o :: r, 1, v, j, w, h => by
    cases j with
    | zero =>
      simp [zs2] at h
      obtain ⟨h1, h2⟩ := zk_some h
      exact Or.inr ⟨by omega, by omega, by simp [h1], fun _ => h2⟩
    | succ j =>
      rcases zs2_get r 0 v j w (by simpa [zs2] using h) with ⟨h1, h2⟩ | ⟨h1, h2, h3, h4⟩
      · exact Or.inl ⟨by omega, h2⟩
      · exact Or.inr ⟨by omega, by omega, by simpa using h3, by omega⟩
  | o :: r, i + 2, v, j, w, h => by
    cases j with
    | zero =>
      simp [zs2] at h
      exact Or.inr ⟨by omega, by omega, by simp [h], by omega⟩
    | succ j =>
      rcases zs2_get r (i + 1) v j w (by simpa [zs2] using h) with ⟨h1, h2⟩ | ⟨h1, h2, h3, h4⟩
      · exact Or.inl ⟨by omega, h2⟩
      · exact Or.inr ⟨by omega, by omega, by simpa using h3, fun q => h4 (by omega)⟩
theorem zLs.st1 {E nL lsr ls ls' i v} (hE : E.2.2.2.2.1.category = 1) (h : zLs E nL lsr ls) (h' : lv_has ls' nL ((i, zco E v) :: (zll E ls).filter (fun q => !(q.1 == i) && !(q.1 + 1 == i && q.2.category == 2)))) : zLs E nL ls' (zs1 ls i v) := by
  refine ⟨h'.1, h'.2.1, (zs1_len _ _ _).trans h.2.2.1, fun j w hj => ?_⟩
  rcases zs1_get _ _ _ _ _ hj with ⟨rfl, rfl⟩ | ⟨h1, h2, h3⟩
  · exact h'.2.2 (j, zco E w) List.mem_cons_self
  · refine h'.2.2 (j, zco E w) (List.mem_cons_of_mem _ (List.mem_filter.mpr ⟨zll_in.mpr ⟨w, h2, rfl⟩, ?_⟩))
    show (!(j == i) && !(j + 1 == i && (zco E w).category == 2)) = true
    rw [zco_cat hE]
    have a1 : (j == i) = false := by simp [h1]
    rw [a1]
    by_cases e : j + 1 = i
    · have := h3 e
      simp [this]
    · have a2 : (j + 1 == i) = false := by simp [e]
      rw [a2]; rfl
theorem zLs.st2 {E nL lsr ls ls' i v} (hE : E.2.2.2.2.1.category = 1) (h : zLs E nL lsr ls) (h' : lv_has ls' nL ((i, zco E v) :: (zll E ls).filter (fun q => !(q.1 == i) && (!(q.1 == i + 1) && !(q.1 + 1 == i && q.2.category == 2))))) : zLs E nL ls' (zs2 ls i v) := by
  refine ⟨h'.1, h'.2.1, (zs2_len _ _ _).trans h.2.2.1, fun j w hj => ?_⟩
  rcases zs2_get _ _ _ _ _ hj with ⟨rfl, rfl⟩ | ⟨h1, h1', h2, h3⟩
  · exact h'.2.2 (j, zco E w) List.mem_cons_self
  · refine h'.2.2 (j, zco E w) (List.mem_cons_of_mem _ (List.mem_filter.mpr ⟨zll_in.mpr ⟨w, h2, rfl⟩, ?_⟩))
    show (!(j == i) && (!(j == i + 1) && !(j + 1 == i && (zco E w).category == 2))) = true
    rw [zco_cat hE]
    have a1 : (j == i) = false := by simp [h1]
    have a3 : (j == i + 1) = false := by simp [h1']
    rw [a1, a3]
    by_cases e : j + 1 = i
    · have := h3 e
      simp [this]
    · have a2 : (j + 1 == i) = false := by simp [e]
      rw [a2]; rfl
theorem zlg_get {ls : zLo} {i : Nat} {w : Value} (h : zlg ls i = some w) : ls[i]? = some (some w) := by
  unfold zlg at h
  cases hx : ls[i]? with
  | none => rw [hx] at h; cases h
  | some o => rw [hx] at h; exact congrArg some h
theorem zLs.ld {E nL lsr ls i w} (h : zLs E nL lsr ls) (hw : zlg ls i = some w) : lsr[i]? = some (.val (zco E w)) := h.2.2.2 _ _ (zlg_get hw)
theorem zkd_lt {kd : Nat} {r : vw_C} (h : vwCl[kd]? = some r) : kd < 12 := (List.getElem?_eq_some_iff.mp h).1
section ZF
variable {p : Program} {l : Launch} {e : Env} {R : Room} {s : State} {m : MethodId} {args : Array Value} {below : List Frame} {meth : Method} {c : Code} {H : Heap} {locs : List Loc} {cells slots : Nat} {Qe : State → Prop}
variable {E : zE} {mm : zM} {d : Nat} {σ : zSh} {ρ : zRf} {I : zIm} {L : zLm} {pc : Nat} {lsr : Array Slot} {rest : List Value}
theorem zr_get (C : zCx p R s m args meth c E mm d) (hP : zP E σ ρ I L H) {a i ty k : Nat} {fin : Bool} {oks : List Nat} (hF : zF mm.2.2.2.2.1 i = some (ty, k, fin, oks)) (ha : a < σ.1) (hok : (σ.2 a).1 ∈ oks) (hd : decode mm.2.1 pc = .ok (.getfield i, 3))
    (kk : W p l e R s m args below meth c H locs cells slots Qe (F0 m (pc + 3) lsr (zco E (zfv ty ρ I L a k) :: rest))) : W p l e R s m args below meth c H locs cells slots Qe (F0 m pc lsr (.ref (zad E a) :: rest)) := by
  obtain ⟨hx, hb, hml, hown, hts, hin, hEv, -⟩ := C
  obtain ⟨r, ref, hr, hk, hfin, hty, hlink, hsame⟩ := zF_row hF hok
  have hkd := zkd_lt hr
  obtain ⟨r', hr', -, hN, huw, -, -⟩ := zcl_row hkd
  cases hr.symm.trans hr'
  rcases hP.2.2 a ha with ⟨-, cell, q1, q2, q3, q4⟩ | ⟨h20, -⟩
  · obtain ⟨hS, hfc, kC, hkC, hkind⟩ := hEv.1.1 _ r hr
    obtain ⟨cf, kf, fi, f, hi, hsl⟩ := hS k hk
    have hi' : s.fieldFound? ref (r.2.1 k).2.1 (r.2.1 k).2.2.1 = some (cf, kf, fi, f) := by
      rcases hsame with q | q
      · rw [← q]; exact hi
      · exact u_same (hts _ q) _ hi
    refine W.getf hx hb hown (hts _ hlink) hi' (u_facts hfc hkC (u_lays hts huw hk) hi).1 (by rw [hP.adr ha]; exact q1) (by rw [q3]; exact fun h => by cases h) (v := zco E (zfv ty ρ I L a k)) ?_ rfl rfl hd kk
    rw [hsl, q4 k (by omega)]
    show some (zco E (zfv (zft (σ.2 a).1 k) ρ I L a k)) = _
    rw [hty]
  · omega
theorem zr_put (C : zCx p R s m args meth c E mm d) (hP : zP E σ ρ I L H) (hS0 : va_S (zAd E) s.heap H locs) {ρ' : zRf} {I' : zIm} {L' : zLm} {a i ty k : Nat} {fin : Bool} {oks : List Nat} {w : Value} (hF : zF mm.2.2.2.2.1 i = some (ty, k, fin, oks)) (ha : a < σ.1) (hok : (σ.2 a).1 ∈ oks)
    (hfn : fin = true → mm.1.name = "<init>" ∧ (σ.2 a).1 = mm.2.2.2.2.1) (hd : decode mm.2.1 pc = .ok (.putfield i, 3))
    (hfit : ∀ t, (ty = 0 → t = .int) → (ty = 1 → t = .boolean) → (ty = 2 → t = .long) → (ty = 3 → (∃ n, t = .object n) ∨ ∃ u, t = .array u) → narrow t (zco E w) = zco E w ∧ fits t (zco E w) = true)
    (hv : ∀ j, zfv (zft (σ.2 a).1 j) ρ' I' L' a j = if j = k then w else zfv (zft (σ.2 a).1 j) ρ I L a j) (h1 : ∀ c k, c ≠ a → ρ' c k = ρ c k) (h2 : ∀ c k, c ≠ a → I' c k = I c k) (h3 : ∀ c k, c ≠ a → L' c k = L c k)
    (kk : ∀ (H1 : Heap) (locs1 : List Loc), zP E σ ρ' I' L' H1 → va_S (zAd E) s.heap H1 locs1 → W p l e R s m args below meth c H1 locs1 cells slots Qe (F0 m (pc + 3) lsr rest)) : W p l e R s m args below meth c H locs cells slots Qe (F0 m pc lsr (zco E w :: .ref (zad E a) :: rest)) := by
  obtain ⟨hx, hb, hml, hown, hts, hin, hEv, -⟩ := C
  obtain ⟨r, ref, hr, hk, hfin, hty, hlink, hsame⟩ := zF_row hF hok
  have hkd := zkd_lt hr
  obtain ⟨r', hr', hr1, hN, huw, htys, hnm⟩ := zcl_row hkd
  cases hr.symm.trans hr'
  obtain ⟨t, ht, -, t0, t1, t2, t3⟩ := htys k hk
  rw [hty] at t0 t1 t2 t3
  obtain ⟨hn, hft⟩ := hfit t t0 t1 t2 t3
  rcases hP.2.2 a ha with ⟨-, cell, q1, q2, q3, q4⟩ | ⟨h20, -⟩
  · obtain ⟨hS, hfc, kC, hkC, hkind⟩ := hEv.1.1 _ r hr
    obtain ⟨cf, kf, fi, f, hi, hsl⟩ := hS k hk
    have hi' : s.fieldFound? ref (r.2.1 k).2.1 (r.2.1 k).2.2.1 = some (cf, kf, fi, f) := by
      rcases hsame with q | q
      · rw [← q]; exact hi
      · exact u_same (hts _ q) _ hi
    have hst := (u_facts hfc hkC (u_lays hts huw hk) hi).1
    have hap : ∀ x y, x < zN0 (σ.2 a).1 → y < zN0 (σ.2 a).1 → x ≠ y → (E.2.2.2.2.2.1.2 (σ.2 a).1) x ≠ (E.2.2.2.2.2.1.2 (σ.2 a).1) y := by
      intro x y hx hy hne
      have hx' : x < r.2.2 := by omega
      have hy' : y < r.2.2 := by omega
      obtain ⟨_, _, _, fa, hia, ea⟩ := hS x hx'
      obtain ⟨_, _, _, fb, hib, eb⟩ := hS y hy'
      obtain ⟨ta, hta, -⟩ := htys x hx'
      obtain ⟨tb, htb, -⟩ := htys y hy'
      rw [← ea, ← eb]
      refine u_apart (u_lays hts huw hx') (u_lays hts huw hy') hia hib ?_
      rw [(State.fieldFound?_type hia hta).1, (State.fieldFound?_type hib htb).1]
      exact hnm x hx' y hy' hne
    have hslot : f.slot < cell.slots.size := by rw [hsl]; exact k2_hasslot (q4 k (by omega))
    have fin1 : ∀ (H' : Heap), H'[E.1 + a]? = some (cell.setSlot f.slot (zco E w)) → H'.size = H.size → (∀ q : Nat, q ≠ E.1 + a → H'[q]? = H[q]?) → zP E σ ρ' I' L' H' := by
      intro H' e1 e2 e3
      refine hP.put e2 e3 (Or.inl ⟨hkd, _, e1, q2, q3, fun j hj => ?_⟩) h1 h2 h3
      rw [hsl]
      have := t_set q4 hap (show k < zN0 (σ.2 a).1 by omega) (zco E w) j hj
      rw [this]
      show some (updV (fun k => zco E (zfv (zft (σ.2 a).1 k) ρ I L a k)) k (zco E w) j) = some (zco E (zfv (zft (σ.2 a).1 j) ρ' I' L' a j))
      rw [hv j]
      by_cases e : j = k
      · simp [updV, e]
      · simp [updV, e]
    have hAa : zAd E (E.1 + a) := Nat.le_add_right _ _
    have hcell : H[zad E a]? = some cell := by rw [hP.adr ha]; exact q1
    cases hfc2 : fin with
    | false =>
      have hlay := hts _ (huw _ (u_in_lay hk))
      unfold u_lay at hlay
      rw [if_neg (by rw [hfin, hfc2]; decide)] at hlay
      have h6 := u_store hfc hkC hkind hlay hi ht hn hft
      refine W.putK hx hb (f := f) ⟨hown, hts _ hlink, ⟨_, _, _, hi'⟩, hst⟩ (by rw [q2]; exact h6) hcell q3 hslot rfl rfl hd fun H' e1 e2 e3 => ?_
      rw [hP.adr ha] at e1 e3 ⊢
      exact kk H' _ (fin1 H' e1 e2 e3) (hS0.put e2 e3 hAa)
    | true =>
      obtain ⟨g1, g2⟩ := hfn hfc2
      have hlay := hts _ (huw _ (u_in_lay hk))
      unfold u_lay at hlay
      rw [if_pos (by rw [hfin, hfc2])] at hlay
      have hdecl : (r.2.1 k).1 = zR0 mm.2.2.2.2.1 := by rw [← g2]; exact zfin_row hkd hr hk (by rw [hfin, hfc2])
      have hcf : m.cls = cf := by
        obtain ⟨_, _, c', _, _, _, -, -, hf', -, -, -, hown2, -⟩ := Cond.laysFinal_spec hlay
        have e1 : c' = cf := by have := hi.symm.trans hf'; simp at this; exact this.1.symm
        rw [hdecl] at hown2
        rw [← e1]; exact Option.some.inj (hown.symm.trans hown2)
      have h6 := u_fits hfc hkC hkind (Or.inr hlay) hi ht hn hft
      refine W.putFinK hx hb hown (hts _ hlink) hi' hst hcf (hin g1) (by rw [q2]; exact h6) hcell q3 hslot rfl rfl hd fun H' e1 e2 e3 => ?_
      rw [hP.adr ha] at e1 e3 ⊢
      exact kk H' _ (fin1 H' e1 e2 e3) (hS0.put e2 e3 hAa)
  · omega
end ZF
