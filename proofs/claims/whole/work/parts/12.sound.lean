/-! ONE STEP OF THE SMALL MACHINE IS ONE OF THE MACHINE; A CALL MEETS ITS CONTRACT -/
theorem z1_e {st K} (h : z1 st K) : ∃ x r, st = .int x :: r ∧ K x r := by
  unfold z1 at h; split at h
  · exact ⟨_, _, rfl, h⟩
  · cases h
theorem z2_e {st K} (h : z2 st K) : ∃ x y r, st = .int y :: .int x :: r ∧ K x y r := by
  unfold z2 at h; split at h
  · exact ⟨_, _, _, rfl, h⟩
  · cases h
theorem z1l_e {st K} (h : z1l st K) : ∃ x r, st = .long x :: r ∧ K x r := by
  unfold z1l at h; split at h
  · exact ⟨_, _, rfl, h⟩
  · cases h
theorem z2l_e {st K} (h : z2l st K) : ∃ x y r, st = .long y :: .long x :: r ∧ K x y r := by
  unfold z2l at h; split at h
  · exact ⟨_, _, _, rfl, h⟩
  · cases h
theorem zli_e {st K} (h : zli st K) : ∃ x y r, st = .int y :: .long x :: r ∧ K x y r := by
  unfold zli at h; split at h
  · exact ⟨_, _, _, rfl, h⟩
  · cases h
theorem z1r_e {st K} (h : z1r st K) : ∃ x r, st = .ref x :: r ∧ K x r := by
  unfold z1r at h; split at h
  · exact ⟨_, _, rfl, h⟩
  · cases h
theorem zra_e {st K} (h : zra st K) : ∃ a i r, st = .int i :: .ref a :: r ∧ K a i r := by
  unfold zra at h; split at h
  · exact ⟨_, _, _, rfl, h⟩
  · cases h
theorem zia_e {st K} (h : zia st K) : ∃ a i x r, st = .int x :: .int i :: .ref a :: r ∧ K a i x r := by
  unfold zia at h; split at h
  · exact ⟨_, _, _, _, rfl, h⟩
  · cases h
theorem zil_e {st K} (h : zil st K) : ∃ a i x r, st = .long x :: .int i :: .ref a :: r ∧ K a i x r := by
  unfold zil at h; split at h
  · exact ⟨_, _, _, _, rfl, h⟩
  · cases h
theorem zir_e {st K} (h : zir st K) : ∃ a i x r, st = .ref x :: .int i :: .ref a :: r ∧ K a i x r := by
  unfold zir at h; split at h
  · exact ⟨_, _, _, _, rfl, h⟩
  · cases h
theorem z1v_e {st K} (h : z1v st K) : ∃ x r, st = x :: r ∧ K x r := by
  unfold z1v at h; split at h
  · exact ⟨_, _, rfl, h⟩
  · cases h
theorem z2v_e {st K} (h : z2v st K) : ∃ x y r, st = x :: y :: r ∧ K x y r := by
  unfold z2v at h; split at h
  · exact ⟨_, _, _, rfl, h⟩
  · cases h
theorem zj_e {pc off K} (h : zj pc off K) : ∃ t : Nat, (pc : Int) + off = (t : Int) ∧ K t := by
  unfold zj at h; split at h
  · rename_i t e; exact ⟨t, e, h⟩
  · cases h
theorem zF_ty {j i ty k : Nat} {fin : Bool} {oks : List Nat} (h : zF j i = some (ty, k, fin, oks)) {kd : Nat} (hkd : kd ∈ oks) : zft kd k = ty := by
  obtain ⟨r, ref, h1, h2, h3, h4, h5⟩ := zF_row h hkd
  exact h4
theorem zfv_i {ty : Nat} (h : ty = 0 ∨ ty = 1) {ρ I L a k} : zfv ty ρ I L a k = .int (I a k) := by rcases h with rfl | rfl <;> rfl
theorem zput_g {ty : Nat} {ρ ρ' : zRf} {I I' : zIm} {L L' : zLm} {a j : Nat} (h1 : ρ' a j = ρ a j) (h2 : I' a j = I a j) (h3 : L' a j = L a j) : zfv ty ρ' I' L' a j = zfv ty ρ I L a j := zfv_same h1 h2 h3
theorem zput_i {kd k : Nat} {ρ : zRf} {I : zIm} {L : zLm} {a : Nat} {x : Int32} (hk : zft kd k = 0) (j : Nat) : zfv (zft kd j) ρ (zup I a k x) L a j = if j = k then .int x else zfv (zft kd j) ρ I L a j := by
  by_cases e : j = k
  · rw [if_pos e, e, hk, zfv_i (Or.inl rfl), zup_s]
  · rw [if_neg e]; exact zput_g rfl (zup_k e) rfl
theorem zput_z {kd k : Nat} {ρ : zRf} {I : zIm} {L : zLm} {a : Nat} {x : Int32} (hk : zft kd k = 1) (j : Nat) : zfv (zft kd j) ρ (zup I a k x) L a j = if j = k then .int x else zfv (zft kd j) ρ I L a j := by
  by_cases e : j = k
  · rw [if_pos e, e, hk, zfv_i (Or.inr rfl), zup_s]
  · rw [if_neg e]; exact zput_g rfl (zup_k e) rfl
theorem zput_l {kd k : Nat} {ρ : zRf} {I : zIm} {L : zLm} {a : Nat} {x : Int64} (hk : zft kd k = 2) (j : Nat) : zfv (zft kd j) ρ I (zup L a k x) a j = if j = k then .long x else zfv (zft kd j) ρ I L a j := by
  by_cases e : j = k
  · rw [if_pos e, e, hk]
    show Value.long (zup L a k x a k) = _
    rw [zup_s]
  · rw [if_neg e]; exact zput_g rfl rfl (zup_k e)
theorem zput_r {kd k : Nat} {ρ : zRf} {I : zIm} {L : zLm} {a : Nat} {x : Nat} (hk : zft kd k = 3) (j : Nat) : zfv (zft kd j) (zup ρ a k (some x)) I L a j = if j = k then .ref x else zfv (zft kd j) ρ I L a j := by
  by_cases e : j = k
  · rw [if_pos e, e, hk]
    show va_rf (zup ρ a k (some x) a k) = _
    rw [zup_s]
    rfl
  · rw [if_neg e]; exact zput_g (zup_k e) rfl rfl
section ZK
variable {p : Program} {l : Launch} {e : Env} {R : Room} {s : State} {m : MethodId} {args : Array Value} {below : List Frame} {meth : Method} {c : Code} {Qe : State → Prop}
variable {E : zE} {mm : zM} {d : Nat}
def zX (p : Program) (l : Launch) (e : Env) (R : Room) (s : State) (m : MethodId) (args : Array Value) (below : List Frame) (meth : Method) (c : Code) (E : zE) (mm : zM) (Qe : State → Prop) : zCt := fun pc ls st u v σ ρ I L =>
  ∀ (H : Heap) (locs : List Loc) (lsr : Array Slot), zLs E mm.2.2.1 lsr ls → zP E σ ρ I L H → va_S (zAd E) s.heap H locs → W p l e R s m args below meth c H locs u v Qe (F0 m pc lsr (st.map (zco E)))
def zScr (E : zE) (s : State) (scr : zSc) : Prop := match scr with
  | some (N, xs) => va_X E.2.2.2.1 N xs s s.heap ∧ E.2.2.2.1 < s.heap.size ∧ ¬ zAd E E.2.2.2.1
  | none => True
/-- the frame's end -/
def zEnd (p : Program) (l : Launch) (e : Env) (R : Room) (s : State) (m : MethodId) (args : Array Value) (below : List Frame) (meth : Method) (c : Code) (E : zE) (mm : zM) (Q : zPo) (Qe : State → Prop) : Prop :=
  ∀ (o : Option Value) (σ : zSh) (ρ : zRf) (I : zIm) (L : zLm) (u v pc : Nat) (H : Heap) (locs : List Loc) (lsr : Array Slot), u ≤ mm.2.2.2.2.2.1 → v ≤ mm.2.2.2.2.2.2 → Q o σ ρ I L → zP E σ ρ I L H → va_S (zAd E) s.heap H locs →
    ((∃ x ty, o = some (.int x) ∧ mm.2.2.2.1 = some ty ∧ narrow ty (.int x) = .int x ∧ decode mm.2.1 pc = .ok (.ireturn, 1)) ∨ (∃ x, o = some (.long x) ∧ mm.2.2.2.1 = some .long ∧ decode mm.2.1 pc = .ok (.lreturn, 1)) ∨ (o = none ∧ mm.2.2.2.1 = none ∧ decode mm.2.1 pc = .ok (.return_, 1))) →
    W p l e R s m args below meth c H locs u v Qe (F0 m pc lsr o.toList)
def zIH (l : Launch) (E : zE) (d : Nat) : Prop := ∀ (mi : Nat) (cm : zM), zMs[mi]? = some cm → ∀ (as : List Value) (σ : zSh) (ρ : zRf) (I : zIm) (L : zLm) (Q' : zPo), zW d cm as σ ρ I L Q' → Met l cm.1 (zws cm) (zrm d cm) (zPc E as σ ρ I L) (zQc E Q') cm.2.2.2.2.2.1 cm.2.2.2.2.2.2 (zAd E)
theorem zmap_drop {E : zE} {st r : List Value} {k a : Nat} (h : st.drop k = .ref a :: r) : st.map (zco E) = ((st.take k).reverse.map (zco E)).reverse ++ .ref (zad E a) :: r.map (zco E) ∧ (st.take k).reverse.length = k := by
  have hk : k < st.length := by
    rcases Nat.lt_or_ge k st.length with q | q
    · exact q
    · rw [List.drop_eq_nil_of_le q] at h; cases h
  refine ⟨?_, by rw [List.length_reverse, List.length_take]; omega⟩
  have e := List.take_append_drop k st
  conv => lhs; rw [← e, h]
  rw [List.map_append, List.map_reverse, List.reverse_reverse]
  rfl
theorem zmap_take {E : zE} {st : List Value} {k : Nat} (h : k ≤ st.length) : st.map (zco E) = ((st.take k).reverse.map (zco E)).reverse ++ (st.drop k).map (zco E) ∧ (st.take k).reverse.length = k := by
  refine ⟨?_, by rw [List.length_reverse, List.length_take]; omega⟩
  have e := List.take_append_drop k st
  conv => lhs; rw [← e]
  rw [List.map_append, List.map_reverse, List.reverse_reverse]
theorem zback {E : zE} (o : Option Value) (r : List Value) : (o.map (zco E)).toList ++ r.map (zco E) = (o.toList ++ r).map (zco E) := by
  cases o <;> rfl
set_option maxHeartbeats 8000000 in
set_option maxRecDepth 20000 in
theorem zstep {scr : zSc} {Q : zPo} (C : zCx p R s m args meth c E mm d) (hIH : zIH l E d) (hscr : zScr E s scr) (hend : zEnd p l e R s m args below meth c E mm Q Qe) :
    ∀ pc ls st u v σ ρ I L, zst scr (zX p l e R s m args below meth c E mm Qe) (zW d) mm Q pc ls st u v σ ρ I L → zX p l e R s m args below meth c E mm Qe pc ls st u v σ ρ I L := by
  intro pc ls st u v σ ρ I L h H locs lsr hl hP hS
  have hx := C.1
  have hb := C.2.1
  have hown := C.2.2.2.1
  have hts := C.2.2.2.2.1
  have hE := C.2.2.2.2.2.2.1.2.2.2.2.2.1
  have hml : c.maxLocals = lsr.size := C.2.2.1.trans hl.1.symm
  unfold zst at h
  split at h
  · rename_i ins n hd
    unfold zstp at h
    split at h
    · obtain ⟨rfl, h⟩ := h
      exact lv_iconst hx hb hd rfl (h H locs lsr hl hP hS)
    · obtain ⟨rfl, h⟩ := h
      exact lv_bipush hx hb hd rfl (h H locs lsr hl hP hS)
    · obtain ⟨rfl, h⟩ := h
      exact lv_sipush hx hb hd rfl (h H locs lsr hl hP hS)
    · obtain ⟨rfl, h⟩ := h
      exact lv_lconst hx hb hd rfl (h H locs lsr hl hP hS)
    · obtain ⟨rfl, h⟩ := h
      unfold zkons at h
      split at h
      · rename_i w hw
        rcases zK_row hw with ⟨x, rfl, hc⟩ | ⟨x, rfl, hc⟩ | ⟨a, rfl, a1, a2, a3, a4⟩
        · exact lv_ldc hx hb hown (hts _ hc) hd (h H locs lsr hl hP hS)
        · exact h.elim
        · exact zr_ldcs C a3 a1 a2 a4 hd (h H locs lsr hl hP hS)
      · exact h.elim
    · obtain ⟨rfl, h⟩ := h
      unfold zkons at h
      split at h
      · rename_i w hw
        rcases zK_row hw with ⟨x, rfl, hc⟩ | ⟨x, rfl, hc⟩ | ⟨a, rfl, a1, a2, a3, a4⟩
        · exact lv_ldcw hx hb hown (hts _ hc) hd (h H locs lsr hl hP hS)
        · exact h.elim
        · exact h.elim
      · exact h.elim
    · obtain ⟨rfl, h⟩ := h
      unfold zkons at h
      split at h
      · rename_i w hw
        rcases zK_row hw with ⟨x, rfl, hc⟩ | ⟨x, rfl, hc⟩ | ⟨a, rfl, a1, a2, a3, a4⟩
        · exact h.elim
        · exact lv_ldc2 hx hb hown (hts _ hc) hd (h H locs lsr hl hP hS)
        · exact h.elim
      · exact h.elim
    · obtain ⟨rfl, h⟩ := h
      split at h
      · rename_i x hw
        exact lv_iload hx hb hd (hl.ld hw) (h H locs lsr hl hP hS)
      · exact h.elim
    · obtain ⟨rfl, h⟩ := h
      split at h
      · rename_i x hw
        exact lv_iload_n hx hb hd rfl (hl.ld hw) (h H locs lsr hl hP hS)
      · exact h.elim
    · obtain ⟨rfl, h⟩ := h
      split at h
      · rename_i x hw
        exact lv_lload hx hb hd (hl.ld hw) (h H locs lsr hl hP hS)
      · exact h.elim
    · obtain ⟨rfl, h⟩ := h
      split at h
      · rename_i x hw
        exact lv_lload_n hx hb hd rfl (hl.ld hw) (h H locs lsr hl hP hS)
      · exact h.elim
    · obtain ⟨rfl, h⟩ := h
      split at h
      · rename_i x hw
        exact lv_aload hx hb hd (hl.ld hw) (h H locs lsr hl hP hS)
      · exact h.elim
    · obtain ⟨rfl, h⟩ := h
      split at h
      · rename_i x hw
        exact lv_aload_n hx hb hd rfl (hl.ld hw) (h H locs lsr hl hP hS)
      · exact h.elim
    · obtain ⟨rfl, h⟩ := h
      replace h := z1_e h
      obtain ⟨x, r, rfl, hi, h⟩ := h
      exact lv_istore hx hb hd hl.has (by have := hl.2.2.1; omega) rfl (fun ls1 h1 => h H locs ls1 (hl.st1 (v := .int x) hE h1) hP hS)
    · obtain ⟨rfl, h⟩ := h
      replace h := z1_e h
      obtain ⟨x, r, rfl, hi, h⟩ := h
      exact lv_istore_n hx hb hd rfl hl.has (by have := hl.2.2.1; omega) rfl (fun ls1 h1 => h H locs ls1 (hl.st1 (v := .int x) hE h1) hP hS)
    · obtain ⟨rfl, h⟩ := h
      replace h := z1l_e h
      obtain ⟨x, r, rfl, hi, h⟩ := h
      exact lv_lstore hx hb hd hl.has (by have := hl.2.2.1; omega) rfl (fun ls1 h1 => h H locs ls1 (hl.st2 (v := .long x) hE h1) hP hS)
    · obtain ⟨rfl, h⟩ := h
      replace h := z1l_e h
      obtain ⟨x, r, rfl, hi, h⟩ := h
      exact lv_lstore_n hx hb hd rfl hl.has (by have := hl.2.2.1; omega) rfl (fun ls1 h1 => h H locs ls1 (hl.st2 (v := .long x) hE h1) hP hS)
    · obtain ⟨rfl, h⟩ := h
      replace h := z1r_e h
      obtain ⟨x, r, rfl, hi, h⟩ := h
      exact lv_astore hx hb hd hl.has (by have := hl.2.2.1; omega) rfl (fun ls1 h1 => h H locs ls1 (hl.st1 (v := .ref x) hE h1) hP hS)
    · obtain ⟨rfl, h⟩ := h
      replace h := z1r_e h
      obtain ⟨x, r, rfl, hi, h⟩ := h
      exact lv_astore_n hx hb hd rfl hl.has (by have := hl.2.2.1; omega) rfl (fun ls1 h1 => h H locs ls1 (hl.st1 (v := .ref x) hE h1) hP hS)
    · obtain ⟨rfl, h⟩ := h
      split at h
      · rename_i x hw
        have hg := zlg_get hw
        have hin := zll_in (E := E) (q := (_, .int x)).mpr ⟨_, hg, rfl⟩
        obtain ⟨k9, hk9⟩ := List.getElem?_of_mem hin
        exact lv_iinc hx hb hd hl.has hk9 rfl (by have := (List.getElem?_eq_some_iff.mp hg).1; have := hl.2.2.1; omega) rfl (fun ls1 h1 => h H locs ls1 (hl.st1 (v := .int (x + Int32.ofInt _)) hE h1) hP hS)
      · exact h.elim
    · obtain ⟨rfl, h⟩ := h
      replace h := z2_e h
      obtain ⟨x, y, r, rfl, h⟩ := h
      exact lv_iadd hx hb hd (h H locs lsr hl hP hS)
    · obtain ⟨rfl, h⟩ := h
      replace h := z2_e h
      obtain ⟨x, y, r, rfl, h⟩ := h
      exact lv_isub hx hb hd (h H locs lsr hl hP hS)
    · obtain ⟨rfl, h⟩ := h
      replace h := z2_e h
      obtain ⟨x, y, r, rfl, h⟩ := h
      exact lv_imul hx hb hd (h H locs lsr hl hP hS)
    · obtain ⟨rfl, h⟩ := h
      replace h := z2_e h
      obtain ⟨x, y, r, rfl, h⟩ := h
      exact lv_iand hx hb hd (h H locs lsr hl hP hS)
    · obtain ⟨rfl, h⟩ := h
      replace h := z2_e h
      obtain ⟨x, y, r, rfl, h⟩ := h
      exact lv_ior hx hb hd (h H locs lsr hl hP hS)
    · obtain ⟨rfl, h⟩ := h
      replace h := z2_e h
      obtain ⟨x, y, r, rfl, h⟩ := h
      exact lv_ishl hx hb hd (h H locs lsr hl hP hS)
    · obtain ⟨rfl, h⟩ := h
      replace h := z2_e h
      obtain ⟨x, y, r, rfl, h⟩ := h
      exact lv_ishr hx hb hd (h H locs lsr hl hP hS)
    · obtain ⟨rfl, h⟩ := h
      replace h := z2_e h
      obtain ⟨x, y, r, rfl, h⟩ := h
      exact lv_iushr hx hb hd rfl (h H locs lsr hl hP hS)
    · obtain ⟨rfl, h⟩ := h
      replace h := z2_e h
      obtain ⟨x, y, r, rfl, h0, h⟩ := h
      exact lv_idiv hx hb hd h0 (h H locs lsr hl hP hS)
    · obtain ⟨rfl, h⟩ := h
      replace h := z2_e h
      obtain ⟨x, y, r, rfl, h0, h⟩ := h
      exact lv_irem hx hb hd h0 (h H locs lsr hl hP hS)
    · obtain ⟨rfl, h⟩ := h
      replace h := z2l_e h
      obtain ⟨x, y, r, rfl, h⟩ := h
      exact lv_ladd hx hb hd (h H locs lsr hl hP hS)
    · obtain ⟨rfl, h⟩ := h
      replace h := z2l_e h
      obtain ⟨x, y, r, rfl, h⟩ := h
      exact lv_lsub hx hb hd (h H locs lsr hl hP hS)
    · obtain ⟨rfl, h⟩ := h
      replace h := z2l_e h
      obtain ⟨x, y, r, rfl, h⟩ := h
      exact lv_lmul hx hb hd (h H locs lsr hl hP hS)
    · obtain ⟨rfl, h⟩ := h
      replace h := z2l_e h
      obtain ⟨x, y, r, rfl, h⟩ := h
      exact lv_land hx hb hd (h H locs lsr hl hP hS)
    · obtain ⟨rfl, h⟩ := h
      replace h := z2l_e h
      obtain ⟨x, y, r, rfl, h⟩ := h
      exact lv_lor hx hb hd (h H locs lsr hl hP hS)
    · obtain ⟨rfl, h⟩ := h
      replace h := z2l_e h
      obtain ⟨x, y, r, rfl, h0, h⟩ := h
      exact lv_ldiv hx hb hd h0 (h H locs lsr hl hP hS)
    · obtain ⟨rfl, h⟩ := h
      replace h := z2l_e h
      obtain ⟨x, y, r, rfl, h0, h⟩ := h
      exact lv_lrem hx hb hd h0 (h H locs lsr hl hP hS)
    · obtain ⟨rfl, h⟩ := h
      replace h := z2l_e h
      obtain ⟨x, y, r, rfl, h⟩ := h
      exact W.lcmp hx hb hd (h H locs lsr hl hP hS)
    · obtain ⟨rfl, h⟩ := h
      replace h := zli_e h
      obtain ⟨x, y, r, rfl, h⟩ := h
      exact lv_lshl hx hb hd rfl (h H locs lsr hl hP hS)
    · obtain ⟨rfl, h⟩ := h
      replace h := zli_e h
      obtain ⟨x, y, r, rfl, h⟩ := h
      exact lv_lshr hx hb hd rfl (h H locs lsr hl hP hS)
    · obtain ⟨rfl, h⟩ := h
      replace h := zli_e h
      obtain ⟨x, y, r, rfl, h⟩ := h
      exact lv_lushr hx hb hd rfl (h H locs lsr hl hP hS)
    · obtain ⟨rfl, h⟩ := h
      replace h := z1_e h
      obtain ⟨x, r, rfl, h⟩ := h
      exact lv_i2l hx hb hd rfl (h H locs lsr hl hP hS)
    · obtain ⟨rfl, h⟩ := h
      replace h := z1_e h
      obtain ⟨x, r, rfl, h⟩ := h
      exact lv_i2c hx hb hd rfl (h H locs lsr hl hP hS)
    · obtain ⟨rfl, h⟩ := h
      replace h := z1l_e h
      obtain ⟨x, r, rfl, h⟩ := h
      exact lv_l2i hx hb hd rfl (h H locs lsr hl hP hS)
    · obtain ⟨rfl, h⟩ := h
      replace h := z1v_e h
      obtain ⟨x, r, rfl, h0, h⟩ := h
      exact lv_pop hx hb hd ((zco_cat hE x).trans h0) (h H locs lsr hl hP hS)
    · obtain ⟨rfl, h⟩ := h
      replace h := z1v_e h
      obtain ⟨x, r, rfl, h0, h⟩ := h
      exact lv_dup hx hb hd ((zco_cat hE x).trans h0) (h H locs lsr hl hP hS)
    · obtain ⟨rfl, h⟩ := h
      replace h := z1v_e h
      obtain ⟨x, r, rfl, h⟩ := h
      split at h
      · rename_i h0
        exact lv_dup2_2 hx hb hd ((zco_cat hE x).trans h0) (h H locs lsr hl hP hS)
      · replace h := z1v_e h
        obtain ⟨y, r, rfl, h0, h1, h⟩ := h
        exact lv_dup2_11 hx hb hd ((zco_cat hE x).trans h0) ((zco_cat hE y).trans h1) (h H locs lsr hl hP hS)
    · obtain ⟨rfl, h⟩ := h
      replace h := zj_e h
      obtain ⟨t, ht, h⟩ := h
      exact lv_goto hx hb hd ht (h H locs lsr hl hP hS)
    · obtain ⟨rfl, h⟩ := h
      replace h := z1_e h
      obtain ⟨x, r, rfl, h⟩ := h
      replace h := zj_e h
      obtain ⟨t, ht, h⟩ := h
      exact lv_if_eq hx hb hd ht (fun q => by rw [if_pos q] at h; exact h H locs lsr hl hP hS) (fun q => by rw [if_neg q] at h; exact h H locs lsr hl hP hS)
    · obtain ⟨rfl, h⟩ := h
      replace h := z1_e h
      obtain ⟨x, r, rfl, h⟩ := h
      replace h := zj_e h
      obtain ⟨t, ht, h⟩ := h
      exact lv_if_ne hx hb hd ht (fun q => by rw [if_neg q] at h; exact h H locs lsr hl hP hS) (fun q => by rw [if_pos q] at h; exact h H locs lsr hl hP hS)
    · obtain ⟨rfl, h⟩ := h
      replace h := z1_e h
      obtain ⟨x, r, rfl, h⟩ := h
      replace h := zj_e h
      obtain ⟨t, ht, h⟩ := h
      exact lv_if_lt hx hb hd ht (fun q => by rw [if_pos q] at h; exact h H locs lsr hl hP hS) (fun q => by rw [if_neg q] at h; exact h H locs lsr hl hP hS)
    · obtain ⟨rfl, h⟩ := h
      replace h := z1_e h
      obtain ⟨x, r, rfl, h⟩ := h
      replace h := zj_e h
      obtain ⟨t, ht, h⟩ := h
      exact lv_if_ge hx hb hd ht (fun q => by rw [if_pos q] at h; exact h H locs lsr hl hP hS) (fun q => by rw [if_neg q] at h; exact h H locs lsr hl hP hS)
    · obtain ⟨rfl, h⟩ := h
      replace h := z1_e h
      obtain ⟨x, r, rfl, h⟩ := h
      replace h := zj_e h
      obtain ⟨t, ht, h⟩ := h
      exact lv_if_gt hx hb hd ht (fun q => by rw [if_pos q] at h; exact h H locs lsr hl hP hS) (fun q => by rw [if_neg q] at h; exact h H locs lsr hl hP hS)
    · obtain ⟨rfl, h⟩ := h
      replace h := z1_e h
      obtain ⟨x, r, rfl, h⟩ := h
      replace h := zj_e h
      obtain ⟨t, ht, h⟩ := h
      exact lv_if_le hx hb hd ht (fun q => by rw [if_pos q] at h; exact h H locs lsr hl hP hS) (fun q => by rw [if_neg q] at h; exact h H locs lsr hl hP hS)
    · obtain ⟨rfl, h⟩ := h
      replace h := z2_e h
      obtain ⟨x, y, r, rfl, h⟩ := h
      replace h := zj_e h
      obtain ⟨t, ht, h⟩ := h
      exact lv_icmp_eq hx hb hd ht (fun q => by rw [if_pos q] at h; exact h H locs lsr hl hP hS) (fun q => by rw [if_neg q] at h; exact h H locs lsr hl hP hS)
    · obtain ⟨rfl, h⟩ := h
      replace h := z2_e h
      obtain ⟨x, y, r, rfl, h⟩ := h
      replace h := zj_e h
      obtain ⟨t, ht, h⟩ := h
      exact lv_icmp_ne hx hb hd ht (fun q => by rw [if_neg q] at h; exact h H locs lsr hl hP hS) (fun q => by rw [if_pos q] at h; exact h H locs lsr hl hP hS)
    · obtain ⟨rfl, h⟩ := h
      replace h := z2_e h
      obtain ⟨x, y, r, rfl, h⟩ := h
      replace h := zj_e h
      obtain ⟨t, ht, h⟩ := h
      exact lv_icmp_lt hx hb hd ht (fun q => by rw [if_pos q] at h; exact h H locs lsr hl hP hS) (fun q => by rw [if_neg q] at h; exact h H locs lsr hl hP hS)
    · obtain ⟨rfl, h⟩ := h
      replace h := z2_e h
      obtain ⟨x, y, r, rfl, h⟩ := h
      replace h := zj_e h
      obtain ⟨t, ht, h⟩ := h
      exact lv_icmp_ge hx hb hd ht (fun q => by rw [if_pos q] at h; exact h H locs lsr hl hP hS) (fun q => by rw [if_neg q] at h; exact h H locs lsr hl hP hS)
    · obtain ⟨rfl, h⟩ := h
      replace h := z2_e h
      obtain ⟨x, y, r, rfl, h⟩ := h
      replace h := zj_e h
      obtain ⟨t, ht, h⟩ := h
      exact lv_icmp_gt hx hb hd ht (fun q => by rw [if_pos q] at h; exact h H locs lsr hl hP hS) (fun q => by rw [if_neg q] at h; exact h H locs lsr hl hP hS)
    · obtain ⟨rfl, h⟩ := h
      replace h := z2_e h
      obtain ⟨x, y, r, rfl, h⟩ := h
      replace h := zj_e h
      obtain ⟨t, ht, h⟩ := h
      exact lv_icmp_le hx hb hd ht (fun q => by rw [if_pos q] at h; exact h H locs lsr hl hP hS) (fun q => by rw [if_neg q] at h; exact h H locs lsr hl hP hS)
    · replace h := z1_e h
      obtain ⟨x, r, rfl, h⟩ := h
      split at h
      · rename_i hc
        replace h := zj_e h
        obtain ⟨t, ht, h⟩ := h
        exact lv_tableOut hx hb hd hc ht (h H locs lsr hl hP hS)
      · rename_i hc
        split at h
        · rename_i off ho
          replace h := zj_e h
          obtain ⟨t, ht, h⟩ := h
          exact lv_tableIn hx hb hd (fun q => hc (Or.inl q)) (fun q => hc (Or.inr q)) ho ht (h H locs lsr hl hP hS)
        · exact h.elim
    · obtain ⟨rfl, h⟩ := h
      unfold zgf at h
      replace h := z1r_e h
      obtain ⟨a, r, rfl, h⟩ := h
      split at h
      · rename_i hj
        obtain ⟨a1, a2, h⟩ := h
        split at h
        · rename_i hi; subst hi; exact zr_strv C hS hj a1 a2 hd (h H locs lsr hl hP hS)
        · split at h
          · rename_i hi; subst hi; exact zr_strc C hS hj a1 a2 hd (h H locs lsr hl hP hS)
          · exact h.elim
      · split at h
        · rename_i ty k fin oks hF
          exact zr_get C hP hF h.1 h.2.1 hd (h.2.2 H locs lsr hl hP hS)
        · exact h.elim
    · obtain ⟨rfl, h⟩ := h
      unfold zpf at h
      replace h := z2v_e h
      obtain ⟨w, y, r, rfl, h⟩ := h
      split at h
      · rename_i a
        split at h
        · rename_i ty k fin oks hF
          obtain ⟨ha, hok, hfn, h⟩ := h
          split at h
          · rename_i x
            refine zr_put C hP hS hF ha hok hfn hd (fun t t0 _ _ _ => ?_) (fun j => ?_) (fun _ _ _ => rfl) (fun _ _ hc => zup_c hc) (fun _ _ _ => rfl) (fun H1 locs1 p1 q1 => h H1 locs1 lsr hl p1 q1)
            · rw [t0 rfl]; exact ⟨rfl, rfl⟩
            · exact zput_i (zF_ty hF hok) j
          · rename_i x
            obtain ⟨h01, h⟩ := h
            refine zr_put C hP hS hF ha hok hfn hd (fun t _ t1 _ _ => ?_) (fun j => ?_) (fun _ _ _ => rfl) (fun _ _ hc => zup_c hc) (fun _ _ _ => rfl) (fun H1 locs1 p1 q1 => h H1 locs1 lsr hl p1 q1)
            · rw [t1 rfl]; rcases h01 with rfl | rfl <;> exact ⟨rfl, rfl⟩
            · exact zput_z (zF_ty hF hok) j
          · rename_i x
            refine zr_put C hP hS hF ha hok hfn hd (fun t _ _ t2 _ => ?_) (fun j => ?_) (fun _ _ _ => rfl) (fun _ _ _ => rfl) (fun _ _ hc => zup_c hc) (fun H1 locs1 p1 q1 => h H1 locs1 lsr hl p1 q1)
            · rw [t2 rfl]; exact ⟨rfl, rfl⟩
            · exact zput_l (zF_ty hF hok) j
          · rename_i b
            refine zr_put C hP hS hF ha hok hfn hd (fun t _ _ _ t3 => ?_) (fun j => ?_) (fun _ _ hc => zup_c hc) (fun _ _ _ => rfl) (fun _ _ _ => rfl) (fun H1 locs1 p1 q1 => h H1 locs1 lsr hl p1 q1)
            · rcases t3 rfl with ⟨n, rfl⟩ | ⟨n, rfl⟩ <;> exact ⟨rfl, rfl⟩
            · exact zput_r (zF_ty hF hok) j
          · exact h.elim
        · exact h.elim
      · exact h.elim
    · obtain ⟨rfl, hj, h⟩ := h
      split at h
      · rename_i hi; subst hi; exact zr_gst C hS hj hd (h H locs lsr hl hP hS)
      · split at h
        · rename_i hi; subst hi; exact zr_gsf C hS hj hd (h H locs lsr hl hP hS)
        · exact h.elim
    · obtain ⟨rfl, h⟩ := h
      replace h := zra_e h
      obtain ⟨a, i, r, rfl, h⟩ := h
      split at h
      · rename_i ha
        subst ha
        split at h
        · exact va_sld hx hb hscr.1 hscr.2.1 hscr.2.2 hS h.1 hd (h.2 H locs lsr hl hP hS)
        · exact h.elim
      · exact zr_ild C hP h.1 hd (h.2 H locs lsr hl hP hS)
    · obtain ⟨rfl, h⟩ := h
      replace h := zra_e h
      obtain ⟨a, i, r, rfl, h⟩ := h
      split at h
      · rename_i ha
        exact zr_byt C hS ha.1 ha.2 h.1 hd (h.2 H locs lsr hl hP hS)
      · exact zr_zld C hP h.1 hd (h.2 H locs lsr hl hP hS)
    · obtain ⟨rfl, h⟩ := h
      replace h := zra_e h
      obtain ⟨a, i, r, rfl, h⟩ := h
      exact zr_lld C hP h.1 hd (h.2 H locs lsr hl hP hS)
    · obtain ⟨rfl, h⟩ := h
      replace h := zra_e h
      obtain ⟨a, i, r, rfl, h⟩ := h
      exact zr_ald C hP h.1 h.2.1 h.2.2.1 hd (h.2.2.2 H locs lsr hl hP hS)
    · obtain ⟨rfl, h⟩ := h
      replace h := zia_e h
      obtain ⟨a, i, x, r, rfl, h⟩ := h
      exact zr_ist C hP hS h.1 hd (fun H1 locs1 p1 q1 => h.2 H1 locs1 lsr hl p1 q1)
    · obtain ⟨rfl, h⟩ := h
      replace h := zia_e h
      obtain ⟨a, i, x, r, rfl, h⟩ := h
      exact zr_zst C hP hS h.1 h.2.1 hd (fun H1 locs1 p1 q1 => h.2.2 H1 locs1 lsr hl p1 q1)
    · obtain ⟨rfl, h⟩ := h
      replace h := zil_e h
      obtain ⟨a, i, x, r, rfl, h⟩ := h
      exact zr_lst C hP hS h.1 hd (fun H1 locs1 p1 q1 => h.2 H1 locs1 lsr hl p1 q1)
    · obtain ⟨rfl, h⟩ := h
      replace h := zir_e h
      obtain ⟨a, i, x, r, rfl, h⟩ := h
      exact zr_ast C hP hS h.1 h.2.1 h.2.2.1 h.2.2.2.1 hd (fun H1 locs1 p1 q1 => h.2.2.2.2 H1 locs1 lsr hl p1 q1)
    · obtain ⟨rfl, h⟩ := h
      replace h := z1r_e h
      obtain ⟨a, r, rfl, h⟩ := h
      split at h
      · rename_i ha
        subst ha
        split at h
        · exact va_slen hx hb hscr.1 hscr.2.1 hscr.2.2 hS hd (h H locs lsr hl hP hS)
        · exact h.elim
      · split at h
        · rename_i ha
          exact zr_bln C hS ha.1 ha.2 hd (h H locs lsr hl hP hS)
        · exact zr_alen C hP h.1 h.2.1 hd (h.2.2.2 H locs lsr hl hP hS)
    · obtain ⟨rfl, h⟩ := h
      split at h
      · rename_i ci hN
        exact zr_new C hP hS hN h.1 h.2.1 h.2.2.1 hd (fun H1 locs1 p1 q1 => h.2.2.2.2 H1 locs1 lsr hl p1 q1)
      · exact h.elim
    · obtain ⟨rfl, h⟩ := h
      replace h := z1_e h
      obtain ⟨x, r, rfl, hx0, h⟩ := h
      split at h
      · exact zr_newa C hP hS (Or.inl ⟨rfl, rfl⟩) hx0 h.1 h.2.1 h.2.2.1 h.2.2.2.1 hd (fun H1 locs1 p1 q1 => h.2.2.2.2 H1 locs1 lsr hl p1 q1)
      · exact zr_newa C hP hS (Or.inr (Or.inl ⟨rfl, rfl⟩)) hx0 h.1 h.2.1 h.2.2.1 h.2.2.2.1 hd (fun H1 locs1 p1 q1 => h.2.2.2.2 H1 locs1 lsr hl p1 q1)
      · exact zr_newa C hP hS (Or.inr (Or.inr ⟨rfl, rfl⟩)) hx0 h.1 h.2.1 h.2.2.1 h.2.2.2.1 hd (fun H1 locs1 p1 q1 => h.2.2.2.2 H1 locs1 lsr hl p1 q1)
      · exact h.elim
    · obtain ⟨rfl, h⟩ := h
      replace h := z1_e h
      obtain ⟨x, r, rfl, hx0, h⟩ := h
      split at h
      · rename_i kd hA
        exact zr_anew C hP hS hA hx0 h.1 h.2.1 h.2.2.1 h.2.2.2.1 hd (fun H1 locs1 p1 q1 => h.2.2.2.2 H1 locs1 lsr hl p1 q1)
      · exact h.elim
    · obtain ⟨rfl, rfl, hj, rfl, h⟩ := h
      replace h := z2_e h
      obtain ⟨x, y, r, rfl, hx0, hy0, h⟩ := h
      exact zr_mul C hP hS hj hx0 hy0 h.1 h.2.1 h.2.2.1 h.2.2.2.1 h.2.2.2.2.1 hd (fun H1 locs1 p1 q1 => h.2.2.2.2.2 H1 locs1 lsr hl p1 q1)
    · obtain ⟨rfl, h⟩ := h
      split at h
      · rename_i k ts hV
        replace h := z1r_e h
        obtain ⟨a, r, hst, h⟩ := h
        obtain ⟨em, elen⟩ := zmap_drop (E := E) hst
        rw [em]
        have go : ∀ kd, (∃ cell : Cell, H[zad E a]? = some cell ∧ cell.vm.isStatics = false ∧ s.vm.findClass (zR0 kd) = some cell.cls) → (match ts.find? (fun t => t.1 == kd) with
            | some t => zcl (zX p l e R s m args below meth c E mm Qe) (zW d) mm pc ls u v σ ρ I L t.2.1 (.ref a :: (st.take k).reverse) r
            | none => False) → W p l e R s m args below meth c H locs u v Qe (F0 m pc lsr (((st.take k).reverse.map (zco E)).reverse ++ .ref (zad E a) :: r.map (zco E))) := by
          intro kd hrc h
          split at h
          · rename_i t ht
            unfold zcl at h
            split at h
            · rename_i cm hcm
              obtain ⟨g1, g2, g3, h⟩ := h
              exact zr_iv C hP hS hl.1 hV ht hrc hcm elen g1 g2 g3 (hIH _ _ hcm _ _ _ _ _ _ h) hd (fun o σ1 ρ1 I1 L1 H1 locs1 q1 p1 s1 => by rw [zback]; exact q1 H1 locs1 lsr hl p1 s1)
            · exact h.elim
          · exact h.elim
        unfold zkd at h
        split at h
        · rename_i ha
          refine go _ ?_ h.2
          rcases hP.2.2 a ha with ⟨h12, cell, g1, g2, g3, g4⟩ | ⟨h20, -, -⟩
          · obtain ⟨r0, hr0, hr1, -⟩ := zcl_row h12
            obtain ⟨-, hat⟩ := C.2.2.2.2.2.2.1.1.1 _ r0 hr0
            exact ⟨cell, by rw [hP.adr ha]; exact g1, by rw [g3]; rfl, by rw [g2, ← hr1]; exact hat.1⟩
          · have := h.1; omega
        · split at h
          · rename_i ha0 ha
            refine go 20 ?_ h
            have := vk_recv (H := H) C.2.2.2.2.2.2.1.2.1 (i := a - 5000) (by omega) hS
            have e1 : zad E a = E.2.1 (a - 5000) := by unfold zad; rw [if_neg (by omega), if_pos (by omega)]
            rw [e1]
            exact this
          · exact h.elim
      · exact h.elim
    · obtain ⟨rfl, h⟩ := h
      split at h
      · rename_i hO
        replace h := z1r_e h
        obtain ⟨a, r, rfl, h⟩ := h
        obtain ⟨w2, w3⟩ := zO_w
        have hw := zO_row hO
        refine W.objInit hx hb hown (hts _ hw) (hts _ (zTG_in w2 rfl)) (hts _ (zTG_in w3 rfl)) rfl (by show lsr.size = _; rw [hl.1]; exact C.2.2.1.symm) rfl hd ?_ ?_ (h.2 H locs lsr hl hP hS)
        · have := C.2.2.2.2.2.2.2.1; omega
        · have h8 := C.2.2.2.2.2.2.2.2.1
          have h9 := h.1
          show 2 * 0 + ((r.map (zco E)).map fun v => v.category).sum + 12 ≤ _
          rw [zsum_co hE]
          omega
      · split at h
        · rename_i k mi md hI
          replace h := z1r_e h
          obtain ⟨a, r, hst, ha, hak, h⟩ := h
          obtain ⟨em, elen⟩ := zmap_drop (E := E) hst
          rw [em]
          unfold zcl at h
          split at h
          · rename_i cm hcm
            obtain ⟨g1, g2, g3, h⟩ := h
            exact zr_ii C hP hS hl.1 hI ha hak hcm elen g1 g2 g3 (hIH _ _ hcm _ _ _ _ _ _ h) hd (fun o σ1 ρ1 I1 L1 H1 locs1 q1 p1 s1 => by rw [zback]; exact q1 H1 locs1 lsr hl p1 s1)
          · exact h.elim
        · exact h.elim
    · obtain ⟨rfl, h⟩ := h
      split at h
      · rename_i hc
        obtain ⟨hj, rfl⟩ := hc
        unfold zcpy at h
        split at h
        · obtain ⟨a1, a2, a3, a4, a5, a6, a7, a8, a9, a10, h⟩ := h
          exact zr_cpy C hP hS hl.1 hj a1 a2 a3 a4 a5 a6 a7 a8 a9 (by rw [zsum_co hE]; exact a10) hd (fun H1 locs1 p1 q1 => h H1 locs1 lsr hl p1 q1)
        · exact h.elim
      · split at h
        · rename_i hc
          obtain ⟨hj, rfl⟩ := hc
          replace h := z2_e h
          obtain ⟨x, y, r, rfl, h0, hu, hv, h⟩ := h
          obtain ⟨w1, w2, w3, w4⟩ := zB_max
          rw [hj] at hown
          refine va_mmax hx hb hml hown (hts _ (zTG_in w1 rfl)) (hts _ (zTG_in w2 rfl)) (hts _ (zTG_in w3 rfl)) (hts _ (zTG_in w4 rfl)) (by have := C.2.2.2.2.2.2.2.1; omega) (by have := C.2.2.2.2.2.2.2.2.1; rw [zsum_co hE]; omega) (by rw [C.2.2.2.2.2.2.2.2.2.1]; exact hu) (by rw [C.2.2.2.2.2.2.2.2.2.2]; exact hv) hd (h H locs lsr hl hP hS)
        · split at h
          · rename_i hc
            obtain ⟨hj, rfl⟩ := hc
            replace h := z2_e h
            obtain ⟨x, y, r, rfl, h0, hu, hv, h⟩ := h
            obtain ⟨w1, w2, w3, w4⟩ := zB_min
            rw [hj] at hown
            refine va_mmin hx hb hml hown (hts _ (zTG_in w1 rfl)) (hts _ (zTG_in w2 rfl)) (hts _ (zTG_in w3 rfl)) (hts _ (zTG_in w4 rfl)) (by have := C.2.2.2.2.2.2.2.1; omega) (by have := C.2.2.2.2.2.2.2.2.1; rw [zsum_co hE]; omega) (by rw [C.2.2.2.2.2.2.2.2.2.1]; exact hu) (by rw [C.2.2.2.2.2.2.2.2.2.2]; exact hv) hd (h H locs lsr hl hP hS)
          · split at h
            · rename_i k mi hS0
              obtain ⟨hk, h⟩ := h
              obtain ⟨em, elen⟩ := zmap_take (E := E) hk
              rw [em]
              unfold zcl at h
              split at h
              · rename_i cm hcm
                obtain ⟨g1, g2, g3, h⟩ := h
                exact zr_is C hP hS hl.1 hS0 hcm elen g1 g2 g3 (hIH _ _ hcm _ _ _ _ _ _ h) hd (fun o σ1 ρ1 I1 L1 H1 locs1 q1 p1 s1 => by rw [zback]; exact q1 H1 locs1 lsr hl p1 s1)
              · exact h.elim
            · exact h.elim
    · obtain ⟨rfl, h⟩ := h
      split at h
      · rename_i x
        split at h
        · rename_i ty hty
          obtain ⟨hn, -, h1, h2, h⟩ := h
          exact hend _ σ ρ I L u v pc H locs lsr h1 h2 h hP hS (Or.inl ⟨x, ty, rfl, hty, hn, hd⟩)
        · exact h.elim
      · exact h.elim
    · obtain ⟨rfl, h⟩ := h
      split at h
      · rename_i x
        obtain ⟨hty, h1, h2, h⟩ := h
        exact hend _ σ ρ I L u v pc H locs lsr h1 h2 h hP hS (Or.inr (Or.inl ⟨x, rfl, hty, hd⟩))
      · exact h.elim
    · obtain ⟨rfl, h⟩ := h
      split at h
      · obtain ⟨hty, h1, h2, h⟩ := h
        exact hend _ σ ρ I L u v pc H locs lsr h1 h2 h hP hS (Or.inr (Or.inr ⟨rfl, hty, hd⟩))
      · exact h.elim
    · exact h.elim
  · exact h.elim
end ZK
