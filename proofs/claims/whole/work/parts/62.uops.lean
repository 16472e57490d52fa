/-! OPERATIONS of frames that make things, and of the law: with counters and the script -/
def zu (scr : zSc) (d : Nat) (mm : zM) (Q : zPo) (cu cv : Nat) (pc : Nat) (ls : zLo) (st : List Value) (σ : zSh) (ρ : zRf) (I : zIm) (L : zLm) : Prop := zR scr (zW d) mm Q pc ls st cu cv σ ρ I L
section ZU
variable {scr : zSc} {cu cv : Nat} {d : Nat} {mm : zM} {Q : zPo} {pc : Nat} {ls ls' : zLo} {st : List Value} {σ : zSh} {ρ : zRf} {I : zIm} {L : zLm}
theorem ol_iconst {k : Int} {v : Int32} (hd : decode mm.2.1 pc = .ok (.iconst k, 1)) (hv : Int32.ofInt k = v) : zu scr d mm Q cu cv pc ls st σ ρ I L = zu scr d mm Q cu cv (pc + 1) ls (.int v :: st) σ ρ I L := by
  unfold zu; rw [zR_op hd, ← hv]; show (1 = 1 ∧ _) = _; rw [eq_self, true_and]
theorem ol_bipush {k : Int} {v : Int32} (hd : decode mm.2.1 pc = .ok (.bipush k, 2)) (hv : (Int8.ofInt k).toInt32 = v) : zu scr d mm Q cu cv pc ls st σ ρ I L = zu scr d mm Q cu cv (pc + 2) ls (.int v :: st) σ ρ I L := by
  unfold zu; rw [zR_op hd, ← hv]; show (2 = 2 ∧ _) = _; rw [eq_self, true_and]
theorem ol_sipush {k : Int} {v : Int32} (hd : decode mm.2.1 pc = .ok (.sipush k, 3)) (hv : (Int16.ofInt k).toInt32 = v) : zu scr d mm Q cu cv pc ls st σ ρ I L = zu scr d mm Q cu cv (pc + 3) ls (.int v :: st) σ ρ I L := by
  unfold zu; rw [zR_op hd, ← hv]; show (3 = 3 ∧ _) = _; rw [eq_self, true_and]
theorem ol_lconst {k : Fin 2} {v : Int64} (hd : decode mm.2.1 pc = .ok (.lconst k, 1)) (hv : Int64.ofNat (k : Nat) = v) : zu scr d mm Q cu cv pc ls st σ ρ I L = zu scr d mm Q cu cv (pc + 1) ls (.long v :: st) σ ρ I L := by
  unfold zu; rw [zR_op hd, ← hv]; show (1 = 1 ∧ _) = _; rw [eq_self, true_and]
theorem ol_ldc2_w {i : Nat} {v : Int64} (hd : decode mm.2.1 pc = .ok (.ldc2_w i, 3)) (hk : zK mm.2.2.2.2.1 i = some (.long v)) : zu scr d mm Q cu cv pc ls st σ ρ I L = zu scr d mm Q cu cv (pc + 3) ls (.long v :: st) σ ρ I L := by
  unfold zu; rw [zR_op hd]; show (3 = 3 ∧ zkons _ _ _) = _; unfold zkons; rw [hk, eq_self, true_and]
theorem ol_iload {i : Nat} {x : Int32} (hd : decode mm.2.1 pc = .ok (.iload i, 2)) (hl : zlg ls i = some (.int x)) : zu scr d mm Q cu cv pc ls st σ ρ I L = zu scr d mm Q cu cv (pc + 2) ls (.int x :: st) σ ρ I L := by
  unfold zu; rw [zR_op hd]; unfold zstp; simp only [hl, true_and]
theorem ol_iload_n {i : Fin 4} {x : Int32} (hd : decode mm.2.1 pc = .ok (.iload_n i, 1)) (hl : zlg ls i = some (.int x)) : zu scr d mm Q cu cv pc ls st σ ρ I L = zu scr d mm Q cu cv (pc + 1) ls (.int x :: st) σ ρ I L := by
  unfold zu; rw [zR_op hd]; unfold zstp; simp only [hl, true_and]
theorem ol_lload_n {i : Fin 4} {x : Int64} (hd : decode mm.2.1 pc = .ok (.lload_n i, 1)) (hl : zlg ls i = some (.long x)) : zu scr d mm Q cu cv pc ls st σ ρ I L = zu scr d mm Q cu cv (pc + 1) ls (.long x :: st) σ ρ I L := by
  unfold zu; rw [zR_op hd]; unfold zstp; simp only [hl, true_and]
theorem ol_aload_n {i : Fin 4} {x : Nat} (hd : decode mm.2.1 pc = .ok (.aload_n i, 1)) (hl : zlg ls i = some (.ref x)) : zu scr d mm Q cu cv pc ls st σ ρ I L = zu scr d mm Q cu cv (pc + 1) ls (.ref x :: st) σ ρ I L := by
  unfold zu; rw [zR_op hd]; unfold zstp; simp only [hl, true_and]
theorem ol_istore_n {i : Fin 4} {x : Int32} (hd : decode mm.2.1 pc = .ok (.istore_n i, 1)) (hi : (i : Nat) < ls.length) (hs : zs1 ls i (.int x) = ls') : zu scr d mm Q cu cv pc ls (.int x :: st) σ ρ I L = zu scr d mm Q cu cv (pc + 1) ls' st σ ρ I L := by
  unfold zu; rw [zR_op hd, ← hs]; unfold zstp z1; simp only [hi, true_and]
theorem ol_astore_n {i : Fin 4} {x : Nat} (hd : decode mm.2.1 pc = .ok (.astore_n i, 1)) (hi : (i : Nat) < ls.length) (hs : zs1 ls i (.ref x) = ls') : zu scr d mm Q cu cv pc ls (.ref x :: st) σ ρ I L = zu scr d mm Q cu cv (pc + 1) ls' st σ ρ I L := by
  unfold zu; rw [zR_op hd, ← hs]; unfold zstp z1r; simp only [hi, true_and]
theorem ol_iinc {i : Nat} {k : Int} {x v : Int32} (hd : decode mm.2.1 pc = .ok (.iinc i k, 3)) (hl : zlg ls i = some (.int x)) (hv : Int32.ofInt k = v) (hs : zs1 ls i (.int (x + v)) = ls') : zu scr d mm Q cu cv pc ls st σ ρ I L = zu scr d mm Q cu cv (pc + 3) ls' st σ ρ I L := by
  unfold zu; rw [zR_op hd, ← hs, ← hv]; unfold zstp; simp only [hl, true_and]
theorem ol_iadd {x y : Int32} (hd : decode mm.2.1 pc = .ok (.iadd, 1)) : zu scr d mm Q cu cv pc ls (.int y :: .int x :: st) σ ρ I L = zu scr d mm Q cu cv (pc + 1) ls (.int (x + y) :: st) σ ρ I L := by
  unfold zu; rw [zR_op hd]; unfold zstp z2; simp only [true_and]
theorem ol_isub {x y : Int32} (hd : decode mm.2.1 pc = .ok (.isub, 1)) : zu scr d mm Q cu cv pc ls (.int y :: .int x :: st) σ ρ I L = zu scr d mm Q cu cv (pc + 1) ls (.int (x - y) :: st) σ ρ I L := by
  unfold zu; rw [zR_op hd]; unfold zstp z2; simp only [true_and]
theorem ol_iand {x y : Int32} (hd : decode mm.2.1 pc = .ok (.iand, 1)) : zu scr d mm Q cu cv pc ls (.int y :: .int x :: st) σ ρ I L = zu scr d mm Q cu cv (pc + 1) ls (.int (x &&& y) :: st) σ ρ I L := by
  unfold zu; rw [zR_op hd]; unfold zstp z2; simp only [true_and]
theorem ol_i2l {x : Int32} (hd : decode mm.2.1 pc = .ok (.i2l, 1)) : zu scr d mm Q cu cv pc ls (.int x :: st) σ ρ I L = zu scr d mm Q cu cv (pc + 1) ls (.long x.toInt64 :: st) σ ρ I L := by
  unfold zu; rw [zR_op hd]; unfold zstp z1; simp only [true_and]
theorem ol_lshl {x : Int64} {y : Int32} (hd : decode mm.2.1 pc = .ok (.lshl, 1)) : zu scr d mm Q cu cv pc ls (.int y :: .long x :: st) σ ρ I L = zu scr d mm Q cu cv (pc + 1) ls (.long (x <<< (y.toInt64 &&& 63)) :: st) σ ρ I L := by
  unfold zu; rw [zR_op hd]; unfold zstp zli; simp only [true_and]
theorem ol_land {x y : Int64} (hd : decode mm.2.1 pc = .ok (.land, 1)) : zu scr d mm Q cu cv pc ls (.long y :: .long x :: st) σ ρ I L = zu scr d mm Q cu cv (pc + 1) ls (.long (x &&& y) :: st) σ ρ I L := by
  unfold zu; rw [zR_op hd]; unfold zstp z2l; simp only [true_and]
theorem ol_lor {x y : Int64} (hd : decode mm.2.1 pc = .ok (.lor, 1)) : zu scr d mm Q cu cv pc ls (.long y :: .long x :: st) σ ρ I L = zu scr d mm Q cu cv (pc + 1) ls (.long (x ||| y) :: st) σ ρ I L := by
  unfold zu; rw [zR_op hd]; unfold zstp z2l; simp only [true_and]
theorem ol_lcmp {x y : Int64} (hd : decode mm.2.1 pc = .ok (.lcmp, 1)) : zu scr d mm Q cu cv pc ls (.long y :: .long x :: st) σ ρ I L = zu scr d mm Q cu cv (pc + 1) ls (.int (lg_cmp x y) :: st) σ ρ I L := by
  unfold zu; rw [zR_op hd]; unfold zstp z2l; simp only [true_and]
theorem ol_dup {w : Value} (hd : decode mm.2.1 pc = .ok (.dup, 1)) (hw : w.category = 1) : zu scr d mm Q cu cv pc ls (w :: st) σ ρ I L = zu scr d mm Q cu cv (pc + 1) ls (w :: w :: st) σ ρ I L := by
  unfold zu; rw [zR_op hd]; unfold zstp z1v; simp only [hw, true_and]
theorem ol_goto {off : Int} {t : Nat} (hd : decode mm.2.1 pc = .ok (.goto off, 3)) (ht : (pc : Int) + off = (t : Int)) : zu scr d mm Q cu cv pc ls st σ ρ I L = zu scr d mm Q cu cv t ls st σ ρ I L := by
  unfold zu; rw [zR_op hd]; unfold zstp; simp only [zj_at ht, true_and]
theorem ol_ifeq {x : Int32} {off : Int} {t : Nat} (hd : decode mm.2.1 pc = .ok (.ifCond .eq off, 3)) (ht : (pc : Int) + off = (t : Int)) : zu scr d mm Q cu cv pc ls (.int x :: st) σ ρ I L = if x = nI 0 then zu scr d mm Q cu cv t ls st σ ρ I L else zu scr d mm Q cu cv (pc + 3) ls st σ ρ I L := by
  unfold zu; rw [zR_op hd]; unfold zstp z1; simp only [zj_at ht, true_and, nI_0]
theorem ol_ifne {x : Int32} {off : Int} {t : Nat} (hd : decode mm.2.1 pc = .ok (.ifCond .ne off, 3)) (ht : (pc : Int) + off = (t : Int)) : zu scr d mm Q cu cv pc ls (.int x :: st) σ ρ I L = if x = nI 0 then zu scr d mm Q cu cv (pc + 3) ls st σ ρ I L else zu scr d mm Q cu cv t ls st σ ρ I L := by
  unfold zu; rw [zR_op hd]; unfold zstp z1; simp only [zj_at ht, true_and, nI_0]
theorem ol_icmpeq {x y : Int32} {off : Int} {t : Nat} (hd : decode mm.2.1 pc = .ok (.if_icmp .eq off, 3)) (ht : (pc : Int) + off = (t : Int)) : zu scr d mm Q cu cv pc ls (.int y :: .int x :: st) σ ρ I L = if x = y then zu scr d mm Q cu cv t ls st σ ρ I L else zu scr d mm Q cu cv (pc + 3) ls st σ ρ I L := by
  unfold zu; rw [zR_op hd]; unfold zstp z2; simp only [zj_at ht, true_and]
theorem ol_icmpne {x y : Int32} {off : Int} {t : Nat} (hd : decode mm.2.1 pc = .ok (.if_icmp .ne off, 3)) (ht : (pc : Int) + off = (t : Int)) : zu scr d mm Q cu cv pc ls (.int y :: .int x :: st) σ ρ I L = if x = y then zu scr d mm Q cu cv (pc + 3) ls st σ ρ I L else zu scr d mm Q cu cv t ls st σ ρ I L := by
  unfold zu; rw [zR_op hd]; unfold zstp z2; simp only [zj_at ht, true_and]
theorem ol_icmpge {x y : Int32} {off : Int} {t : Nat} (hd : decode mm.2.1 pc = .ok (.if_icmp .ge off, 3)) (ht : (pc : Int) + off = (t : Int)) : zu scr d mm Q cu cv pc ls (.int y :: .int x :: st) σ ρ I L = if y ≤ x then zu scr d mm Q cu cv t ls st σ ρ I L else zu scr d mm Q cu cv (pc + 3) ls st σ ρ I L := by
  unfold zu; rw [zR_op hd]; unfold zstp z2; simp only [zj_at ht, true_and]
theorem ol_icmpgt {x y : Int32} {off : Int} {t : Nat} (hd : decode mm.2.1 pc = .ok (.if_icmp .gt off, 3)) (ht : (pc : Int) + off = (t : Int)) : zu scr d mm Q cu cv pc ls (.int y :: .int x :: st) σ ρ I L = if y < x then zu scr d mm Q cu cv t ls st σ ρ I L else zu scr d mm Q cu cv (pc + 3) ls st σ ρ I L := by
  unfold zu; rw [zR_op hd]; unfold zstp z2; simp only [zj_at ht, true_and]
theorem ol_switch {x : Int32} {dflt lo hi : Int} {offs : Array Int} {n : Nat} {ts : List Nat} {dt : Nat} (hd : decode mm.2.1 pc = .ok (.tableswitch dflt lo hi offs, n)) (ht : (pc : Int) + dflt = (dt : Int)) (hl : (ts.length : Int) = hi - lo + 1) (ho : offs.toList.map (fun o => (pc : Int) + o) = ts.map Int.ofNat) : zu scr d mm Q cu cv pc ls (.int x :: st) σ ρ I L = zu scr d mm Q cu cv (zsw x lo hi ts dt) ls st σ ρ I L := by
  unfold zu; rw [zR_op hd]
  show (if x.toInt < lo ∨ hi < x.toInt then zj pc dflt fun t => _ else _) = _
  unfold zsw
  by_cases h : x.toInt < lo ∨ hi < x.toInt
  · rw [if_pos h, if_pos h, zj_at ht]
  · rw [if_neg h, if_neg h]
    have hk : (x.toInt - lo).toNat < ts.length := by omega
    have hlen : offs.toList.length = ts.length := by have := congrArg List.length ho; simpa using this
    have hk2 : (x.toInt - lo).toNat < offs.size := by rw [← Array.length_toList]; omega
    have e1 : offs[(x.toInt - lo).toNat]? = some offs[(x.toInt - lo).toNat] := Array.getElem?_eq_getElem hk2
    rw [e1]
    have e2 : (pc : Int) + offs[(x.toInt - lo).toNat] = ((ts[(x.toInt - lo).toNat] : Nat) : Int) := by
      have := congrArg (fun l => l[(x.toInt - lo).toNat]?) ho
      simp [hk, hk2] at this
      exact this
    show zj pc _ _ = _
    rw [zj_at e2]
    rw [List.getD_eq_getElem?_getD, List.getElem?_eq_getElem hk]
    rfl
theorem ol_getfield {a i ty k : Nat} {fin : Bool} {oks : List Nat} (hd : decode mm.2.1 pc = .ok (.getfield i, 3)) (hj : mm.2.2.2.2.1 ≠ 20) (hF : zF mm.2.2.2.2.1 i = some (ty, k, fin, oks)) (ha : a < σ.1) (ho : (σ.2 a).1 ∈ oks) : zu scr d mm Q cu cv pc ls (.ref a :: st) σ ρ I L = zu scr d mm Q cu cv (pc + 3) ls (zfv ty ρ I L a k :: st) σ ρ I L := by
  unfold zu; rw [zR_op hd]; unfold zstp zgf z1r; simp only [hF, ha, ho, true_and, if_neg hj]
theorem ol_getr {a i k c : Nat} {fin : Bool} {oks : List Nat} (hd : decode mm.2.1 pc = .ok (.getfield i, 3)) (hj : mm.2.2.2.2.1 ≠ 20) (hF : zF mm.2.2.2.2.1 i = some (3, k, fin, oks)) (ha : a < σ.1) (ho : (σ.2 a).1 ∈ oks) (hc : ρ a k = some c) : zu scr d mm Q cu cv pc ls (.ref a :: st) σ ρ I L = zu scr d mm Q cu cv (pc + 3) ls (.ref c :: st) σ ρ I L := by
  rw [ol_getfield hd hj hF ha ho]; unfold zfv; simp only [hc]; rfl
theorem ol_sload {N : Nat} {xs : Nat → Int32} {i : Int32} (hd : decode mm.2.1 pc = .ok (.iaload, 1)) (hs : scr = some (N, xs)) : zu scr d mm Q cu cv pc ls (.int i :: .ref 7000 :: st) σ ρ I L = (vp_in i N ∧ zu scr d mm Q cu cv (pc + 1) ls (.int (xs i.toNatClampNeg) :: st) σ ρ I L) := by
  subst hs; unfold zu; rw [zR_op hd]; unfold zstp zra; simp only [if_pos, true_and]
theorem ol_slen {N : Nat} {xs : Nat → Int32} (hd : decode mm.2.1 pc = .ok (.arraylength, 1)) (hs : scr = some (N, xs)) : zu scr d mm Q cu cv pc ls (.ref 7000 :: st) σ ρ I L = zu scr d mm Q cu cv (pc + 1) ls (.int (nI N) :: st) σ ρ I L := by
  subst hs; unfold zu; rw [zR_op hd]; unfold zstp z1r; simp only [if_pos, true_and]; rfl
theorem zcl_u {cm : zM} {mi : Nat} {as r : List Value} (hcm : zMs[mi]? = some cm) (hr : zsum r ≤ 8) (h1 : cu + cm.2.2.2.2.2.1 ≤ mm.2.2.2.2.2.1) (h2 : cv + cm.2.2.2.2.2.2 ≤ mm.2.2.2.2.2.2) : zcl (zR scr (zW d) mm Q) (zW d) mm pc ls cu cv σ ρ I L mi as r = zW d cm as σ ρ I L (fun w σ' ρ' I' L' => zu scr d mm Q (cu + cm.2.2.2.2.2.1) (cv + cm.2.2.2.2.2.2) (pc + 3) ls (w.toList ++ r) σ' ρ' I' L') := by
  unfold zcl zu; rw [hcm]; simp only [hr, h1, h2, true_and]
theorem ol_iv {cm : zM} {i k a kd : Nat} {ts : List (Nat × Nat × Nat × List Nat)} {t : Nat × Nat × Nat × List Nat} {as r : List Value} (hd : decode mm.2.1 pc = .ok (.invokevirtual i, 3)) (hV : zV mm.2.2.2.2.1 i = some (k, ts)) (hst : st = as.reverse ++ .ref a :: r) (hk : as.length = k) (ha : a < σ.1) (hkd : (σ.2 a).1 = kd) (h12 : kd < 12) (ht : ts.find? (fun t => t.1 == kd) = some t) (hcm : zMs[t.2.1]? = some cm) (hr : zsum r ≤ 8) (h1 : cm.2.2.2.2.2.1 = 0) (h2 : cm.2.2.2.2.2.2 = 0) (hu : cu ≤ mm.2.2.2.2.2.1) (hv : cv ≤ mm.2.2.2.2.2.2) :
    zu scr d mm Q cu cv pc ls st σ ρ I L = zW d cm (.ref a :: as) σ ρ I L (fun w σ' ρ' I' L' => zu scr d mm Q cu cv (pc + 3) ls (w.toList ++ r) σ' ρ' I' L') := by
  have e1 : st.drop k = .ref a :: r := by rw [hst, List.drop_left' (by simp [hk])]
  have e2 : st.take k = as.reverse := by rw [hst, List.take_left' (by simp [hk])]
  have e3 := zcl_u (scr := scr) (d := d) (Q := Q) (pc := pc) (ls := ls) (σ := σ) (ρ := ρ) (I := I) (L := L) (cu := cu) (cv := cv) (mm := mm) (as := .ref a :: as) hcm hr (by rw [h1]; exact hu) (by rw [h2]; exact hv)
  rw [h1, h2] at e3
  simp only [Nat.add_zero] at e3
  rw [← e3]
  unfold zu; rw [zR_op hd]; unfold zstp
  simp only [hV, e1, e2, z1r, zkd, if_pos ha, hkd, h12, ht, List.reverse_reverse, true_and]
theorem ol_sp {cm : zM} {i k mi md a : Nat} {as r : List Value} (hd : decode mm.2.1 pc = .ok (.invokespecial i, 3)) (hO : zO mm.2.2.2.2.1 i = false) (hI : zI mm.2.2.2.2.1 i = some (k, mi, md)) (hst : st = as.reverse ++ .ref a :: r) (hk : as.length = k) (ha : a < σ.1) (h12 : (σ.2 a).1 < 12) (hcm : zMs[mi]? = some cm) (hr : zsum r ≤ 8) (h1 : cu + cm.2.2.2.2.2.1 ≤ mm.2.2.2.2.2.1) (h2 : cv + cm.2.2.2.2.2.2 ≤ mm.2.2.2.2.2.2) :
    zu scr d mm Q cu cv pc ls st σ ρ I L = zW d cm (.ref a :: as) σ ρ I L (fun w σ' ρ' I' L' => zu scr d mm Q (cu + cm.2.2.2.2.2.1) (cv + cm.2.2.2.2.2.2) (pc + 3) ls (w.toList ++ r) σ' ρ' I' L') := by
  have e1 : st.drop k = .ref a :: r := by rw [hst, List.drop_left' (by simp [hk])]
  have e2 : st.take k = as.reverse := by rw [hst, List.take_left' (by simp [hk])]
  rw [← zcl_u hcm hr h1 h2 (as := .ref a :: as)]
  unfold zu; rw [zR_op hd]; unfold zstp
  simp only [hO, Bool.false_eq_true, if_false, hI, e1, e2, z1r, ha, h12, List.reverse_reverse, true_and]
theorem ol_obj {i a : Nat} (hd : decode mm.2.1 pc = .ok (.invokespecial i, 3)) (hO : zO mm.2.2.2.2.1 i = true) (hr : zsum st ≤ 8) : zu scr d mm Q cu cv pc ls (.ref a :: st) σ ρ I L = zu scr d mm Q cu cv (pc + 3) ls st σ ρ I L := by
  unfold zu; rw [zR_op hd]; unfold zstp; simp only [hO, if_true, z1r, hr, true_and]
theorem ol_new {i ci n : Nat} (hd : decode mm.2.1 pc = .ok (.new i, 3)) (hN : zN mm.2.2.2.2.1 i = some ci) (hn : (zfl.getD ci []).length = n) (h1 : cu + 1 ≤ mm.2.2.2.2.2.1) (h2 : cv + n ≤ mm.2.2.2.2.2.2) (h3 : σ.1 < 4000) (h4 : n ≤ 100000) : zu scr d mm Q cu cv pc ls st σ ρ I L = zu scr d mm Q (cu + 1) (cv + n) (pc + 3) ls (.ref σ.1 :: st) (zsh σ ci n) (zfr ρ σ.1 none) (zfr I σ.1 0) (zfr L σ.1 0) := by
  unfold zu; rw [zR_op hd]; unfold zstp; simp only [hN, hn, znew, h1, h2, h3, h4, true_and]
theorem ol_nai {n : Nat} {x : Int32} (hd : decode mm.2.1 pc = .ok (.newarray .int, 2)) (h0 : ¬ x < 0) (hn : x.toNatClampNeg = n) (h1 : cu + 1 ≤ mm.2.2.2.2.2.1) (h2 : cv + n ≤ mm.2.2.2.2.2.2) (h3 : σ.1 < 4000) (h4 : n ≤ 100000) : zu scr d mm Q cu cv pc ls (.int x :: st) σ ρ I L = zu scr d mm Q (cu + 1) (cv + n) (pc + 2) ls (.ref σ.1 :: st) (zsh σ 20 n) (zfr ρ σ.1 none) (zfr I σ.1 0) (zfr L σ.1 0) := by
  unfold zu; rw [zR_op hd]; unfold zstp z1; simp only [h0, not_false_eq_true, hn, znew, h1, h2, h3, h4, true_and]
theorem ol_naz {n : Nat} {x : Int32} (hd : decode mm.2.1 pc = .ok (.newarray .boolean, 2)) (h0 : ¬ x < 0) (hn : x.toNatClampNeg = n) (h1 : cu + 1 ≤ mm.2.2.2.2.2.1) (h2 : cv + n ≤ mm.2.2.2.2.2.2) (h3 : σ.1 < 4000) (h4 : n ≤ 100000) : zu scr d mm Q cu cv pc ls (.int x :: st) σ ρ I L = zu scr d mm Q (cu + 1) (cv + n) (pc + 2) ls (.ref σ.1 :: st) (zsh σ 21 n) (zfr ρ σ.1 none) (zfr I σ.1 0) (zfr L σ.1 0) := by
  unfold zu; rw [zR_op hd]; unfold zstp z1; simp only [h0, not_false_eq_true, hn, znew, h1, h2, h3, h4, true_and]
theorem ol_nal {n : Nat} {x : Int32} (hd : decode mm.2.1 pc = .ok (.newarray .long, 2)) (h0 : ¬ x < 0) (hn : x.toNatClampNeg = n) (h1 : cu + 1 ≤ mm.2.2.2.2.2.1) (h2 : cv + n ≤ mm.2.2.2.2.2.2) (h3 : σ.1 < 4000) (h4 : n ≤ 100000) : zu scr d mm Q cu cv pc ls (.int x :: st) σ ρ I L = zu scr d mm Q (cu + 1) (cv + n) (pc + 2) ls (.ref σ.1 :: st) (zsh σ 22 n) (zfr ρ σ.1 none) (zfr I σ.1 0) (zfr L σ.1 0) := by
  unfold zu; rw [zR_op hd]; unfold zstp z1; simp only [h0, not_false_eq_true, hn, znew, h1, h2, h3, h4, true_and]
theorem ol_ana {i kd n : Nat} {x : Int32} (hd : decode mm.2.1 pc = .ok (.anewarray i, 3)) (hA : zA mm.2.2.2.2.1 i = some kd) (h0 : ¬ x < 0) (hn : x.toNatClampNeg = n) (h1 : cu + 1 ≤ mm.2.2.2.2.2.1) (h2 : cv + n ≤ mm.2.2.2.2.2.2) (h3 : σ.1 < 4000) (h4 : n ≤ 100000) : zu scr d mm Q cu cv pc ls (.int x :: st) σ ρ I L = zu scr d mm Q (cu + 1) (cv + n) (pc + 3) ls (.ref σ.1 :: st) (zsh σ kd n) (zfr ρ σ.1 none) (zfr I σ.1 0) (zfr L σ.1 0) := by
  unfold zu; rw [zR_op hd]; unfold zstp z1; simp only [hA, h0, not_false_eq_true, hn, znew, h1, h2, h3, h4, true_and]
/-- int[n][k] -/
def zmS (σ : zSh) (n k : Nat) : zSh := (σ.1 + 1 + n, fun a => if a = σ.1 then (25, n) else if σ.1 < a ∧ a ≤ σ.1 + n then (20, k) else σ.2 a)
def zmR (ρ : zRf) (c n : Nat) : zRf := fun a j => if a = c then (if j < n then some (c + 1 + j) else none) else if c < a ∧ a ≤ c + n then none else ρ a j
def zm0 {α : Type} (f : Nat → Nat → α) (c n : Nat) (z : α) : Nat → Nat → α := fun a j => if c ≤ a ∧ a ≤ c + n then z else f a j
theorem ol_mul {n k : Nat} {x y : Int32} (hd : decode mm.2.1 pc = .ok (.multianewarray 33 2, 4)) (h9 : mm.2.2.2.2.1 = 9) (hx : ¬ x < 0) (hy : ¬ y < 0) (hn : x.toNatClampNeg = n) (hk : y.toNatClampNeg = k) (h1 : cu + (1 + n) ≤ mm.2.2.2.2.2.1) (h2 : cv + (n + n * k) ≤ mm.2.2.2.2.2.2) (h3 : σ.1 + n < 4000) (h4 : n ≤ 100) (h5 : k ≤ 100) : zu scr d mm Q cu cv pc ls (.int y :: .int x :: st) σ ρ I L = zu scr d mm Q (cu + 1 + n) (cv + n + n * k) (pc + 4) ls (.ref σ.1 :: st) (zmS σ n k) (zmR ρ σ.1 n) (zm0 I σ.1 n 0) (zm0 L σ.1 n 0) := by
  unfold zu; rw [zR_op hd]; unfold zstp z2; simp only [h9, hx, hy, not_false_eq_true, hn, hk, zmul, h1, h2, h3, h4, h5, true_and]
  rfl
theorem ol_puti {a i k : Nat} {fin : Bool} {oks : List Nat} {x : Int32} (hd : decode mm.2.1 pc = .ok (.putfield i, 3)) (hF : zF mm.2.2.2.2.1 i = some (0, k, fin, oks)) (ha : a < σ.1) (ho : (σ.2 a).1 ∈ oks) (hi : mm.1.name = "<init>") (hc : (σ.2 a).1 = mm.2.2.2.2.1) : zu scr d mm Q cu cv pc ls (.int x :: .ref a :: st) σ ρ I L = zu scr d mm Q cu cv (pc + 3) ls st σ ρ (zup I a k x) L := by
  have hf : fin = true → mm.1.name = "<init>" ∧ (σ.2 a).1 = mm.2.2.2.2.1 := fun _ => ⟨hi, hc⟩
  unfold zu; rw [zR_op hd]; unfold zstp zpf z2v; simp only [hF, ha, ho, true_and]
  exact propext ⟨fun h => h.2, fun h => ⟨hf, h⟩⟩
theorem ol_putr {a i k b : Nat} {fin : Bool} {oks : List Nat} (hd : decode mm.2.1 pc = .ok (.putfield i, 3)) (hF : zF mm.2.2.2.2.1 i = some (3, k, fin, oks)) (ha : a < σ.1) (ho : (σ.2 a).1 ∈ oks) (hi : mm.1.name = "<init>") (hc : (σ.2 a).1 = mm.2.2.2.2.1) : zu scr d mm Q cu cv pc ls (.ref b :: .ref a :: st) σ ρ I L = zu scr d mm Q cu cv (pc + 3) ls st σ (zup ρ a k (some b)) I L := by
  have hf : fin = true → mm.1.name = "<init>" ∧ (σ.2 a).1 = mm.2.2.2.2.1 := fun _ => ⟨hi, hc⟩
  unfold zu; rw [zR_op hd]; unfold zstp zpf z2v; simp only [hF, ha, ho, true_and]
  exact propext ⟨fun h => h.2, fun h => ⟨hf, h⟩⟩
theorem ol_aas {a b : Nat} {i : Int32} (hd : decode mm.2.1 pc = .ok (.aastore, 1)) (ha : a < σ.1) (hb : b < σ.1) (hi : vp_in i (σ.2 a).2) (hk : (σ.2 a).1 = 23 ∧ (σ.2 b).1 = 7 ∨ (σ.2 a).1 = 24 ∧ 1 ≤ (σ.2 b).1 ∧ (σ.2 b).1 ≤ 6) : zu scr d mm Q cu cv pc ls (.ref b :: .int i :: .ref a :: st) σ ρ I L = zu scr d mm Q cu cv (pc + 1) ls st σ (zup ρ a i.toNatClampNeg (some b)) I L := by
  unfold zu; rw [zR_op hd]; unfold zstp zir; simp only [ha, hb, hi, true_and]
  exact propext ⟨fun h => h.2, fun h => ⟨hk, h⟩⟩
theorem ol_ias {a : Nat} {i x : Int32} (hd : decode mm.2.1 pc = .ok (.iastore, 1)) (hz : zin σ a 20 i) : zu scr d mm Q cu cv pc ls (.int x :: .int i :: .ref a :: st) σ ρ I L = zu scr d mm Q cu cv (pc + 1) ls st σ ρ (zup I a i.toNatClampNeg x) L := by
  unfold zu; rw [zR_op hd]; unfold zstp zia; simp only [hz, true_and]
theorem ol_ireturn {x : Int32} {ty : FieldType} (hd : decode mm.2.1 pc = .ok (.ireturn, 1)) (hr : mm.2.2.2.1 = some ty) (hu : cu ≤ mm.2.2.2.2.2.1) (hv : cv ≤ mm.2.2.2.2.2.2) : zu scr d mm Q cu cv pc ls [.int x] σ ρ I L = (znw x ty ∧ Q (some (.int x)) σ ρ I L) := by
  unfold zu; rw [zR_op hd]; unfold zstp zret; simp only [hr, hu, hv, true_and]
theorem ol_return (hd : decode mm.2.1 pc = .ok (.return_, 1)) (hr : mm.2.2.2.1 = none) (hu : cu ≤ mm.2.2.2.2.2.1) (hv : cv ≤ mm.2.2.2.2.2.2) : zu scr d mm Q cu cv pc ls [] σ ρ I L = Q none σ ρ I L := by
  unfold zu; rw [zR_op hd]; unfold zstp zret; simp only [hr, hu, hv, true_and]
theorem ol_entry {as : List Value} (h : (zla as).length ≤ mm.2.2.1) (hl : zen mm.2.2.1 as = ls) : zW (d + 1) mm as σ ρ I L Q = zu none d mm Q 0 0 0 ls [] σ ρ I L := by
  show (_ ∧ zR none (zW d) mm Q 0 (zen mm.2.2.1 as) [] 0 0 σ ρ I L) = _
  rw [hl]
  unfold zu
  simp only [h, true_and]
end ZU
