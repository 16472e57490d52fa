/-! THE CLASS: its state; calls -/
/-- NOW, as the class keeps it: l is the lot -/
def zSk (T : zT) (S : zU) (l : Int32) (s : Nat) (I : zIm) : Prop := (I (sc s 0) 0 = zrv T (srg S) ∧ I (sc s 0) 1 = nI (swk S) ∧ I (sc s 0) 2 = l ∧ I (sc s 0) 3 = nI (ssn S)) ∧ (∀ k, k < 4 → I (sc s 1) k = nI (snx S k) ∧ I (sc s 2) k = shd S k) ∧ ∀ i, i < (ssn S).val → I (sc s 3) i = nI (sse S i) ∧ I (sc s 4) i = nI (sss S i) ∧ I (sc s 5) i = nI (ssf S i)
/-- only the trial has changed -/
def kc (I I' : zIm) : Prop := ∀ a, ¬ (55 ≤ a ∧ a ≤ 60) → I' a = I a
theorem kc_i {I : zIm} : kc I I := fun _ _ => rfl
theorem kc_t {I I' I'' : zIm} (h : kc I I') (h' : kc I' I'') : kc I I'' := fun a ha => (h' a ha).trans (h a ha)
theorem sc1_r (c : Nat) : 55 ≤ sc 1 c ∧ sc 1 c ≤ 60 := by show 55 ≤ 55 + min c 5 ∧ 55 + min c 5 ≤ 60; omega
theorem sc0_r (c : Nat) : 49 ≤ sc 0 c ∧ sc 0 c ≤ 54 := by show 49 ≤ 49 + min c 5 ∧ 49 + min c 5 ≤ 54; omega
theorem kc_u {I : zIm} {c j : Nat} {v : Int32} : kc I (zup I (sc 1 c) j v) := fun a ha => zup_r (fun q => ha (q ▸ sc1_r c))
theorem kc_z {I : zIm} {r w : Nat} {l : Int32} {n : Nat → Nat} {h : Nat → Int32} : kc I (zcs I 1 r w l n h) := fun a ha => zcs_r (fun q => ha (q ▸ sc1_r 0)) (fun q => ha (q ▸ sc1_r 1)) (fun q => ha (q ▸ sc1_r 2))
theorem kc_f {I : zIm} {c lo n : Nat} {g : Nat → Int32} : kc I (fil I (sc 1 c) lo g n) := fun a ha => fil_r (fun q => ha (q ▸ sc1_r c))
theorem zTc_k {T : zT} {x : Bool} {I I' : zIm} (hT : zTc T x I) (h : kc I I') : zTc T x I' := by
  have e : ∀ c, I' (tc x c) = I (tc x c) := fun c => h _ (fun q => by have := tc_r x c; omega)
  unfold zTc at hT ⊢
  simp only [e]
  exact hT
theorem zSk_k {T : zT} {S : zU} {l : Int32} {I I' : zIm} (hS : zSk T S l 0 I) (h : kc I I') : zSk T S l 0 I' := by
  have e : ∀ c, I' (sc 0 c) = I (sc 0 c) := fun c => h _ (fun q => by have := sc0_r c; omega)
  unfold zSk at hS ⊢
  simp only [e]
  exact hS
theorem zcs_of {I : zIm} {s r w : Nat} {l : Int32} {n : Nat → Nat} {h : Nat → Int32} (h0 : I (sc s 0) 0 = nI r) (h1 : I (sc s 0) 1 = nI w) (h2 : I (sc s 0) 2 = l) (h3 : ∀ k, k < 4 → I (sc s 1) k = nI (n k) ∧ I (sc s 2) k = h k) : I = zcs I s r w l n h := by
  funext a j; unfold zcs
  by_cases c0 : a = sc s 0
  · rw [if_pos c0, c0]
    split
    · rename_i e; rw [e, h0]
    · split
      · rename_i e; rw [e, h1]
      · split
        · rename_i e; rw [e, h2]
        · rfl
  · rw [if_neg c0]
    by_cases c1 : a = sc s 1
    · rw [if_pos c1, c1]; split
      · exact (h3 j (by assumption)).1
      · rfl
    · rw [if_neg c1]
      by_cases c2 : a = sc s 2
      · rw [if_pos c2, c2]; split
        · exact (h3 j (by assumption)).2
        · rfl
      · rw [if_neg c2]
theorem zcs_any (I : zIm) (s : Nat) : ∃ r w l n h, I = zcs I s r w l n h := by
  have hs : ∀ x : Int32, x = nI x.toBitVec.toNat := fun x => by
    apply Int32.toBitVec_inj.1
    apply BitVec.eq_of_toNat_eq
    rw [pk_tn x.toBitVec.isLt]
  exact ⟨_, _, _, fun k => (I (sc s 1) k).toBitVec.toNat, fun k => I (sc s 2) k, zcs_of (hs _) (hs _) rfl (fun k _ => ⟨hs _, rfl⟩)⟩
theorem fil_cm {α : Type} {f : Nat → Nat → α} {c c' lo n j : Nat} {g : Nat → α} {v : α} (h : c' ≠ c) : zup (fil f c lo g n) c' j v = fil (zup f c' j v) c lo g n := by
  funext a i; unfold zup fil
  by_cases e : a = c' ∧ i = j
  · rw [if_pos e, if_neg (fun q => h (e.1.symm.trans q.1))]; exact (if_pos e).symm
  · rw [if_neg e]
    by_cases e2 : a = c ∧ lo ≤ i ∧ i < lo + n
    · rw [if_pos e2, if_pos e2]
    · rw [if_neg e2, if_neg e2]; exact (if_neg e).symm
section S
variable {d : Nat} {Q : zPo} {σ : zSh} {ρ : zRf} {I : zIm} {L : zLm} {b x : Bool} {T : zT} {S : zU} {m s r w : Nat} {l : Int32} {n : Nat → Nat} {h : Nat → Int32}
theorem k_fill {c m : Nat} {v : Int32} (hc : c < sg.1) (hs : sg.2 c = (20, m)) (hm : m < 2 ^ 30) : zW (d + 1) mJ7_fill_53178 [.ref c, .int v] sg ρ I L Q = Q none sg ρ (fil I c 0 (fun _ => v) m) L := by
  have h98 : c < 98 := hc
  have e1 : (sg.2 c).1 = 20 := by rw [hs]
  have e2 : (sg.2 c).2 = m := by rw [hs]
  have e3 : ∀ i, zin sg c 20 i = vp_in i m := fun i => zin_at hc hs
  have h : ∀ k, k ≤ m → zq d mJ7_fill_53178 Q 5 [some (.ref c), some (.int v), some (.int (nI k)), some (.int (nI m))] [] sg ρ (fil I c 0 (fun _ => v) k) L = Q none sg ρ (fil I c 0 (fun _ => v) m) L := by
    refine z_down m ?_ (fun k hk ih => ?_)
    · rw [eJ7_fill_53178_5]
      simp (disch := omega) only [bJ7_fill_53178, zZ, if_pos]
    · rw [eJ7_fill_53178_5]
      simp (disch := omega) only [bJ7_fill_53178, zZ, if_neg, e3]
      rw [show zup (fil I c 0 (fun _ => v) k) c k v = fil I c 0 (fun _ => v) (k + 1) from fil_s0]
      exact ih
  have h0 := h 0 (Nat.zero_le _)
  rw [fil_0] at h0
  simp (disch := omega) only [nJ7_fill_53178, bJ7_fill_53178, zZ, e1, e2, hc, show (20 : Nat) ≤ 20 from Nat.le_refl _, show (20 : Nat) ≤ 25 by decide]
  exact h0
theorem zcs_f1 : fil (zcs I s r w l n h) (sc s 1) 0 (fun _ => nI 0) 4 = zcs I s r w l (fun _ => 0) h := by
  funext a j; unfold fil zcs
  by_cases c : a = sc s 1
  · rw [c]
    by_cases c2 : j < 4
    · rw [if_pos ⟨rfl, by omega, by omega⟩, if_neg sc_01, if_pos rfl, if_pos c2]
    · rw [if_neg (by omega)]; simp only [if_neg c2]
  · rw [if_neg (fun q => c q.1)]; simp only [if_neg c]
theorem zcs_f2 : fil (zcs I s r w l n h) (sc s 2) 0 (fun _ => nI 0) 4 = zcs I s r w l n (fun _ => nI 0) := by
  funext a j; unfold fil zcs
  by_cases c : a = sc s 2
  · rw [c]
    by_cases c2 : j < 4
    · rw [if_pos ⟨rfl, by omega, by omega⟩, if_neg sc_02, if_neg sc_12, if_pos rfl, if_pos c2]
    · rw [if_neg (by omega)]; simp only [if_neg c2]
  · rw [if_neg (fun q => c q.1)]; simp only [if_neg c]
theorem zcs_u3 {v : Int32} : zup (zcs I s r w l n h) (sc s 0) 3 v = zcs (zup I (sc s 0) 3 v) s r w l n h := by
  funext a j; unfold zup zcs
  by_cases c : a = sc s 0
  · by_cases c2 : j = 3
    · rw [if_pos ⟨c, c2⟩, if_pos c, if_neg (by omega), if_neg (by omega), if_neg (by omega)]
      exact (if_pos ⟨c, c2⟩).symm
    · rw [if_neg (fun q => c2 q.2)]; simp only [c2, and_false, if_false]
  · rw [if_neg (fun q => c q.1)]; simp only [c, false_and, if_false]
theorem k_begin {v : Int32} : zW (d + 2) mX7_begin [.ref (sc s 0), .int v] sg (rg b) I L Q = Q none sg (rg b) (zup (zcs (zup I (sc s 0) 3 (nI 0)) s 0 0 (I (sc s 0) 2) (fun _ => 0) (fun _ => nI 0)) (sc s 0) 0 v) L := by
  have e1 : ∀ {I : zIm} {v : Int32}, zW (d + 1) mJ7_fill_53178 [.ref (sc s 1), .int v] sg (rg b) I L = fun Q => Q none sg (rg b) (fil I (sc s 1) 0 (fun _ => v) 4) L := fun {I v} => funext fun Q => k_fill sc_lt (scs (by decide)) (by decide)
  have e2 : ∀ {I : zIm} {v : Int32}, zW (d + 1) mJ7_fill_53178 [.ref (sc s 2), .int v] sg (rg b) I L = fun Q => Q none sg (rg b) (fil I (sc s 2) 0 (fun _ => v) 4) L := fun {I v} => funext fun Q => k_fill sc_lt (scs (by decide)) (by decide)
  simp (disch := omega) only [nX7_begin, bX7_begin, zZ, e1, e2]
  congr 1
  funext a j; unfold fil zcs zup
  by_cases c0 : a = sc s 0
  · have n1 : ¬ a = sc s 1 := fun q => sc_01 (q.symm.trans c0)
    have n2 : ¬ a = sc s 2 := fun q => sc_02 (q.symm.trans c0)
    simp only [n1, n2, false_and, if_false, if_pos c0]
    subst c0
    by_cases j0 : j = 0
    · subst j0; simp
    · by_cases j1 : j = 1
      · subst j1; simp
      · by_cases j2 : j = 2
        · subst j2; simp
        · by_cases j3 : j = 3
          · subst j3; simp
          · simp only [j0, j1, j2, j3, and_false, if_false]
  · by_cases c1 : a = sc s 1
    · have n2 : ¬ a = sc s 2 := fun q => sc_12 (q.symm.trans c1)
      simp only [c0, n2, false_and, if_false, if_pos c1]
      by_cases j4 : j < 4
      · rw [if_pos ⟨c1, Nat.zero_le _, by omega⟩, if_pos j4]
      · rw [if_neg (by omega), if_neg j4]
    · by_cases c2 : a = sc s 2
      · simp only [c0, c1, false_and, if_false, if_pos c2]
        by_cases j4 : j < 4
        · rw [if_pos ⟨c2, Nat.zero_le _, by omega⟩, if_pos j4]
        · rw [if_neg (by omega), if_neg j4]
      · simp only [c0, c1, c2, false_and, if_false]
/-- a state becomes as another -/
def zBa (s s' : Nat) (I I' : zIm) : Prop := (∀ a, (∀ c, c ≤ 5 → a ≠ sc s c) → I' a = I a) ∧ (∀ j, j < 4 → I' (sc s 0) j = I (sc s' 0) j) ∧ (∀ k, k < 4 → I' (sc s 1) k = I (sc s' 1) k ∧ I' (sc s 2) k = I (sc s' 2) k)
theorem k_becomeAs {s s' n : Nat} (hs : s ≠ s') (h4 : s < 4) (h4' : s' < 4) (hn : I (sc s' 0) 3 = nI n) (h8 : n ≤ 8)
    (hQ : ∀ I', zBa s s' I I' → (∀ i, i < n → I' (sc s 3) i = I (sc s' 3) i ∧ I' (sc s 4) i = I (sc s' 4) i ∧ I' (sc s 5) i = I (sc s' 5) i) → Q none sg (rg b) I' L) :
    zW (d + 1) mX7_becomeAs [.ref (sc s 0), .ref (sc s' 0)] sg (rg b) I L Q := by
  have ne : ∀ {c c'}, sc s' c ≠ sc s c' := fun {c c'} q => by rw [sc_ne (fun q => hs q.symm) h4' h4] at q; exact q
  have nf : ∀ {c c'}, c ≤ 5 → c' ≤ 5 → c ≠ c' → sc s c ≠ sc s c' := fun {c c'} h1 h2 h3 q => by rw [sc_eqc h1 h2] at q; exact h3 q
  have e3 : ∀ {A : zIm} {f : Nat → Int32} {lo n c c' : Nat}, fil A (sc s c) lo f n (sc s' c') = A (sc s' c') := fun {A f lo n c c'} => fil_r ne
  generalize hM : zup (zup (zup (zup I (sc s 0) 0 (I (sc s' 0) 0)) (sc s 0) 1 (I (sc s' 0) 1)) (sc s 0) 2 (I (sc s' 0) 2)) (sc s 0) 3 (nI n) = M
  have m' : ∀ {c}, M (sc s' c) = I (sc s' c) := fun {c} => by rw [← hM, zup_r ne, zup_r ne, zup_r ne, zup_r ne]
  have m3 : M (sc s 0) 3 = nI n := by rw [← hM, zup_s]
  have h1 : ∀ k, k ≤ 4 → zq d mX7_becomeAs Q 34 [some (.ref (sc s 0)), some (.ref (sc s' 0)), some (.int (nI k))] [] sg (rg b) (fil (fil M (sc s 1) 0 (I (sc s' 1)) k) (sc s 2) 0 (I (sc s' 2)) k) L := by
    refine z_down 4 ?_ (fun k hk ih => ?_)
    · rw [eX7_becomeAs_34]
      generalize hN : fil (fil M (sc s 1) 0 (I (sc s' 1)) 4) (sc s 2) 0 (I (sc s' 2)) 4 = N
      have n' : ∀ {c}, N (sc s' c) = I (sc s' c) := fun {c} => by rw [← hN, fil_r ne, fil_r ne]; exact m'
      have n3 : N (sc s 0) 3 = nI n := by rw [← hN, fil_r (nf (by decide) (by decide) (by decide)), fil_r (nf (by decide) (by decide) (by decide))]; exact m3
      have h2 : ∀ k, k ≤ n → zq d mX7_becomeAs Q 71 [some (.ref (sc s 0)), some (.ref (sc s' 0)), some (.int (nI k))] [] sg (rg b) (fil (fil (fil N (sc s 3) 0 (I (sc s' 3)) k) (sc s 4) 0 (I (sc s' 4)) k) (sc s 5) 0 (I (sc s' 5)) k) L := by
        refine z_down n ?_ (fun k hk ih => ?_)
        · rw [eX7_becomeAs_71]
          have e : fil (fil (fil N (sc s 3) 0 (I (sc s' 3)) n) (sc s 4) 0 (I (sc s' 4)) n) (sc s 5) 0 (I (sc s' 5)) n (sc s 0) 3 = nI n := by
            rw [fil_r (nf (by decide) (by decide) (by decide)), fil_r (nf (by decide) (by decide) (by decide)), fil_r (nf (by decide) (by decide) (by decide))]; exact n3
          simp (disch := omega) only [bX7_becomeAs, zZ, e, if_pos]
          refine hQ _ ⟨fun a ha => ?_, fun j hj => ?_, fun k hk => ⟨?_, ?_⟩⟩ (fun i hi => ⟨?_, ?_, ?_⟩)
          · rw [fil_r (ha 5 (by decide)), fil_r (ha 4 (by decide)), fil_r (ha 3 (by decide)), ← hN, fil_r (ha 2 (by decide)), fil_r (ha 1 (by decide)), ← hM, zup_r (ha 0 (by decide)), zup_r (ha 0 (by decide)), zup_r (ha 0 (by decide)), zup_r (ha 0 (by decide))]
          · rw [fil_r (nf (by decide) (by decide) (by decide)), fil_r (nf (by decide) (by decide) (by decide)), fil_r (nf (by decide) (by decide) (by decide)), ← hN, fil_r (nf (by decide) (by decide) (by decide)), fil_r (nf (by decide) (by decide) (by decide)), ← hM]
            have hj4 : j = 0 ∨ j = 1 ∨ j = 2 ∨ j = 3 := by omega
            rcases hj4 with rfl | rfl | rfl | rfl
            · rw [zup_k (by decide), zup_k (by decide), zup_k (by decide), zup_s]
            · rw [zup_k (by decide), zup_k (by decide), zup_s]
            · rw [zup_k (by decide), zup_s]
            · rw [zup_s, hn]
          · rw [fil_r (nf (by decide) (by decide) (by decide)), fil_r (nf (by decide) (by decide) (by decide)), fil_r (nf (by decide) (by decide) (by decide)), ← hN, fil_r (nf (by decide) (by decide) (by decide)), fil_i0 hk]
          · rw [fil_r (nf (by decide) (by decide) (by decide)), fil_r (nf (by decide) (by decide) (by decide)), fil_r (nf (by decide) (by decide) (by decide)), ← hN, fil_i0 hk]
          · rw [fil_r (nf (by decide) (by decide) (by decide)), fil_r (nf (by decide) (by decide) (by decide)), fil_i0 hi]
          · rw [fil_r (nf (by decide) (by decide) (by decide)), fil_i0 hi]
          · rw [fil_i0 hi]
        · rw [eX7_becomeAs_71]
          have e : fil (fil (fil N (sc s 3) 0 (I (sc s' 3)) k) (sc s 4) 0 (I (sc s' 4)) k) (sc s 5) 0 (I (sc s' 5)) k (sc s 0) 3 = nI n := by
            rw [fil_r (nf (by decide) (by decide) (by decide)), fil_r (nf (by decide) (by decide) (by decide)), fil_r (nf (by decide) (by decide) (by decide))]; exact n3
          have c34 : ∀ {A : zIm} {v : Int32}, zup (fil (fil A (sc s 4) 0 (I (sc s' 4)) k) (sc s 5) 0 (I (sc s' 5)) k) (sc s 3) k v = fil (fil (zup A (sc s 3) k v) (sc s 4) 0 (I (sc s' 4)) k) (sc s 5) 0 (I (sc s' 5)) k := by
            intro A v
            rw [fil_cm (nf (by decide) (by decide) (by decide)), fil_cm (nf (by decide) (by decide) (by decide))]
          have c45 : ∀ {A : zIm} {v : Int32}, zup (fil A (sc s 5) 0 (I (sc s' 5)) k) (sc s 4) k v = fil (zup A (sc s 4) k v) (sc s 5) 0 (I (sc s' 5)) k := by
            intro A v
            rw [fil_cm (nf (by decide) (by decide) (by decide))]
          have e2 : ∀ {A : zIm} {c c' j : Nat} {v : Int32}, zup A (sc s c') j v (sc s' c) = A (sc s' c) := fun {A c c' j v} => zup_r ne
          simp (disch := omega) only [bX7_becomeAs, zZ, e, if_neg, e3, n', c34, c45, fil_s0, e2]
          exact ih
      have e : ∀ {f g : Nat → Int32} {j : Nat}, N (sc s 0) 3 = nI n := n3
      have h20 := h2 0 (Nat.zero_le _)
      rw [fil_0, fil_0, fil_0] at h20
      simp (disch := omega) only [bX7_becomeAs, zZ, if_pos]
      exact h20
    · rw [eX7_becomeAs_34]
      have e2 : ∀ {A : zIm} {c c' j : Nat} {v : Int32}, zup A (sc s c') j v (sc s' c) = A (sc s' c) := fun {A c c' j v} => zup_r ne
      have c12 : ∀ {A : zIm} {v : Int32}, zup (fil A (sc s 2) 0 (I (sc s' 2)) k) (sc s 1) k v = fil (zup A (sc s 1) k v) (sc s 2) 0 (I (sc s' 2)) k := by
        intro A v
        rw [fil_cm (nf (by decide) (by decide) (by decide))]
      simp (disch := omega) only [bX7_becomeAs, zZ, if_neg, e3, m', e2, c12, fil_s0]
      exact ih
  have h10 := h1 0 (Nat.zero_le _)
  rw [fil_0, fil_0] at h10
  have e2 : ∀ {A : zIm} {c c' j : Nat} {v : Int32}, zup A (sc s c') j v (sc s' c) = A (sc s' c) := fun {A c c' j v} => zup_r ne
  simp (disch := omega) only [nX7_becomeAs, bX7_becomeAs, zZ, e2, hn, hM]
  exact h10
end S
