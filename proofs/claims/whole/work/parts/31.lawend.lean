/-! the law: one step after the other -/
theorem RX.bytes {cap : Nat} {u : XS} {c : Co} {tape : Nat → Int32} {n : Nat} {l : List En} {fs : List Fr} {ls : List Int32} {o : Nat → Int64} (h : RX cap u c tape n l fs ls o) : bytesT tape := by
  intro k hk
  obtain ⟨t1, t2, t3⟩ := h.2.1
  refine ⟨(((X_tb u k).toInt / 2 ^ (8 * 0)) % 256).toNat, by8_lt _ _, ?_⟩
  rw [← t3 k hk, and255]
  rfl
def SZ (k T : Nat) (fs : List Fr) (ls : List Int32) : Prop := T ≤ 40 * k ∧ fs.length ≤ 2000 * k ∧ ls.length ≤ 6000 * k
def LI (cap k : Nat) (u : XS) (v : MS) : Prop := ∃ (c : Co) (tape : Nat → Int32) (n : Nat) (l : List En) (fs : List Fr) (ls : List Int32) (o : Nat → Int64) (th : Int32) (T : Nat), RX cap u c tape n l fs ls o ∧ RM cap v c tape n l fs ls th ∧ INV T c l ∧ SZ k T fs ls ∧ 1 ≤ cap
theorem LI.mk9 {cap k : Nat} {u : XS} {v : MS} {c : Co} {tape : Nat → Int32} {n : Nat} {l : List En} {fs : List Fr} {ls : List Int32} {o : Nat → Int64} {th : Int32} {T : Nat} (hX : RX cap u c tape n l fs ls o) (hM : RM cap v c tape n l fs ls th) (hI : INV T c l) (hc : 1 ≤ cap) (hT : T ≤ 40 * k) (hf : fs.length ≤ 2000 * k) (hl : ls.length ≤ 6000 * k) : LI cap k u v := ⟨c, tape, n, l, fs, ls, o, th, T, hX, hM, hI, ⟨hT, hf, hl⟩, hc⟩
theorem lawV {r t : Int32} {x y : Int64} {K : Prop} (ht : t = r) (hK : K) (hv : r = 0 → x = y) : ((t = r → ((¬ (r = 0) → K) ∧ (r = 0 → vp_in (0 : Int32) 1 ∧ (((x = y → K) ∧ (¬ (x = y) → False)))))) ∧ (¬ (t = r) → False)) :=
  ⟨fun _ => ⟨fun _ => hK, fun z => ⟨vp_in_nI (n := 0) (by omega) (by omega), fun _ => hK, fun w => w (hv z)⟩⟩, fun z => z ht⟩
theorem lawE {a b : Int32} {K : Prop} (h : a = b) (hK : K) : ((a = b → K) ∧ (¬ (a = b) → False)) := ⟨fun _ => hK, fun z => z h⟩
theorem flat4 : ∀ l : List En, (∀ e, e ∈ l → (n_wt e).length ≤ 4) → (l.flatMap n_wt).length ≤ 4 * l.length
  | [], _ => Nat.le_refl _
  | e :: r, h => by
    have h1 := flat4 r (fun x hx => h x (List.mem_cons_of_mem _ hx))
    have h2 := h e List.mem_cons_self
    rw [List.flatMap_cons, List.length_append, List.length_cons]
    omega
theorem lrnF_le {l : List En} {fs : List Fr} {s : Int64} {a : Int32} (h : ∀ e, e ∈ l → (n_wt e).length ≤ 4) : (lrnF l fs s a).length ≤ fs.length + 4 := by
  unfold lrnF
  rcases hf : findA a l with _ | i
  · show fs.length ≤ _
    omega
  · obtain ⟨e, he, ha⟩ := findA_spec hf
    simp only [he]
    rw [List.length_append, List.length_map]
    have := h e (List.mem_iff_getElem?.mpr ⟨i, he⟩)
    omega
theorem hea_le {cap : Nat} {c : Co} {tape : Nat → Int32} {n : Nat} {l : List En} {fs : List Fr} {ls : List Int32} (h32 : l.length ≤ 32) (h : ∀ e, e ∈ l → (n_wt e).length ≤ 4) : (heaS cap c tape n l fs ls).2.2.2.1.length ≤ fs.length + 5 ∧ (heaS cap c tape n l fs ls).2.2.2.2.length ≤ ls.length + 128 := by
  have w1 := lrnF_le (fs := fs) (s := rdN tape 8 6) (a := Int64.toInt32 (rdN tape 14 4)) h
  have w2 := flat4 l h
  unfold heaS
  split
  · exact ⟨Nat.le_add_right _ _, Nat.le_add_right _ _⟩
  · unfold takS
    split
    · unfold confS
      split
      · refine ⟨?_, Nat.le_add_right _ _⟩
        show (fs ++ _).length ≤ _
        rw [List.length_append, List.length_singleton]
        omega
      · refine ⟨Nat.le_add_right _ _, ?_⟩
        show (ls ++ l.flatMap n_wt).length ≤ _
        rw [List.length_append]
        omega
    · split
      · refine ⟨?_, Nat.le_add_right _ _⟩
        show (ownF _ _ _ _ _).length ≤ _
        unfold ownF
        split
        · rw [List.length_append, List.length_singleton]
          omega
        · omega
      · refine ⟨?_, Nat.le_add_right _ _⟩
        show (lrnF _ _ _ _).length ≤ _
        omega
theorem snd_le {cap : Nat} {c : Co} {l : List En} {fs : List Fr} {ls : List Int32} {a d : Int32} : (sndS cap c l fs ls a d).2.2.1.length ≤ fs.length + 2 ∧ (sndS cap c l fs ls a d).2.2.2.length ≤ ls.length + 1 := by
  unfold sndS
  rcases hf : findA a l with _ | i
  · simp only
    rcases hr : roomL cap l with _ | l1
    · refine ⟨Nat.le_add_right _ _, ?_⟩
      show (ls ++ [d]).length ≤ _
      rw [List.length_append, List.length_singleton]
      omega
    · refine ⟨?_, Nat.le_add_right _ _⟩
      show (fs ++ [_]).length ≤ _
      rw [List.length_append, List.length_singleton]
      omega
  · obtain ⟨e, he, ha⟩ := findA_spec hf
    simp only [he]
    rw [List.length_append, List.length_append]
    refine ⟨?_, ?_⟩
    · have : (chgF c e d).length ≤ 2 := by
        unfold chgF
        split
        · exact Nat.zero_le _
        · split
          · exact Nat.le_refl _
          · exact Nat.le_succ _
      omega
    · have : (chgL e d).length ≤ 1 := by
        unfold chgL
        split
        · split
          · exact Nat.zero_le _
          · exact Nat.le_refl _
        · exact Nat.zero_le _
      omega
theorem tyNb {a : Int32} {m : Nat} (h1 : 1 ≤ m) (h8 : m ≤ 8) (ha : a = nI m) : ¬ (a < 1 ∨ ¬ a ≤ 8) := by
  subst ha
  rintro (z | z)
  · exact absurd z (nI_nlt (b := 1) h1 (by omega))
  · exact z (nI_le (b := 8) h8 (by omega))
theorem tkNb {a : Int32} {m : Nat} (h8 : m ≤ 40) (ha : a = nI m) : ¬ (a < 0 ∨ ¬ a ≤ 40) := by
  subst ha
  rintro (z | z)
  · exact nI_pos (by omega) z
  · exact z (nI_le (b := 40) h8 (by omega))
theorem vpi {I j L : Nat} (hL : L ≤ 387) (hI : I + 8 ≤ L) (hj : j < 8) : vp_in (nI I + nI j) L := by
  rw [nI_add]
  exact vp_in_nI (by omega) (by omega)
theorem X0 {cap : Nat} {u : XS} {c : Co} {tape : Nat → Int32} {n : Nat} {l : List En} {fs : List Fr} {ls : List Int32} {o : Nat → Int64} {x : Int64} (h : RX cap u c tape n l fs ls o) (ho : o 0 = x) : X_out u (Int32.toNatClampNeg (0 : Int32)) = x := by
  rw [h.2.2.2.2.2]
  exact ho
theorem lw_156 {cap k L I : Nat} {xs : Nat → Int32} {Ks : Int32 → XS → MS → Prop} {u : XS} {v : MS} (hL : L ≤ 387) (hI : I + 8 ≤ L) (hk9 : k ≤ 60) (h : LI cap k u v) (hK : ∀ (u' : XS) (v' : MS), LI cap (k + 1) u' v' → Ks (nI I + 8) u' v') : jn_law_156 cap L xs Ks (nI I) u v := by
  obtain ⟨c, tape, n, l, fs, ls, o, th, T, hX, hM, hV, ⟨hT, hf, hl⟩, hc⟩ := h
  unfold jn_law_156
  refine ⟨vpi (j := 1) hL hI (by omega), vpi (j := 2) hL hI (by omega), ?_⟩
  generalize (((Int32.toInt64 (xs (Int32.toNatClampNeg (nI I + (1 : Int32))))) <<< (Int32.toInt64 (32 : Int32) &&& 63)) ||| ((Int32.toInt64 (xs (Int32.toNatClampNeg (nI I + (2 : Int32))))) &&& (4294967295 : Int64))) = w
  unfold wp_X8_thrown
  refine wL_here hX (fun b => ?_) (fun b1 b2 => ?_) (fun b1 b2 u' hu => ?_)
  · exact vM_here hM (fun _ v' hv => lawE (nthr hv) (hK u v' (LI.mk9 hX hv hV hc (by omega) (by omega) (by omega)))) (fun z => absurd b z) (fun z => absurd b z)
  · exact vM_here hM (fun z => absurd z b1) (fun _ _ v' hv => lawE (nthr hv) (hK u v' (LI.mk9 hX hv hV hc (by omega) (by omega) (by omega)))) (fun _ z => absurd z b2)
  · exact vM_here hM (fun z => absurd z b1) (fun _ z => absurd b2 z) (fun _ _ v' hv => lawE (nthr hv) (hK u' v' (LI.mk9 hu hv (hV.co hV.1 rfl) hc (by omega) (by omega) (by omega))))
theorem lw_224 {cap k L I : Nat} {xs : Nat → Int32} {Ks : Int32 → XS → MS → Prop} {u : XS} {v : MS} (hL : L ≤ 387) (hI : I + 8 ≤ L) (hk9 : k ≤ 60) (h : LI cap k u v) (hK : ∀ (u' : XS) (v' : MS), LI cap (k + 1) u' v' → Ks (nI I + 8) u' v') : jn_law_224 cap L xs Ks (nI I) u v := by
  obtain ⟨c, tape, n, l, fs, ls, o, th, T, hX, hM, hV, ⟨hT, hf, hl⟩, hc⟩ := h
  unfold jn_law_224
  refine ⟨vpi (j := 1) hL hI (by omega), vpi (j := 2) hL hI (by omega), vpi (j := 3) hL hI (by omega), ?_⟩
  generalize (((Int32.toInt64 (xs (Int32.toNatClampNeg (nI I + (1 : Int32))))) <<< (Int32.toInt64 (32 : Int32) &&& 63)) ||| ((Int32.toInt64 (xs (Int32.toNatClampNeg (nI I + (2 : Int32))))) &&& (4294967295 : Int64))) = w
  generalize xs (Int32.toNatClampNeg (nI I + (3 : Int32))) = a
  unfold wp_X8_thrown
  refine wL_type hX (fun b => ?_) (fun m m1 m8 ma mn => ?_) (fun m m1 m8 ma mn u' o' hu ho => ?_)
  · exact vM_type hM (fun _ v' hv => lawV (nthr hv) (hK u v' (LI.mk9 hX hv hV hc (by omega) (by omega) (by omega))) (fun z => absurd z (by decide))) (fun m m1 m8 ma _ => absurd b (tyNb m1 m8 ma)) (fun m m1 m8 ma _ => absurd b (tyNb m1 m8 ma))
  · refine vM_type hM (fun b => absurd b (tyNb m1 m8 ma)) (fun _ _ _ _ _ v' hv => lawV (nthr hv) (hK u v' (LI.mk9 hX hv hV hc (by omega) (by omega) (by omega))) (fun z => absurd z (by decide))) (fun m' q1 q8 qa qn => ?_)
    have : m = m' := (nI_eq (by omega) (by omega)).mp (ma.symm.trans qa)
    omega
  · refine vM_type hM (fun b => absurd b (tyNb m1 m8 ma)) (fun m' q1 q8 qa qn => ?_) (fun m' q1 q8 qa qn v' hv => ?_)
    · have : m = m' := (nI_eq (by omega) (by omega)).mp (ma.symm.trans qa)
      omega
    · have e : m = m' := (nI_eq (by omega) (by omega)).mp (ma.symm.trans qa)
      subst e
      exact lawV (nthr hv) (hK u' v' (LI.mk9 hu hv hV hc (by omega) (by omega) (by omega))) (fun _ => X0 hu ho)
theorem lw_324 {cap k L I : Nat} {xs : Nat → Int32} {Ks : Int32 → XS → MS → Prop} {u : XS} {v : MS} (hL : L ≤ 387) (hI : I + 8 ≤ L) (hk9 : k ≤ 60) (h : LI cap k u v) (hK : ∀ (u' : XS) (v' : MS), LI cap (k + 1) u' v' → Ks (nI I + 8) u' v') : jn_law_324 cap L xs Ks (nI I) u v := by
  obtain ⟨c, tape, n, l, fs, ls, o, th, T, hX, hM, hV, ⟨hT, hf, hl⟩, hc⟩ := h
  unfold jn_law_324
  refine ⟨vpi (j := 1) hL hI (by omega), vpi (j := 2) hL hI (by omega), vpi (j := 3) hL hI (by omega), vpi (j := 4) hL hI (by omega), vpi (j := 5) hL hI (by omega), vpi (j := 6) hL hI (by omega), vpi (j := 7) hL hI (by omega), ?_⟩
  exact vX_pack hX (fun u' hu => vM_pack hM (fun v' hv => hK u' v' (LI.mk9 hu hv hV hc (by omega) (by omega) (by omega))))
theorem lw_463 {cap k L I : Nat} {xs : Nat → Int32} {Ks : Int32 → XS → MS → Prop} {u : XS} {v : MS} (hL : L ≤ 387) (hI : I + 8 ≤ L) (hk9 : k ≤ 60) (h : LI cap k u v) (hK : ∀ (u' : XS) (v' : MS), LI cap (k + 1) u' v' → Ks (nI I + 8) u' v') : jn_law_463 cap L xs Ks (nI I) u v := by
  obtain ⟨c, tape, n, l, fs, ls, o, th, T, hX, hM, hV, ⟨hT, hf, hl⟩, hc⟩ := h
  unfold jn_law_463
  obtain ⟨s1, s2⟩ := hX.small
  obtain ⟨b1, b2⟩ := hea_le (cap := cap) (c := c) (tape := tape) (n := n) (fs := fs) (ls := ls) s1 s2
  exact vX_hear hX (by omega) (by omega) rfl (fun u' hu => vM_hear hM hX.bytes hV.1 hV.2.2.1 hV.wt (by omega) (by omega) rfl (fun v' hv => lawE rfl (hK u' v' (LI.mk9 hu hv hV.hea hc (by omega) (by omega) (by omega)))))
theorem lw_476 {cap k L I : Nat} {xs : Nat → Int32} {Ks : Int32 → XS → MS → Prop} {u : XS} {v : MS} (hL : L ≤ 387) (hI : I + 8 ≤ L) (hk9 : k ≤ 60) (h : LI cap k u v) (hK : ∀ (u' : XS) (v' : MS), LI cap (k + 1) u' v' → Ks (nI I + 8) u' v') : jn_law_476 cap L xs Ks (nI I) u v := by
  obtain ⟨c, tape, n, l, fs, ls, o, th, T, hX, hM, hV, ⟨hT, hf, hl⟩, hc⟩ := h
  unfold jn_law_476
  refine ⟨vpi (j := 1) hL hI (by omega), ?_⟩
  generalize xs (Int32.toNatClampNeg (nI I + (1 : Int32))) = a
  unfold wp_X8_thrown
  refine wL_claim hX (by omega) (fun b => ?_) (fun b1 b2 => ?_) (fun b1 b2 u' hu => ?_)
  · exact vM_claim hM (by omega) (fun _ v' hv => lawE (nthr hv) (hK u v' (LI.mk9 hX hv hV hc (by omega) (by omega) (by omega)))) (fun z => absurd b z) (fun z => absurd b z)
  · exact vM_claim hM (by omega) (fun z => absurd z b1) (fun _ _ v' hv => lawE (nthr hv) (hK u v' (LI.mk9 hX hv hV hc (by omega) (by omega) (by omega)))) (fun _ z => absurd z b2)
  · exact vM_claim hM (by omega) (fun z => absurd z b1) (fun _ z => absurd b2 z) (fun _ _ v' hv => lawE (nthr hv) (hK u' v' (LI.mk9 hu hv (hV.co (Or.inr (Or.inl rfl)) rfl) hc (by omega) (by rw [List.length_append, List.length_singleton]; omega) (by omega))))
theorem lw_512 {cap k L I : Nat} {xs : Nat → Int32} {Ks : Int32 → XS → MS → Prop} {u : XS} {v : MS} (hL : L ≤ 387) (hI : I + 8 ≤ L) (hk9 : k ≤ 60) (h : LI cap k u v) (hK : ∀ (u' : XS) (v' : MS), LI cap (k + 1) u' v' → Ks (nI I + 8) u' v') : jn_law_512 cap L xs Ks (nI I) u v := by
  obtain ⟨c, tape, n, l, fs, ls, o, th, T, hX, hM, hV, ⟨hT, hf, hl⟩, hc⟩ := h
  unfold jn_law_512
  obtain ⟨s1, s2⟩ := hX.small
  have w2 := flat4 l s2
  exact vX_release hX (by omega) (fun u' hu => vM_release hM hV.1 (by omega) (fun v' hv => lawE rfl (hK u' v' (LI.mk9 hu hv hV.up hc (by omega) (by omega) (by rw [List.length_append]; omega)))))
theorem lw_525 {cap k L I : Nat} {xs : Nat → Int32} {Ks : Int32 → XS → MS → Prop} {u : XS} {v : MS} (hL : L ≤ 387) (hI : I + 8 ≤ L) (hk9 : k ≤ 60) (h : LI cap k u v) (hK : ∀ (u' : XS) (v' : MS), LI cap (k + 1) u' v' → Ks (nI I + 8) u' v') : jn_law_525 cap L xs Ks (nI I) u v := by
  obtain ⟨c, tape, n, l, fs, ls, o, th, T, hX, hM, hV, ⟨hT, hf, hl⟩, hc⟩ := h
  unfold jn_law_525
  refine ⟨vpi (j := 1) hL hI (by omega), vpi (j := 2) hL hI (by omega), ?_⟩
  generalize xs (Int32.toNatClampNeg (nI I + (1 : Int32))) = a
  generalize xs (Int32.toNatClampNeg (nI I + (2 : Int32))) = d
  unfold wp_X8_thrown
  obtain ⟨w1, w2⟩ := snd_le (cap := cap) (c := c) (l := l) (fs := fs) (ls := ls) (a := a) (d := d)
  refine wL_send hX hc (by omega) (by omega) (fun b => ?_) (fun b1 b2 => ?_) (fun b1 b2 u' o' hu ho => ?_)
  · exact vM_send hM hc hV.2.2.1 hV.wt (by omega) (by omega) (fun _ v' hv => lawV (nthr hv) (hK u v' (LI.mk9 hX hv hV hc (by omega) (by omega) (by omega))) (fun z => absurd z (by decide))) (fun z => absurd b z) (fun z => absurd b z)
  · exact vM_send hM hc hV.2.2.1 hV.wt (by omega) (by omega) (fun z => absurd z b1) (fun _ _ v' hv => lawV (nthr hv) (hK u v' (LI.mk9 hX hv hV hc (by omega) (by omega) (by omega))) (fun z => absurd z (by decide))) (fun _ z => absurd z b2)
  · exact vM_send hM hc hV.2.2.1 hV.wt (by omega) (by omega) (fun z => absurd z b1) (fun _ z => absurd b2 z) (fun _ _ v' hv => lawV (nthr hv) (hK u' v' (LI.mk9 hu hv hV.snd hc (by omega) (by omega) (by omega))) (fun _ => X0 hu ho))
theorem lw_593 {cap k L I : Nat} {xs : Nat → Int32} {Ks : Int32 → XS → MS → Prop} {u : XS} {v : MS} (hL : L ≤ 387) (hI : I + 8 ≤ L) (hk9 : k ≤ 60) (h : LI cap k u v) (hK : ∀ (u' : XS) (v' : MS), LI cap (k + 1) u' v' → Ks (nI I + 8) u' v') : jn_law_593 cap L xs Ks (nI I) u v := by
  obtain ⟨c, tape, n, l, fs, ls, o, th, T, hX, hM, hV, ⟨hT, hf, hl⟩, hc⟩ := h
  unfold jn_law_593
  refine ⟨vpi (j := 1) hL hI (by omega), ?_⟩
  generalize xs (Int32.toNatClampNeg (nI I + (1 : Int32))) = a
  unfold wp_X8_thrown
  refine wL_tick hX (by omega) (by omega) (fun b => ?_) (fun N hN ha u' o' hu ho => ?_)
  · exact vM_tick hM hV (by omega) (by omega) (by omega) (fun _ v' hv => lawV (nthr hv) (hK u v' (LI.mk9 hX hv hV hc (by omega) (by omega) (by omega))) (fun z => absurd z (by decide))) (fun N hN ha => absurd b (tkNb hN ha))
  · refine vM_tick hM hV (by omega) (by omega) (by omega) (fun b => absurd b (tkNb hN ha)) (fun N' hN' ha' v' hv => ?_)
    have e : N = N' := (nI_eq (by omega) (by omega)).mp (ha.symm.trans ha')
    subst e
    obtain ⟨s1, s2⟩ := hX.small
    obtain ⟨w1, w2⟩ := stN_le N (g := (c, l, fs, ls)) s1 s2
    dsimp only at w1 w2
    exact lawV (nthr hv) (hK u' v' (LI.mk9 hu hv (INV.stN N (g := (c, l, fs, ls)) hV) hc (by omega) (by omega) (by omega))) (fun _ => X0 hu ho)
theorem lw_649 {cap k L I : Nat} {xs : Nat → Int32} {Ks : Int32 → XS → MS → Prop} {u : XS} {v : MS} (hL : L ≤ 387) (hI : I + 8 ≤ L) (hk9 : k ≤ 60) (h : LI cap k u v) (hK : ∀ (u' : XS) (v' : MS), LI cap (k + 1) u' v' → Ks (nI I + 8) u' v') : jn_law_649 cap L xs Ks (nI I) u v := by
  obtain ⟨c, tape, n, l, fs, ls, o, th, T, hX, hM, hV, ⟨hT, hf, hl⟩, hc⟩ := h
  unfold jn_law_649
  refine ⟨vpi (j := 1) hL hI (by omega), ?_⟩
  generalize xs (Int32.toNatClampNeg (nI I + (1 : Int32))) = a1
  unfold wp_X8_thrown
  exact wL_count hX (fun u' o' hu ho => vM_count hM (fun r v' hv hr => lawV (nthr hv) (hK u' v' (LI.mk9 hu hv hV hc (by omega) (by omega) (by omega))) (fun z => X0 hu ((ho z).trans (hr z).symm))))
theorem lw_705 {cap k L I : Nat} {xs : Nat → Int32} {Ks : Int32 → XS → MS → Prop} {u : XS} {v : MS} (hL : L ≤ 387) (hI : I + 8 ≤ L) (hk9 : k ≤ 60) (h : LI cap k u v) (hK : ∀ (u' : XS) (v' : MS), LI cap (k + 1) u' v' → Ks (nI I + 8) u' v') : jn_law_705 cap L xs Ks (nI I) u v := by
  obtain ⟨c, tape, n, l, fs, ls, o, th, T, hX, hM, hV, ⟨hT, hf, hl⟩, hc⟩ := h
  unfold jn_law_705
  refine ⟨vpi (j := 1) hL hI (by omega), ?_⟩
  generalize xs (Int32.toNatClampNeg (nI I + (1 : Int32))) = a1
  unfold wp_X8_thrown
  exact wL_entry hX (fun u' o' hu ho => vM_entry hM (fun r v' hv hr => lawV (nthr hv) (hK u' v' (LI.mk9 hu hv hV hc (by omega) (by omega) (by omega))) (fun z => X0 hu ((ho z).trans (hr z).symm))))
theorem lw_761 {cap k L I : Nat} {xs : Nat → Int32} {Ks : Int32 → XS → MS → Prop} {u : XS} {v : MS} (hL : L ≤ 387) (hI : I + 8 ≤ L) (hk9 : k ≤ 60) (h : LI cap k u v) (hK : ∀ (u' : XS) (v' : MS), LI cap (k + 1) u' v' → Ks (nI I + 8) u' v') : jn_law_761 cap L xs Ks (nI I) u v := by
  obtain ⟨c, tape, n, l, fs, ls, o, th, T, hX, hM, hV, ⟨hT, hf, hl⟩, hc⟩ := h
  unfold jn_law_761
  refine ⟨vpi (j := 1) hL hI (by omega), vpi (j := 2) hL hI (by omega), ?_⟩
  generalize xs (Int32.toNatClampNeg (nI I + (1 : Int32))) = a1
  generalize xs (Int32.toNatClampNeg (nI I + (2 : Int32))) = a2
  unfold wp_X8_thrown
  exact wL_about hX (fun u' o' hu ho => vM_about hM hV.2.2.1 (fun r v' hv hr => lawV (nthr hv) (hK u' v' (LI.mk9 hu hv hV hc (by omega) (by omega) (by omega))) (fun z => X0 hu ((ho z).trans (hr z).symm))))
theorem lw_829 {cap k L I : Nat} {xs : Nat → Int32} {Ks : Int32 → XS → MS → Prop} {u : XS} {v : MS} (hL : L ≤ 387) (hI : I + 8 ≤ L) (hk9 : k ≤ 60) (h : LI cap k u v) (hK : ∀ (u' : XS) (v' : MS), LI cap (k + 1) u' v' → Ks (nI I + 8) u' v') : jn_law_829 cap L xs Ks (nI I) u v := by
  obtain ⟨c, tape, n, l, fs, ls, o, th, T, hX, hM, hV, ⟨hT, hf, hl⟩, hc⟩ := h
  unfold jn_law_829
  refine ⟨vpi (j := 1) hL hI (by omega), ?_⟩
  generalize xs (Int32.toNatClampNeg (nI I + (1 : Int32))) = a1
  unfold wp_X8_thrown
  exact wL_hardware hX (fun u' o' hu ho => vM_hardware hM hV.2.2.1 (fun e he => (hV.2.2.2 e he).2.1) (fun r v' hv hr => lawV (nthr hv) (hK u' v' (LI.mk9 hu hv hV hc (by omega) (by omega) (by omega))) (fun z => X0 hu ((ho z).trans (hr z).symm))))
theorem lw_884 {cap k L I : Nat} {xs : Nat → Int32} {Ks : Int32 → XS → MS → Prop} {u : XS} {v : MS} (hL : L ≤ 387) (hI : I + 8 ≤ L) (hk9 : k ≤ 60) (h : LI cap k u v) (hK : ∀ (u' : XS) (v' : MS), LI cap (k + 1) u' v' → Ks (nI I + 8) u' v') : jn_law_884 cap L xs Ks (nI I) u v := by
  obtain ⟨c, tape, n, l, fs, ls, o, th, T, hX, hM, hV, ⟨hT, hf, hl⟩, hc⟩ := h
  unfold jn_law_884
  refine ⟨vpi (j := 1) hL hI (by omega), ?_⟩
  generalize xs (Int32.toNatClampNeg (nI I + (1 : Int32))) = a1
  exact vX_knows hX (vM_knows hM hV.2.2.1 (fun v' hv => lawE rfl (hK u v' (LI.mk9 hX hv hV hc (by omega) (by omega) (by omega)))))
theorem lw_909 {cap k L I : Nat} {xs : Nat → Int32} {Ks : Int32 → XS → MS → Prop} {u : XS} {v : MS} (hL : L ≤ 387) (hI : I + 8 ≤ L) (hk9 : k ≤ 60) (h : LI cap k u v) (hK : ∀ (u' : XS) (v' : MS), LI cap (k + 1) u' v' → Ks (nI I + 8) u' v') : jn_law_909 cap L xs Ks (nI I) u v := by
  obtain ⟨c, tape, n, l, fs, ls, o, th, T, hX, hM, hV, ⟨hT, hf, hl⟩, hc⟩ := h
  unfold jn_law_909
  refine ⟨vpi (j := 1) hL hI (by omega), vpi (j := 2) hL hI (by omega), ?_⟩
  generalize xs (Int32.toNatClampNeg (nI I + (1 : Int32))) = a1
  generalize xs (Int32.toNatClampNeg (nI I + (2 : Int32))) = a2
  unfold wp_X8_thrown
  exact wL_waits hX (fun u' o' hu ho => vM_waits hM hV.2.2.1 (fun r v' hv hr => lawV (nthr hv) (hK u' v' (LI.mk9 hu hv hV hc (by omega) (by omega) (by omega))) (fun z => X0 hu ((ho z).trans (hr z).symm))))
theorem lw_977 {cap k L I : Nat} {xs : Nat → Int32} {Ks : Int32 → XS → MS → Prop} {u : XS} {v : MS} (hL : L ≤ 387) (hI : I + 8 ≤ L) (hk9 : k ≤ 60) (h : LI cap k u v) (hK : ∀ (u' : XS) (v' : MS), LI cap (k + 1) u' v' → Ks (nI I + 8) u' v') : jn_law_977 cap L xs Ks (nI I) u v := by
  obtain ⟨c, tape, n, l, fs, ls, o, th, T, hX, hM, hV, ⟨hT, hf, hl⟩, hc⟩ := h
  unfold jn_law_977
  refine ⟨vpi (j := 1) hL hI (by omega), ?_⟩
  generalize xs (Int32.toNatClampNeg (nI I + (1 : Int32))) = a1
  unfold wp_X8_thrown
  exact wL_to hX (fun u' o' hu ho => vM_to hM (fun r v' hv hr => lawV (nthr hv) (hK u' v' (LI.mk9 hu hv hV hc (by omega) (by omega) (by omega))) (fun z => X0 hu ((ho z).trans (hr z).symm))))
theorem lw_1032 {cap k L I : Nat} {xs : Nat → Int32} {Ks : Int32 → XS → MS → Prop} {u : XS} {v : MS} (hL : L ≤ 387) (hI : I + 8 ≤ L) (hk9 : k ≤ 60) (h : LI cap k u v) (hK : ∀ (u' : XS) (v' : MS), LI cap (k + 1) u' v' → Ks (nI I + 8) u' v') : jn_law_1032 cap L xs Ks (nI I) u v := by
  obtain ⟨c, tape, n, l, fs, ls, o, th, T, hX, hM, hV, ⟨hT, hf, hl⟩, hc⟩ := h
  unfold jn_law_1032
  refine ⟨vpi (j := 1) hL hI (by omega), ?_⟩
  generalize xs (Int32.toNatClampNeg (nI I + (1 : Int32))) = a1
  unfold wp_X8_thrown
  exact wL_data hX (fun u' o' hu ho => vM_data hM (fun r v' hv hr => lawV (nthr hv) (hK u' v' (LI.mk9 hu hv hV hc (by omega) (by omega) (by omega))) (fun z => X0 hu ((ho z).trans (hr z).symm))))
theorem lw_1088 {cap k L I : Nat} {xs : Nat → Int32} {Ks : Int32 → XS → MS → Prop} {u : XS} {v : MS} (hL : L ≤ 387) (hI : I + 8 ≤ L) (hk9 : k ≤ 60) (h : LI cap k u v) (hK : ∀ (u' : XS) (v' : MS), LI cap (k + 1) u' v' → Ks (nI I + 8) u' v') : jn_law_1088 cap L xs Ks (nI I) u v := by
  obtain ⟨c, tape, n, l, fs, ls, o, th, T, hX, hM, hV, ⟨hT, hf, hl⟩, hc⟩ := h
  unfold jn_law_1088
  refine ⟨vpi (j := 1) hL hI (by omega), vpi (j := 2) hL hI (by omega), ?_⟩
  generalize xs (Int32.toNatClampNeg (nI I + (1 : Int32))) = a1
  generalize xs (Int32.toNatClampNeg (nI I + (2 : Int32))) = a2
  unfold wp_X8_thrown
  exact wL_out hX (fun u' o' hu ho => vM_out hM (fun r v' hv hr => lawV (nthr hv) (hK u' v' (LI.mk9 hu hv hV hc (by omega) (by omega) (by omega))) (fun z => X0 hu ((ho z).trans (hr z).symm))))
theorem lw_1156 {cap k L I : Nat} {xs : Nat → Int32} {Ks : Int32 → XS → MS → Prop} {u : XS} {v : MS} (hL : L ≤ 387) (hI : I + 8 ≤ L) (hk9 : k ≤ 60) (h : LI cap k u v) (hK : ∀ (u' : XS) (v' : MS), LI cap (k + 1) u' v' → Ks (nI I + 8) u' v') : jn_law_1156 cap L xs Ks (nI I) u v := by
  obtain ⟨c, tape, n, l, fs, ls, o, th, T, hX, hM, hV, ⟨hT, hf, hl⟩, hc⟩ := h
  unfold jn_law_1156
  refine ⟨vpi (j := 1) hL hI (by omega), ?_⟩
  generalize xs (Int32.toNatClampNeg (nI I + (1 : Int32))) = a1
  unfold wp_X8_thrown
  exact wL_lost hX (fun u' o' hu ho => vM_lost hM (fun r v' hv hr => lawV (nthr hv) (hK u' v' (LI.mk9 hu hv hV hc (by omega) (by omega) (by omega))) (fun z => X0 hu ((ho z).trans (hr z).symm))))
theorem LI.mono {cap k : Nat} {u : XS} {v : MS} (h : LI cap k u v) : LI cap (k + 1) u v := by
  obtain ⟨c, tape, n, l, fs, ls, o, th, T, hX, hM, hV, ⟨hT, hf, hl⟩, hc⟩ := h
  exact LI.mk9 hX hM hV hc (by omega) (by omega) (by omega)
theorem lawEnd {L I : Nat} (hL : L ≤ 387) (hI : I ≤ 500) (h : ¬ nI L - (8 : Int32) < nI I) : I + 8 ≤ L := by
  by_cases h8 : 8 ≤ L
  · have e : nI L - (8 : Int32) = nI (L - 8) := pk_sub (b := 8) h8
    rw [e] at h
    rcases Nat.lt_or_ge (L - 8) I with z | z
    · exact absurd (nI_lt z (by omega)) h
    · omega
  · exfalso
    have hd : ∀ M : Nat, M < 8 → nI M - (8 : Int32) < 0 := by decide +kernel
    apply h
    have h1 := zi_lt.mp (hd L (by omega))
    have z0 : (0 : Int32).toInt = 0 := rfl
    refine zi_lt.mpr ?_
    rw [nI_toInt (by omega)]
    omega
theorem law_loop {cap L : Nat} {xs : Nat → Int32} (hL : L ≤ 387) : ∀ (f k : Nat) (u : XS) (v : MS), k + f = 50 → LI cap k u v → lp_law cap L xs (f + 1) (nI (3 + 8 * k)) u v := by
  intro f
  induction f with
  | zero =>
    intro k u v hk h
    show lb_law cap L xs _ (nI (3 + 8 * k)) u v
    unfold lb_law
    exact ⟨fun _ => trivial, fun q => by have := lawEnd hL (by omega) q; omega⟩
  | succ f ih =>
    intro k u v hk h
    show lb_law cap L xs (lp_law cap L xs (f + 1)) (nI (3 + 8 * k)) u v
    unfold lb_law
    refine ⟨fun _ => trivial, fun q => ?_⟩
    have hI := lawEnd hL (by omega) q
    have hK : ∀ (u' : XS) (v' : MS), LI cap (k + 1) u' v' → lp_law cap L xs (f + 1) (nI (3 + 8 * k) + 8) u' v' := by
      intro u' v' h'
      have e : nI (3 + 8 * k) + (8 : Int32) = nI (3 + 8 * (k + 1)) := nI_add _ 8
      rw [e]
      exact ih (k + 1) u' v' (by omega) h'
    refine ⟨vp_in_nI (by omega) (by omega), fun _ => lw_156 hL hI (by omega) h hK, fun _ => lw_224 hL hI (by omega) h hK, fun _ => lw_324 hL hI (by omega) h hK, fun _ => lw_463 hL hI (by omega) h hK, fun _ => lw_476 hL hI (by omega) h hK, fun _ => lw_512 hL hI (by omega) h hK, fun _ => lw_525 hL hI (by omega) h hK, fun _ => lw_593 hL hI (by omega) h hK, fun _ => lw_649 hL hI (by omega) h hK, fun _ => lw_705 hL hI (by omega) h hK, fun _ => lw_761 hL hI (by omega) h hK, fun _ => lw_829 hL hI (by omega) h hK, fun _ => lw_884 hL hI (by omega) h hK, fun _ => lw_909 hL hI (by omega) h hK, fun _ => lw_977 hL hI (by omega) h hK, fun _ => lw_1032 hL hI (by omega) h hK, fun _ => lw_1088 hL hI (by omega) h hK, fun _ => lw_1156 hL hI (by omega) h hK, fun _ => hK u v h.mono⟩
theorem krclamp {a m : Int32} (hm : (1 : Int32) ≤ m) : kclamp a m = rclamp a m := by
  have z1 : (1 : Int32).toInt = 1 := rfl
  have hm' := zi_le.mp hm
  unfold kclamp rclamp
  by_cases h1 : a < m
  · rw [if_pos h1]
    have g1 := zi_lt.mp h1
    have n1 : ¬ m < a := fun z => by have := zi_lt.mp z; omega
    rw [if_neg n1]
    by_cases h2 : (1 : Int32) < a
    · have g2 := zi_lt.mp h2
      rw [if_pos h2, if_neg (fun z => by have := zi_lt.mp z; omega)]
    · rw [if_neg h2]
      by_cases h3 : a < 1
      · rw [if_pos h3]
      · rw [if_neg h3]
        apply zi_eq.mpr
        have g2 : ¬ (1 : Int32).toInt < a.toInt := fun z => h2 (zi_lt.mpr z)
        have g3 : ¬ a.toInt < (1 : Int32).toInt := fun z => h3 (zi_lt.mpr z)
        omega
  · rw [if_neg h1]
    have g1 : ¬ a.toInt < m.toInt := fun z => h1 (zi_lt.mpr z)
    rw [if_neg (show ¬ a < 1 from fun z => by have := zi_lt.mp z; omega)]
    by_cases h2 : (1 : Int32) < m
    · rw [if_pos h2]
      by_cases h3 : m < a
      · rw [if_pos h3]
      · rw [if_neg h3]
        apply zi_eq.mpr
        have g3 : ¬ m.toInt < a.toInt := fun z => h3 (zi_lt.mpr z)
        omega
    · rw [if_neg h2]
      have g2 : ¬ (1 : Int32).toInt < m.toInt := fun z => h2 (zi_lt.mpr z)
      by_cases h3 : m < a
      · rw [if_pos h3]
        apply zi_eq.mpr
        omega
      · rw [if_neg h3]
        apply zi_eq.mpr
        have g3 : ¬ m.toInt < a.toInt := fun z => h3 (zi_lt.mpr z)
        omega
theorem LI.init {cap : Nat} {a1 a2 a3 : Int32} (h1 : 1 ≤ cap) (h32 : cap ≤ 32) (hc : kclamp a1 32 = nI cap) : LI cap 0 (x_init a2 a3) (m_init a1 a2 a3) := by
  refine LI.mk9 (c := (2, 0, 0, 0, 0, -1, kclamp a2 1000, kclamp a3 1000)) (tape := fun _ => 0) (n := 0) (l := []) (fs := []) (ls := []) (o := fun _ => 0) (th := 0) (T := 0) ?_ ?_ ⟨Or.inl rfl, rfl, fun i j a b ha => by simp at ha, fun x hx => absurd hx List.not_mem_nil⟩ h1 (Nat.zero_le _) (Nat.zero_le _) (Nat.zero_le _)
  · exact ⟨rfl, ⟨rfl, Nat.zero_le _, fun k _ => (show (0 : Int32) &&& 255 = 0 by decide)⟩, ⟨rfl, Nat.zero_le _, h32, fun i hi => hi, fun i j _ _ hij => hij, fun i e hi => by simp at hi⟩, ⟨rfl, (by show 0 < 2 ^ 30; omega), ring_nil _⟩, ⟨rfl, (by show 0 < 2 ^ 30; omega), ring_nil _⟩, rfl⟩
  · refine ⟨?_, ⟨rfl, Nat.zero_le _, fun k _ => rfl⟩, ⟨rfl, Nat.zero_le _, h32, fun i e hi => by simp at hi⟩, ⟨rfl, (by show 0 < 2 ^ 30; omega), ring_nil _⟩, ⟨rfl, (by show 0 < 2 ^ 30; omega), ring_nil _⟩, rfl, ?_⟩
    · rw [krclamp (a := a2) (m := 1000) (by decide), krclamp (a := a3) (m := 1000) (by decide)]
      rfl
    · rw [← hc, krclamp (by decide)]
      rfl
theorem law_holds : ∀ (L : Nat) (xs : Nat → Int32) (cap : Nat), L ≤ 387 → 1 ≤ cap → cap ≤ 32 → kclamp (xcell L xs (0 : Int32)) 32 = nI cap → ∃ f : Nat, f ≤ 1000 ∧ lp_law cap L xs f (3 : Int32) (x_init (xcell L xs (1 : Int32)) (xcell L xs (2 : Int32))) (m_init (xcell L xs (0 : Int32)) (xcell L xs (1 : Int32)) (xcell L xs (2 : Int32))) :=
  fun _ _ _ hL h1 h32 hc => ⟨51, by omega, law_loop hL 50 0 _ _ (by omega) (LI.init h1 h32 hc)⟩
