/-! the reference: a packet that is heard -/
def PhOk (c : Co) : Prop := c_ph c = 0 ∨ c_ph c = 1 ∨ c_ph c = 2 ∨ c_ph c = 3
theorem PhOk.le0 {c : Co} (h : PhOk c) : c_ph c ≤ 0 ↔ c_ph c = 0 := by
  rcases h with h | h | h | h <;> rw [h] <;> decide
theorem PhOk.le1 {c : Co} (h : PhOk c) : c_ph c ≤ 1 ↔ c_ph c < 2 := by
  rcases h with h | h | h | h <;> rw [h] <;> decide
theorem PhOk.le01 {c : Co} (h : PhOk c) (h0 : ¬ c_ph c = 0) : c_ph c ≤ 1 ↔ c_ph c = 1 := by
  rcases h with h | h | h | h
  · exact absurd h h0
  · rw [h]; decide
  · rw [h]; decide
  · rw [h]; decide
def bytesT (tape : Nat → Int32) : Prop := ∀ k, k < 40 → ∃ m : Nat, m < 256 ∧ tape k = nI m
def vN (f : Nat → Nat) (a : Nat) : Nat → Nat
  | 0 => 0
  | n + 1 => vN f a n * 256 + f (a + n)
theorem i2l_nat : ∀ b, b < 256 → (Int32.toInt64 (nI b)).toBitVec.toNat = b := by decide +kernel
theorem rdN_nat {tape : Nat → Int32} {f : Nat → Nat} (hf : ∀ k, k < 40 → f k < 256 ∧ tape k = nI (f k)) {a : Nat} : ∀ n, n ≤ 6 → a + n ≤ 40 → (rdN tape a n).toBitVec.toNat = vN f a n ∧ vN f a n < 256 ^ n
  | 0, _, _ => ⟨rfl, by rw [vN]; decide⟩
  | n + 1, hn, han => by
    obtain ⟨i1, i2⟩ := rdN_nat hf (a := a) n (by omega) (by omega)
    obtain ⟨b1, b2⟩ := hf (a + n) (by omega)
    have hp : 256 ^ n ≤ 256 ^ 5 := Nat.pow_le_pow_right (by omega) (by omega)
    have hp5 : 256 ^ 5 = 1099511627776 := rfl
    refine ⟨?_, by rw [vN, Nat.pow_succ]; omega⟩
    rw [rdN, vN, b2]
    show (((rdN tape a n).toBitVec <<< ((Int32.toInt64 (8 : Int32) &&& 63).toBitVec.smod 64).toNat) ||| (Int32.toInt64 (nI (f (a + n)))).toBitVec).toNat = _
    rw [sh8, BitVec.toNat_or, BitVec.toNat_shiftLeft, i1, i2l_nat _ b1, Nat.mod_eq_of_lt (by rw [Nat.shiftLeft_eq]; omega), ← Nat.shiftLeft_add_eq_or_of_lt b1, Nat.shiftLeft_eq]
theorem l64_eq {x : Int64} {v : Nat} (h : x.toBitVec.toNat = v) (hv : v < 2 ^ 63) : x = lN v := by
  apply Int64.toBitVec_inj.1
  apply BitVec.eq_of_toNat_eq
  rw [h]
  show v = (BitVec.ofNat 64 v).toNat
  rw [BitVec.toNat_ofNat, Nat.mod_eq_of_lt (by omega)]
theorem l2i_lN {v : Nat} (hv : v < 2 ^ 31) : Int64.toInt32 (lN v) = nI v := by
  apply zi_eq.mpr
  rw [Int64.toInt_toInt32, pk_lT (by omega), nI_toInt hv, Int.bmod_def]
  split <;> omega
theorem bytes_fn {tape : Nat → Int32} (h : bytesT tape) : ∃ f : Nat → Nat, ∀ k, k < 40 → f k < 256 ∧ tape k = nI (f k) := by
  refine ⟨fun k => (tape k).toNatClampNeg, fun k hk => ?_⟩
  obtain ⟨m, hm, he⟩ := h k hk
  have : (tape k).toNatClampNeg = m := by rw [he]; exact nI_clamp (by omega)
  show (tape k).toNatClampNeg < 256 ∧ tape k = nI (tape k).toNatClampNeg
  rw [this]
  exact ⟨hm, he⟩
theorem op_eq {tape : Nat → Int32} (h : bytesT tape) {k : Nat} (hk : k < 100) : rdN tape 6 2 = lN k ↔ Int64.toInt32 (rdN tape 6 2) = nI k := by
  obtain ⟨f, hf⟩ := bytes_fn h
  obtain ⟨h1, h2⟩ := rdN_nat hf (a := 6) 2 (by omega) (by omega)
  rw [l64_eq h1 (by omega), l2i_lN (by omega), pk_lEQ (by omega) (by omega), nI_eq (by omega) (by omega)]
theorem head_eq {tape : Nat → Int32} (h : bytesT tape) : rdN tape 0 6 = cHEAD ↔ ∀ k, k < 6 → tape k = by8 4429186564 (5 - k) := by
  obtain ⟨f, hf⟩ := bytes_fn h
  obtain ⟨h1, h2⟩ := rdN_nat hf (a := 0) 6 (by omega) (by omega)
  have e : cHEAD = lN 4429186564 := rfl
  rw [l64_eq h1 (by omega), e, pk_lEQ (by omega) (by omega)]
  have e0 : by8 4429186564 5 = nI 0 := by decide
  have e1 : by8 4429186564 4 = nI 1 := by decide
  have e2 : by8 4429186564 3 = nI 8 := by decide
  have e3 : by8 4429186564 2 = nI 0 := by decide
  have e4 : by8 4429186564 1 = nI 6 := by decide
  have e5 : by8 4429186564 0 = nI 4 := by decide
  have g0 := hf 0 (by omega)
  have g1 := hf 1 (by omega)
  have g2 := hf 2 (by omega)
  have g3 := hf 3 (by omega)
  have g4 := hf 4 (by omega)
  have g5 := hf 5 (by omega)
  simp only [vN, Nat.zero_add, Nat.zero_mul]
  constructor
  · intro hv k hk
    have z0 : f 0 = 0 := by omega
    have z1 : f 1 = 1 := by omega
    have z2 : f 2 = 8 := by omega
    have z3 : f 3 = 0 := by omega
    have z4 : f 4 = 6 := by omega
    have z5 : f 5 = 4 := by omega
    rcases (show k = 0 ∨ k = 1 ∨ k = 2 ∨ k = 3 ∨ k = 4 ∨ k = 5 by omega) with rfl | rfl | rfl | rfl | rfl | rfl
    · rw [g0.2, z0]; exact e0.symm
    · rw [g1.2, z1]; exact e1.symm
    · rw [g2.2, z2]; exact e2.symm
    · rw [g3.2, z3]; exact e3.symm
    · rw [g4.2, z4]; exact e4.symm
    · rw [g5.2, z5]; exact e5.symm
  · intro hv
    have z0 := (nI_eq (by omega) (by omega)).mp (g0.2.symm.trans ((hv 0 (by omega)).trans e0))
    have z1 := (nI_eq (by omega) (by omega)).mp (g1.2.symm.trans ((hv 1 (by omega)).trans e1))
    have z2 := (nI_eq (by omega) (by omega)).mp (g2.2.symm.trans ((hv 2 (by omega)).trans e2))
    have z3 := (nI_eq (by omega) (by omega)).mp (g3.2.symm.trans ((hv 3 (by omega)).trans e3))
    have z4 := (nI_eq (by omega) (by omega)).mp (g4.2.symm.trans ((hv 4 (by omega)).trans e4))
    have z5 := (nI_eq (by omega) (by omega)).mp (g5.2.symm.trans ((hv 5 (by omega)).trans e5))
    omega
theorem vM_isBad {cap : Nat} {u : MS} {c : Co} {tape : Nat → Int32} {n : Nat} {l : List En} {fs : List Fr} {ls : List Int32} {th : Int32} {Post : Int32 → MS → Prop} (h : RM cap u c tape n l fs ls th) (hB : bytesT tape) (h1 : IsBad c tape n → Post (1 : Int32) u) (h0 : ¬ IsBad c tape n → Post (0 : Int32) u) : wp_X8_isBad u Post := by
  have hn : n ≤ 40 := h.2.1.2.1
  have hh : M_here u = c_here c := (mcore_all h.1).1
  have o1 : rdN tape 6 2 = (1 : Int64) ↔ Int64.toInt32 (rdN tape 6 2) = 1 := op_eq hB (k := 1) (by omega)
  have o2 : rdN tape 6 2 = (2 : Int64) ↔ Int64.toInt32 (rdN tape 6 2) = 2 := op_eq hB (k := 2) (by omega)
  have j0 : IsBad c tape n → jn_X8_isBad_57 Post 0 u := fun hbad => ⟨fun z => absurd rfl z, fun _ => h1 hbad⟩
  have j1 : n = 28 → rdN tape 0 6 = cHEAD → jn_X8_isBad_57 Post 1 u := by
    intro hn28 hd
    have j95 : (Int64.toInt32 (rdN tape 6 2) = 1 ∨ Int64.toInt32 (rdN tape 6 2) = 2) → jn_X8_isBad_95 Post (rdN tape 8 6) u := by
      intro hop
      unfold jn_X8_isBad_95
      rw [hh]
      refine ⟨fun q => h1 (Or.inr (Or.inr (Or.inr (Or.inl q)))), fun q1 => ⟨fun q => h1 (Or.inr (Or.inr (Or.inr (Or.inr (Or.inl q))))), fun q2 => ⟨fun q3 => h0 ?_, fun q => h1 (Or.inr (Or.inr (Or.inr (Or.inr (Or.inr q)))))⟩⟩⟩
      rintro (g | g | g | g | g | g)
      · exact g hn28
      · exact g hd
      · rcases hop with z | z
        · exact g.1 z
        · exact g.2 z
      · exact q1 g
      · exact q2 g
      · exact q3 g
    unfold jn_X8_isBad_57
    refine ⟨fun _ => vM_number (a := 6) (m := 2) h (by omega) (vM_number (a := 8) (m := 6) h (by omega) ⟨fun q => j95 (Or.inl (o1.mp q)), fun q1 => ⟨fun q2 => h1 (Or.inr (Or.inr (Or.inl ⟨fun z => q1 (o1.mpr z), fun z => q2 (o2.mpr z)⟩))), fun q => j95 (Or.inr (o2.mp q))⟩⟩), fun z => absurd z (by decide)⟩
  have key0 : IsBad c tape n → ∀ (f : Nat) (x : Nat), x ≤ 6 → lp_X8_isBad_17 Post (f + 1) 0 (nI x) u := by
    intro hbad f x hx
    show lb_X8_isBad_17 Post (lp_X8_isBad_17 Post f) 0 (nI x) u
    unfold lb_X8_isBad_17
    exact ⟨fun _ => j0 hbad, fun _ => ⟨fun _ => j0 hbad, fun z => absurd rfl z⟩⟩
  have key : n = 28 → ∀ (f x : Nat), x + f = 6 → (∀ k, k < x → tape k = by8 4429186564 (5 - k)) → lp_X8_isBad_17 Post (f + 2) 1 (nI x) u := by
    intro hn28 f
    induction f with
    | zero =>
      intro x hx hall
      show lb_X8_isBad_17 Post _ 1 (nI x) u
      unfold lb_X8_isBad_17
      have hx6 : x = 6 := by omega
      subst hx6
      exact br_t (nI_le (a := 6) (by omega) (by omega)) (j1 hn28 ((head_eq hB).mpr hall))
    | succ f ih =>
      intro x hx hall
      show lb_X8_isBad_17 Post (lp_X8_isBad_17 Post (f + 2)) 1 (nI x) u
      unfold lb_X8_isBad_17
      rw [nI_clamp (by omega), h.2.1.2.2 x (by omega), nI_1]
      refine br_f (nI_ge (b := 6) (by omega) (by omega)) ⟨fun z => absurd z (by decide), fun _ => ⟨vp_in_nI (by omega) (by omega), vM_byteOf (by omega) ?_⟩⟩
      have hpk : pk 0 0 0 0 0 x = by8 4429186564 (5 - x) := by unfold pk; rw [if_pos (by omega)]
      rw [hpk]
      refine ⟨fun q => key0 (Or.inr (Or.inl (fun z => q ((head_eq hB).mp z x (by omega))))) (f + 1) (x + 1) (by omega), fun q => ih (x + 1) (by omega) (fun k hk => ?_)⟩
      by_cases hkx : k = x
      · subst hkx
        exact q
      · exact hall k (by omega)
  unfold wp_X8_isBad
  rw [h.2.1.1]
  refine ⟨fun q => ⟨1, key0 (Or.inl (fun z => q (by rw [z]; rfl))) 0 0 (by omega)⟩, fun q => ⟨8, key ((nI_eq (b := 28) (by omega) (by omega)).mp q) 6 0 (by omega) (fun k hk => absurd hk (by omega))⟩⟩
theorem vM_conflict {cap : Nat} {u : MS} {c : Co} {tape : Nat → Int32} {n : Nat} {l : List En} {fs : List Fr} {ls : List Int32} {th : Int32} {Post : Int32 → MS → Prop} (h : RM cap u c tape n l fs ls th) (hph : PhOk c) (hne : ¬ c_ph c = 0) (hb : fs.length + 1 < 2 ^ 30) (hbl : ls.length + 200 < 2 ^ 30) (hP : ∀ u' : MS, RM cap u' (confS c l fs ls).1 tape n (confS c l fs ls).2.1 (confS c l fs ls).2.2.1 (confS c l fs ls).2.2.2 th → Post 2 u') : wp_X8_conflict u Post := by
  obtain ⟨k1, k2, k3, k4, k5, k6, k7, k8⟩ := mcore_all h.1
  have giv : ¬ IsDef c → wp_X8_giveUp u (fun u3 => Post (2 : Int32) u3) := by
    intro hd
    refine vM_giveUp h hbl (fun u' hu => hP u' ?_)
    unfold confS
    rw [if_neg hd]
    exact hu
  have dfd : IsDef c → jn_X8_conflict_30 Post u := by
    intro hd
    unfold jn_X8_conflict_30
    rw [k4]
    refine vM_request h hb (fun u2 h2 _ u3 h3 => hP u3 ?_)
    obtain ⟨a1, a2, a3, a4, a5, a6, a7, a8, a9, a10, a11, a12, a13⟩ := sM_defended h3
    obtain ⟨g1, g2, g3, g4, g5, g6, g7, g8⟩ := mcore_all h2.1
    unfold confS
    rw [if_pos hd]
    refine h2.keepM ?_ a1 a2 a3 a4 a5
    unfold mcore c_dfd
    rw [a6, a7, a8, a9, a10, a11, a12, a13, g1, g2, g3, g4, g5, g7, g8]
  unfold wp_X8_conflict
  rw [k3, k6, k2]
  refine ⟨fun q => giv (fun z => z.1 ((hph.le01 hne).mp q)), fun q1 => ?_⟩
  have n1 : ¬ c_ph c = 1 := fun z => q1 ((hph.le01 hne).mpr z)
  exact ⟨fun q => dfd ⟨n1, Or.inl q⟩, fun q2 => ⟨fun q => giv (fun z => z.2.elim q2 (fun y => y q)), fun q => dfd ⟨n1, Or.inr q⟩⟩⟩
theorem RM.putM {cap : Nat} {u u' : MS} {c : Co} {tape : Nat → Int32} {n : Nat} {l : List En} {fs : List Fr} {ls : List Int32} {th : Int32} (h : RM cap u c tape n l fs ls th) {i : Nat} {e e' : En} (hi : l[i]? = some e) (k : onlyME u u') (hn : M_entries u' = M_entries u) (ho : ∀ (j : Nat) (x : En), j ≠ i → mS u j x → mS u' j x) (hok : mS u' i e') : RM cap u' c tape n (l.set i e') fs ls th := by
  obtain ⟨m1, m2, m3, m4⟩ := h.2.2.1
  have hil := (List.getElem?_eq_some_iff.mp hi).1
  refine h.onlyE k ⟨by rw [hn, m1, List.length_set], by rw [List.length_set]; exact m2, m3, fun j x hj => ?_⟩
  by_cases hji : j = i
  · subst hji
    rw [List.getElem?_set_self hil] at hj
    cases hj
    exact hok
  · rw [List.getElem?_set_ne (fun z => hji z.symm)] at hj
    exact ho j x hji (m4 j x hj)
theorem vM_learn {cap : Nat} {u : MS} {c : Co} {tape : Nat → Int32} {n : Nat} {l : List En} {fs : List Fr} {ls : List Int32} {th : Int32} {i : Nat} {e : En} {s : Int64} {Post : MS → Prop} (h : RM cap u c tape n l fs ls th) (hi : l[i]? = some e) (hk : ¬ n_kd e = 1 → n_wt e = []) (hb : fs.length + 10 < 2 ^ 30) (hP : ∀ u' : MS, RM cap u' c tape n (l.set i (n_learn e s (c_time c))) (fs ++ (n_wt e).map (fDat s)) ls th → Post u') : wp_X8_learn (nI i) s u Post := by
  obtain ⟨q1, q2, q3, q4, q5⟩ := h.2.2.1.lt hi
  obtain ⟨z1, z2, z3, z4, z5, z6, z7, z8⟩ := q4
  have j15 : ∀ t0 : Int32, (t0 = 0 → n_wt e = []) → jn_X8_learn_15 Post (nI i) s t0 u := by
    intro t0 ht0
    unfold jn_X8_learn_15
    rw [nI_clamp (by omega)]
    refine ⟨vp_in_nI (by omega) (by omega), fun u2 h2 u4 h4 u6 h6 => ?_⟩
    obtain ⟨a1, a2, a3, a4, a5, a6, a7, a8, a9, a10, a11, a12, a13⟩ := sM_hardware h2
    obtain ⟨b1, b2, b3, b4, b5, b6, b7, b8, b9, b10, b11, b12, b13⟩ := sM_kinds h4
    obtain ⟨c1, c2, c3, c4, c5, c6, c7, c8, c9, c10, c11, c12, c13⟩ := sM_since h6
    have t4 : M_time u4 = c_time c := (mcore_all ((b1.trans a1).trans h.1)).2.1
    have hR6 : RM cap u6 c tape n (l.set i (n_ad e, 2, s, c_time c, n_us e, n_wt e)) fs ls th := by
      refine h.putM hi ⟨c1.trans (b1.trans a1), c2.trans (b2.trans a2), c3.trans (b3.trans a3), c4.trans (b4.trans a4), c5.trans (b5.trans a5)⟩ (c6.trans (b6.trans a6)) (fun j x hj hx => ?_) ?_
      · obtain ⟨y1, y2, y3, y4, y5, y6, y7, y8⟩ := hx
        show meOk _ _ _ _ _ _ _ j x
        rw [c7, c8, c9, c10, c11, c12, c13, b7, b8, b9, b10, b11, b12, b13, a7, a8, a9, a10, a11, a12, a13]
        exact ⟨y1, (if_neg hj).trans y2, (pk_uLn hj).trans y3, (if_neg hj).trans y4, y5, y6, y7, y8⟩
      · show meOk _ _ _ _ _ _ _ i _
        rw [c7, c8, c9, c10, c11, c12, c13, b7, b8, b9, b10, b11, b12, b13, a7, a8, a9, a10, a11, a12, a13, t4]
        exact ⟨z1, if_pos rfl, pk_uLs, if_pos rfl, z5, z6, z7, z8⟩
    have hset : (l.set i (n_ad e, 2, s, c_time c, n_us e, n_wt e))[i]? = some (n_ad e, 2, s, c_time c, n_us e, n_wt e) := List.getElem?_set_self q1
    have endS : ∀ (u1 u3 : MS) (fs1 : List Fr), RM cap u1 c tape n (l.set i (n_ad e, 2, s, c_time c, n_us e, n_wt e)) fs1 ls th → fs1 = fs ++ (n_wt e).map (fDat s) → u3 = Ms_waiting u1 (upd (M_waiting u1) i (0 : Int32)) → Post u3 := by
      intro u1 u3 fs1 hu1 hfs h3
      subst hfs
      obtain ⟨a1, a2, a3, a4, a5, a6, a7, a8, a9, a10, a11, a12, a13⟩ := sM_waiting h3
      have := hu1.putM (e' := n_learn e s (c_time c)) hset ⟨a1, a2, a3, a4, a5⟩ a6 (fun j x hj hx => by
        obtain ⟨y1, y2, y3, y4, y5, y6, y7, y8⟩ := hx
        show meOk _ _ _ _ _ _ _ j x
        rw [a7, a8, a9, a10, a11, a12, a13]
        exact ⟨y1, y2, y3, y4, y5, (if_neg hj).trans y6, y7, y8⟩) (by
        obtain ⟨y1, y2, y3, y4, y5, y6, y7, y8⟩ := (hu1.2.2.1.lt hset).2.2.2.1
        show meOk _ _ _ _ _ _ _ i _
        rw [a7, a8, a9, a10, a11, a12, a13]
        exact ⟨y1, y2, y3, y4, y5, if_pos rfl, Nat.zero_le _, fun k x hx => by simp [n_wt, n_learn] at hx⟩)
      rw [List.set_set] at this
      exact hP u3 this
    have key : ∀ (f k : Nat) (u1 : MS), k + f = (n_wt e).length → RM cap u1 c tape n (l.set i (n_ad e, 2, s, c_time c, n_us e, n_wt e)) (fs ++ ((n_wt e).take k).map (fDat s)) ls th → lp_X8_learn_44 Post (f + 1) (nI i) s t0 (nI k) u1 := by
      intro f
      induction f with
      | zero =>
        intro k u1 hk9 hu1
        show lb_X8_learn_44 Post _ (nI i) s t0 (nI k) u1
        unfold lb_X8_learn_44
        obtain ⟨y1, y2, y3, y4, y5, y6, y7, y8⟩ := (hu1.2.2.1.lt hset).2.2.2.1
        have hk2 : k = (n_wt e).length := by omega
        subst hk2
        rw [nI_clamp (by omega), y6]
        refine ⟨vp_in_nI (by omega) (by omega), br_t (nI_le (Nat.le_refl _) (by omega)) (fun u3 h3 => endS u1 u3 _ hu1 (by rw [List.take_length]) h3)⟩
      | succ f ih =>
        intro k u1 hk9 hu1
        show lb_X8_learn_44 Post (lp_X8_learn_44 Post (f + 1)) (nI i) s t0 (nI k) u1
        unfold lb_X8_learn_44
        obtain ⟨y1, y2, y3, y4, y5, y6, y7, y8⟩ := (hu1.2.2.1.lt hset).2.2.2.1
        obtain ⟨d, hd⟩ := get_lt (l := n_wt e) (i := k) (by omega)
        have e1 : (4 : Int32) * nI i + nI k = nI (4 * i + k) := mul_add 4 _ _
        rw [e1, nI_clamp (by omega), nI_clamp (by omega), y6, y8 k d hd, nI_1]
        refine ⟨vp_in_nI (by omega) (by omega), br_f (nI_ge (b := (n_wt e).length) (by omega) (by omega)) ⟨fun z => ?_, fun _ => ⟨vp_in_nI (by omega) (by omega), vM_sendData hu1 (by rw [List.length_append, List.length_map, List.length_take]; omega) (fun u10 h10 _ => ih (k + 1) u10 (by omega) ?_)⟩⟩⟩
        · have := ht0 z
          rw [this] at hk9
          rw [List.length_nil] at hk9
          omega
        · rw [List.take_succ, hd, Option.toList_some, List.map_append, ← List.append_assoc]
          exact h10
    exact ⟨(n_wt e).length + 1, key (n_wt e).length 0 u6 (by omega) (by rw [List.take_zero, List.map_nil, List.append_nil]; exact hR6)⟩
  unfold wp_X8_learn
  rw [nI_clamp (by omega), z2]
  exact ⟨vp_in_nI (by omega) (by omega), fun q => j15 0 (fun _ => hk q), fun q => j15 1 (fun z => absurd z (by decide))⟩
theorem nI_m1 {k : Nat} (h : k < 2 ^ 31) : ¬ nI k = (-1 : Int32) := by
  intro z
  have := zi_eq.mp z
  rw [nI_toInt h] at this
  have e : (-1 : Int32).toInt = -1 := rfl
  omega
def wtOk (l : List En) : Prop := ∀ (i : Nat) (e : En), l[i]? = some e → ¬ n_kd e = 1 → n_wt e = []
theorem wtOk.lrn {c : Co} {l : List En} {s : Int64} {a : Int32} (h : wtOk l) : wtOk (lrnL c l s a) := by
  unfold lrnL
  rcases hf : findA a l with _ | i
  · exact h
  · obtain ⟨e, he, ha⟩ := findA_spec hf
    simp only [he]
    have hil := (List.getElem?_eq_some_iff.mp he).1
    intro j x hj hk
    by_cases hji : j = i
    · subst hji
      rw [List.getElem?_set_self hil] at hj
      cases hj
      rfl
    · rw [List.getElem?_set_ne (fun z => hji z.symm)] at hj
      exact h j x hj hk
theorem vM_heard {cap : Nat} {u : MS} {c : Co} {tape : Nat → Int32} {n : Nat} {l : List En} {fs : List Fr} {ls : List Int32} {th : Int32} {Post : Int32 → MS → Prop} (h : RM cap u c tape n l fs ls th) (hB : bytesT tape) (hph : PhOk c) (hd : dist l) (hk : wtOk l) (hb : fs.length + 20 < 2 ^ 30) (hbl : ls.length + 200 < 2 ^ 30) {r : Int32 × G4} (hr : r = heaS cap c tape n l fs ls) (hP : ∀ u' : MS, RM cap u' r.2.1 tape n r.2.2.1 r.2.2.2.1 r.2.2.2.2 th → Post r.1 u') : wp_X8_heard u Post := by
  obtain ⟨k1, k2, k3, k4, k5, k6, k7, k8⟩ := mcore_all h.1
  have o1 : rdN tape 6 2 = (1 : Int64) ↔ Int64.toInt32 (rdN tape 6 2) = 1 := op_eq hB (k := 1) (by omega)
  unfold wp_X8_heard
  unfold heaS at hr
  refine vM_isBad h hB (fun hbad => ?_) (fun hbad => ?_)
  · rw [if_pos hbad] at hr
    subst hr
    exact ⟨fun z => absurd z (by decide), fun _ => hP u h⟩
  rw [if_neg hbad] at hr
  have h32 := h.2.2.1.2.2.1
  have hcp := h.2.2.1.2.1
  -- after the entry has learned
  have j163 : ∀ (t0 : Int32) (l1 : List En) (fs1 : List Fr) (u1 : MS), ((¬ t0 = 0) ↔ Int64.toInt32 (rdN tape 6 2) = 1) → RM cap u1 c tape n l1 fs1 ls th → fs1.length + 1 < 2 ^ 30 → (∀ u' : MS, RM cap u' c tape n l1 (ownF c fs1 (Int64.toInt32 (rdN tape 6 2)) (rdN tape 8 6) (Int64.toInt32 (rdN tape 14 4))) ls th → Post 0 u') → jn_X8_heard_163 Post t0 (rdN tape 8 6) (Int64.toInt32 (rdN tape 14 4)) u1 := by
    intro t0 l1 fs1 u1 ht hu hb1 hQ
    unfold jn_X8_heard_163
    unfold ownF at hQ
    refine ⟨fun q => hQ u1 ?_, fun q => ?_⟩
    · rw [if_neg (fun z => ht.mpr z q)]
      exact hu
    · rw [if_pos (ht.mp q)] at hQ
      rw [(mcore_all hu.1).2.2.2.1]
      exact vM_sendPacket hu hb1 (fun u' hu' _ => hQ u' hu')
  have j120 : ∀ (t0 : Int32) (x6 : Int32) (l1 : List En) (fs1 : List Fr) (u1 : MS), ((¬ t0 = 0) ↔ Int64.toInt32 (rdN tape 6 2) = 1) → RM cap u1 c tape n l1 fs1 ls th → wtOk l1 → (x6 = -1 ↔ findA (Int64.toInt32 (rdN tape 14 4)) l1 = none) → fs1.length + 1 < 2 ^ 30 → ((c_ph c < 2 ∨ ¬ Int64.toInt32 (rdN tape 24 4) = c_own c) → ∀ u' : MS, RM cap u' c tape n l1 fs1 ls th → Post 0 u') → (¬ c_ph c < 2 → Int64.toInt32 (rdN tape 24 4) = c_own c → ∀ u' : MS, RM cap u' c tape n (ownL cap c l1 (rdN tape 8 6) (Int64.toInt32 (rdN tape 14 4))) (ownF c fs1 (Int64.toInt32 (rdN tape 6 2)) (rdN tape 8 6) (Int64.toInt32 (rdN tape 14 4))) ls th → Post 0 u') → jn_X8_heard_120 Post t0 (rdN tape 8 6) (Int64.toInt32 (rdN tape 14 4)) (Int64.toInt32 (rdN tape 24 4)) x6 u1 := by
    intro t0 x6 l1 fs1 u1 ht hu hk1 hx6 hb1 hQ0 hQ1
    obtain ⟨g1, g2, g3, g4, g5, g6, g7, g8⟩ := mcore_all hu.1
    unfold jn_X8_heard_120
    rw [g3, g4]
    refine ⟨fun q => hQ0 (Or.inl (hph.le1.mp q)) u1 hu, fun q1 => ⟨fun q => hQ0 (Or.inr q) u1 hu, fun q2 => ?_⟩⟩
    have hQ := hQ1 (fun z => q1 (hph.le1.mpr z)) q2
    unfold ownL at hQ
    refine ⟨fun q => j163 t0 l1 fs1 u1 ht hu hb1 ?_, fun q => ⟨fun q4 => j163 t0 l1 fs1 u1 ht hu hb1 ?_, fun q4 => ?_⟩⟩
    · rw [if_neg (fun z => q (hx6.mpr z.2))] at hQ
      exact hQ
    · rw [if_neg (fun z => z.1 q4)] at hQ
      exact hQ
    · rw [if_pos ⟨q4, hx6.mp q⟩] at hQ
      unfold roomL at hQ
      refine vM_makeRoom hu hk1 (by omega) (fun hlt => ?_) (fun i u' hle hri hu' => ?_) (fun hle hri => ?_)
      · rw [if_pos hlt] at hQ
        exact ⟨fun z => absurd z (by decide), fun _ => vM_make hu hlt (fun u9 h9 => j163 t0 _ fs1 u9 ht h9 hb1 hQ)⟩
      · rw [if_neg (by omega), hri] at hQ
        obtain ⟨e9, hie9, -⟩ := roomI_spec hri
        have hil := (List.getElem?_eq_some_iff.mp hie9).1
        have hcp1 := hu.2.2.1.2.1
        exact ⟨fun z => absurd z (by decide), fun _ => vM_make hu' (by rw [List.length_eraseIdx]; simp only [hil, if_true]; omega) (fun u9 h9 => j163 t0 _ fs1 u9 ht h9 hb1 hQ)⟩
      · rw [if_neg (by omega), hri] at hQ
        exact ⟨fun _ => j163 t0 l1 fs1 u1 ht hu hb1 hQ, fun z => absurd rfl z⟩
  have j99 : ∀ (t0 : Int32), ((¬ t0 = 0) ↔ Int64.toInt32 (rdN tape 6 2) = 1) → ¬ IsConf c (Int64.toInt32 (rdN tape 6 2)) (Int64.toInt32 (rdN tape 14 4)) (Int64.toInt32 (rdN tape 24 4)) → jn_X8_heard_99 Post t0 (rdN tape 8 6) (Int64.toInt32 (rdN tape 14 4)) (Int64.toInt32 (rdN tape 24 4)) u := by
    intro t0 ht hcf
    unfold takS at hr
    rw [if_neg hcf] at hr
    have fin : ∀ (x6 : Int32) (u1 : MS), RM cap u1 c tape n (lrnL c l (rdN tape 8 6) (Int64.toInt32 (rdN tape 14 4))) (lrnF l fs (rdN tape 8 6) (Int64.toInt32 (rdN tape 14 4))) ls th → (x6 = -1 ↔ findA (Int64.toInt32 (rdN tape 14 4)) (lrnL c l (rdN tape 8 6) (Int64.toInt32 (rdN tape 14 4))) = none) → (lrnF l fs (rdN tape 8 6) (Int64.toInt32 (rdN tape 14 4))).length + 1 < 2 ^ 30 → jn_X8_heard_120 Post t0 (rdN tape 8 6) (Int64.toInt32 (rdN tape 14 4)) (Int64.toInt32 (rdN tape 24 4)) x6 u1 := by
      intro x6 u1 hu hx6 hb1
      refine j120 t0 x6 _ _ u1 ht hu hk.lrn hx6 hb1 (fun q u' hu' => ?_) (fun q1 q2 u' hu' => ?_)
      · rw [if_neg (fun z => q.elim z.1 (fun y => y z.2))] at hr
        subst hr
        exact hP u' hu'
      · rw [if_pos ⟨q1, q2⟩] at hr
        subst hr
        exact hP u' hu'
    unfold jn_X8_heard_99
    refine vM_find h.2.2.1 hd (fun i e hf hi ha => ?_) (fun hf => ?_)
    · have hil := (List.getElem?_eq_some_iff.mp hi).1
      have hm1 : ¬ nI i = (-1 : Int32) := nI_m1 (by omega)
      have e1 : lrnL c l (rdN tape 8 6) (Int64.toInt32 (rdN tape 14 4)) = l.set i (n_learn e (rdN tape 8 6) (c_time c)) := by
        unfold lrnL
        rw [hf]
        simp only [hi]
      have e2 : lrnF l fs (rdN tape 8 6) (Int64.toInt32 (rdN tape 14 4)) = fs ++ (n_wt e).map (fDat (rdN tape 8 6)) := by
        unfold lrnF
        rw [hf]
        simp only [hi]
      refine br_f hm1 (vM_learn h hi (hk i e hi) (by omega) (fun u5 h5 => fin (nI i) u5 (by rw [e1, e2]; exact h5) ⟨fun z => absurd z hm1, fun z => ?_⟩ ?_))
      · rw [e1] at z
        exact absurd (show n_ad (n_learn e (rdN tape 8 6) (c_time c)) = _ from ha) (findA_none' z (List.getElem?_set_self hil))
      · rw [e2, List.length_append, List.length_map]
        have := (h.2.2.1.lt hi).2.2.2.2
        omega
    · refine br_t rfl (fin (-1) u ?_ ⟨fun _ => ?_, fun _ => rfl⟩ ?_)
      · unfold lrnL lrnF
        rw [hf]
        exact h
      · unfold lrnL
        rw [hf]
        exact hf
      · unfold lrnF
        rw [hf]
        show fs.length + 1 < _
        omega
  have jcf : IsConf c (Int64.toInt32 (rdN tape 6 2)) (Int64.toInt32 (rdN tape 14 4)) (Int64.toInt32 (rdN tape 24 4)) → wp_X8_conflict u Post := by
    intro hcf
    unfold takS at hr
    rw [if_pos hcf] at hr
    subst hr
    exact vM_conflict h hph hcf.1 (by omega) hbl hP
  have j26 : ∀ (t0 : Int32), ((¬ t0 = 0) ↔ Int64.toInt32 (rdN tape 6 2) = 1) → jn_X8_heard_26 Post t0 u := by
    intro t0 ht
    unfold jn_X8_heard_26
    refine vM_number (a := 8) (m := 6) h (by omega) ?_
    unfold wp_X8_address
    refine vM_number (a := 14) (m := 4) h (by omega) (vM_number (a := 24) (m := 4) h (by omega) ?_)
    dsimp only
    rw [k3, k4]
    refine ⟨fun q => j99 t0 ht (fun z => z.1 (hph.le0.mp q)), fun q0 => ⟨fun q => jcf ⟨fun z => q0 (hph.le0.mpr z), Or.inl q⟩, fun q1 => ⟨fun q => j99 t0 ht (fun z => z.2.elim q1 (fun y => q y.1)), fun q2 => ⟨fun q => j99 t0 ht (fun z => z.2.elim q1 (fun y => ht.mpr y.2.1 q)), fun q3 => ⟨fun q => j99 t0 ht (fun z => z.2.elim q1 (fun y => q y.2.2.1)), fun q4 => ⟨fun q => j99 t0 ht (fun z => z.2.elim q1 (fun y => q y.2.2.2)), fun q5 => jcf ⟨fun z => q0 (hph.le0.mpr z), Or.inr ⟨q2, ht.mp q3, q4, q5⟩⟩⟩⟩⟩⟩⟩⟩
  refine ⟨fun _ => vM_number (a := 6) (m := 2) h (by omega) ⟨fun q => j26 0 ⟨fun z => absurd rfl z, fun z => absurd (o1.mpr z) q⟩, fun q => j26 1 ⟨fun _ => o1.mp q, fun _ => by decide⟩⟩, fun z => absurd rfl z⟩
theorem vM_hear {cap : Nat} {u : MS} {c : Co} {tape : Nat → Int32} {n : Nat} {l : List En} {fs : List Fr} {ls : List Int32} {th : Int32} {Post : Int32 → MS → Prop} (h : RM cap u c tape n l fs ls th) (hB : bytesT tape) (hph : PhOk c) (hd : dist l) (hk : wtOk l) (hb : fs.length + 20 < 2 ^ 30) (hbl : ls.length + 200 < 2 ^ 30) {r : Int32 × G4} (hr : r = heaS cap c tape n l fs ls) (hP : ∀ u' : MS, RM cap u' r.2.1 tape 0 r.2.2.1 r.2.2.2.1 r.2.2.2.2 0 → Post r.1 u') : wp_X8_hear u Post := by
  unfold wp_X8_hear
  intro u1 h1
  exact vM_heard (vM_thrown h h1).1 hB hph hd hk hb hbl hr (fun u4 h4 u5 h5 => hP u5 (vM_taped (n' := 0) h4 (by omega) h5))
