/-! the reference: claim, send, the clock -/
theorem znlt {a b : Int32} : ¬ a < b ↔ b ≤ a := by rw [zi_lt, zi_le]; omega
theorem vM_phase {cap : Nat} {u u' : MS} {c : Co} {tape : Nat → Int32} {n : Nat} {l : List En} {fs : List Fr} {ls : List Int32} {th p : Int32} (h : RM cap u c tape n l fs ls th) (h5 : u' = Ms_phase u p) : RM cap u' (c_phs c p) tape n l fs ls th := by
  obtain ⟨a1, a2, a3, a4, a5, a6, a7, a8, a9, a10, a11, a12, a13⟩ := sM_phase h5
  obtain ⟨g1, g2, g3, g4, g5, g6, g7, g8⟩ := mcore_all h.1
  refine h.keepM ?_ a1 a2 a3 a4 a5
  unfold mcore c_phs
  rw [a6, a7, a8, a9, a10, a11, a12, a13, g1, g2, g4, g5, g6, g7, g8]
theorem vM_time {cap : Nat} {u u' : MS} {c : Co} {tape : Nat → Int32} {n : Nat} {l : List En} {fs : List Fr} {ls : List Int32} {th p : Int32} (h : RM cap u c tape n l fs ls th) (h5 : u' = Ms_time u p) : RM cap u' (c_tim c p) tape n l fs ls th := by
  obtain ⟨a1, a2, a3, a4, a5, a6, a7, a8, a9, a10, a11, a12, a13⟩ := sM_time h5
  obtain ⟨g1, g2, g3, g4, g5, g6, g7, g8⟩ := mcore_all h.1
  refine h.keepM ?_ a1 a2 a3 a4 a5
  unfold mcore c_tim
  rw [a6, a7, a8, a9, a10, a11, a12, a13, g1, g3, g4, g5, g6, g7, g8]
theorem vM_hereS {cap : Nat} {u u' : MS} {c : Co} {tape : Nat → Int32} {n : Nat} {l : List En} {fs : List Fr} {ls : List Int32} {th : Int32} {a : Int64} (h : RM cap u c tape n l fs ls th) (h5 : u' = Ms_here u a) : RM cap u' (c_her c a) tape n l fs ls th := by
  obtain ⟨a1, a2, a3, a4, a5, a6, a7, a8, a9, a10, a11, a12, a13⟩ := sM_here h5
  obtain ⟨g1, g2, g3, g4, g5, g6, g7, g8⟩ := mcore_all h.1
  refine h.keepM ?_ a1 a2 a3 a4 a5
  unfold mcore c_her
  rw [a6, a7, a8, a9, a10, a11, a12, a13, g2, g3, g4, g5, g6, g7, g8]
theorem herLe {a : Int64} : a ≤ 281474976710654 ↔ a < 281474976710655 := by
  rw [Int64.le_iff_toInt_le, Int64.lt_iff_toInt_lt]
  have e1 : (281474976710654 : Int64).toInt = 281474976710654 := rfl
  have e2 : (281474976710655 : Int64).toInt = 281474976710655 := rfl
  rw [e1, e2]
  omega
theorem vM_here {cap : Nat} {u : MS} {c : Co} {tape : Nat → Int32} {n : Nat} {l : List En} {fs : List Fr} {ls : List Int32} {th : Int32} {a : Int64} {Post : MS → Prop} (h : RM cap u c tape n l fs ls th) (h1 : herBad a → ∀ u' : MS, RM cap u' c tape n l fs ls 1 → Post u') (h2 : ¬ herBad a → ¬ c_ph c = 0 → ∀ u' : MS, RM cap u' c tape n l fs ls 2 → Post u') (hP : ¬ herBad a → c_ph c = 0 → ∀ u' : MS, RM cap u' (c_her c a) tape n l fs ls 0 → Post u') : wp_X8_here a u Post := by
  have same : ∀ (t9 : Int32) (u1 u6 : MS), RM cap u1 c tape n l fs ls t9 → u6 = Ms_here u1 (M_here u1) → RM cap u6 c tape n l fs ls t9 := by
    intro t9 u1 u6 hu h6
    have := vM_hereS hu h6
    rw [(mcore_all hu.1).1] at this
    exact this
  have j1 : ∀ t9 : Int32, ¬ t9 ≤ 0 → (∀ u' : MS, RM cap u' c tape n l fs ls t9 → Post u') → jn_X8_here_31 Post a t9 u := by
    intro t9 ht hQ
    unfold jn_X8_here_31
    intro u1 hu1
    have hr := (vM_thrown h hu1).1
    rw [nthr hr]
    exact br_f ht (fun u6 h6 => hQ u6 (same t9 u1 u6 hr h6))
  unfold wp_X8_here
  rw [(mcore_all h.1).2.2.1]
  refine ⟨fun q => j1 1 (by decide) (h1 (Or.inl q)), fun q1 => ⟨fun q2 => ?_, fun q => j1 1 (by decide) (h1 (Or.inr (fun z => q (herLe.mpr z))))⟩⟩
  have nb : ¬ herBad a := fun z => z.elim q1 (fun z => z (herLe.mp q2))
  refine ⟨fun q => ?_, fun q => j1 2 (by decide) (h2 nb q)⟩
  unfold jn_X8_here_31
  intro u1 hu1
  have hr := (vM_thrown h hu1).1
  rw [nthr hr]
  exact br_t (by decide) (fun u4 h4 => hP nb q u4 (vM_hereS hr h4))
theorem vM_claim {cap : Nat} {u : MS} {c : Co} {tape : Nat → Int32} {n : Nat} {l : List En} {fs : List Fr} {ls : List Int32} {th : Int32} {a : Int32} {Post : MS → Prop} (h : RM cap u c tape n l fs ls th) (hb : fs.length + 1 < 2 ^ 30) (h1 : clmBad a → ∀ u' : MS, RM cap u' c tape n l fs ls 1 → Post u') (h2 : ¬ clmBad a → ¬ c_ph c = 0 → ∀ u' : MS, RM cap u' c tape n l fs ls 2 → Post u') (hP : ¬ clmBad a → c_ph c = 0 → ∀ u' : MS, RM cap u' (c_clm c a) tape n l (fs ++ [fReq c cALL 0 a]) ls 0 → Post u') : wp_X8_claim a u Post := by
  have j1 : ∀ t9 : Int32, ¬ t9 = 0 → (∀ u' : MS, RM cap u' c tape n l fs ls t9 → Post u') → jn_X8_claim_26 Post a t9 u := by
    intro t9 ht hQ
    unfold jn_X8_claim_26
    intro u1 hu1
    have hr := (vM_thrown h hu1).1
    rw [nthr hr]
    exact br_nt ht (hQ u1 hr)
  unfold wp_X8_claim
  rw [(mcore_all h.1).2.2.1]
  refine ⟨fun q => j1 1 (by decide) (h1 (Or.inl q)), fun q1 => ⟨fun q2 => ?_, fun q => j1 1 (by decide) (h1 (Or.inr q))⟩⟩
  have nb : ¬ clmBad a := fun z => z.elim q1 q2
  refine ⟨fun q => ?_, fun q => j1 2 (by decide) (h2 nb q)⟩
  unfold jn_X8_claim_26
  intro u1 hu1
  have hr := (vM_thrown h hu1).1
  rw [nthr hr]
  refine br_nf rfl (fun u4 h4 u6 h6 u8 h8 u10 h10 => ?_)
  obtain ⟨a1, a2, a3, a4, a5, a6, a7, a8, a9, a10, a11, a12, a13⟩ := sM_own h4
  obtain ⟨b1, b2, b3, b4, b5, b6, b7, b8, b9, b10, b11, b12, b13⟩ := sM_phase h6
  obtain ⟨d1, d2, d3, d4, d5, d6, d7, d8, d9, d10, d11, d12, d13⟩ := sM_claimed h8
  obtain ⟨e1, e2, e3, e4, e5, e6, e7, e8, e9, e10, e11, e12, e13⟩ := sM_defended h10
  obtain ⟨g1, g2, g3, g4, g5, g6, g7, g8⟩ := mcore_all hr.1
  have hR : RM cap u10 (c_clm c a) tape n l fs ls 0 := by
    refine hr.keepM ?_ (e1.trans (d1.trans (b1.trans a1))) (e2.trans (d2.trans (b2.trans a2))) (e3.trans (d3.trans (b3.trans a3))) (e4.trans (d4.trans (b4.trans a4))) (e5.trans (d5.trans (b5.trans a5)))
    unfold mcore c_clm
    rw [e6, e7, e8, e9, e10, e11, e12, e13, d6, d7, d8, d9, d10, d12, d13, b6, b7, b8, b9, b12, b13, a6, a7, a9, a12, a13, g1, g2, g7, g8]
  exact vM_probe hR hb (fun u13 h13 => hP nb q u13 h13)
theorem vM_release {cap : Nat} {u : MS} {c : Co} {tape : Nat → Int32} {n : Nat} {l : List En} {fs : List Fr} {ls : List Int32} {th : Int32} {Post : Int32 → MS → Prop} (h : RM cap u c tape n l fs ls th) (hph : PhOk c) (hbl : ls.length + 200 < 2 ^ 30) (hP : ∀ u' : MS, RM cap u' (c_up c) tape n [] fs (ls ++ l.flatMap n_wt) 0 → Post (if c_ph c = 0 then 0 else 1) u') : wp_X8_release u Post := by
  unfold wp_X8_release
  intro u1 hu1
  have hr := (vM_thrown h hu1).1
  rw [(mcore_all hr.1).2.2.1]
  refine ⟨fun q => vM_giveUp hr hbl (fun u' hu => ?_), fun q => vM_giveUp hr hbl (fun u' hu => ?_)⟩
  · have := hP u' hu
    rw [if_pos (hph.le0.mp q)] at this
    exact this
  · have := hP u' hu
    rw [if_neg (fun z => q (hph.le0.mpr z))] at this
    exact this
theorem era_set {α : Type} {l : List α} {i : Nat} {e : α} : (l.set i e).eraseIdx i = l.eraseIdx i := List.eraseIdx_set_eq
theorem vM_send {cap : Nat} {u : MS} {c : Co} {tape : Nat → Int32} {n : Nat} {l : List En} {fs : List Fr} {ls : List Int32} {th : Int32} {a d : Int32} {Post : Int32 → MS → Prop} (h : RM cap u c tape n l fs ls th) (hcap : 1 ≤ cap) (hd : dist l) (hk : wtOk l) (hb : fs.length + 10 < 2 ^ 30) (hbl : ls.length + 10 < 2 ^ 30) (h1 : sndBad c a → ∀ u' : MS, RM cap u' c tape n l fs ls 1 → Post 0 u') (h2 : ¬ sndBad c a → ¬ (2 : Int32) ≤ c_ph c → ∀ u' : MS, RM cap u' c tape n l fs ls 2 → Post 0 u') (hP : ¬ sndBad c a → (2 : Int32) ≤ c_ph c → ∀ u' : MS, RM cap u' c tape n (sndS cap c l fs ls a d).2.1 (sndS cap c l fs ls a d).2.2.1 (sndS cap c l fs ls a d).2.2.2 0 → Post (sndS cap c l fs ls a d).1 u') : wp_X8_send a d u Post := by
  obtain ⟨g1, g2, g3, g4, g5, g6, g7, g8⟩ := mcore_all h.1
  have h32 := h.2.2.1.2.2.1
  have hcp := h.2.2.1.2.1
  have j1 : ∀ t9 : Int32, ¬ t9 ≤ 0 → (∀ u' : MS, RM cap u' c tape n l fs ls t9 → Post 0 u') → jn_X8_send_35 Post a d t9 u := by
    intro t9 ht hQ
    unfold jn_X8_send_35
    intro u1 hu1
    have hr := (vM_thrown h hu1).1
    rw [nthr hr]
    exact br_f ht (hQ u1 hr)
  unfold wp_X8_send
  rw [g3, g4]
  refine ⟨fun q => j1 1 (by decide) (h1 (Or.inl q)), fun q1 => ⟨fun q => j1 1 (by decide) (h1 (Or.inr (Or.inl q))), fun q2 => ⟨fun q3 => ?_, fun q => j1 1 (by decide) (h1 (Or.inr (Or.inr q)))⟩⟩⟩
  have hnb : ¬ sndBad c a := fun z => z.elim q1 (fun z => z.elim q2 q3)
  refine ⟨fun q4 => ?_, fun q4 => j1 2 (by decide) (h2 hnb q4)⟩
  have hP := hP hnb q4
  unfold jn_X8_send_35
  intro u1 hu1
  have hr := (vM_thrown h hu1).1
  rw [nthr hr]
  unfold sndS at hP
  refine br_t (by decide) (vM_find hr.2.2.1 hd (fun i e hf hi ha => ?_) (fun hf => ?_))
  · obtain ⟨z1, z2, z3, z4, z5⟩ := hr.2.2.1.lt hi
    have hm1 : ¬ nI i = (-1 : Int32) := nI_m1 (by omega)
    obtain ⟨y1, y2, y3, y4, y5, y6, y7, y8⟩ := z4
    rw [hf] at hP
    simp only [hi] at hP
    rw [nI_clamp (by omega), y2, y3, y6]
    refine br_nt hm1 ⟨vp_in_nI (by omega) (by omega), fun k1 => ?_, fun k1 => ?_⟩
    · unfold chgR chgE chgF chgL at hP
      rw [if_neg k1, if_neg k1, if_neg k1, if_neg k1] at hP
      refine vM_sendData hr (by omega) (fun u10 h10 hE10 => ?_)
      obtain ⟨m1, m2, m3, m4, m5, m6, m7, m8⟩ := g_mE hE10
      rw [m3, m4, y2, y3]
      refine ⟨fun k3 => vM_use h10 hi (fun u13 h13 => ?_), fun k3 => vM_request h10 (by rw [List.length_append, List.length_singleton]; omega) (fun u15 h15 _ u16 h16 u18 h18 => ?_)⟩
      · rw [if_neg k3, if_neg k3, List.append_nil] at hP
        exact hP u13 h13
      · rw [if_pos k3, if_pos k3, List.append_nil] at hP
        obtain ⟨a1, a2, a3, a4, a5, a6, a7, a8, a9, a10, a11, a12, a13⟩ := sM_kinds h16
        obtain ⟨b1, b2, b3, b4, b5, b6, b7, b8, b9, b10, b11, b12, b13⟩ := sM_since h18
        have t16 : M_time u16 = c_time c := (mcore_all (a1.trans h15.1)).2.1
        have hR : RM cap u18 c tape n (l.set i (n_beco e 4 (c_time c))) ((fs ++ [fDat (n_hw e) d]) ++ [fReq c (n_hw e) (c_own c) a]) ls 0 := by
          refine h15.putM hi ⟨b1.trans a1, b2.trans a2, b3.trans a3, b4.trans a4, b5.trans a5⟩ (b6.trans a6) (fun j x hj hx => ?_) ?_
          · obtain ⟨x1, x2, x3, x4, x5, x6, x7, x8⟩ := hx
            show meOk _ _ _ _ _ _ _ j x
            rw [b7, b8, b9, b10, b11, b12, b13, a7, a8, a9, a10, a11, a12, a13]
            exact ⟨x1, (if_neg hj).trans x2, x3, (if_neg hj).trans x4, x5, x6, x7, x8⟩
          · obtain ⟨x1, x2, x3, x4, x5, x6, x7, x8⟩ := (h15.2.2.1.lt hi).2.2.2.1
            show meOk _ _ _ _ _ _ _ i _
            rw [b7, b8, b9, b10, b11, b12, b13, a7, a8, a9, a10, a11, a12, a13, t16]
            exact ⟨x1, if_pos rfl, x3, if_pos rfl, x5, x6, x7, x8⟩
        refine vM_use hR (List.getElem?_set_self z1) (fun u21 h21 => hP u21 ?_)
        rw [era_set, List.append_assoc] at h21
        rw [ha]
        exact h21
    · unfold chgR chgE chgF chgL at hP
      rw [if_pos k1, if_pos k1, if_pos k1, if_pos k1, List.append_nil] at hP
      refine ⟨fun q => ?_, fun q => ?_⟩
      · have hl4 : ¬ (n_wt e).length < 4 := by
          have := (nI_leI (a := 4) (by omega) (by omega)).mp q
          omega
        rw [if_neg hl4, if_neg hl4, if_neg hl4] at hP
        unfold jn_X8_send_143 jn_X8_send_155
        refine ⟨fun _ => ⟨fun _ => vM_lose hr (by omega) (fun u3 h3 _ => vM_use h3 hi (fun u5 h5 => hP u5 h5)), fun z => absurd rfl z⟩, fun z => absurd rfl z⟩
      · have hl4 : (n_wt e).length < 4 := by
          rcases Nat.lt_or_ge (n_wt e).length 4 with z | z
          · exact z
          · exact absurd (nI_le (a := 4) z (by omega)) q
        rw [if_pos hl4, if_pos hl4, if_pos hl4, List.append_nil] at hP
        unfold jn_X8_send_143 jn_X8_send_155
        have e1 : (4 : Int32) * nI i + nI (n_wt e).length = nI (4 * i + (n_wt e).length) := mul_add 4 _ _
        rw [nI_clamp (by omega), y6, e1, nI_clamp (by omega)]
        refine ⟨fun z => absurd z (by decide), fun _ => ⟨fun z => absurd z (by decide), fun _ => ⟨vp_in_nI (by omega) (by omega), vp_in_nI (by omega) (by omega), fun u8 h8 u10 h10 => ?_⟩⟩⟩
        obtain ⟨a1, a2, a3, a4, a5, a6, a7, a8, a9, a10, a11, a12, a13⟩ := sM_waits h8
        obtain ⟨b1, b2, b3, b4, b5, b6, b7, b8, b9, b10, b11, b12, b13⟩ := sM_waiting h10
        have hR : RM cap u10 c tape n (l.set i (n_wait e d)) fs ls 0 := by
          refine hr.putM hi ⟨b1.trans a1, b2.trans a2, b3.trans a3, b4.trans a4, b5.trans a5⟩ (b6.trans a6) (fun j x hj hx => ?_) ?_
          · obtain ⟨x1, x2, x3, x4, x5, x6, x7, x8⟩ := hx
            show meOk _ _ _ _ _ _ _ j x
            rw [b7, b8, b9, b10, b11, b12, b13, a7, a8, a9, a10, a11, a12, a13]
            refine ⟨x1, x2, x3, x4, x5, (if_neg hj).trans x6, x7, fun k9 x9 hk9 => ?_⟩
            have := (List.getElem?_eq_some_iff.mp hk9).1
            simp only [upd]
            rw [if_neg (by omega)]
            exact x8 k9 x9 hk9
          · show meOk _ _ _ _ _ _ _ i _
            rw [b7, b8, b9, b10, b11, b12, b13, a7, a8, a9, a10, a11, a12, a13, y6]
            refine ⟨y1, y2, y3, y4, y5, ?_, ?_, fun k9 x9 hk9 => ?_⟩
            · simp only [upd, if_true]
              show nI (n_wt e).length + 1 = nI (n_wt e ++ [d]).length
              rw [List.length_append, List.length_singleton]
              exact nI_1 _
            · show (n_wt e ++ [d]).length ≤ 4
              rw [List.length_append, List.length_singleton]
              omega
            · have hk9 : (n_wt e ++ [d])[k9]? = some x9 := hk9
              simp only [upd]
              rcases Nat.lt_or_ge k9 (n_wt e).length with z | z
              · rw [if_neg (by omega)]
                rw [List.getElem?_append_left z] at hk9
                exact y8 k9 x9 hk9
              · rw [List.getElem?_append_right z] at hk9
                have hz : k9 - (n_wt e).length < 1 := (List.getElem?_eq_some_iff.mp hk9).1
                have hk3 : k9 = (n_wt e).length := by omega
                subst hk3
                rw [Nat.sub_self] at hk9
                cases hk9
                rw [if_pos rfl]
        refine vM_use hR (List.getElem?_set_self z1) (fun u13 h13 => hP u13 ?_)
        rw [era_set] at h13
        exact h13
  · rw [hf] at hP
    have key : ∀ (u2 : MS) (l1 : List En), RM cap u2 c tape n l1 fs ls 0 → l1.length < cap → roomL cap l = some l1 → wp_X8_make a (1 : Int32) (0 : Int64) u2 (fun u27 => wp_X8_request (281474976710655 : Int64) a u27 (fun u29 => vp_in ((4 : Int32) * ((M_entries u29) - (1 : Int32))) 132 ∧ ((∀ (u31 : MS), u31 = Ms_waits u29 (upd (M_waits u29) (Int32.toNatClampNeg ((4 : Int32) * ((M_entries u29) - (1 : Int32)))) d) → vp_in ((M_entries u31) - (1 : Int32)) 33 ∧ ((∀ (u34 : MS), u34 = Ms_waiting u31 (upd (M_waiting u31) (Int32.toNatClampNeg ((M_entries u31) - (1 : Int32))) (1 : Int32)) → Post (1 : Int32) u34)))))) := by
      intro u2 l1 hu2 hl1 hro
      rw [hro] at hP
      refine vM_make hu2 hl1 (fun u27 h27 => vM_request h27 (by omega) (fun u29 h29 _ => ?_))
      have hg : (l1 ++ [(a, (1 : Int32), (0 : Int64), c_time c, c_time c, ([] : List Int32))])[l1.length]? = some (a, 1, 0, c_time c, c_time c, []) := by
        rw [List.getElem?_append_right (Nat.le_refl _), Nat.sub_self]
        rfl
      have hn29 : M_entries u29 - (1 : Int32) = nI l1.length := by
        rw [h29.2.2.1.1, List.length_append, List.length_singleton]
        exact zn_sub1 (a := l1.length + 1) (by omega)
      have e4 : (4 : Int32) * nI l1.length = nI (4 * l1.length) := pk_mul 4 _
      rw [hn29, e4, nI_clamp (by omega)]
      refine ⟨vp_in_nI (by omega) (by omega), fun u31 h31 => ?_⟩
      obtain ⟨a1, a2, a3, a4, a5, a6, a7, a8, a9, a10, a11, a12, a13⟩ := sM_waits h31
      rw [a6, hn29, nI_clamp (by omega)]
      refine ⟨vp_in_nI (by omega) (by omega), fun u34 h34 => hP u34 ?_⟩
      obtain ⟨b1, b2, b3, b4, b5, b6, b7, b8, b9, b10, b11, b12, b13⟩ := sM_waiting h34
      have hR := h29.putM (u' := u34) (e' := (a, (1 : Int32), (0 : Int64), c_time c, c_time c, [d])) hg ⟨b1.trans a1, b2.trans a2, b3.trans a3, b4.trans a4, b5.trans a5⟩ (b6.trans a6) (fun j x hj hx => by
        obtain ⟨x1, x2, x3, x4, x5, x6, x7, x8⟩ := hx
        show meOk _ _ _ _ _ _ _ j x
        rw [b7, b8, b9, b10, b11, b12, b13, a7, a8, a9, a10, a11, a12, a13]
        refine ⟨x1, x2, x3, x4, x5, (if_neg hj).trans x6, x7, fun k9 x9 hk9 => ?_⟩
        have := (List.getElem?_eq_some_iff.mp hk9).1
        simp only [upd]
        rw [if_neg (by omega)]
        exact x8 k9 x9 hk9) (by
        obtain ⟨x1, x2, x3, x4, x5, x6, x7, x8⟩ := (h29.2.2.1.lt hg).2.2.2.1
        show meOk _ _ _ _ _ _ _ l1.length _
        rw [b7, b8, b9, b10, b11, b12, b13, a7, a8, a9, a10, a11, a12, a13]
        refine ⟨x1, x2, x3, x4, x5, if_pos rfl, (show 1 ≤ 4 by omega), fun k9 x9 hk9 => ?_⟩
        have hz : k9 < 1 := (List.getElem?_eq_some_iff.mp hk9).1
        have hk0 : k9 = 0 := by omega
        subst hk0
        have hx9 : d = x9 := by
          have : some d = some x9 := hk9
          cases this
          rfl
        rw [← hx9]
        exact if_pos rfl)
      rw [set_end rfl] at hR
      exact hR
    refine br_nf rfl (vM_makeRoom hr hk (by omega) (fun hlt => ?_) (fun i u' hle hri hu' => ?_) (fun hle hri => ?_))
    · exact ⟨fun _ => key u1 l hr hlt (by unfold roomL; rw [if_pos hlt]), fun z => absurd z (by decide)⟩
    · refine ⟨fun _ => key u' _ hu' ?_ (by unfold roomL; rw [if_neg (by omega), hri]; rfl), fun z => absurd z (by decide)⟩
      obtain ⟨e9, hie9, -⟩ := roomI_spec hri
      have hil := (List.getElem?_eq_some_iff.mp hie9).1
      rw [List.length_eraseIdx]
      simp only [hil, if_true]
      omega
    · have hro : roomL cap l = none := by unfold roomL; rw [if_neg (by omega), hri]; rfl
      rw [hro] at hP
      exact ⟨fun z => absurd rfl z, fun _ => vM_lose hr (by omega) (fun u37 h37 _ => hP u37 h37)⟩
theorem vM_ownTick {cap : Nat} {u : MS} {c : Co} {tape : Nat → Int32} {n : Nat} {l : List En} {fs : List Fr} {ls : List Int32} {th : Int32} {Post : MS → Prop} (h : RM cap u c tape n l fs ls th) (hb : fs.length + 10 < 2 ^ 30) (hP : ∀ u' : MS, RM cap u' (owC c) tape n l (fs ++ owF c) ls th → Post u') : wp_X8_ownTick u Post := by
  obtain ⟨g1, g2, g3, g4, g5, g6, g7, g8⟩ := mcore_all h.1
  have prb : isPrb c → wp_X8_probe u Post := by
    intro q
    unfold owC owF at hP
    rw [if_pos q, if_pos q] at hP
    exact vM_probe h (by omega) hP
  unfold owC owF at hP
  have j63 : ∀ (p : Int32), c_ph c + 1 = p → (∀ u' : MS, RM cap u' (c_phs c p) tape n l (fs ++ [fReq c cALL (c_own c) (c_own c)]) ls th → Post u') → jn_X8_ownTick_63 Post u := by
    intro p hp hQ
    unfold jn_X8_ownTick_63
    rw [g4]
    refine vM_request h (by omega) (fun u2 h2 _ u3 h3 => hQ u3 ?_)
    rw [(mcore_all h2.1).2.2.1, hp] at h3
    exact vM_phase h2 h3
  have j49 : ¬ isPrb c → ¬ isAn1 c → jn_X8_ownTick_49 Post (c_time c - c_cl c) u := by
    intro k1 k2
    rw [if_neg k1, if_neg k1, if_neg k2, if_neg k2] at hP
    unfold jn_X8_ownTick_49
    rw [g3]
    refine ⟨fun q => hP u ?_, fun q1 => ⟨fun q => hP u ?_, fun q2 => j63 3 (by rw [q1]; rfl) (fun u' hu => hP u' ?_)⟩⟩
    · rw [if_neg (fun z => q z.1), if_neg (fun z => q z.1), List.append_nil]; exact h
    · rw [if_neg (fun z => q z.2), if_neg (fun z => q z.2), List.append_nil]; exact h
    · rw [if_pos ⟨q1, q2⟩, if_pos ⟨q1, q2⟩]; exact hu
  have j35 : ¬ isPrb c → jn_X8_ownTick_35 Post (c_time c - c_cl c) u := by
    intro k1
    unfold jn_X8_ownTick_35
    rw [g3]
    refine ⟨fun q => j49 k1 (fun z => q z.1), fun q1 => ⟨fun q2 => j63 2 (by rw [q1]; rfl) (fun u' hu => hP u' ?_), fun q => j49 k1 (fun z => q z.2)⟩⟩
    rw [if_neg k1, if_neg k1, if_pos ⟨q1, q2⟩, if_pos ⟨q1, q2⟩]
    exact hu
  unfold wp_X8_ownTick
  rw [g2, g3, g5]
  exact ⟨fun q => j35 (fun z => q z.1), fun q1 => ⟨fun q => prb ⟨q1, Or.inl q⟩, fun q2 => ⟨fun q => j35 (fun z => z.2.elim q2 q), fun q => prb ⟨q1, Or.inr q⟩⟩⟩⟩
def okE (T : Nat) (e : En) : Prop := (n_kd e = 1 ∨ n_kd e = 2 ∨ n_kd e = 3 ∨ n_kd e = 4) ∧ (n_kd e = 1 → n_hw e = 0) ∧ (¬ n_kd e = 1 → n_wt e = []) ∧ ∃ S : Nat, S ≤ T ∧ n_si e = nI S
theorem vM_entryTick {cap : Nat} {u : MS} {c : Co} {tape : Nat → Int32} {n : Nat} {l : List En} {fs : List Fr} {ls : List Int32} {th : Int32} {i T : Nat} {e : En} {Post : Int32 → MS → Prop} (h : RM cap u c tape n l fs ls th) (hi : l[i]? = some e) (ho : okE T e) (hT : T < 100000) (ht : c_time c = nI (T + 1)) (hb : fs.length + 10 < 2 ^ 30) (h1 : ovr c e → Post 0 u) (h0 : ¬ ovr c e → ∀ u' : MS, RM cap u' c tape n (l.set i (tE c e)) (fs ++ tF c e) ls th → Post 1 u') : wp_X8_entryTick (nI i) u Post := by
  obtain ⟨q1, q2, q3, q4, q5⟩ := h.2.2.1.lt hi
  obtain ⟨z1, z2, z3, z4, z5, z6, z7, z8⟩ := q4
  obtain ⟨g1, g2, g3, g4, g5, g6, g7, g8⟩ := mcore_all h.1
  obtain ⟨hkd, hhw, hwt, S, hS, hsi⟩ := ho
  have hat : c_time c - n_si e = nI (T + 1 - S) := by rw [ht, hsi]; exact pk_sub (by omega)
  have e6 : (6 : Int32) = nI 6 := rfl
  have e3 : (3 : Int32) = nI 3 := rfl
  have e1 : (1 : Int32) = nI 1 := rfl
  have e2 : (2 : Int32) = nI 2 := rfl
  have e4 : (4 : Int32) = nI 4 := rfl
  unfold wp_X8_entryTick
  rw [nI_clamp (by omega), z2, z4, z5, g2, g7, g8]
  refine ⟨vp_in_nI (by omega) (by omega), ?_⟩
  rcases hkd with k | k | k | k
  · -- asked
    have nE : tE c e = e := by unfold tE; rw [if_neg (fun z => absurd (k.symm.trans z.1) (by decide))]
    have j32 : (T + 1 - S = 2 ∨ T + 1 - S = 4) → jn_X8_entryTick_32 Post (nI i) (c_time c - n_si e) u := by
      intro hD
      unfold jn_X8_entryTick_32
      rw [nI_clamp (by omega), z1, hat]
      refine ⟨vp_in_nI (by omega) (by omega), vM_request h (by omega) (fun u3 h3 _ => br_f (nI_ge (b := 6) (by omega) (by omega)) (h0 ?_ u3 ?_))⟩
      · rintro (z | z | z)
        · apply z.2
          rw [hat]
          exact nI_lt (b := 6) (by omega) (by omega)
        · exact absurd (k.symm.trans z.1) (by decide)
        · exact absurd (k.symm.trans z.1) (by decide)
      · rw [nE, set_same hi]
        unfold tF
        have hc : n_kd e = 1 ∧ (c_time c - n_si e = 2 ∨ c_time c - n_si e = 4) := by
          refine ⟨k, ?_⟩
          rw [hat]
          rcases hD with z | z
          · rw [z]; exact Or.inl rfl
          · rw [z]; exact Or.inr rfl
        rw [if_pos hc]
        exact h3
    refine br_nf k ⟨fun q => j32 (Or.inl ?_), fun q2' => ⟨fun q4' => ?_, fun q => j32 (Or.inr ?_)⟩⟩
    · rw [hat] at q; exact (nI_eq (b := 2) (by omega) (by omega)).mp q
    · refine ⟨fun q => h1 (Or.inl ⟨k, znlt.mpr q⟩), fun q => h0 ?_ u ?_⟩
      · rintro (z | z | z)
        · exact q (znlt.mp z.2)
        · exact absurd (k.symm.trans z.1) (by decide)
        · exact absurd (k.symm.trans z.1) (by decide)
      · rw [nE, set_same hi]
        unfold tF
        rw [if_neg (fun z => z.2.elim q2' q4'), if_neg (fun z => absurd (k.symm.trans z) (by decide)), List.append_nil]
        exact h
    · rw [hat] at q; exact (nI_eq (b := 4) (by omega) (by omega)).mp q
  · -- good
    have nF : tF c e = [] := by
      unfold tF
      rw [if_neg (fun z => absurd (k.symm.trans z.1) (by decide)), if_neg (fun z => absurd (k.symm.trans z) (by decide))]
    have no : ¬ ovr c e := by rintro (z | z | z) <;> exact absurd (k.symm.trans z.1) (by decide)
    refine br_nt (by rw [k]; decide) (br_nt (by rw [k]; decide) (br_nt (by rw [k]; decide) ⟨fun q => h0 no u ?_, fun q u6 h6 u8 h8 => h0 no u8 ?_⟩))
    · unfold tE
      rw [nF, List.append_nil, if_neg (fun z => z.2 q), set_same hi]
      exact h
    · unfold tE
      rw [nF, List.append_nil, if_pos ⟨k, q⟩]
      obtain ⟨a1, a2, a3, a4, a5, a6, a7, a8, a9, a10, a11, a12, a13⟩ := sM_kinds h6
      obtain ⟨b1, b2, b3, b4, b5, b6, b7, b8, b9, b10, b11, b12, b13⟩ := sM_since h8
      have t6 : M_time u6 = c_time c := (mcore_all (a1.trans h.1)).2.1
      refine h.putM hi ⟨b1.trans a1, b2.trans a2, b3.trans a3, b4.trans a4, b5.trans a5⟩ (b6.trans a6) (fun j x hj hx => ?_) ?_
      · obtain ⟨x1, x2, x3, x4, x5, x6, x7, x8⟩ := hx
        show meOk _ _ _ _ _ _ _ j x
        rw [b7, b8, b9, b10, b11, b12, b13, a7, a8, a9, a10, a11, a12, a13]
        exact ⟨x1, (if_neg hj).trans x2, x3, (if_neg hj).trans x4, x5, x6, x7, x8⟩
      · show meOk _ _ _ _ _ _ _ i _
        rw [b7, b8, b9, b10, b11, b12, b13, a7, a8, a9, a10, a11, a12, a13, t6]
        exact ⟨z1, if_pos rfl, z3, if_pos rfl, z5, z6, z7, z8⟩
  · -- old
    have nE : tE c e = e := by unfold tE; rw [if_neg (fun z => absurd (k.symm.trans z.1) (by decide))]
    have nF : tF c e = [] := by
      unfold tF
      rw [if_neg (fun z => absurd (k.symm.trans z.1) (by decide)), if_neg (fun z => absurd (k.symm.trans z) (by decide))]
    refine br_nt (by rw [k]; decide) (br_nt (by rw [k]; decide) (br_nf k ⟨fun q => h1 (Or.inr (Or.inl ⟨k, znlt.mpr q⟩)), fun q => h0 ?_ u ?_⟩))
    · rintro (z | z | z)
      · exact absurd (k.symm.trans z.1) (by decide)
      · exact q (znlt.mp z.2)
      · exact absurd (k.symm.trans z.1) (by decide)
    · rw [nE, nF, List.append_nil, set_same hi]
      exact h
  · -- checked
    have nE : tE c e = e := by unfold tE; rw [if_neg (fun z => absurd (k.symm.trans z.1) (by decide))]
    have j77 : (T + 1 - S = 1 ∨ T + 1 - S = 2) → jn_X8_entryTick_77 Post (nI i) (c_time c - n_si e) u := by
      intro hD
      unfold jn_X8_entryTick_77
      rw [nI_clamp (by omega), z1, z3, hat]
      refine ⟨vp_in_nI (by omega) (by omega), vM_request h (by omega) (fun u3 h3 _ => br_f (nI_ge (b := 3) (by omega) (by omega)) (h0 ?_ u3 ?_))⟩
      · rintro (z | z | z)
        · exact absurd (k.symm.trans z.1) (by decide)
        · exact absurd (k.symm.trans z.1) (by decide)
        · apply z.2
          rw [hat]
          exact nI_lt (b := 3) (by omega) (by omega)
      · rw [nE, set_same hi]
        unfold tF
        rw [if_neg (fun z => absurd (k.symm.trans z.1) (by decide)), if_pos k]
        exact h3
    refine br_nt (by rw [k]; decide) (br_nf k ⟨fun q => j77 (Or.inl ?_), fun q1' => ⟨fun q2' => ?_, fun q => j77 (Or.inr ?_)⟩⟩)
    · rw [hat] at q; exact (nI_eq (b := 1) (by omega) (by omega)).mp q
    · refine ⟨fun q => h1 (Or.inr (Or.inr ⟨k, znlt.mpr q⟩)), fun q => ?_⟩
      exfalso
      rw [hat] at q1' q2' q
      have w1 : ¬ T + 1 - S = 1 := fun z => q1' (by rw [z]; rfl)
      have w2 : ¬ T + 1 - S = 2 := fun z => q2' (by rw [z]; rfl)
      exact q (nI_le (a := 3) (by omega) (by omega))
    · rw [hat] at q; exact (nI_eq (b := 2) (by omega) (by omega)).mp q
theorem vM_tickEntries {cap : Nat} {u : MS} {c : Co} {tape : Nat → Int32} {n : Nat} {l : List En} {fs : List Fr} {ls : List Int32} {x1 x2 : Int32} {KH : Int32 → Int32 → MS → Prop} {Post : Int32 → MS → Prop} {T : Nat} (h : RM cap u c tape n l fs ls 0) (hok : ∀ e, e ∈ l → okE T e) (hT : T < 100000) (ht : c_time c = nI (T + 1)) (hb : fs.length + 100 < 2 ^ 30) (hbl : ls.length + 200 < 2 ^ 30) (hP : ∀ u' : MS, RM cap u' c tape n (tkL c l) (fs ++ tkF c l) (ls ++ tkS c l) 0 → KH x1 (x2 + 1) u') : ∃ f9 : Nat, lp_X8_tick_49 KH Post f9 x1 x2 (0 : Int32) u := by
  have key : ∀ (r P : List En) (fs1 : List Fr) (ls1 : List Int32) (u1 : MS), RM cap u1 c tape n (P ++ r) fs1 ls1 0 → (∀ e, e ∈ r → okE T e) → fs1.length + r.length + 10 < 2 ^ 30 → ls1.length + 4 * r.length + 10 < 2 ^ 30 → (∀ u' : MS, RM cap u' c tape n (P ++ tkL c r) (fs1 ++ tkF c r) (ls1 ++ tkS c r) 0 → KH x1 (x2 + 1) u') → lp_X8_tick_49 KH Post (r.length + 1) x1 x2 (nI P.length) u1 := by
    intro r
    induction r with
    | nil =>
      intro P fs1 ls1 u1 hu _ _ _ hQ
      show lb_X8_tick_49 KH Post _ x1 x2 (nI P.length) u1
      unfold lb_X8_tick_49
      simp only [tkL, tkF, tkS, List.append_nil] at hQ
      rw [List.append_nil] at hu
      have h32 := hu.2.2.1.2.2.1
      have hcp := hu.2.2.1.2.1
      rw [hu.2.2.1.1]
      exact br_t (nI_le (Nat.le_refl _) (by omega)) (hQ u1 hu)
    | cons e r ih =>
      intro P fs1 ls1 u1 hu hok1 hb1 hb2 hQ
      have hg := get_mid P e r
      obtain ⟨q1, q2, q3, q4, q5⟩ := hu.2.2.1.lt hg
      rw [List.length_cons] at hb1 hb2
      show lb_X8_tick_49 KH Post (lp_X8_tick_49 KH Post (r.length + 1)) x1 x2 (nI P.length) u1
      unfold lb_X8_tick_49
      have hp1 : nI P.length + 1 = nI (P ++ [tE c e]).length := by rw [List.length_append, List.length_singleton]; exact nI_1 _
      rw [hu.2.2.1.1]
      refine br_f (nI_ge q1 (by omega)) (vM_entryTick hu hg (hok1 e List.mem_cons_self) hT ht (by omega) (fun ho => ?_) (fun ho u3 h3 => ?_))
      · refine ⟨fun _ => vM_goes hu hg (by omega) (fun u6 h6 => ih P fs1 (ls1 ++ n_wt e) u6 ?_ (fun x hx => hok1 x (List.mem_cons_of_mem _ hx)) (by omega) (by rw [List.length_append]; omega) (fun u' hu' => hQ u' ?_)), fun z => absurd rfl z⟩
        · rw [era_mid] at h6
          exact h6
        · simp only [tkL, tkF, tkS, if_pos ho, List.nil_append]
          rw [List.append_assoc] at hu'
          exact hu'
      · refine ⟨fun z => absurd z (by decide), fun _ => ?_⟩
        rw [hp1]
        have := tF_le c e
        refine ih (P ++ [tE c e]) (fs1 ++ tF c e) ls1 u3 ?_ (fun x hx => hok1 x (List.mem_cons_of_mem _ hx)) (by rw [List.length_append]; omega) (by omega) (fun u' hu' => hQ u' ?_)
        · rw [set_mid] at h3
          rw [List.append_assoc]
          exact h3
        · simp only [tkL, tkF, tkS, if_neg ho, List.nil_append]
          rw [List.append_assoc, List.append_assoc] at hu'
          exact hu'
  have h32 := h.2.2.1.2.2.1
  have hcp := h.2.2.1.2.1
  exact ⟨l.length + 1, key l [] fs ls u h hok (by omega) (by omega) hP⟩
