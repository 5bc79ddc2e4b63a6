/-! the reference: its answers -/
def gM (cap : Nat) (c : Co) (tape : Nat → Int32) (n : Nat) (l : List En) (fs : List Fr) (ls : List Int32) (Post : Int32 → MS → Prop) (g : Int32 × Int64) : Prop := ∀ (r : Int32) (v' : MS), RM cap v' c tape n l fs ls g.1 → (g.1 = 0 → i64 r = g.2) → Post r v'
def gML (cap : Nat) (c : Co) (tape : Nat → Int32) (n : Nat) (l : List En) (fs : List Fr) (ls : List Int32) (Post : Int64 → MS → Prop) (g : Int32 × Int64) : Prop := ∀ (r : Int64) (v' : MS), RM cap v' c tape n l fs ls g.1 → (g.1 = 0 → r = g.2) → Post r v'
theorem gM.ok {cap : Nat} {u : MS} {c : Co} {tape : Nat → Int32} {n : Nat} {l : List En} {fs : List Fr} {ls : List Int32} {Post : Int32 → MS → Prop} {x : Int32} (k : gM cap c tape n l fs ls Post (0, i64 x)) (h : RM cap u c tape n l fs ls 0) : Post x u := k x u h (fun _ => rfl)
theorem gM.bad {cap : Nat} {u : MS} {c : Co} {tape : Nat → Int32} {n : Nat} {l : List En} {fs : List Fr} {ls : List Int32} {Post : Int32 → MS → Prop} {x r : Int32} {v : Int64} (k : gM cap c tape n l fs ls Post (r, v)) (h : RM cap u c tape n l fs ls r) (hr : ¬ r = 0) : Post x u := k x u h (fun z => absurd z hr)
theorem gML.ok {cap : Nat} {u : MS} {c : Co} {tape : Nat → Int32} {n : Nat} {l : List En} {fs : List Fr} {ls : List Int32} {Post : Int64 → MS → Prop} {x : Int64} (k : gML cap c tape n l fs ls Post (0, x)) (h : RM cap u c tape n l fs ls 0) : Post x u := k x u h (fun _ => rfl)
theorem gML.bad {cap : Nat} {u : MS} {c : Co} {tape : Nat → Int32} {n : Nat} {l : List En} {fs : List Fr} {ls : List Int32} {Post : Int64 → MS → Prop} {x : Int64} {r : Int32} {v : Int64} (k : gML cap c tape n l fs ls Post (r, v)) (h : RM cap u c tape n l fs ls r) (hr : ¬ r = 0) : Post x u := k x u h (fun z => absurd z hr)
theorem vM_count {cap : Nat} {u : MS} {c : Co} {tape : Nat → Int32} {n : Nat} {l : List En} {fs : List Fr} {ls : List Int32} {th a : Int32} {Post : Int32 → MS → Prop} (h : RM cap u c tape n l fs ls th) (hP : gM cap c tape n l fs ls Post (gCnt c l fs ls a)) : wp_X8_count a u Post := by
  have bad : (∀ j : Nat, j ≤ 7 → ¬ a = nI j) → jn_X8_count_16 Post a 1 u := by
    intro hb
    unfold gCnt at hP
    rw [if_neg (show ¬ a = 0 from hb 0 (by omega)), if_neg (show ¬ a = 1 from hb 1 (by omega)), if_neg (show ¬ a = 2 from hb 2 (by omega)), if_neg (show ¬ a = 3 from hb 3 (by omega)), if_neg (show ¬ a = 4 from hb 4 (by omega)), if_neg (show ¬ a = 5 from hb 5 (by omega)), if_neg (show ¬ a = 6 from hb 6 (by omega)), if_neg (show ¬ a = 7 from hb 7 (by omega))] at hP
    unfold jn_X8_count_16
    intro u1 hu1
    have hr := (vM_thrown h hu1).1
    rw [nthr hr]
    exact br_f (by decide) (hP.bad hr (by decide))
  unfold wp_X8_count
  refine ⟨fun q => bad (fun j hj z => ?_), fun q1 => ⟨fun q2 => ?_, fun q => bad (fun j hj z => ?_)⟩⟩
  · subst z; exact nI_pos (by omega) q
  · obtain ⟨k, hk, rfl⟩ := nI_of2 (M := 7) (n := 7) rfl q1 q2
    unfold jn_X8_count_16
    intro u1 hu1
    have hr := (vM_thrown h hu1).1
    obtain ⟨g1, g2, g3, g4, g5, g6, g7, g8⟩ := mcore_all hr.1
    have hloop : 4 ≤ k → ∃ f9 : Nat, lp_X8_count_77 Post f9 (nI k) (0 : Int32) (0 : Int32) u1 := by
      intro hk4
      have key : ∀ (f x : Nat), x + f = l.length → lp_X8_count_77 Post (f + 1) (nI k) (nI (sumW (l.take x))) (nI x) u1 := by
        intro f
        induction f with
        | zero =>
          intro x hx
          show lb_X8_count_77 Post _ (nI k) (nI (sumW (l.take x))) (nI x) u1
          unfold lb_X8_count_77
          have hx2 : x = l.length := by omega
          subst hx2
          have h32 := hr.2.2.1.2.2.1
          have hcp := hr.2.2.1.2.1
          rw [hr.2.2.1.1, hr.2.2.2.1.1, hr.2.2.2.2.1.1, g6, List.take_length]
          refine br_t (nI_le (Nat.le_refl _) (by omega)) ?_
          rcases (show k = 4 ∨ k = 5 ∨ k = 6 ∨ k = 7 by omega) with rfl | rfl | rfl | rfl
          · exact br_nf rfl (gM.ok hP hr)
          · exact br_nt (by decide) (br_nf rfl (gM.ok hP hr))
          · exact br_nt (by decide) (br_nt (by decide) (br_nf rfl (gM.ok hP hr)))
          · exact br_nt (by decide) (br_nt (by decide) (br_nt (by decide) (gM.ok hP hr)))
        | succ f ih =>
          intro x hx
          show lb_X8_count_77 Post (lp_X8_count_77 Post (f + 1)) (nI k) (nI (sumW (l.take x))) (nI x) u1
          unfold lb_X8_count_77
          obtain ⟨e, he⟩ := get_lt (l := l) (i := x) (by omega)
          obtain ⟨z1, z2, z3, z4, z5⟩ := hr.2.2.1.lt he
          rw [hr.2.2.1.1, nI_clamp (by omega), z4.2.2.2.2.2.1, nI_add, ← sumW_take he, nI_1]
          exact br_f (nI_ge (by omega) (by omega)) ⟨vp_in_nI (by omega) (by omega), ih (x + 1) (by omega)⟩
      exact ⟨l.length + 1, key l.length 0 (by omega)⟩
    rw [nthr hr, g2, g3, g4, hr.2.2.1.1]
    refine br_t (by decide) ⟨fun q => hloop ((nI_leI (a := 4) (by omega) (by omega)).mp q), fun q => ?_⟩
    have hk4 : k < 4 := by
      rcases Nat.lt_or_ge k 4 with z | z
      · exact z
      · exact absurd (nI_le (a := 4) z (by omega)) q
    rcases (show k = 0 ∨ k = 1 ∨ k = 2 ∨ k = 3 by omega) with rfl | rfl | rfl | rfl
    · exact br_nf rfl (gM.ok hP hr)
    · exact br_nt (by decide) (br_nf rfl (gM.ok hP hr))
    · exact br_nt (by decide) (br_nt (by decide) (br_nf rfl (gM.ok hP hr)))
    · exact br_nt (by decide) (br_nt (by decide) (br_nt (by decide) (gM.ok hP hr)))
  · subst z; exact q (nI_le (b := 7) hj (by omega))
theorem vM_entry {cap : Nat} {u : MS} {c : Co} {tape : Nat → Int32} {n : Nat} {l : List En} {fs : List Fr} {ls : List Int32} {th a : Int32} {Post : Int32 → MS → Prop} (h : RM cap u c tape n l fs ls th) (hP : gM cap c tape n l fs ls Post (gEnt l a)) : wp_X8_entry a u Post := by
  have h32 := h.2.2.1.2.2.1
  have hcp := h.2.2.1.2.1
  have bad : gM cap c tape n l fs ls Post (1, 0) → jn_X8_entry_18 Post a 1 u := by
    intro hQ
    unfold jn_X8_entry_18
    intro u1 hu1
    have hr := (vM_thrown h hu1).1
    rw [nthr hr]
    exact br_f (by decide) (hQ.bad hr (by decide))
  unfold wp_X8_entry
  unfold gEnt at hP
  refine ⟨fun q => bad ?_, fun q => ?_⟩
  · rw [if_pos q] at hP
    exact hP
  · rw [if_neg q] at hP
    obtain ⟨k, hk, rfl⟩ := nI_of q
    rw [nI_clamp hk] at hP
    rw [h.2.2.1.1]
    refine ⟨fun q2 => ?_, fun q2 => bad ?_⟩
    · have hkl := (nI_ltI hk (by omega)).mp q2
      obtain ⟨e, he⟩ := get_lt hkl
      simp only [he] at hP
      unfold jn_X8_entry_18
      intro u1 hu1
      have hr := (vM_thrown h hu1).1
      obtain ⟨z1, z2, z3, z4, z5⟩ := hr.2.2.1.lt he
      rw [nthr hr, nI_clamp (by omega), z4.1]
      exact br_t (by decide) ⟨vp_in_nI (by omega) (by omega), hP.ok hr⟩
    · have hkl : ¬ k < l.length := fun z => q2 ((nI_ltI hk (by omega)).mpr z)
      rw [List.getElem?_eq_none (by omega)] at hP
      exact hP
theorem fnd_some {a : Int32} {l : List En} {i : Nat} {e : En} (hf : findA a l = some i) (hi : l[i]? = some e) : fndE a l = some e := by
  unfold fndE
  rw [hf]
  exact hi
theorem fnd_none {a : Int32} {l : List En} (hf : findA a l = none) : fndE a l = none := by
  unfold fndE
  rw [hf]
theorem vM_about {cap : Nat} {u : MS} {c : Co} {tape : Nat → Int32} {n : Nat} {l : List En} {fs : List Fr} {ls : List Int32} {th a b : Int32} {Post : Int32 → MS → Prop} (h : RM cap u c tape n l fs ls th) (hd : dist l) (hP : gM cap c tape n l fs ls Post (gAbt l a b)) : wp_X8_about a b u Post := by
  unfold gAbt at hP
  have bad : ∀ (x3 t9 : Int32), ¬ t9 ≤ 0 → gM cap c tape n l fs ls Post (t9, 0) → jn_X8_about_30 Post b x3 t9 u := by
    intro x3 t9 ht hQ
    unfold jn_X8_about_30
    intro u1 hu1
    have hr := (vM_thrown h hu1).1
    rw [nthr hr]
    exact br_f ht (hQ.bad hr (fun z => ht (by rw [z]; decide)))
  unfold wp_X8_about
  refine vM_find h.2.2.1 hd (fun i e hf hi ha => ?_) (fun hf => ?_)
  · refine ⟨fun q => bad _ 1 (by decide) ?_, fun q1 => ⟨fun q2 => ?_, fun q => bad _ 1 (by decide) ?_⟩⟩
    · rw [if_pos (Or.inl q)] at hP; exact hP
    · rw [if_neg (fun z => z.elim q1 (fun z => z q2)), fnd_some hf hi] at hP
      simp only at hP
      obtain ⟨z1, z2, z3, z4, z5⟩ := h.2.2.1.lt hi
      refine br_nt (nI_m1 (by omega)) ?_
      unfold jn_X8_about_30
      intro u1 hu1
      have hr := (vM_thrown h hu1).1
      obtain ⟨y1, y2, y3, y4, y5, y6, y7, y8⟩ := (hr.2.2.1.lt hi).2.2.2.1
      rw [nthr hr, nI_clamp (by omega), y2, y4, y5, y6]
      refine br_t (by decide) ⟨fun k0 => ⟨fun k1 => ⟨fun k2 => ⟨vp_in_nI (by omega) (by omega), ?_⟩, fun k2 => ⟨vp_in_nI (by omega) (by omega), ?_⟩⟩, fun k1 => ⟨vp_in_nI (by omega) (by omega), ?_⟩⟩, fun k0 => ⟨vp_in_nI (by omega) (by omega), ?_⟩⟩
      · rw [if_neg k0, if_neg k1, if_neg k2] at hP; exact hP.ok hr
      · rw [if_neg k0, if_neg k1, if_pos k2] at hP; exact hP.ok hr
      · rw [if_neg k0, if_pos k1] at hP; exact hP.ok hr
      · rw [if_pos k0] at hP; exact hP.ok hr
    · rw [if_pos (Or.inr q)] at hP; exact hP
  · refine ⟨fun q => bad _ 1 (by decide) ?_, fun q1 => ⟨fun q2 => br_nf rfl (bad _ 2 (by decide) ?_), fun q => bad _ 1 (by decide) ?_⟩⟩
    · rw [if_pos (Or.inl q)] at hP; exact hP
    · rw [if_neg (fun z => z.elim q1 (fun z => z q2)), fnd_none hf] at hP; exact hP
    · rw [if_pos (Or.inr q)] at hP; exact hP
theorem vM_hardware {cap : Nat} {u : MS} {c : Co} {tape : Nat → Int32} {n : Nat} {l : List En} {fs : List Fr} {ls : List Int32} {th a : Int32} {Post : Int64 → MS → Prop} (h : RM cap u c tape n l fs ls th) (hd : dist l) (hh : ∀ e, e ∈ l → n_kd e = 1 → n_hw e = 0) (hP : gML cap c tape n l fs ls Post (gHw l a)) : wp_X8_hardware a u Post := by
  unfold gHw at hP
  unfold wp_X8_hardware
  refine vM_find h.2.2.1 hd (fun i e hf hi ha => ?_) (fun hf => ?_)
  · rw [fnd_some hf hi] at hP
    simp only at hP
    obtain ⟨z1, z2, z3, z4, z5⟩ := h.2.2.1.lt hi
    refine br_nt (nI_m1 (by omega)) ?_
    unfold jn_X8_hardware_17
    intro u1 hu1
    have hr := (vM_thrown h hu1).1
    obtain ⟨y1, y2, y3, y4, y5, y6, y7, y8⟩ := (hr.2.2.1.lt hi).2.2.2.1
    rw [nthr hr, nI_clamp (by omega), y2, y3]
    refine br_f (by decide) ⟨vp_in_nI (by omega) (by omega), fun _ => hP.ok hr, fun k => ?_⟩
    rw [hh e (List.mem_iff_getElem?.mpr ⟨i, hi⟩) k] at hP
    exact hP.ok hr
  · rw [fnd_none hf] at hP
    refine br_nf rfl ?_
    unfold jn_X8_hardware_17
    intro u1 hu1
    have hr := (vM_thrown h hu1).1
    rw [nthr hr]
    exact br_t (by decide) (hP.bad hr (by decide))
theorem vM_knows {cap : Nat} {u : MS} {c : Co} {tape : Nat → Int32} {n : Nat} {l : List En} {fs : List Fr} {ls : List Int32} {th a : Int32} {Post : Int32 → MS → Prop} (h : RM cap u c tape n l fs ls th) (hd : dist l) (hP : ∀ u' : MS, RM cap u' c tape n l fs ls 0 → Post (gKnw l a) u') : wp_X8_knows a u Post := by
  unfold gKnw at hP
  unfold wp_X8_knows
  intro u1 hu1
  have hr := (vM_thrown h hu1).1
  refine vM_find hr.2.2.1 hd (fun i e hf hi ha => ?_) (fun hf => ?_)
  · rw [fnd_some hf hi] at hP
    simp only at hP
    obtain ⟨z1, z2, z3, z4, z5⟩ := hr.2.2.1.lt hi
    rw [nI_clamp (by omega), z4.2.1]
    refine br_f (nI_m1 (by omega)) ⟨vp_in_nI (by omega) (by omega), fun k => ?_, fun k => ?_⟩
    · rw [if_pos k] at hP; exact hP u1 hr
    · rw [if_neg k] at hP; exact hP u1 hr
  · rw [fnd_none hf] at hP
    exact br_t rfl (hP u1 hr)
theorem vM_waits {cap : Nat} {u : MS} {c : Co} {tape : Nat → Int32} {n : Nat} {l : List En} {fs : List Fr} {ls : List Int32} {th a b : Int32} {Post : Int32 → MS → Prop} (h : RM cap u c tape n l fs ls th) (hd : dist l) (hP : gM cap c tape n l fs ls Post (gWai l a b)) : wp_X8_waits a b u Post := by
  unfold gWai at hP
  have bad : ∀ (x3 t9 : Int32), ¬ t9 ≤ 0 → gM cap c tape n l fs ls Post (t9, 0) → jn_X8_waits_35 Post b x3 t9 u := by
    intro x3 t9 ht hQ
    unfold jn_X8_waits_35
    intro u1 hu1
    have hr := (vM_thrown h hu1).1
    rw [nthr hr]
    exact br_f ht (hQ.bad hr (fun z => ht (by rw [z]; decide)))
  unfold wp_X8_waits
  refine vM_find h.2.2.1 hd (fun i e hf hi ha => ?_) (fun hf => ?_)
  · rw [fnd_some hf hi] at hP
    simp only at hP
    obtain ⟨z1, z2, z3, z4, z5⟩ := h.2.2.1.lt hi
    rw [nI_clamp (by omega), z4.2.2.2.2.2.1]
    refine br_nt (nI_m1 (by omega)) ⟨fun q => bad _ 2 (by decide) ?_, fun q => ⟨vp_in_nI (by omega) (by omega), ?_⟩⟩
    · rw [if_pos q] at hP; exact hP
    · rw [if_neg q] at hP
      obtain ⟨j, hj, rfl⟩ := nI_of q
      rw [nI_clamp hj] at hP
      refine ⟨fun q2 => ?_, fun q2 => bad _ 2 (by decide) ?_⟩
      · have hjl : j < (n_wt e).length := (nI_ltI hj (by omega)).mp q2
        obtain ⟨x, hx⟩ := get_lt hjl
        simp only [hx] at hP
        unfold jn_X8_waits_35
        intro u1 hu1
        have hr := (vM_thrown h hu1).1
        obtain ⟨y1, y2, y3, y4, y5, y6, y7, y8⟩ := (hr.2.2.1.lt hi).2.2.2.1
        have e1 : (4 : Int32) * nI i + nI j = nI (4 * i + j) := mul_add 4 _ _
        rw [nthr hr, e1, nI_clamp (by omega), y8 j x hx]
        exact br_t (by decide) ⟨vp_in_nI (by omega) (by omega), hP.ok hr⟩
      · have hjl : ¬ j < (n_wt e).length := fun z => q2 ((nI_ltI hj (by omega)).mpr z)
        rw [List.getElem?_eq_none (by omega)] at hP
        exact hP
  · rw [fnd_none hf] at hP
    exact br_nf rfl (bad _ 1 (by decide) hP)
theorem vM_frame {u : MS} {fs : List Fr} {a : Int32} {Post : Int32 → MS → Prop} (h : MFu u fs) (h1 : ∀ (k : Nat) (x : Fr), a = nI k → k < 100 → kept fs a = some x → fs[fs.length - 100 + k]? = some x → Post (nI ((fs.length - 100 + k) % 100)) u) (h0 : kept fs a = none → Post (-1) u) : wp_X8_frame a u Post := by
  obtain ⟨f1, f2, f3⟩ := h
  have e100 : (100 : Int32) = nI 100 := rfl
  have j20 : jn_X8_frame_20 Post a (nI (fs.length - 100)) u := by
    unfold jn_X8_frame_20
    rw [f1, pk_sub (by omega)]
    refine ⟨fun q => h0 (kept_neg q), fun q => ?_⟩
    obtain ⟨k, hk, rfl⟩ := nI_of q
    refine ⟨fun q2 => ?_, fun q2 => h0 (kept_out hk ?_)⟩
    · have hkl := (nI_ltI hk (by omega)).mp q2
      obtain ⟨x, hx, hx2⟩ := kept_in (l := fs) (k := k) (by omega) (by omega)
      have hrem : nI (fs.length - 100 + k) - nI (fs.length - 100 + k) / (100 : Int32) * (100 : Int32) = nI ((fs.length - 100 + k) % 100) := rem100 (by omega)
      rw [nI_add, hrem]
      exact h1 k x rfl (by omega) hx hx2
    · have hkl : ¬ k < fs.length - (fs.length - 100) := fun z => q2 (nI_lt z (by omega))
      omega
  unfold wp_X8_frame
  rw [f1]
  refine ⟨fun q => ?_, fun q => ?_⟩
  · have hl : 100 ≤ fs.length := (nI_leI (a := 100) (by omega) (by omega)).mp q
    have e : nI fs.length - (100 : Int32) = nI (fs.length - 100) := pk_sub (b := 100) hl
    rw [e]
    exact j20
  · have hl : fs.length < 100 := by
      rcases Nat.lt_or_ge fs.length 100 with z | z
      · exact z
      · exact absurd (nI_le (a := 100) z (by omega)) q
    have e : nI (fs.length - 100) = 0 := by rw [show fs.length - 100 = 0 by omega]; rfl
    rw [e] at j20
    exact j20
theorem vM_to {cap : Nat} {u : MS} {c : Co} {tape : Nat → Int32} {n : Nat} {l : List En} {fs : List Fr} {ls : List Int32} {th a : Int32} {Post : Int64 → MS → Prop} (h : RM cap u c tape n l fs ls th) (hP : gML cap c tape n l fs ls Post (gTo fs a)) : wp_X8_to a u Post := by
  unfold gTo at hP
  unfold wp_X8_to
  refine vM_frame h.2.2.2.1 (fun k x hak hk hx hx2 => ?_) (fun hn => ?_)
  · rw [hx] at hP
    simp only at hP
    refine br_nt (nI_m1 (by omega)) ?_
    unfold jn_X8_to_17
    intro u1 hu1
    have hr := (vM_thrown h hu1).1
    have hf := hr.2.2.2.1.2.2 _ _ hx2 (by omega)
    rw [nthr hr, nI_clamp (by omega), hf.1]
    exact br_t (by decide) ⟨vp_in_nI (by omega) (by omega), hP.ok hr⟩
  · rw [hn] at hP
    refine br_nf rfl ?_
    unfold jn_X8_to_17
    intro u1 hu1
    have hr := (vM_thrown h hu1).1
    rw [nthr hr]
    exact br_f (by decide) (hP.bad hr (by decide))
theorem vM_data {cap : Nat} {u : MS} {c : Co} {tape : Nat → Int32} {n : Nat} {l : List En} {fs : List Fr} {ls : List Int32} {th a : Int32} {Post : Int32 → MS → Prop} (h : RM cap u c tape n l fs ls th) (hP : gM cap c tape n l fs ls Post (gDat fs a)) : wp_X8_data a u Post := by
  unfold gDat at hP
  unfold wp_X8_data
  refine vM_frame h.2.2.2.1 (fun k x hak hk hx hx2 => ?_) (fun hn => ?_)
  · rw [hx] at hP
    simp only at hP
    refine br_nt (nI_m1 (by omega)) ?_
    unfold jn_X8_data_17
    intro u1 hu1
    have hr := (vM_thrown h hu1).1
    have hf := hr.2.2.2.1.2.2 _ _ hx2 (by omega)
    rw [nthr hr, nI_clamp (by omega)]
    refine br_t (by decide) ⟨vp_in_nI (by omega) (by omega), ?_⟩
    rcases x with ⟨t, d | bs⟩
    · rw [hf.2.1, hf.2.2]
      exact br_t rfl (hP.ok hr)
    · rw [hf.2.1]
      exact br_f (by decide) (hP.ok hr)
  · rw [hn] at hP
    refine br_nf rfl ?_
    unfold jn_X8_data_17
    intro u1 hu1
    have hr := (vM_thrown h hu1).1
    rw [nthr hr]
    exact br_f (by decide) (hP.bad hr (by decide))
theorem vM_out {cap : Nat} {u : MS} {c : Co} {tape : Nat → Int32} {n : Nat} {l : List En} {fs : List Fr} {ls : List Int32} {th a b : Int32} {Post : Int32 → MS → Prop} (h : RM cap u c tape n l fs ls th) (hP : gM cap c tape n l fs ls Post (gOut fs a b)) : wp_X8_out a b u Post := by
  have bad : ∀ x3 : Int32, gM cap c tape n l fs ls Post (1, 0) → jn_X8_out_36 Post b x3 1 u := by
    intro x3 hQ
    unfold jn_X8_out_36
    intro u1 hu1
    have hr := (vM_thrown h hu1).1
    rw [nthr hr]
    exact br_f (by decide) (hQ.bad hr (by decide))
  unfold gOut at hP
  unfold wp_X8_out
  refine vM_frame h.2.2.2.1 (fun k x hak hk hx hx2 => ?_) (fun hn => ?_)
  · rw [hx] at hP
    simp only at hP
    have hf := h.2.2.2.1.2.2 _ _ hx2 (by omega)
    rw [nI_clamp (by omega)]
    refine br_f (nI_m1 (by omega)) ⟨vp_in_nI (by omega) (by omega), ?_⟩
    rcases x with ⟨t, d | bs⟩
    · rw [hf.2.2]
      exact br_t rfl (bad _ hP)
    · rw [hf.2.1]
      simp only at hP
      refine br_f (by decide) ⟨fun q => ?_, fun q => ?_⟩
      · rw [if_pos q] at hP
        exact bad _ hP
      · rw [if_neg q] at hP
        refine ⟨fun q2 => ?_, fun q2 => ?_⟩
        · rw [if_pos q2] at hP
          obtain ⟨j, hj, rfl⟩ := nI_of q
          have hj28 : j < 28 := (nI_ltI (b := 28) hj (by omega)).mp q2
          rw [nI_clamp hj] at hP
          unfold jn_X8_out_36
          intro u1 hu1
          have hr := (vM_thrown h hu1).1
          have hf1 := hr.2.2.2.1.2.2 _ _ hx2 (by omega)
          have e28 : (28 : Int32) * nI ((fs.length - 100 + k) % 100) + nI j = nI (28 * ((fs.length - 100 + k) % 100) + j) := mul_add 28 _ _
          rw [nthr hr, e28, nI_clamp (by omega), hf1.2.2 j hj28]
          exact br_t (by decide) ⟨vp_in_nI (by omega) (by omega), hP.ok hr⟩
        · rw [if_neg q2] at hP
          exact bad _ hP
  · rw [hn] at hP
    exact br_t rfl (bad _ hP)
theorem vM_lost {cap : Nat} {u : MS} {c : Co} {tape : Nat → Int32} {n : Nat} {l : List En} {fs : List Fr} {ls : List Int32} {th a : Int32} {Post : Int32 → MS → Prop} (h : RM cap u c tape n l fs ls th) (hP : gM cap c tape n l fs ls Post (gLos ls a)) : wp_X8_lost a u Post := by
  obtain ⟨f1, f2, f3⟩ := h.2.2.2.2.1
  unfold gLos at hP
  have bad : kept ls a = none → ∀ t0 : Int32, jn_X8_lost_41 Post a t0 1 u := by
    intro hn t0
    rw [hn] at hP
    unfold jn_X8_lost_41
    intro u1 hu1
    have hr := (vM_thrown h hu1).1
    rw [nthr hr]
    exact br_f (by decide) (hP.bad hr (by decide))
  have j20 : jn_X8_lost_20 Post a (nI (ls.length - 100)) u := by
    unfold jn_X8_lost_20
    rw [f1, pk_sub (by omega)]
    refine ⟨fun q => bad (kept_neg q) _, fun q => ?_⟩
    obtain ⟨k, hk, rfl⟩ := nI_of q
    refine ⟨fun q2 => ?_, fun q2 => bad (kept_out hk ?_) _⟩
    · have hkl := (nI_ltI hk (by omega)).mp q2
      obtain ⟨x, hx, hx2⟩ := kept_in (l := ls) (k := k) (by omega) (by omega)
      have hrem : nI (ls.length - 100 + k) - nI (ls.length - 100 + k) / (100 : Int32) * (100 : Int32) = nI ((ls.length - 100 + k) % 100) := rem100 (by omega)
      rw [hx] at hP
      simp only at hP
      unfold jn_X8_lost_41
      intro u1 hu1
      have hr := (vM_thrown h hu1).1
      have hf := hr.2.2.2.2.1.2.2 _ _ hx2 (by omega)
      rw [nthr hr, nI_add, hrem, nI_clamp (by omega), hf]
      exact br_t (by decide) ⟨vp_in_nI (by omega) (by omega), hP.ok hr⟩
    · have hkl : ¬ k < ls.length - (ls.length - 100) := fun z => q2 (nI_lt z (by omega))
      omega
  unfold wp_X8_lost
  rw [f1]
  refine ⟨fun q => ?_, fun q => ?_⟩
  · have hl : 100 ≤ ls.length := (nI_leI (a := 100) (by omega) (by omega)).mp q
    have e : nI ls.length - (100 : Int32) = nI (ls.length - 100) := pk_sub (b := 100) hl
    rw [e]
    exact j20
  · have hl : ls.length < 100 := by
      rcases Nat.lt_or_ge ls.length 100 with z | z
      · exact z
      · exact absurd (nI_le (a := 100) z (by omega)) q
    have e : nI (ls.length - 100) = 0 := by rw [show ls.length - 100 = 0 by omega]; rfl
    rw [e] at j20
    exact j20
