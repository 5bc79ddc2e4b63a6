/-! the reference: bytes, frames, losses, the tape -/
theorem RM.keepM {cap : Nat} {u u' : MS} {c c' : Co} {tape : Nat → Int32} {n : Nat} {l : List En} {fs : List Fr} {ls : List Int32} {th : Int32} (h : RM cap u c tape n l fs ls th) (hc : mcore u' = c') (k2 : mT u' = mT u) (k3 : mF u' = mF u) (k4 : mL u' = mL u) (k5 : mE u' = mE u) (k6 : mX u' = mX u) : RM cap u' c' tape n l fs ls th :=
  ⟨hc, h.2.1.keep k2, h.2.2.1.keep k5, h.2.2.2.1.keep k3, h.2.2.2.2.1.keep k4, (g_mX k6).1.trans h.2.2.2.2.2.1, (g_mX k6).2.trans h.2.2.2.2.2.2⟩
theorem RM.mkF {cap : Nat} {u u' : MS} {c : Co} {tape : Nat → Int32} {n : Nat} {l : List En} {fs fs' : List Fr} {ls : List Int32} {th : Int32} (h : RM cap u c tape n l fs ls th) (hF : MFu u' fs') (k1 : mcore u' = mcore u) (k2 : mT u' = mT u) (k4 : mL u' = mL u) (k5 : mE u' = mE u) (k6 : mX u' = mX u) : RM cap u' c tape n l fs' ls th :=
  ⟨k1.trans h.1, h.2.1.keep k2, h.2.2.1.keep k5, hF, h.2.2.2.2.1.keep k4, (g_mX k6).1.trans h.2.2.2.2.2.1, (g_mX k6).2.trans h.2.2.2.2.2.2⟩
theorem RM.mkE {cap : Nat} {u u' : MS} {c : Co} {tape : Nat → Int32} {n : Nat} {l l' : List En} {fs : List Fr} {ls : List Int32} {th : Int32} (h : RM cap u c tape n l fs ls th) (hE : MEu cap u' l') (k1 : mcore u' = mcore u) (k2 : mT u' = mT u) (k3 : mF u' = mF u) (k4 : mL u' = mL u) (k6 : mX u' = mX u) : RM cap u' c tape n l' fs ls th :=
  ⟨k1.trans h.1, h.2.1.keep k2, hE, h.2.2.2.1.keep k3, h.2.2.2.2.1.keep k4, (g_mX k6).1.trans h.2.2.2.2.2.1, (g_mX k6).2.trans h.2.2.2.2.2.2⟩
theorem hd6 : ∀ k, k < 6 → (if nI k = 1 then (1 : Int32) else if nI k = 2 then 8 else if nI k = 4 then 6 else if nI k = 5 then 4 else 0) = by8 4429186564 (5 - k) := by decide +kernel
theorem vM_byteOf {k : Nat} {op sa ta : Int32} {s t : Int64} {Post : Int32 → Prop} (hk : k < 28) (hP : Post (pk op s sa t ta k)) : wp_X8_byteOf (nI k) op s sa t ta Post := by
  have s7 : 8 ≤ k → True := fun _ => trivial
  unfold wp_X8_byteOf
  unfold pk at hP
  by_cases h6 : k < 6
  · rw [if_pos h6, ← hd6 k h6] at hP
    refine br_f (nI_ge (b := 6) h6 (by omega)) ⟨fun q1 => ⟨fun q2 => ⟨fun q4 => ⟨fun q5 => ?_, fun q5 => ?_⟩, fun q4 => ?_⟩, fun q2 => ?_⟩, fun q1 => ?_⟩
    · rw [if_neg q1, if_neg q2, if_neg q4, if_neg q5] at hP; exact hP
    · rw [if_neg q1, if_neg q2, if_neg q4, if_pos q5] at hP; exact hP
    · rw [if_neg q1, if_neg q2, if_pos q4] at hP; exact hP
    · rw [if_neg q1, if_pos q2] at hP; exact hP
    · rw [if_pos q1] at hP; exact hP
  rw [if_neg h6] at hP
  refine br_t (nI_le (a := 6) (by omega) (by omega)) ?_
  by_cases h8 : k < 8
  · rw [if_pos h8] at hP
    have e : (7 : Int32) - nI k = nI (7 - k) := pk_sub (a := 7) (by omega)
    rw [e, byI op (by omega)]
    exact br_f (nI_ge (b := 8) h8 (by omega)) hP
  rw [if_neg h8] at hP
  refine br_t (nI_le (a := 8) (by omega) (by omega)) ?_
  by_cases h14 : k < 14
  · rw [if_pos h14] at hP
    have e : (13 : Int32) - nI k = nI (13 - k) := pk_sub (a := 13) (by omega)
    rw [e, byL s (by omega)]
    exact br_f (nI_ge (b := 14) h14 (by omega)) hP
  rw [if_neg h14] at hP
  refine br_t (nI_le (a := 14) (by omega) (by omega)) ?_
  by_cases h18 : k < 18
  · rw [if_pos h18] at hP
    have e : (17 : Int32) - nI k = nI (17 - k) := pk_sub (a := 17) (by omega)
    rw [e, byI sa (by omega)]
    exact br_f (nI_ge (b := 18) h18 (by omega)) hP
  rw [if_neg h18] at hP
  refine br_t (nI_le (a := 18) (by omega) (by omega)) ?_
  by_cases h24 : k < 24
  · rw [if_pos h24] at hP
    have e : (23 : Int32) - nI k = nI (23 - k) := pk_sub (a := 23) (by omega)
    rw [e, byL t (by omega)]
    exact br_f (nI_ge (b := 24) h24 (by omega)) hP
  rw [if_neg h24] at hP
  have e : (27 : Int32) - nI k = nI (27 - k) := pk_sub (a := 27) (by omega)
  rw [e, byI ta (by omega)]
  exact br_t (nI_le (a := 24) (by omega) (by omega)) hP
theorem rem100 {N : Nat} (h : N < 2 ^ 30) : nI N - nI N / (100 : Int32) * (100 : Int32) = nI (N % 100) := pk_rem (d := 100) (by omega) (by omega) (by omega)
def onlyMb (u u' : MS) : Prop := mcore u' = mcore u ∧ mT u' = mT u ∧ mL u' = mL u ∧ mE u' = mE u ∧ mX u' = mX u ∧ M_frames u' = M_frames u ∧ M_frameTo u' = M_frameTo u ∧ M_frameData u' = M_frameData u ∧ M_framePacket u' = M_framePacket u
theorem onlyMb.rf (u : MS) : onlyMb u u := ⟨rfl, rfl, rfl, rfl, rfl, rfl, rfl, rfl, rfl⟩
theorem onlyMb.tr {u v w : MS} (h : onlyMb u v) (k : onlyMb v w) : onlyMb u w := by
  obtain ⟨a1, a2, a3, a4, a5, a6, a7, a8, a9⟩ := h
  obtain ⟨b1, b2, b3, b4, b5, b6, b7, b8, b9⟩ := k
  exact ⟨b1.trans a1, b2.trans a2, b3.trans a3, b4.trans a4, b5.trans a5, b6.trans a6, b7.trans a7, b8.trans a8, b9.trans a9⟩
theorem mul_add (a b c : Nat) : nI a * nI b + nI c = nI (a * b + c) := by rw [pk_mul, nI_add]
theorem vM_sendPacket {cap : Nat} {u : MS} {c : Co} {tape : Nat → Int32} {n : Nat} {l : List En} {fs : List Fr} {ls : List Int32} {th : Int32} {to9 : Int64} {op sa ta : Int32} {t : Int64} {Post : MS → Prop} (h : RM cap u c tape n l fs ls th) (hb : fs.length + 1 < 2 ^ 30) (hP : ∀ u' : MS, RM cap u' c tape n l (fs ++ [(to9, .inr (pk op (c_here c) sa t ta))]) ls th → mE u' = mE u → Post u') : wp_X8_sendPacket to9 op sa t ta u Post := by
  obtain ⟨hf1, hf2, hf3⟩ := h.2.2.2.1
  have hq : fs.length % 100 < 100 := Nat.mod_lt _ (by omega)
  unfold wp_X8_sendPacket
  rw [hf1, rem100 hf2, nI_clamp (by omega)]
  refine ⟨vp_in_nI hq (by omega), fun u2 h2 u4 h4 => ?_⟩
  obtain ⟨a1, a2, a3, a4, a5, a6, a7, a8, a9, a10⟩ := sM_frameTo h2
  obtain ⟨b1, b2, b3, b4, b5, b6, b7, b8, b9, b10⟩ := sM_framePacket h4
  have hhere : M_here u4 = c_here c := (mcore_all ((b1.trans a1).trans h.1)).1
  have key : ∀ (f j : Nat) (u1 : MS), j + f = 28 → onlyMb u4 u1 → (∀ k, k < j → M_frameBytes u1 (28 * (fs.length % 100) + k) = pk op (c_here c) sa t ta k) → (∀ k, (k < 28 * (fs.length % 100) ∨ 28 * (fs.length % 100) + 28 ≤ k) → M_frameBytes u1 k = M_frameBytes u4 k) → lp_X8_sendPacket_28 Post (f + 1) op sa t ta (nI (fs.length % 100)) (nI j) u1 := by
    intro f
    induction f with
    | zero =>
      intro j u1 hj ho hw hr
      show lb_X8_sendPacket_28 Post _ op sa t ta (nI (fs.length % 100)) (nI j) u1
      unfold lb_X8_sendPacket_28
      have hj2 : j = 28 := by omega
      subst hj2
      refine br_t (nI_le (a := 28) (by omega) (by omega)) (fun u2' h2' => hP u2' ?_ ?_)
      · obtain ⟨o1, o2, o3, o4, o5, o6, o7, o8, o9⟩ := ho
        obtain ⟨d1, d2, d3, d4, d5, d6, d7, d8, d9, d10⟩ := sM_frames h2'
        refine h.mkF ?_ (d1.trans (o1.trans (b1.trans a1))) (d2.trans (o2.trans (b2.trans a2))) (d3.trans (o3.trans (b3.trans a3))) (d4.trans (o4.trans (b4.trans a4))) (d5.trans (o5.trans (b5.trans a5)))
        unfold MFu
        rw [d6, d7, d8, d9, d10, o6, o7, o8, o9, b6, b7, b8, b9, a6, a7, a8, a9, hf1]
        have hbb : ∀ k, (k < 28 * (fs.length % 100) ∨ 28 * (fs.length % 100) + 28 ≤ k) → M_frameBytes u1 k = M_frameBytes u k := fun k hk => by rw [hr k hk, b10, a10]
        refine ⟨by rw [List.length_append]; exact nI_1 _, by rw [List.length_append]; exact hb, ring_push hf3 ⟨pk_uLs, by simp only [upd, if_true]; decide, hw⟩ (fun j b hj hb2 => ?_)⟩
        rcases b with ⟨t9, d | bs⟩
        · obtain ⟨z1, z2, z3⟩ := hb2
          exact ⟨by rw [pk_uLn hj]; exact z1, z2, by simp only [upd, hj, if_false]; exact z3⟩
        · obtain ⟨z1, z2, z3⟩ := hb2
          exact ⟨by rw [pk_uLn hj]; exact z1, by simp only [upd, hj, if_false]; exact z2, fun k hk => by rw [hbb _ (by omega)]; exact z3 k hk⟩
      · exact (sM_frames h2').2.2.2.1.trans (ho.2.2.2.1.trans (b4.trans a4))
    | succ f ih =>
      intro j u1 hj ho hw hr
      show lb_X8_sendPacket_28 Post (lp_X8_sendPacket_28 Post (f + 1)) op sa t ta (nI (fs.length % 100)) (nI j) u1
      unfold lb_X8_sendPacket_28
      have e28 : (28 : Int32) * nI (fs.length % 100) + nI j = nI (28 * (fs.length % 100) + j) := mul_add 28 _ _
      have hh1 : M_here u1 = c_here c := (g_mcore ho.1).1.trans hhere
      rw [e28, nI_clamp (by omega), hh1]
      refine br_f (nI_ge (b := 28) (by omega) (by omega)) (vM_byteOf (by omega) ⟨vp_in_nI (by omega) (by omega), fun u7 h7 => ?_⟩)
      obtain ⟨d1, d2, d3, d4, d5, d6, d7, d8, d9, d10⟩ := sM_frameBytes h7
      rw [nI_1]
      refine ih (j + 1) u7 (by omega) (ho.tr ⟨d1, d2, d3, d4, d5, d6, d7, d8, d9⟩) (fun k hk => ?_) (fun k hk => ?_)
      · rw [d10]
        simp only [upd]
        by_cases hkj : k = j
        · subst hkj
          rw [if_pos rfl]
        · rw [if_neg (by omega)]
          exact hw k (by omega)
      · rw [d10]
        simp only [upd]
        rw [if_neg (by omega)]
        exact hr k hk
  exact ⟨29, key 28 0 u4 (by omega) (onlyMb.rf u4) (fun k hk => absurd hk (by omega)) (fun k _ => rfl)⟩
theorem vM_sendData {cap : Nat} {u : MS} {c : Co} {tape : Nat → Int32} {n : Nat} {l : List En} {fs : List Fr} {ls : List Int32} {th : Int32} {to9 : Int64} {d : Int32} {Post : MS → Prop} (h : RM cap u c tape n l fs ls th) (hb : fs.length + 1 < 2 ^ 30) (hP : ∀ u' : MS, RM cap u' c tape n l (fs ++ [fDat to9 d]) ls th → mE u' = mE u → Post u') : wp_X8_sendData to9 d u Post := by
  obtain ⟨hf1, hf2, hf3⟩ := h.2.2.2.1
  have hq : fs.length % 100 < 100 := Nat.mod_lt _ (by omega)
  unfold wp_X8_sendData
  rw [hf1, rem100 hf2, nI_clamp (by omega)]
  refine ⟨vp_in_nI hq (by omega), fun u2 h2 u4 h4 u6 h6 u8 h8 => ?_⟩
  obtain ⟨a1, a2, a3, a4, a5, a6, a7, a8, a9, a10⟩ := sM_frameTo h2
  obtain ⟨b1, b2, b3, b4, b5, b6, b7, b8, b9, b10⟩ := sM_framePacket h4
  obtain ⟨c1, c2, c3, c4, c5, c6, c7, c8, c9, c10⟩ := sM_frameData h6
  obtain ⟨d1, d2, d3, d4, d5, d6, d7, d8, d9, d10⟩ := sM_frames h8
  refine hP u8 (h.mkF ?_ (d1.trans (c1.trans (b1.trans a1))) (d2.trans (c2.trans (b2.trans a2))) (d3.trans (c3.trans (b3.trans a3))) (d4.trans (c4.trans (b4.trans a4))) (d5.trans (c5.trans (b5.trans a5)))) (d4.trans (c4.trans (b4.trans a4)))
  unfold MFu
  rw [d6, d7, d8, d9, d10, c6, c7, c8, c9, c10, b6, b7, b8, b9, b10, a6, a7, a8, a9, a10, hf1]
  refine ⟨by rw [List.length_append]; exact nI_1 _, by rw [List.length_append]; exact hb, ring_push hf3 ⟨pk_uLs, by simp only [upd, if_true], by simp only [upd, if_true]; decide⟩ (fun j b hj hb2 => ?_)⟩
  rcases b with ⟨t9, d9 | bs⟩
  · obtain ⟨z1, z2, z3⟩ := hb2
    exact ⟨by rw [pk_uLn hj]; exact z1, by simp only [upd, hj, if_false]; exact z2, by simp only [upd, hj, if_false]; exact z3⟩
  · obtain ⟨z1, z2, z3⟩ := hb2
    exact ⟨by rw [pk_uLn hj]; exact z1, by simp only [upd, hj, if_false]; exact z2, z3⟩
theorem vM_lose {cap : Nat} {u : MS} {c : Co} {tape : Nat → Int32} {n : Nat} {l : List En} {fs : List Fr} {ls : List Int32} {th : Int32} {d : Int32} {Post : MS → Prop} (h : RM cap u c tape n l fs ls th) (hb : ls.length + 1 < 2 ^ 30) (hP : ∀ u' : MS, RM cap u' c tape n l fs (ls ++ [d]) th → mE u' = mE u → Post u') : wp_X8_lose d u Post := by
  obtain ⟨hf1, hf2, hf3⟩ := h.2.2.2.2.1
  have hq : ls.length % 100 < 100 := Nat.mod_lt _ (by omega)
  unfold wp_X8_lose
  rw [hf1, rem100 hf2, nI_clamp (by omega)]
  refine ⟨vp_in_nI hq (by omega), fun u2 h2 u4 h4 => ?_⟩
  obtain ⟨a1, a2, a3, a4, a5, a6, a7⟩ := sM_lostNumbers h2
  obtain ⟨b1, b2, b3, b4, b5, b6, b7⟩ := sM_lost h4
  refine hP u4 ⟨(b1.trans a1).trans h.1, h.2.1.keep (b2.trans a2), h.2.2.1.keep (b4.trans a4), h.2.2.2.1.keep (b3.trans a3), ?_, (g_mX (b5.trans a5)).1.trans h.2.2.2.2.2.1, (g_mX (b5.trans a5)).2.trans h.2.2.2.2.2.2⟩ (b4.trans a4)
  unfold MLu
  rw [b6, b7, a6, a7, hf1]
  exact ⟨by rw [List.length_append]; exact nI_1 _, by rw [List.length_append]; exact hb, ring_push hf3 (by simp [upd]) (fun j b hj hb2 => by simp only [upd, hj, if_false]; exact hb2)⟩
theorem vM_request {cap : Nat} {u : MS} {c : Co} {tape : Nat → Int32} {n : Nat} {l : List En} {fs : List Fr} {ls : List Int32} {th : Int32} {to9 : Int64} {ta : Int32} {Post : MS → Prop} (h : RM cap u c tape n l fs ls th) (hb : fs.length + 1 < 2 ^ 30) (hP : ∀ u' : MS, RM cap u' c tape n l (fs ++ [fReq c to9 (c_own c) ta]) ls th → mE u' = mE u → Post u') : wp_X8_request to9 ta u Post := by
  unfold wp_X8_request
  rw [(mcore_all h.1).2.2.2.1]
  exact vM_sendPacket h hb hP
theorem vM_probe {cap : Nat} {u : MS} {c : Co} {tape : Nat → Int32} {n : Nat} {l : List En} {fs : List Fr} {ls : List Int32} {th : Int32} {Post : MS → Prop} (h : RM cap u c tape n l fs ls th) (hb : fs.length + 1 < 2 ^ 30) (hP : ∀ u' : MS, RM cap u' c tape n l (fs ++ [fReq c cALL 0 (c_own c)]) ls th → Post u') : wp_X8_probe u Post := by
  unfold wp_X8_probe
  rw [(mcore_all h.1).2.2.2.1]
  exact vM_sendPacket h hb (fun u' hu _ => hP u' hu)
/-! the tape -/
theorem vM_thrown {cap : Nat} {u u' : MS} {c : Co} {tape : Nat → Int32} {n : Nat} {l : List En} {fs : List Fr} {ls : List Int32} {th t9 : Int32} (h : RM cap u c tape n l fs ls th) (h2 : u' = Ms_thrown u t9) : RM cap u' c tape n l fs ls t9 ∧ mE u' = mE u := by
  obtain ⟨a1, a2, a3, a4, a5, a6, a7⟩ := sM_thrown h2
  exact ⟨⟨a1.trans h.1, h.2.1.keep a2, h.2.2.1.keep a5, h.2.2.2.1.keep a3, h.2.2.2.2.1.keep a4, a6, a7.trans h.2.2.2.2.2.2⟩, a5⟩
theorem vM_taped {cap : Nat} {u u' : MS} {c : Co} {tape : Nat → Int32} {n n' : Nat} {l : List En} {fs : List Fr} {ls : List Int32} {th : Int32} (h : RM cap u c tape n l fs ls th) (hn : n' ≤ 40) (h2 : u' = Ms_taped u (nI n')) : RM cap u' c tape n' l fs ls th := by
  obtain ⟨a1, a2, a3, a4, a5, a6, a7⟩ := sM_taped h2
  refine ⟨a1.trans h.1, ?_, h.2.2.1.keep a4, h.2.2.2.1.keep a2, h.2.2.2.2.1.keep a3, (g_mX a5).1.trans h.2.2.2.2.2.1, (g_mX a5).2.trans h.2.2.2.2.2.2⟩
  unfold MTu
  rw [a6, a7]
  exact ⟨rfl, hn, h.2.1.2.2⟩
theorem vM_put {cap : Nat} {u u' : MS} {c : Co} {tape : Nat → Int32} {n : Nat} {l : List En} {fs : List Fr} {ls : List Int32} {th : Int32} {k : Nat} {x : Int32} (h : RM cap u c tape n l fs ls th) (h2 : u' = Ms_tape u (upd (M_tape u) k x)) : RM cap u' c (fun j => if j = k then x else tape j) n l fs ls th := by
  obtain ⟨a1, a2, a3, a4, a5, a6, a7⟩ := sM_tape h2
  refine ⟨a1.trans h.1, ?_, h.2.2.1.keep a4, h.2.2.2.1.keep a2, h.2.2.2.2.1.keep a3, (g_mX a5).1.trans h.2.2.2.2.2.1, (g_mX a5).2.trans h.2.2.2.2.2.2⟩
  unfold MTu
  rw [a6, a7]
  refine ⟨h.2.1.1, h.2.1.2.1, fun j hj => ?_⟩
  simp only [upd]
  by_cases hk : j = k
  · rw [if_pos hk, if_pos hk]
  · rw [if_neg hk, if_neg hk]
    exact h.2.1.2.2 j hj
theorem RM.tape9 {cap : Nat} {u : MS} {c : Co} {tape tape' : Nat → Int32} {n : Nat} {l : List En} {fs : List Fr} {ls : List Int32} {th : Int32} (h : RM cap u c tape n l fs ls th) (ht : ∀ k, k < 40 → tape k = tape' k) : RM cap u c tape' n l fs ls th :=
  ⟨h.1, ⟨h.2.1.1, h.2.1.2.1, fun k hk => (h.2.1.2.2 k hk).trans (ht k hk)⟩, h.2.2⟩
theorem vM_pack {cap : Nat} {u : MS} {c : Co} {tape : Nat → Int32} {n : Nat} {l : List En} {fs : List Fr} {ls : List Int32} {th : Int32} {op : Int32} {s : Int64} {sa : Int32} {t : Int64} {ta : Int32} {Post : MS → Prop} (h : RM cap u c tape n l fs ls th) (hP : ∀ u' : MS, RM cap u' c (pkT tape op s sa t ta) 28 l fs ls 0 → Post u') : wp_X8_pack op s sa t ta u Post := by
  unfold wp_X8_pack
  intro u1 h1 u3 h3
  have h30 := vM_taped (n' := 28) (vM_thrown h h1).1 (by omega) h3
  have key : ∀ (f j : Nat) (u1 : MS), j + f = 28 → RM cap u1 c (fun k => if k < j then pk op s sa t ta k else tape k) 28 l fs ls 0 → lp_X8_pack_14 Post (f + 1) op s sa t ta (nI j) u1 := by
    intro f
    induction f with
    | zero =>
      intro j u1 hj hu
      show lb_X8_pack_14 Post _ op s sa t ta (nI j) u1
      unfold lb_X8_pack_14
      have hj2 : j = 28 := by omega
      subst hj2
      exact br_t (nI_le (a := 28) (by omega) (by omega)) (hP u1 hu)
    | succ f ih =>
      intro j u1 hj hu
      show lb_X8_pack_14 Post (lp_X8_pack_14 Post (f + 1)) op s sa t ta (nI j) u1
      unfold lb_X8_pack_14
      refine br_f (nI_ge (b := 28) (by omega) (by omega)) (vM_byteOf (by omega) ⟨vp_in_nI (by omega) (by omega), fun u5 h5 => ?_⟩)
      rw [nI_clamp (by omega)] at h5
      rw [nI_1]
      refine ih (j + 1) u5 (by omega) ((vM_put hu h5).tape9 (fun k _ => ?_))
      by_cases hkj : k = j
      · subst hkj
        rw [if_pos rfl, if_pos (by omega)]
      · rw [if_neg hkj]
        by_cases h2 : k < j
        · rw [if_pos h2, if_pos (by omega)]
        · rw [if_neg h2, if_neg (by omega)]
  exact ⟨29, key 28 0 u3 (by omega) (h30.tape9 (fun k _ => by rw [if_neg (by omega)]))⟩
theorem vM_typeLoop {cap : Nat} {c : Co} {tape : Nat → Int32} {n m : Nat} {l : List En} {fs : List Fr} {ls : List Int32} {w : Int64} {Post : Int32 → MS → Prop} (hm : m ≤ 8) (hn : n + m ≤ 40) (hP : ∀ u' : MS, RM cap u' c (tyT tape n m w) (n + m) l fs ls 0 → Post (nI (n + m)) u') {u : MS} (h : RM cap u c tape n l fs ls 0) : ∃ f9 : Nat, lp_X8_type_47 Post f9 w (nI m) (0 : Int32) u := by
  have key : ∀ (f i : Nat) (u1 : MS), i + f = m → RM cap u1 c (tyT tape n i w) (n + i) l fs ls 0 → lp_X8_type_47 Post (f + 1) w (nI m) (nI i) u1 := by
    intro f
    induction f with
    | zero =>
      intro i u1 hi hu
      show lb_X8_type_47 Post _ w (nI m) (nI i) u1
      unfold lb_X8_type_47
      have hj2 : i = m := by omega
      subst hj2
      rw [hu.2.1.1]
      exact br_t (nI_le (Nat.le_refl _) (by omega)) (hP u1 hu)
    | succ f ih =>
      intro i u1 hi hu
      show lb_X8_type_47 Post (lp_X8_type_47 Post (f + 1)) w (nI m) (nI i) u1
      unfold lb_X8_type_47
      rw [hu.2.1.1, byL w (by omega), nI_clamp (by omega)]
      refine br_f (nI_ge (by omega) (by omega)) ⟨vp_in_nI (by omega) (by omega), fun u3 h3 u5 h5 => ?_⟩
      have hu3 := vM_put hu h3
      rw [hu3.2.1.1, nI_1] at h5
      rw [nI_1]
      refine ih (i + 1) u5 (by omega) ((vM_taped hu3 (by omega) h5).tape9 (fun k _ => ?_))
      unfold tyT
      by_cases hkj : k = n + i
      · subst hkj
        rw [if_pos rfl, if_pos (by omega)]
        congr 1
        omega
      · rw [if_neg hkj]
        by_cases h2 : n ≤ k ∧ k < n + i
        · rw [if_pos h2, if_pos (by omega)]
        · rw [if_neg h2, if_neg (by omega)]
  exact ⟨m + 1, key m 0 u (by omega) (h.tape9 (fun k _ => by unfold tyT; rw [if_neg (by omega)]))⟩
theorem nthr {u : MS} {cap : Nat} {c : Co} {tape : Nat → Int32} {n : Nat} {l : List En} {fs : List Fr} {ls : List Int32} {th : Int32} (h : RM cap u c tape n l fs ls th) : M_thrown u = th := h.2.2.2.2.2.1
theorem vM_type {cap : Nat} {u : MS} {c : Co} {tape : Nat → Int32} {n : Nat} {l : List En} {fs : List Fr} {ls : List Int32} {th : Int32} {w : Int64} {a : Int32} {Post : Int32 → MS → Prop} (h : RM cap u c tape n l fs ls th) (h1 : (a < 1 ∨ ¬ a ≤ 8) → ∀ u' : MS, RM cap u' c tape n l fs ls 1 → Post 0 u') (h2 : ∀ m : Nat, 1 ≤ m → m ≤ 8 → a = nI m → 40 < n + m → ∀ u' : MS, RM cap u' c tape n l fs ls 2 → Post 0 u') (hP : ∀ m : Nat, 1 ≤ m → m ≤ 8 → a = nI m → n + m ≤ 40 → ∀ u' : MS, RM cap u' c (tyT tape n m w) (n + m) l fs ls 0 → Post (nI (n + m)) u') : wp_X8_type w a u Post := by
  unfold wp_X8_type
  refine ⟨fun q u2 hu2 => ?_, fun q1 => ⟨fun q2 => ?_, fun q u2 hu2 => ?_⟩⟩
  · have hr := (vM_thrown h hu2).1
    rw [nthr hr]
    exact br_f (by decide) (h1 (Or.inl q) u2 hr)
  · have z1 : (1 : Int32).toInt = 1 := rfl
    have z8 : (8 : Int32).toInt = 8 := rfl
    have k1 : ¬ a.toInt < 1 := fun z => q1 (zi_lt.mpr (by rw [z1]; exact z))
    have k2 : a.toInt ≤ 8 := by have := zi_le.mp q2; rw [z8] at this; exact this
    obtain ⟨m, hm, rfl⟩ : ∃ m : Nat, m < 2 ^ 31 ∧ a = nI m := ⟨a.toInt.toNat, by omega, by apply zi_eq.mpr; rw [nI_toInt (by omega)]; omega⟩
    rw [nI_toInt hm] at k1 k2
    have hn : n ≤ 40 := h.2.1.2.1
    have e40 : (40 : Int32) = nI 40 := rfl
    rw [h.2.1.1, nI_add, e40]
    refine ⟨fun q u7 hu7 => ?_, fun q u7 hu7 => ?_⟩
    · have hnm := (nI_leI (by omega) (by omega)).mp q
      have hr := (vM_thrown h hu7).1
      rw [nthr hr]
      exact br_t (by decide) (vM_typeLoop (by omega) hnm (hP m (by omega) (by omega) rfl hnm) hr)
    · have hnm : 40 < n + m := by
        rcases Nat.lt_or_ge 40 (n + m) with z | z
        · exact z
        · exact absurd (nI_le z (by omega)) q
      have hr := (vM_thrown h hu7).1
      rw [nthr hr]
      exact br_f (by decide) (h2 m (by omega) (by omega) rfl hnm u7 hr)
  · have hr := (vM_thrown h hu2).1
    rw [nthr hr]
    exact br_f (by decide) (h1 (Or.inr q) u2 hr)
theorem vM_number {cap : Nat} {u : MS} {c : Co} {tape : Nat → Int32} {n : Nat} {l : List En} {fs : List Fr} {ls : List Int32} {th : Int32} {a m : Nat} {Post : Int64 → MS → Prop} (h : RM cap u c tape n l fs ls th) (ham : a + m ≤ 40) (hP : Post (rdN tape a m) u) : wp_X8_number (nI a) (nI m) u Post := by
  have key : ∀ (f i : Nat), i + f = m → lp_X8_number_5 Post (f + 1) (nI a) (nI m) (rdN tape a i) (nI i) u := by
    intro f
    induction f with
    | zero =>
      intro i hi
      show lb_X8_number_5 Post _ (nI a) (nI m) (rdN tape a i) (nI i) u
      unfold lb_X8_number_5
      have hj2 : i = m := by omega
      subst hj2
      exact br_t (nI_le (Nat.le_refl _) (by omega)) hP
    | succ f ih =>
      intro i hi
      show lb_X8_number_5 Post (lp_X8_number_5 Post (f + 1)) (nI a) (nI m) (rdN tape a i) (nI i) u
      unfold lb_X8_number_5
      rw [nI_add, nI_clamp (by omega), h.2.1.2.2 _ (by omega), nI_1]
      exact br_f (nI_ge (by omega) (by omega)) ⟨vp_in_nI (by omega) (by omega), ih (i + 1) (by omega)⟩
  exact ⟨m + 1, key m 0 (by omega)⟩
