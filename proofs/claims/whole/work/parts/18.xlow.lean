/-! the class: rings, frames, numbers lost, the tape -/
theorem RX.mk5 {cap : Nat} {u u' : XS} {c : Co} {tape : Nat → Int32} {n : Nat} {l : List En} {fs fs' : List Fr} {ls : List Int32} {o : Nat → Int64} (h : RX cap u c tape n l fs ls o) (hF : XFu u' fs') (k1 : core u' = core u) (k2 : xT u' = xT u) (k3 : xL u' = xL u) (k4 : xE u' = xE u) (k5 : xO u' = xO u) : RX cap u' c tape n l fs' ls o := by
  obtain ⟨hc, ht, he, hf, hl, ho⟩ := h
  exact ⟨k1.trans hc, ht.keep k2, he.keep k4, hF, hl.keep k3, (g_xO k5).trans ho⟩
theorem vX_nextSlot_f {cap n : Nat} {u : XS} {Post : Int32 → XS → Prop} (hn : X_ft u = nI n) (hb : n < 2 ^ 30) (hP : ∀ u' : XS, u' = Xs_ft u (nI (n + 1)) → Post (nI (n % 100)) u') : wp_X4_nextSlot_f cap u Post := by
  unfold wp_X4_nextSlot_f
  rw [hn]
  refine sJ_floorMod (by omega) (fun u' h => hP u' ?_)
  rw [h]
  exact congrArg _ (nI_1 n)
theorem vX_nextSlot_l {cap n : Nat} {u : XS} {Post : Int32 → XS → Prop} (hn : X_lt u = nI n) (hb : n < 2 ^ 30) (hP : ∀ u' : XS, u' = Xs_lt u (nI (n + 1)) → Post (nI (n % 100)) u') : wp_X4_nextSlot_l cap u Post := by
  unfold wp_X4_nextSlot_l
  rw [hn]
  refine sJ_floorMod (by omega) (fun u' h => hP u' ?_)
  rw [h]
  exact congrArg _ (nI_1 n)
theorem vX_addData {cap : Nat} {u : XS} {c : Co} {tape : Nat → Int32} {n : Nat} {l : List En} {fs : List Fr} {ls : List Int32} {o : Nat → Int64} {to9 : Int64} {d : Int32} {Post : XS → Prop} (h : RX cap u c tape n l fs ls o) (hb : fs.length + 1 < 2 ^ 30) (hP : ∀ u' : XS, RX cap u' c tape n l (fs ++ [(to9, .inl d)]) ls o → xE u' = xE u → Post u') : wp_X2_addData cap to9 d u Post := by
  have h0 := h
  obtain ⟨hc, ht, he, ⟨hf1, hf2, hf3⟩, hl, ho⟩ := h
  unfold wp_X2_addData
  refine vX_nextSlot_f hf1 (by omega) (fun u2 h2 => ?_)
  have hcl : (nI (fs.length % 100)).toNatClampNeg = fs.length % 100 := nI_clamp (by omega)
  refine ⟨vp_in_nI (by omega) (by omega), fun u4 h4 u6 h6 u8 h8 => hP u8 ?_ ((sX_fp h8).2.2.2.1.trans ((sX_fn h6).2.2.2.1.trans ((sX_fg h4).2.2.2.1.trans (sX_ft h2).2.2.2.1)))⟩
  obtain ⟨a1, a2, a3, a4, a5, a6, a7, a8, a9, a10⟩ := sX_ft h2
  obtain ⟨b1, b2, b3, b4, b5, b6, b7, b8, b9, b10⟩ := sX_fg h4
  obtain ⟨c1, c2, c3, c4, c5, c6, c7, c8, c9, c10⟩ := sX_fn h6
  obtain ⟨d1, d2, d3, d4, d5, d6, d7, d8, d9, d10⟩ := sX_fp h8
  refine h0.mk5 ?_ (d1.trans (c1.trans (b1.trans a1))) (d2.trans (c2.trans (b2.trans a2))) (d3.trans (c3.trans (b3.trans a3))) (d4.trans (c4.trans (b4.trans a4))) (d5.trans (c5.trans (b5.trans a5)))
  unfold XFu
  simp only [d6, d7, d8, d9, d10, c6, c7, c8, c9, c10, b6, b7, b8, b9, b10, a6, a7, a8, a9, a10, hcl]
  refine ⟨by rw [List.length_append]; rfl, by rw [List.length_append]; exact hb, ring_push hf3 ⟨by simp [vp_updL], by simp [upd], by simp [upd]; rfl⟩ (fun j b hj hb2 => ?_)⟩
  rcases b with ⟨t, s | s⟩
  · obtain ⟨z1, z2, z3⟩ := hb2
    exact ⟨by simp only [vp_updL, hj, if_false]; exact z1, by simp only [upd, hj, if_false]; exact z2, by simp only [upd, hj, if_false]; exact z3⟩
  · obtain ⟨z1, z2, z3, z4⟩ := hb2
    exact ⟨by simp only [vp_updL, hj, if_false]; exact z1, by simp only [upd, hj, if_false]; exact z2, by simp only [upd, hj, if_false]; exact z3, z4⟩
/-- only bytes of frames differ -/
def onlyFb (u u' : XS) : Prop := core u' = core u ∧ xT u' = xT u ∧ xL u' = xL u ∧ xE u' = xE u ∧ xO u' = xO u ∧ X_ft u' = X_ft u ∧ X_fg u' = X_fg u ∧ X_fn u' = X_fn u ∧ X_fp u' = X_fp u
theorem onlyFb.rf (u : XS) : onlyFb u u := ⟨rfl, rfl, rfl, rfl, rfl, rfl, rfl, rfl, rfl⟩
theorem onlyFb.tr {u v w : XS} (h : onlyFb u v) (k : onlyFb v w) : onlyFb u w := by
  obtain ⟨h1, h2, h3, h4, h5, h6, h7, h8, h9⟩ := h
  obtain ⟨k1, k2, k3, k4, k5, k6, k7, k8, k9⟩ := k
  exact ⟨k1.trans h1, k2.trans h2, k3.trans h3, k4.trans h4, k5.trans h5, k6.trans h6, k7.trans h7, k8.trans h8, k9.trans h9⟩
theorem vX_write_loop_f {cap at9 : Nat} {Post : XS → Prop} : ∀ (j : Nat) (y : Int64) (u : XS), at9 + j ≤ 2800 → (∀ u' : XS, onlyFb u u' → (∀ k, at9 ≤ k → k < at9 + j → X_fb u' k &&& 255 = by8 y.toInt (j - 1 - (k - at9))) → (∀ k, (k < at9 ∨ at9 + j ≤ k) → X_fb u' k = X_fb u k) → Post u') → lp_X6_write_f_8 cap Post (j + 1) (nI at9) y (nI j - 1) u := by
  intro j
  induction j with
  | zero =>
    intro y u ha hP
    show lb_X6_write_f_8 cap Post (lp_X6_write_f_8 cap Post 0) (nI at9) y (nI 0 - 1) u
    unfold lb_X6_write_f_8
    exact br_t (by decide) (hP u (onlyFb.rf u) (fun k h1 h2 => absurd h2 (by omega)) (fun _ _ => rfl))
  | succ j ih =>
    intro y u ha hP
    show lb_X6_write_f_8 cap Post (lp_X6_write_f_8 cap Post (j + 1)) (nI at9) y (nI (j + 1) - 1) u
    unfold lb_X6_write_f_8
    rw [nI_pred]
    refine br_f (nI_pos (by omega)) ⟨by rw [nI_add]; exact vp_in_nI (by omega) (by omega), fun u3 h3 => ?_⟩
    have hcl : (nI at9 + nI j).toNatClampNeg = at9 + j := by rw [nI_add]; exact nI_clamp (by omega)
    rw [hcl] at h3
    obtain ⟨a1, a2, a3, a4, a5, a6, a7, a8, a9, a10⟩ := sX_fb h3
    rw [zn_m1]
    refine ih _ u3 (by omega) (fun u' k1 k2 k3 => hP u' (onlyFb.tr ⟨a1, a2, a3, a4, a5, a6, a7, a8, a9⟩ k1) (fun k h1 h2 => ?_) (fun k h1 => ?_))
    · by_cases hk : k < at9 + j
      · rw [k2 k h1 hk, sar8, by8_shift]
        congr 1
        omega
      · have hk2 : k = at9 + j := by omega
        subst hk2
        rw [k3 _ (by omega), a10]
        simp only [upd, if_true]
        rw [nar_255, l2i_255]
        congr 1
        omega
    · rw [k3 k (by omega), a10]
      simp only [upd]
      rw [if_neg (by omega)]
theorem vX_write_f {cap at9 j : Nat} {y : Int64} {u : XS} {Post : XS → Prop} (ha : at9 + j ≤ 2800) (hP : ∀ u' : XS, onlyFb u u' → (∀ k, at9 ≤ k → k < at9 + j → X_fb u' k &&& 255 = by8 y.toInt (j - 1 - (k - at9))) → (∀ k, (k < at9 ∨ at9 + j ≤ k) → X_fb u' k = X_fb u k) → Post u') : wp_X6_write_f cap (nI at9) (nI j) y u Post := ⟨j + 1, vX_write_loop_f j y u ha hP⟩
theorem vX_writePacket_f {cap at9 : Nat} {op : Int32} {s : Int64} {sa : Int32} {t : Int64} {ta : Int32} {u : XS} {Post : XS → Prop} (ha : at9 + 28 ≤ 2800) (hP : ∀ u' : XS, onlyFb u u' → (∀ k, k < 28 → X_fb u' (at9 + k) &&& 255 = pk op s sa t ta k) → (∀ k, (k < at9 ∨ at9 + 28 ≤ k) → X_fb u' k = X_fb u k) → Post u') : wp_X6_writePacket_f cap (nI at9) op s sa t ta u Post := by
  unfold wp_X6_writePacket_f
  have e2 : (2 : Int32) = nI 2 := rfl
  have e4 : (4 : Int32) = nI 4 := rfl
  have e6 : (6 : Int32) = nI 6 := rfl
  have e8 : (8 : Int32) = nI 8 := rfl
  have e14 : (14 : Int32) = nI 14 := rfl
  have e18 : (18 : Int32) = nI 18 := rfl
  have e24 : (24 : Int32) = nI 24 := rfl
  rw [e2, e4, e6, e8, e14, e18, e24, nI_add, nI_add, nI_add, nI_add, nI_add]
  refine vX_write_f (by omega) (fun u1 o1 p1 q1 => ?_)
  refine vX_write_f (by omega) (fun u2 o2 p2 q2 => ?_)
  refine vX_write_f (by omega) (fun u3 o3 p3 q3 => ?_)
  refine vX_write_f (by omega) (fun u4 o4 p4 q4 => ?_)
  refine vX_write_f (by omega) (fun u5 o5 p5 q5 => ?_)
  refine vX_write_f (by omega) (fun u6 o6 p6 q6 => ?_)
  refine hP u6 (o1.tr (o2.tr (o3.tr (o4.tr (o5.tr o6))))) (fun k hk => ?_) (fun k hk => by rw [q6 k (by omega), q5 k (by omega), q4 k (by omega), q3 k (by omega), q2 k (by omega), q1 k (by omega)])
  unfold pk
  by_cases h1 : k < 6
  · rw [if_pos h1, q6 _ (by omega), q5 _ (by omega), q4 _ (by omega), q3 _ (by omega), q2 _ (by omega), p1 _ (by omega) (by omega)]
    rw [show 6 - 1 - (at9 + k - at9) = 5 - k by omega]
    rfl
  rw [if_neg h1]
  by_cases h2 : k < 8
  · rw [if_pos h2, q6 _ (by omega), q5 _ (by omega), q4 _ (by omega), q3 _ (by omega), p2 _ (by omega) (by omega), Int32.toInt_toInt64]
    congr 1
    omega
  rw [if_neg h2]
  by_cases h3 : k < 14
  · rw [if_pos h3, q6 _ (by omega), q5 _ (by omega), q4 _ (by omega), p3 _ (by omega) (by omega)]
    congr 1
    omega
  rw [if_neg h3]
  by_cases h4 : k < 18
  · rw [if_pos h4, q6 _ (by omega), q5 _ (by omega), p4 _ (by omega) (by omega), Int32.toInt_toInt64]
    congr 1
    omega
  rw [if_neg h4]
  by_cases h5 : k < 24
  · rw [if_pos h5, q6 _ (by omega), p5 _ (by omega) (by omega)]
    congr 1
    omega
  rw [if_neg h5, p6 _ (by omega) (by omega), Int32.toInt_toInt64]
  congr 1
  omega
theorem vX_addPacketE {cap : Nat} {u : XS} {c : Co} {tape : Nat → Int32} {n : Nat} {l : List En} {fs : List Fr} {ls : List Int32} {o : Nat → Int64} {to9 : Int64} {op : Int32} {s : Int64} {sa : Int32} {t : Int64} {ta : Int32} {Post : XS → Prop} (h : RX cap u c tape n l fs ls o) (hb : fs.length + 1 < 2 ^ 30) (hP : ∀ u' : XS, RX cap u' c tape n l (fs ++ [(to9, .inr (pk op s sa t ta))]) ls o → xE u' = xE u → Post u') : wp_X2_addPacket cap to9 op s sa t ta u Post := by
  have h0 := h
  obtain ⟨hc, ht, he, ⟨hf1, hf2, hf3⟩, hl, ho⟩ := h
  unfold wp_X2_addPacket
  refine vX_nextSlot_f hf1 (by omega) (fun u2 h2 => ?_)
  have hcl : (nI (fs.length % 100)).toNatClampNeg = fs.length % 100 := nI_clamp (by omega)
  refine ⟨vp_in_nI (by omega) (by omega), fun u4 h4 u6 h6 u8 h8 => ?_⟩
  have e28 : (28 : Int32) = nI 28 := rfl
  rw [e28, pk_mul]
  refine vX_writePacket_f (by omega) (fun u9 o9 p9 q9 => hP u9 ?_ (o9.2.2.2.1.trans ((sX_fp h8).2.2.2.1.trans ((sX_fn h6).2.2.2.1.trans ((sX_fg h4).2.2.2.1.trans (sX_ft h2).2.2.2.1)))))
  obtain ⟨a1, a2, a3, a4, a5, a6, a7, a8, a9, a10⟩ := sX_ft h2
  obtain ⟨b1, b2, b3, b4, b5, b6, b7, b8, b9, b10⟩ := sX_fg h4
  obtain ⟨c1, c2, c3, c4, c5, c6, c7, c8, c9, c10⟩ := sX_fn h6
  obtain ⟨d1, d2, d3, d4, d5, d6, d7, d8, d9, d10⟩ := sX_fp h8
  obtain ⟨o1, o2, o3, o4, o5, o6, o7, o8, o9⟩ := o9
  refine h0.mk5 ?_ (o1.trans (d1.trans (c1.trans (b1.trans a1)))) (o2.trans (d2.trans (c2.trans (b2.trans a2)))) (o3.trans (d3.trans (c3.trans (b3.trans a3)))) (o4.trans (d4.trans (c4.trans (b4.trans a4)))) (o5.trans (d5.trans (c5.trans (b5.trans a5))))
  have q9' : ∀ k, (k < fs.length % 100 * 28 ∨ fs.length % 100 * 28 + 28 ≤ k) → X_fb u9 k = X_fb u k := fun k hk => by rw [q9 k hk, d10, c10, b10, a10]
  unfold XFu
  simp only [o6, o7, o8, o9, d6, d7, d8, d9, c6, c7, c8, c9, b6, b7, b8, b9, a6, a7, a8, a9, hcl]
  refine ⟨by rw [List.length_append]; rfl, by rw [List.length_append]; exact hb, ring_push hf3 ⟨by simp [vp_updL], by simp [upd], by simp [upd]; rfl, fun k hk => by rw [Nat.mul_comm]; exact p9 k hk⟩ (fun j b hj hb2 => ?_)⟩
  rcases b with ⟨t, s | s⟩
  · obtain ⟨z1, z2, z3⟩ := hb2
    exact ⟨by simp only [vp_updL, hj, if_false]; exact z1, by simp only [upd, hj, if_false]; exact z2, by simp only [upd, hj, if_false]; exact z3⟩
  · obtain ⟨z1, z2, z3, z4⟩ := hb2
    exact ⟨by simp only [vp_updL, hj, if_false]; exact z1, by simp only [upd, hj, if_false]; exact z2, by simp only [upd, hj, if_false]; exact z3, fun k hk => by rw [q9' _ (by omega)]; exact z4 k hk⟩
theorem vX_lose {cap : Nat} {u : XS} {c : Co} {tape : Nat → Int32} {n : Nat} {l : List En} {fs : List Fr} {ls : List Int32} {o : Nat → Int64} {d : Int32} {Post : XS → Prop} (h : RX cap u c tape n l fs ls o) (hb : ls.length + 1 < 2 ^ 30) (hP : ∀ u' : XS, RX cap u' c tape n l fs (ls ++ [d]) o → xE u' = xE u → Post u') : wp_X3_add cap d u Post := by
  obtain ⟨hc, ht, he, hf, ⟨hl1, hl2, hl3⟩, ho⟩ := h
  unfold wp_X3_add
  refine vX_nextSlot_l hl1 (by omega) (fun u2 h2 => ?_)
  have hcl : (nI (ls.length % 100)).toNatClampNeg = ls.length % 100 := nI_clamp (by omega)
  refine ⟨vp_in_nI (by omega) (by omega), fun u4 h4 => ?_⟩
  obtain ⟨a1, a2, a3, a4, a5, a6, a7⟩ := sX_lt h2
  obtain ⟨b1, b2, b3, b4, b5, b6, b7⟩ := sX_ln h4
  refine hP u4 ⟨(b1.trans a1).trans hc, ht.keep (b2.trans a2), he.keep (b4.trans a4), hf.keep (b3.trans a3), ?_, (g_xO (b5.trans a5)).trans ho⟩ (b4.trans a4)
  unfold XLu
  simp only [b6, b7, a6, a7, hcl]
  exact ⟨by rw [List.length_append]; rfl, by rw [List.length_append]; exact hb, ring_push hl3 (by simp [upd]) (fun j b hj hb2 => by simp only [upd, hj, if_false]; exact hb2)⟩
