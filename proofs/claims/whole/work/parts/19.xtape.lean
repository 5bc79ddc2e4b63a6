/-! the class: the tape -/
/-- only bytes of the tape differ -/
def onlyTb (u u' : XS) : Prop := core u' = core u ∧ xF u' = xF u ∧ xL u' = xL u ∧ xE u' = xE u ∧ xO u' = xO u ∧ X_tl u' = X_tl u
theorem onlyTb.rf (u : XS) : onlyTb u u := ⟨rfl, rfl, rfl, rfl, rfl, rfl⟩
theorem onlyTb.tr {u v w : XS} (h : onlyTb u v) (k : onlyTb v w) : onlyTb u w := by
  obtain ⟨h1, h2, h3, h4, h5, h6⟩ := h
  obtain ⟨k1, k2, k3, k4, k5, k6⟩ := k
  exact ⟨k1.trans h1, k2.trans h2, k3.trans h3, k4.trans h4, k5.trans h5, k6.trans h6⟩
theorem vX_write_loop_t {cap at9 : Nat} {Post : XS → Prop} : ∀ (j : Nat) (y : Int64) (u : XS), at9 + j ≤ 40 → (∀ u' : XS, onlyTb u u' → (∀ k, at9 ≤ k → k < at9 + j → X_tb u' k &&& 255 = by8 y.toInt (j - 1 - (k - at9))) → (∀ k, (k < at9 ∨ at9 + j ≤ k) → X_tb u' k = X_tb u k) → Post u') → lp_X6_write_t_8 cap Post (j + 1) (nI at9) y (nI j - 1) u := by
  intro j
  induction j with
  | zero =>
    intro y u ha hP
    show lb_X6_write_t_8 cap Post (lp_X6_write_t_8 cap Post 0) (nI at9) y (nI 0 - 1) u
    unfold lb_X6_write_t_8
    exact br_t (by decide) (hP u (onlyTb.rf u) (fun k h1 h2 => absurd h2 (by omega)) (fun _ _ => rfl))
  | succ j ih =>
    intro y u ha hP
    show lb_X6_write_t_8 cap Post (lp_X6_write_t_8 cap Post (j + 1)) (nI at9) y (nI (j + 1) - 1) u
    unfold lb_X6_write_t_8
    rw [nI_pred]
    refine br_f (nI_pos (by omega)) ⟨by rw [nI_add]; exact vp_in_nI (by omega) (by omega), fun u3 h3 => ?_⟩
    have hcl : (nI at9 + nI j).toNatClampNeg = at9 + j := by rw [nI_add]; exact nI_clamp (by omega)
    rw [hcl] at h3
    obtain ⟨a1, a2, a3, a4, a5, a10, a6⟩ := sX_tb h3
    rw [zn_m1]
    refine ih _ u3 (by omega) (fun u' k1 k2 k3 => hP u' (onlyTb.tr ⟨a1, a2, a3, a4, a5, a6⟩ k1) (fun k h1 h2 => ?_) (fun k h1 => ?_))
    · by_cases hk : k < at9 + j
      · rw [k2 k h1 hk, sar8, by8_shift]
        congr 1
        omega
      · have hk2 : k = at9 + j := by omega
        subst hk2
        rw [k3 _ (by omega), a10]
        simp only [upd, if_true]
        rw [nar_255, l2i_255]
        congr 1
        omega
    · rw [k3 k (by omega), a10]
      simp only [upd]
      rw [if_neg (by omega)]
theorem vX_write_t {cap at9 j : Nat} {y : Int64} {u : XS} {Post : XS → Prop} (ha : at9 + j ≤ 40) (hP : ∀ u' : XS, onlyTb u u' → (∀ k, at9 ≤ k → k < at9 + j → X_tb u' k &&& 255 = by8 y.toInt (j - 1 - (k - at9))) → (∀ k, (k < at9 ∨ at9 + j ≤ k) → X_tb u' k = X_tb u k) → Post u') : wp_X6_write_t cap (nI at9) (nI j) y u Post := ⟨j + 1, vX_write_loop_t j y u ha hP⟩
theorem vX_writePacket_t {cap at9 : Nat} {op : Int32} {s : Int64} {sa : Int32} {t : Int64} {ta : Int32} {u : XS} {Post : XS → Prop} (ha : at9 + 28 ≤ 40) (hP : ∀ u' : XS, onlyTb u u' → (∀ k, k < 28 → X_tb u' (at9 + k) &&& 255 = pk op s sa t ta k) → (∀ k, (k < at9 ∨ at9 + 28 ≤ k) → X_tb u' k = X_tb u k) → Post u') : wp_X6_writePacket_t cap (nI at9) op s sa t ta u Post := by
  unfold wp_X6_writePacket_t
  have e2 : (2 : Int32) = nI 2 := rfl
  have e4 : (4 : Int32) = nI 4 := rfl
  have e6 : (6 : Int32) = nI 6 := rfl
  have e8 : (8 : Int32) = nI 8 := rfl
  have e14 : (14 : Int32) = nI 14 := rfl
  have e18 : (18 : Int32) = nI 18 := rfl
  have e24 : (24 : Int32) = nI 24 := rfl
  rw [e2, e4, e6, e8, e14, e18, e24, nI_add, nI_add, nI_add, nI_add, nI_add]
  refine vX_write_t (by omega) (fun u1 o1 p1 q1 => ?_)
  refine vX_write_t (by omega) (fun u2 o2 p2 q2 => ?_)
  refine vX_write_t (by omega) (fun u3 o3 p3 q3 => ?_)
  refine vX_write_t (by omega) (fun u4 o4 p4 q4 => ?_)
  refine vX_write_t (by omega) (fun u5 o5 p5 q5 => ?_)
  refine vX_write_t (by omega) (fun u6 o6 p6 q6 => ?_)
  refine hP u6 (o1.tr (o2.tr (o3.tr (o4.tr (o5.tr o6))))) (fun k hk => ?_) (fun k hk => by rw [q6 k (by omega), q5 k (by omega), q4 k (by omega), q3 k (by omega), q2 k (by omega), q1 k (by omega)])
  unfold pk
  by_cases h1 : k < 6
  · rw [if_pos h1, q6 _ (by omega), q5 _ (by omega), q4 _ (by omega), q3 _ (by omega), q2 _ (by omega), p1 _ (by omega) (by omega)]
    rw [show 6 - 1 - (at9 + k - at9) = 5 - k by omega]
    rfl
  rw [if_neg h1]
  by_cases h2 : k < 8
  · rw [if_pos h2, q6 _ (by omega), q5 _ (by omega), q4 _ (by omega), q3 _ (by omega), p2 _ (by omega) (by omega), Int32.toInt_toInt64]
    congr 1
    omega
  rw [if_neg h2]
  by_cases h3 : k < 14
  · rw [if_pos h3, q6 _ (by omega), q5 _ (by omega), q4 _ (by omega), p3 _ (by omega) (by omega)]
    congr 1
    omega
  rw [if_neg h3]
  by_cases h4 : k < 18
  · rw [if_pos h4, q6 _ (by omega), q5 _ (by omega), p4 _ (by omega) (by omega), Int32.toInt_toInt64]
    congr 1
    omega
  rw [if_neg h4]
  by_cases h5 : k < 24
  · rw [if_pos h5, q6 _ (by omega), p5 _ (by omega) (by omega)]
    congr 1
    omega
  rw [if_neg h5, p6 _ (by omega) (by omega), Int32.toInt_toInt64]
  congr 1
  omega

def pkT (tape : Nat → Int32) (op : Int32) (s : Int64) (sa : Int32) (t : Int64) (ta : Int32) : Nat → Int32 := fun k => if k < 28 then pk op s sa t ta k else tape k
def tyT (tape : Nat → Int32) (n m : Nat) (w : Int64) : Nat → Int32 := fun k => if n ≤ k ∧ k < n + m then by8 w.toInt (k - n) else tape k
theorem vX_pack {cap : Nat} {u : XS} {c : Co} {tape : Nat → Int32} {n : Nat} {l : List En} {fs : List Fr} {ls : List Int32} {o : Nat → Int64} {op : Int32} {s : Int64} {sa : Int32} {t : Int64} {ta : Int32} {Post : XS → Prop} (h : RX cap u c tape n l fs ls o) (hP : ∀ u' : XS, RX cap u' c (pkT tape op s sa t ta) 28 l fs ls o → Post u') : wp_X7_pack cap op s sa t ta u Post := by
  obtain ⟨hc, ⟨ht1, ht2, ht3⟩, he, hf, hl, ho⟩ := h
  unfold wp_X7_pack
  have e0 : (0 : Int32) = nI 0 := rfl
  rw [e0]
  refine vX_writePacket_t (by omega) (fun u2 o2 p2 q2 u3 h3 => hP u3 ?_)
  obtain ⟨o1, o2, o3, o4, o5, o6⟩ := o2
  obtain ⟨a1, a2, a3, a4, a5, a6, a7⟩ := sX_tl h3
  refine ⟨(a1.trans o1).trans hc, ?_, he.keep (a4.trans o4), hf.keep (a2.trans o2), hl.keep (a3.trans o3), (g_xO (a5.trans o5)).trans ho⟩
  unfold XTu
  rw [a6, a7]
  refine ⟨rfl, by omega, fun k hk => ?_⟩
  unfold pkT
  by_cases h28 : k < 28
  · rw [if_pos h28]
    have := p2 k h28
    rw [Nat.zero_add] at this
    exact this
  · rw [if_neg h28, q2 k (by omega)]
    exact ht3 k hk
theorem vX_read {cap : Nat} {u : XS} {c : Co} {tape : Nat → Int32} {n : Nat} {l : List En} {fs : List Fr} {ls : List Int32} {o : Nat → Int64} {a m : Nat} {Post : Int64 → XS → Prop} (h : RX cap u c tape n l fs ls o) (ha : a + m ≤ 40) (hP : Post (rdN tape a m) u) : wp_X6_read cap (nI a) (nI m) u Post := by
  obtain ⟨hc, ⟨ht1, ht2, ht3⟩, he, hf, hl, ho⟩ := h
  have key : ∀ (f i : Nat), i + f = m → lp_X6_read_5 cap Post (f + 1) (nI a) (nI m) (rdN tape a i) (nI i) u := by
    intro f
    induction f with
    | zero =>
      intro i hi
      show lb_X6_read_5 cap Post (lp_X6_read_5 cap Post 0) (nI a) (nI m) (rdN tape a i) (nI i) u
      unfold lb_X6_read_5
      have : i = m := by omega
      subst this
      exact br_t (nI_le (Nat.le_refl _) (by omega)) hP
    | succ f ih =>
      intro i hi
      show lb_X6_read_5 cap Post (lp_X6_read_5 cap Post (f + 1)) (nI a) (nI m) (rdN tape a i) (nI i) u
      unfold lb_X6_read_5
      refine br_f (nI_ge (by omega) (by omega)) ⟨by rw [nI_add]; exact vp_in_nI (by omega) (by omega), ?_⟩
      have hcl : (nI a + nI i).toNatClampNeg = a + i := by rw [nI_add]; exact nI_clamp (by omega)
      rw [hcl, ht3 _ (by omega), nI_1]
      exact ih (i + 1) (by omega)
  exact ⟨m + 1, key m 0 (by omega)⟩
theorem vX_head {cap : Nat} {u : XS} {c : Co} {tape : Nat → Int32} {n : Nat} {l : List En} {fs : List Fr} {ls : List Int32} {o : Nat → Int64} {Post : Int64 → XS → Prop} (h : RX cap u c tape n l fs ls o) (hP : Post (rdN tape 0 6) u) : wp_X5_head cap u Post := vX_read (a := 0) (m := 6) h (by omega) hP
theorem vX_operation {cap : Nat} {u : XS} {c : Co} {tape : Nat → Int32} {n : Nat} {l : List En} {fs : List Fr} {ls : List Int32} {o : Nat → Int64} {Post : Int32 → XS → Prop} (h : RX cap u c tape n l fs ls o) (hP : Post (Int64.toInt32 (rdN tape 6 2)) u) : wp_X5_operation cap u Post := vX_read (a := 6) (m := 2) h (by omega) hP
theorem vX_sender {cap : Nat} {u : XS} {c : Co} {tape : Nat → Int32} {n : Nat} {l : List En} {fs : List Fr} {ls : List Int32} {o : Nat → Int64} {Post : Int64 → XS → Prop} (h : RX cap u c tape n l fs ls o) (hP : Post (rdN tape 8 6) u) : wp_X5_sender cap u Post := vX_read (a := 8) (m := 6) h (by omega) hP
theorem vX_senderAddress {cap : Nat} {u : XS} {c : Co} {tape : Nat → Int32} {n : Nat} {l : List En} {fs : List Fr} {ls : List Int32} {o : Nat → Int64} {Post : Int32 → XS → Prop} (h : RX cap u c tape n l fs ls o) (hP : Post (Int64.toInt32 (rdN tape 14 4)) u) : wp_X5_senderAddress cap u Post := vX_read (a := 14) (m := 4) h (by omega) hP
theorem vX_targetAddress {cap : Nat} {u : XS} {c : Co} {tape : Nat → Int32} {n : Nat} {l : List En} {fs : List Fr} {ls : List Int32} {o : Nat → Int64} {Post : Int32 → XS → Prop} (h : RX cap u c tape n l fs ls o) (hP : Post (Int64.toInt32 (rdN tape 24 4)) u) : wp_X5_targetAddress cap u Post := vX_read (a := 24) (m := 4) h (by omega) hP
theorem vX_append {cap : Nat} {u : XS} {c : Co} {tape : Nat → Int32} {n m : Nat} {l : List En} {fs : List Fr} {ls : List Int32} {o : Nat → Int64} {w : Int64} {Post : XS → Prop} (h : RX cap u c tape n l fs ls o) (hm : m ≤ 8) (hn : n + m ≤ 40) (hP : ∀ u' : XS, RX cap u' c (tyT tape n m w) (n + m) l fs ls o → X_tl u' = nI (n + m) → Post u') : wp_X5_append cap w (nI m) u Post := by
  obtain ⟨hc, ⟨ht1, ht2, ht3⟩, he, hf, hl, ho⟩ := h
  have key : ∀ (f i : Nat) (u1 : XS), i + f = m → onlyTb u u1 → (∀ k, k < 40 → X_tb u1 k &&& 255 = tyT tape n i w k) → lp_X5_append_3 cap Post (f + 1) w (nI m) (nI i) u1 := by
    intro f
    induction f with
    | zero =>
      intro i u1 hi ho1 hb
      show lb_X5_append_3 cap Post (lp_X5_append_3 cap Post 0) w (nI m) (nI i) u1
      unfold lb_X5_append_3
      have : i = m := by omega
      subst this
      refine br_t (nI_le (Nat.le_refl _) (by omega)) (fun u2 h2 => ?_)
      obtain ⟨o1, o2, o3, o4, o5, o6⟩ := ho1
      obtain ⟨a1, a2, a3, a4, a5, a6, a7⟩ := sX_tl h2
      have e7 : X_tl u2 = nI (n + i) := by rw [a7, o6, ht1, nI_add]
      refine hP u2 ⟨(a1.trans o1).trans hc, ?_, he.keep (a4.trans o4), hf.keep (a2.trans o2), hl.keep (a3.trans o3), (g_xO (a5.trans o5)).trans ho⟩ e7
      unfold XTu
      rw [e7, a6]
      exact ⟨rfl, hn, hb⟩
    | succ f ih =>
      intro i u1 hi ho1 hb
      show lb_X5_append_3 cap Post (lp_X5_append_3 cap Post (f + 1)) w (nI m) (nI i) u1
      unfold lb_X5_append_3
      have e6 : X_tl u1 = nI n := ho1.2.2.2.2.2.trans ht1
      rw [e6]
      refine br_f (nI_ge (by omega) (by omega)) ⟨by rw [nI_add]; exact vp_in_nI (by omega) (by omega), fun u5 h5 => ?_⟩
      have hcl : (nI n + nI i).toNatClampNeg = n + i := by rw [nI_add]; exact nI_clamp (by omega)
      rw [hcl] at h5
      obtain ⟨a1, a2, a3, a4, a5, a10, a6⟩ := sX_tb h5
      rw [nI_1]
      refine ih (i + 1) u5 (by omega) (ho1.tr ⟨a1, a2, a3, a4, a5, a6⟩) (fun k hk => ?_)
      rw [a10]
      simp only [upd]
      unfold tyT
      by_cases hk2 : k = n + i
      · subst hk2
        rw [if_pos rfl, if_pos (by omega), nar_255, byL w (by omega)]
        congr 1
        omega
      · rw [if_neg hk2, hb k hk]
        unfold tyT
        by_cases h3 : n ≤ k ∧ k < n + i
        · rw [if_pos h3, if_pos (by omega)]
        · rw [if_neg h3, if_neg (by omega)]
  refine ⟨m + 1, key m 0 u (by omega) (onlyTb.rf u) (fun k hk => ?_)⟩
  rw [ht3 k hk]
  unfold tyT
  rw [if_neg (by omega)]
