/-! the class: what its own methods do, in the words of the abstract state -/
abbrev cALL : Int64 := 281474976710655
def fReq (c : Co) (to9 : Int64) (sa ta : Int32) : Fr := (to9, .inr (pk 1 (c_here c) sa 0 ta))
def fDat (to9 : Int64) (d : Int32) : Fr := (to9, .inl d)
def n_lose (e : En) : En := (n_ad e, n_kd e, n_hw e, n_si e, n_us e, [])
def n_wait (e : En) (d : Int32) : En := (n_ad e, n_kd e, n_hw e, n_si e, n_us e, n_wt e ++ [d])
def n_beco (e : En) (k t : Int32) : En := (n_ad e, k, n_hw e, t, n_us e, n_wt e)
def n_learn (e : En) (s : Int64) (t : Int32) : En := (n_ad e, 2, s, t, n_us e, [])
def c_up (c : Co) : Co := (c_here c, c_time c, 0, 0, c_cl c, c_df c, c_re c, c_ag c)
theorem vX_request {cap : Nat} {u : XS} {c : Co} {tape : Nat → Int32} {n : Nat} {l : List En} {fs : List Fr} {ls : List Int32} {o : Nat → Int64} {to9 : Int64} {sa ta : Int32} {Post : XS → Prop} (h : RX cap u c tape n l fs ls o) (hb : fs.length + 1 < 2 ^ 30) (hP : ∀ u' : XS, RX cap u' c tape n l (fs ++ [fReq c to9 sa ta]) ls o → xE u' = xE u → Post u') : wp_X7_request cap to9 sa ta u Post := by
  unfold wp_X7_request
  rw [(core_all h.1).1]
  exact vX_addPacketE h hb hP
theorem vX_probe {cap : Nat} {u : XS} {c : Co} {tape : Nat → Int32} {n : Nat} {l : List En} {fs : List Fr} {ls : List Int32} {o : Nat → Int64} {Post : XS → Prop} (h : RX cap u c tape n l fs ls o) (hb : fs.length + 1 < 2 ^ 30) (hP : ∀ u' : XS, RX cap u' c tape n l (fs ++ [fReq c cALL 0 (c_own c)]) ls o → Post u') : wp_X7_probe cap u Post := by
  unfold wp_X7_probe
  rw [(core_all h.1).2.2.2.1]
  exact vX_request h hb (fun u' h' _ => hP u' h')
theorem vX_announce {cap : Nat} {u : XS} {c : Co} {tape : Nat → Int32} {n : Nat} {l : List En} {fs : List Fr} {ls : List Int32} {o : Nat → Int64} {Post : XS → Prop} (h : RX cap u c tape n l fs ls o) (hb : fs.length + 1 < 2 ^ 30) (hP : ∀ u' : XS, RX cap u' c tape n l (fs ++ [fReq c cALL (c_own c) (c_own c)]) ls o → Post u') : wp_X7_announce cap u Post := by
  unfold wp_X7_announce
  rw [(core_all h.1).2.2.2.1]
  exact vX_request h hb (fun u' h' _ => hP u' h')
/-- one entry written anew, in an RX -/
theorem RX.putE {cap : Nat} {u u' : XS} {c : Co} {tape : Nat → Int32} {n : Nat} {l : List En} {fs : List Fr} {ls : List Int32} {o : Nat → Int64} (h : RX cap u c tape n l fs ls o) {i : Nat} {e e' : En} (hi : l[i]? = some e) (k1 : core u' = core u) (k2 : xT u' = xT u) (k3 : xF u' = xF u) (k4 : xL u' = xL u) (k5 : xO u' = xO u) (k6 : X_size u' = X_size u) (k7 : X_row u' = X_row u) (ho : ∀ j, j ≠ X_row u i → X_E u' j = X_E u j ∧ X_Q u' j = X_Q u j) (hok : xeOk e' (X_E u' (X_row u i)) (X_Q u' (X_row u i))) : RX cap u' c tape n (l.set i e') fs ls o := by
  obtain ⟨hc, ht, he, hf, hl, hoo⟩ := h
  refine ⟨k1.trans hc, ht.keep k2, ?_, hf.keep k3, hl.keep k4, (g_xO k5).trans hoo⟩
  unfold XEu
  rw [k6, k7]
  exact he.put hi ho hok
theorem vX_loseWaiting {cap : Nat} {u : XS} {c : Co} {tape : Nat → Int32} {n : Nat} {l : List En} {fs : List Fr} {ls : List Int32} {o : Nat → Int64} {i : Nat} {e : En} {Post : XS → Prop} (h : RX cap u c tape n l fs ls o) (hi : l[i]? = some e) (hb : ls.length + 4 < 2 ^ 30) (hP : ∀ u' : XS, RX cap u' c tape n (l.set i (n_lose e)) fs (ls ++ n_wt e) o → X_row u' = X_row u → Post u') : wp_X7_loseWaiting cap (X_row u i) u Post := by
  obtain ⟨q1, q2, q3, ⟨q4, q5, q6⟩⟩ := h.2.2.1.at hi
  have hq := q4
  have key : ∀ (f k : Nat) (u1 : XS), k + f = (n_wt e).length → xE u1 = xE u → RX cap u1 c tape n l fs (ls ++ (n_wt e).take k) o → lp_X7_loseWaiting_2 cap Post (f + 1) (X_row u i) (nI k) u1 := by
    intro f
    induction f with
    | zero =>
      intro k u1 hk hx h1
      show lb_X7_loseWaiting_2 cap Post (lp_X7_loseWaiting_2 cap Post 0) (X_row u i) (nI k) u1
      unfold lb_X7_loseWaiting_2
      obtain ⟨x1, x2, x3, x4⟩ := g_xE hx
      rw [x3, hq]
      refine ⟨q3, br_t (nI_le (by omega) (by omega)) (fun u3 h3 => ?_)⟩
      obtain ⟨a1, a2, a3, a4, a5, a6, a7, a8, a9⟩ := sX_E h3
      have hk2 : k = (n_wt e).length := by omega
      rw [hk2, List.take_length] at h1
      refine hP u3 (h1.putE hi a1 a2 a3 a4 a5 a6 a7 (fun j hj => ⟨?_, by rw [a9]⟩) ?_) (a7.trans x2)
      · rw [x2] at hj
        rw [a8, va_up_ne _ _ hj, x3]
      · rw [x2, a8, va_up_self]
        exact ⟨rfl, by simp [n_wt, n_lose], fun k x h => by simp [n_wt, n_lose] at h⟩
    | succ f ih =>
      intro k u1 hk hx h1
      show lb_X7_loseWaiting_2 cap Post (lp_X7_loseWaiting_2 cap Post (f + 1)) (X_row u i) (nI k) u1
      unfold lb_X7_loseWaiting_2
      obtain ⟨x1, x2, x3, x4⟩ := g_xE hx
      obtain ⟨d, hd⟩ := get_lt (l := n_wt e) (i := k) (by omega)
      have hcl : (nI k).toNatClampNeg = k := nI_clamp (by omega)
      rw [x3, hq, hcl, x4, q6 k d hd]
      refine ⟨q3, br_f (nI_ge (by omega) (by omega)) ⟨vp_in_nI (by omega) (by omega), ?_⟩⟩
      refine vX_lose h1 (by rw [List.length_append, List.length_take]; omega) (fun u7 h7 hx7 => ?_)
      rw [nI_1]
      refine ih (k + 1) u7 (by omega) (hx7.trans hx) ?_
      rw [List.take_succ, hd, Option.toList_some, ← List.append_assoc]
      exact h7
  refine ⟨(n_wt e).length + 1, key (n_wt e).length 0 u (by omega) rfl ?_⟩
  rw [List.take_zero, List.append_nil]
  exact h
theorem vX_giveUp {cap : Nat} {u : XS} {c : Co} {tape : Nat → Int32} {n : Nat} {l : List En} {fs : List Fr} {ls : List Int32} {o : Nat → Int64} {Post : XS → Prop} (h : RX cap u c tape n l fs ls o) (hb : ls.length + 200 < 2 ^ 30) (hP : ∀ u' : XS, RX cap u' (c_up c) tape n [] fs (ls ++ l.flatMap n_wt) o → Post u') : wp_X7_giveUp cap u Post := by
  unfold wp_X7_giveUp
  intro u1 h1 u3 h3
  obtain ⟨a1, a2, a3, a4, a5, a6, a7, a8, a9, a10, a11, a12, a13⟩ := sX_phase h1
  obtain ⟨b1, b2, b3, b4, b5, b6, b7, b8, b9, b10, b11, b12, b13⟩ := sX_own h3
  obtain ⟨hc, ht, he, hf, hl, ho⟩ := h
  obtain ⟨k1, k2, k3, k4, k5, k6, k7, k8⟩ := core_all hc
  have hc3 : core u3 = c_up c := by
    unfold core c_up
    rw [b6, b7, b8, b9, b10, b11, b12, b13, a6, a7, a8, a10, a11, a12, a13, k1, k2, k5, k6, k7, k8]
  have hR3 : RX cap u3 (c_up c) tape n l fs ls o := ⟨hc3, ht.keep (b1.trans a1), he.keep (b4.trans a4), hf.keep (b2.trans a2), hl.keep (b3.trans a3), (g_xO (b5.trans a5)).trans ho⟩
  have hlen : l.length ≤ 32 := by obtain ⟨-, g2, g3, -⟩ := he; omega
  have hw : ∀ (i : Nat) (e : En), l[i]? = some e → (n_wt e).length ≤ 4 := fun i e hi => (he.at hi).2.2.2.2.1
  have hfm : ∀ i, i ≤ l.length → ((l.take i).flatMap n_wt).length ≤ 4 * i := by
    intro i
    induction i with
    | zero => intro _; simp
    | succ i ih =>
      intro hi
      obtain ⟨e, hie⟩ := get_lt (l := l) (i := i) (by omega)
      rw [List.take_succ, hie, Option.toList_some, List.flatMap_append, List.length_append]
      have := ih (by omega)
      have := hw i e hie
      simp only [List.flatMap_cons, List.flatMap_nil, List.append_nil]
      omega
  have key : ∀ (f i : Nat) (l1 : List En) (v : XS), i + f = l.length → l1.length = l.length → (∀ k, i ≤ k → l1[k]? = l[k]?) → RX cap v (c_up c) tape n l1 fs (ls ++ (l.take i).flatMap n_wt) o → lp_X7_giveUp_12 cap Post (f + 1) (nI i) v := by
    intro f
    induction f with
    | zero =>
      intro i l1 v hi hl1 hk hv
      show lb_X7_giveUp_12 cap Post (lp_X7_giveUp_12 cap Post 0) (nI i) v
      unfold lb_X7_giveUp_12
      obtain ⟨vc, vt, ve, vf, vl, vo⟩ := hv
      have ve0 := ve
      obtain ⟨g1, g2, g3, g4, g5, g6⟩ := ve
      rw [g1, hl1]
      refine br_t (nI_le (by omega) (by omega)) (fun u2 h2 => ?_)
      obtain ⟨d1, d2, d3, d4, d5, d6, d7, d8, d9⟩ := sX_size h2
      have hi2 : i = l.length := by omega
      rw [hi2, List.take_length] at vl
      refine hP u2 ⟨d1.trans vc, vt.keep d2, ?_, vf.keep d3, vl.keep d4, (g_xO d5).trans vo⟩
      unfold XEu
      rw [d6, d7, d8, d9]
      exact ⟨rfl, Nat.zero_le _, g3, g4, g5, fun k x h => by simp at h⟩
    | succ f ih =>
      intro i l1 v hi hl1 hk hv
      show lb_X7_giveUp_12 cap Post (lp_X7_giveUp_12 cap Post (f + 1)) (nI i) v
      unfold lb_X7_giveUp_12
      obtain ⟨e, hie⟩ := get_lt (l := l) (i := i) (by omega)
      have hie1 : l1[i]? = some e := by rw [hk i (Nat.le_refl _)]; exact hie
      obtain ⟨-, k2, k3, k4⟩ := hv.2.2.1.at hie1
      have hcl : (nI i).toNatClampNeg = i := nI_clamp (by omega)
      rw [hv.2.2.1.1, hl1]
      refine br_f (nI_ge (by omega) (by omega)) ?_
      rw [hcl]
      refine ⟨vp_in_nI (by omega) (by have := hv.2.2.1.2.2.1; omega), k3, ?_⟩
      refine vX_loseWaiting hv hie1 (by rw [List.length_append]; have := hfm i (by omega); omega) (fun u7 h7 hr7 => ?_)
      rw [nI_1]
      refine ih (i + 1) (l1.set i (n_lose e)) u7 (by omega) (by rw [List.length_set]; exact hl1) (fun k hk2 => by rw [List.getElem?_set_ne (by omega)]; exact hk k (by omega)) ?_
      rw [List.take_succ, hie, Option.toList_some, List.flatMap_append]
      simp only [List.flatMap_cons, List.flatMap_nil, List.append_nil]
      rw [← List.append_assoc]
      exact h7
  exact ⟨l.length + 1, key l.length 0 l u3 (by omega) rfl (fun _ _ => rfl) (by rw [List.take_zero]; simp only [List.flatMap_nil, List.append_nil]; exact hR3)⟩
theorem vX_putInLine {cap : Nat} {u : XS} {c : Co} {tape : Nat → Int32} {n : Nat} {l : List En} {fs : List Fr} {ls : List Int32} {o : Nat → Int64} {i : Nat} {e : En} {d : Int32} {Post : Int32 → XS → Prop} (h : RX cap u c tape n l fs ls o) (hi : l[i]? = some e) (hb : ls.length + 1 < 2 ^ 30) (h1 : ∀ u' : XS, (n_wt e).length < 4 → RX cap u' c tape n (l.set i (n_wait e d)) fs ls o → Post (1 : Int32) u') (h2 : ∀ u' : XS, ¬ (n_wt e).length < 4 → RX cap u' c tape n l fs (ls ++ [d]) o → Post (2 : Int32) u') : wp_X7_putInLine cap (X_row u i) d u Post := by
  obtain ⟨q1, q2, q3, ⟨q4, q5, q6⟩⟩ := h.2.2.1.at hi
  have hcl : (nI (n_wt e).length).toNatClampNeg = (n_wt e).length := nI_clamp (by omega)
  have e4 : (4 : Int32) = nI 4 := rfl
  unfold wp_X7_putInLine
  refine ⟨q3, ?_⟩
  rw [xeOk.fields ⟨q4, q5, q6⟩ |>.1, e4, hcl]
  by_cases hw : (n_wt e).length < 4
  · refine br_t (nI_lt hw (by omega)) ⟨vp_in_nI hw (by omega), fun u4 h4 u6 h6 => ?_⟩
    obtain ⟨a1, a2, a3, a4, a5, a6, a7, a8, a9⟩ := sX_Q h4
    obtain ⟨b1, b2, b3, b4, b5, b6, b7, b8, b9⟩ := sX_E h6
    refine h1 u6 hw (h.putE hi (b1.trans a1) (b2.trans a2) (b3.trans a3) (b4.trans a4) (b5.trans a5) (b6.trans a6) (b7.trans a7) (fun j hj => ⟨by rw [b8, va_up_ne _ _ hj, a8], by rw [b9, a9, va_up_ne _ _ hj]⟩) ?_)
    rw [b8, va_up_self, b9, a9, va_up_self, a8, q4]
    refine ⟨?_, by show (n_wt e ++ [d]).length ≤ 4; rw [List.length_append, List.length_singleton]; omega, fun k x hk => ?_⟩
    · show (nI (n_wt e).length + 1, _) = (nI (n_wt e ++ [d]).length, _)
      rw [List.length_append, nI_1]
      rfl
    · simp only [upd]
      have hk2 : (n_wt e ++ [d])[k]? = some x := hk
      by_cases hkl : k < (n_wt e).length
      · rw [List.getElem?_append_left hkl] at hk2
        rw [if_neg (by omega)]
        exact q6 k x hk2
      · rw [List.getElem?_append_right (by omega)] at hk2
        have hz : k - (n_wt e).length < 1 := (List.getElem?_eq_some_iff.mp hk2).1
        have hk3 : k = (n_wt e).length := by omega
        subst hk3
        rw [Nat.sub_self] at hk2
        cases hk2
        rw [if_pos rfl]
  · exact br_f (nI_nlt (by omega) (by omega)) (vX_lose h hb (fun u' hu _ => h2 u' hw hu))
