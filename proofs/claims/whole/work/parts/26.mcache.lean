/-! the reference: its entries -/
abbrev mS (u : MS) (k : Nat) (e : En) : Prop := meOk (M_addresses u) (M_kinds u) (M_hardware u) (M_since u) (M_used u) (M_waiting u) (M_waits u) k e
def onlyME (u u' : MS) : Prop := mcore u' = mcore u ∧ mT u' = mT u ∧ mF u' = mF u ∧ mL u' = mL u ∧ mX u' = mX u
theorem onlyME.rf (u : MS) : onlyME u u := ⟨rfl, rfl, rfl, rfl, rfl⟩
theorem onlyME.tr {u v w : MS} (h : onlyME u v) (k : onlyME v w) : onlyME u w :=
  ⟨k.1.trans h.1, k.2.1.trans h.2.1, k.2.2.1.trans h.2.2.1, k.2.2.2.1.trans h.2.2.2.1, k.2.2.2.2.trans h.2.2.2.2⟩
theorem RM.onlyE {cap : Nat} {u u' : MS} {c : Co} {tape : Nat → Int32} {n : Nat} {l l' : List En} {fs : List Fr} {ls : List Int32} {th : Int32} (h : RM cap u c tape n l fs ls th) (k : onlyME u u') (hE : MEu cap u' l') : RM cap u' c tape n l' fs ls th := h.mkE hE k.1 k.2.1 k.2.2.1 k.2.2.2.1 k.2.2.2.2
def dist (l : List En) : Prop := ∀ (i j : Nat) (e e' : En), l[i]? = some e → l[j]? = some e' → n_ad e = n_ad e' → i = j
theorem findA_none' {a : Int32} {l : List En} (h : findA a l = none) {j : Nat} {e : En} (he : l[j]? = some e) : ¬ n_ad e = a := by
  unfold findA at h
  rw [List.findIdx?_eq_none_iff] at h
  have := h e (List.mem_iff_getElem?.mpr ⟨j, he⟩)
  simpa using this
theorem vM_find {cap : Nat} {u : MS} {l : List En} {a : Int32} {Post : Int32 → MS → Prop} (h : MEu cap u l) (hd : dist l) (hs : ∀ (i : Nat) (e : En), findA a l = some i → l[i]? = some e → n_ad e = a → Post (nI i) u) (hn : findA a l = none → Post (-1 : Int32) u) : wp_X8_find a u Post := by
  obtain ⟨m1, m2, m3, m4⟩ := h
  have key : ∀ (R : Int32), (∀ (j : Nat) (e : En), l[j]? = some e → n_ad e = a → nI j = R) → Post R u → ∀ (f x3 : Nat) (x2 : Int32), x3 + f = l.length → (x2 = R ∨ ∃ (j : Nat) (e : En), x3 ≤ j ∧ l[j]? = some e ∧ n_ad e = a) → lp_X8_find_4 Post (f + 1) a x2 (nI x3) u := by
    intro R hR hPR f
    induction f with
    | zero =>
      intro x3 x2 hx hi
      show lb_X8_find_4 Post _ a x2 (nI x3) u
      unfold lb_X8_find_4
      rw [m1]
      have : x2 = R := by
        rcases hi with z | ⟨j, e, z1, z2, z3⟩
        · exact z
        · have := (List.getElem?_eq_some_iff.mp z2).1
          omega
      subst this
      exact br_t (nI_le (by omega) (by omega)) hPR
    | succ f ih =>
      intro x3 x2 hx hi
      show lb_X8_find_4 Post (lp_X8_find_4 Post (f + 1)) a x2 (nI x3) u
      unfold lb_X8_find_4
      obtain ⟨e, he⟩ := get_lt (l := l) (i := x3) (by omega)
      rw [m1, nI_clamp (by omega), (m4 x3 e he).1, nI_1]
      refine br_f (nI_ge (by omega) (by omega)) ⟨vp_in_nI (by omega) (by omega), fun q => ih (x3 + 1) x2 (by omega) ?_, fun q => ih (x3 + 1) (nI x3) (by omega) (Or.inl (hR x3 e he q))⟩
      rcases hi with z | ⟨j, e9, z1, z2, z3⟩
      · exact Or.inl z
      · refine Or.inr ⟨j, e9, ?_, z2, z3⟩
        rcases Nat.lt_or_ge x3 j with y | y
        · exact y
        · have : x3 = j := by omega
          subst this
          rw [he] at z2
          cases z2
          exact absurd z3 q
  rcases hf : findA a l with _ | i
  · exact ⟨l.length + 1, key (-1) (fun j e he hz => absurd hz (findA_none' hf he)) (hn hf) l.length 0 (-1) (by omega) (Or.inl rfl)⟩
  · obtain ⟨e, he, ha⟩ := findA_spec hf
    exact ⟨l.length + 1, key (nI i) (fun j e' he' hz => by rw [hd j i e' e he' he (hz.trans ha.symm)]) (hs i e hf he ha) l.length 0 (-1) (by omega) (Or.inr ⟨i, e, Nat.zero_le _, he, ha⟩)⟩
theorem vM_move {u : MS} {i j : Nat} {Post : MS → Prop} (hi : i < 33) (hj : j < 33) (hij : i ≠ j) (hP : ∀ u' : MS, onlyME u u' → M_entries u' = M_entries u → (∀ e, mS u i e → mS u' j e) → (∀ (k : Nat) (e : En), k ≠ j → mS u k e → mS u' k e) → Post u') : wp_X8_move (nI i) (nI j) u Post := by
  unfold wp_X8_move
  rw [nI_clamp (by omega), nI_clamp (by omega)]
  refine ⟨vp_in_nI hi (by omega), vp_in_nI hj (by omega), fun u3 h3 u5 h5 u7 h7 u9 h9 u11 h11 u13 h13 => ?_⟩
  obtain ⟨a1, a2, a3, a4, a5, a6, a7, a8, a9, a10, a11, a12, a13⟩ := sM_addresses h3
  obtain ⟨b1, b2, b3, b4, b5, b6, b7, b8, b9, b10, b11, b12, b13⟩ := sM_kinds h5
  obtain ⟨c1, c2, c3, c4, c5, c6, c7, c8, c9, c10, c11, c12, c13⟩ := sM_hardware h7
  obtain ⟨d1, d2, d3, d4, d5, d6, d7, d8, d9, d10, d11, d12, d13⟩ := sM_since h9
  obtain ⟨e1, e2, e3, e4, e5, e6, e7, e8, e9, e10, e11, e12, e13⟩ := sM_used h11
  obtain ⟨f1, f2, f3, f4, f5, f6, f7, f8, f9, f10, f11, f12, f13⟩ := sM_waiting h13
  have o13 : onlyME u u13 := ⟨f1.trans (e1.trans (d1.trans (c1.trans (b1.trans a1)))), f2.trans (e2.trans (d2.trans (c2.trans (b2.trans a2)))), f3.trans (e3.trans (d3.trans (c3.trans (b3.trans a3)))), f4.trans (e4.trans (d4.trans (c4.trans (b4.trans a4)))), f5.trans (e5.trans (d5.trans (c5.trans (b5.trans a5))))⟩
  have g6 : M_entries u13 = M_entries u := f6.trans (e6.trans (d6.trans (c6.trans (b6.trans a6))))
  have g7 : M_addresses u13 = upd (M_addresses u) j (M_addresses u i) := f7.trans (e7.trans (d7.trans (c7.trans (b7.trans a7))))
  have g8 : M_kinds u13 = upd (M_kinds u) j (M_kinds u i) := by rw [f8, e8, d8, c8, b8, a8]
  have g9 : M_hardware u13 = vp_updL (M_hardware u) j (M_hardware u i) := by rw [f9, e9, d9, c9, b9, a9]
  have g10 : M_since u13 = upd (M_since u) j (M_since u i) := by rw [f10, e10, d10, c10, b10, a10]
  have g11 : M_used u13 = upd (M_used u) j (M_used u i) := by rw [f11, e11, d11, c11, b11, a11]
  have g12 : M_waiting u13 = upd (M_waiting u) j (M_waiting u i) := by rw [f12, e12, d12, c12, b12, a12]
  have g13 : M_waits u13 = M_waits u := by rw [f13, e13, d13, c13, b13, a13]
  clear a1 a2 a3 a4 a5 a6 a7 a8 a9 a10 a11 a12 a13 b1 b2 b3 b4 b5 b6 b7 b8 b9 b10 b11 b12 b13 c1 c2 c3 c4 c5 c6 c7 c8 c9 c10 c11 c12 c13 d1 d2 d3 d4 d5 d6 d7 d8 d9 d10 d11 d12 d13 e1 e2 e3 e4 e5 e6 e7 e8 e9 e10 e11 e12 e13 f1 f2 f3 f4 f5 f6 f7 f8 f9 f10 f11 f12 f13 h3 h5 h7 h9 h11 h13
  have key : ∀ (f x : Nat) (u1 : MS), x + f = 4 → onlyME u13 u1 → (M_entries u1 = M_entries u13 ∧ M_addresses u1 = M_addresses u13 ∧ M_kinds u1 = M_kinds u13 ∧ M_hardware u1 = M_hardware u13 ∧ M_since u1 = M_since u13 ∧ M_used u1 = M_used u13 ∧ M_waiting u1 = M_waiting u13) → (∀ k, k < x → M_waits u1 (4 * j + k) = M_waits u (4 * i + k)) → (∀ k, (k < 4 * j ∨ 4 * j + 4 ≤ k) → M_waits u1 k = M_waits u k) → lp_X8_move_74 Post (f + 1) (nI i) (nI j) (nI x) u1 := by
    intro f
    induction f with
    | zero =>
      intro x u1 hx ho hsame hw hr
      show lb_X8_move_74 Post _ (nI i) (nI j) (nI x) u1
      unfold lb_X8_move_74
      have hx4 : x = 4 := by omega
      subst hx4
      obtain ⟨s6, s7, s8, s9, s10, s11, s12⟩ := hsame
      refine br_t (nI_le (a := 4) (by omega) (by omega)) (hP u1 (o13.tr ho) (s6.trans g6) (fun e he => ?_) (fun k e hk he => ?_))
      · obtain ⟨z1, z2, z3, z4, z5, z6, z7, z8⟩ := he
        show meOk _ _ _ _ _ _ _ j e
        rw [s7, s8, s9, s10, s11, s12, g7, g8, g9, g10, g11, g12]
        exact ⟨(if_pos rfl).trans z1, (if_pos rfl).trans z2, pk_uLs.trans z3, (if_pos rfl).trans z4, (if_pos rfl).trans z5, (if_pos rfl).trans z6, z7, fun k x hkx => by
          have := (List.getElem?_eq_some_iff.mp hkx).1
          rw [hw k (by omega)]
          exact z8 k x hkx⟩
      · obtain ⟨z1, z2, z3, z4, z5, z6, z7, z8⟩ := he
        show meOk _ _ _ _ _ _ _ k e
        rw [s7, s8, s9, s10, s11, s12, g7, g8, g9, g10, g11, g12]
        exact ⟨(if_neg hk).trans z1, (if_neg hk).trans z2, (pk_uLn hk).trans z3, (if_neg hk).trans z4, (if_neg hk).trans z5, (if_neg hk).trans z6, z7, fun k9 x hkx => by
          have := (List.getElem?_eq_some_iff.mp hkx).1
          rw [hr _ (by omega)]
          exact z8 k9 x hkx⟩
    | succ f ih =>
      intro x u1 hx ho hsame hw hr
      show lb_X8_move_74 Post (lp_X8_move_74 Post (f + 1)) (nI i) (nI j) (nI x) u1
      unfold lb_X8_move_74
      have e1 : (4 : Int32) * nI i + nI x = nI (4 * i + x) := mul_add 4 _ _
      have e2 : (4 : Int32) * nI j + nI x = nI (4 * j + x) := mul_add 4 _ _
      rw [e1, e2, nI_clamp (by omega), nI_clamp (by omega), nI_1]
      refine br_f (nI_ge (b := 4) (by omega) (by omega)) ⟨vp_in_nI (by omega) (by omega), vp_in_nI (by omega) (by omega), fun u4 h4 => ?_⟩
      obtain ⟨y1, y2, y3, y4, y5, y6, y7, y8, y9, y10, y11, y12, y13⟩ := sM_waits h4
      obtain ⟨s6, s7, s8, s9, s10, s11, s12⟩ := hsame
      refine ih (x + 1) u4 (by omega) (ho.tr ⟨y1, y2, y3, y4, y5⟩) ⟨y6.trans s6, y7.trans s7, y8.trans s8, y9.trans s9, y10.trans s10, y11.trans s11, y12.trans s12⟩ (fun k hk => ?_) (fun k hk => ?_)
      · rw [y13]
        simp only [upd]
        by_cases hkx : k = x
        · subst hkx
          rw [if_pos rfl]
          exact hr _ (by omega)
        · rw [if_neg (by omega)]
          exact hw k (by omega)
      · rw [y13]
        simp only [upd]
        rw [if_neg (by omega)]
        exact hr k hk
  exact ⟨5, key 4 0 u13 (by omega) (onlyME.rf _) ⟨rfl, rfl, rfl, rfl, rfl, rfl, rfl⟩ (fun k hk => absurd hk (by omega)) (fun k _ => by rw [g13])⟩
theorem eraI {α : Type} {l : List α} {i k : Nat} {e : α} (h : (l.eraseIdx i)[k]? = some e) : (k < i ∧ l[k]? = some e) ∨ (i ≤ k ∧ l[k + 1]? = some e) := by
  rw [List.getElem?_eraseIdx] at h
  by_cases hk : k < i
  · rw [if_pos hk] at h
    exact Or.inl ⟨hk, h⟩
  · rw [if_neg hk] at h
    exact Or.inr ⟨by omega, h⟩
theorem vM_take {cap : Nat} {u : MS} {l : List En} {i : Nat} {Post : MS → Prop} (h : MEu cap u l) (hi : i < l.length) (hP : ∀ u' : MS, onlyME u u' → MEu cap u' (l.eraseIdx i) → (∀ (k : Nat) (e : En), l.length ≤ k → mS u k e → mS u' k e) → Post u') : wp_X8_take (nI i) u Post := by
  obtain ⟨m1, m2, m3, m4⟩ := h
  have hlen : (l.eraseIdx i).length = l.length - 1 := by rw [List.length_eraseIdx]; simp [hi]
  unfold wp_X8_take
  intro u1 h1
  obtain ⟨a1, a2, a3, a4, a5, a6, a7, a8, a9, a10, a11, a12, a13⟩ := sM_entries h1
  rw [m1, zn_sub1 (by omega)] at a6
  have hsame : ∀ (k : Nat) (e : En), mS u k e → mS u1 k e := by
    intro k e he
    show meOk _ _ _ _ _ _ _ k e
    rw [a7, a8, a9, a10, a11, a12, a13]
    exact he
  have key : ∀ (f x : Nat) (u2 : MS), x + f = l.length - 1 → i ≤ x → onlyME u u2 → M_entries u2 = nI (l.length - 1) → (∀ (k : Nat) (e : En), k < x → (l.eraseIdx i)[k]? = some e → mS u2 k e) → (∀ (k : Nat) (e : En), x < k → l[k]? = some e → mS u2 k e) → (∀ (k : Nat) (e : En), l.length ≤ k → mS u k e → mS u2 k e) → lp_X8_take_12 Post (f + 1) (nI x) u2 := by
    intro f
    induction f with
    | zero =>
      intro x u2 hx hix ho hn hlo hhi hrest
      show lb_X8_take_12 Post _ (nI x) u2
      unfold lb_X8_take_12
      rw [hn]
      refine br_t (nI_le (by omega) (by omega)) (hP u2 ho ⟨by rw [hn, hlen], by omega, m3, fun k e hk => hlo k e ?_ hk⟩ hrest)
      have := (List.getElem?_eq_some_iff.mp hk).1
      omega
    | succ f ih =>
      intro x u2 hx hix ho hn hlo hhi hrest
      show lb_X8_take_12 Post (lp_X8_take_12 Post (f + 1)) (nI x) u2
      unfold lb_X8_take_12
      rw [hn, nI_1]
      refine br_f (nI_ge (by omega) (by omega)) (vM_move (by omega) (by omega) (by omega) (fun u3 ho3 hn3 hmv hst => ih (x + 1) u3 (by omega) (by omega) (ho.tr ho3) (hn3.trans hn) (fun k e hk hke => ?_) (fun k e hk hke => hst k e (by omega) (hhi k e (by omega) hke)) (fun k e hk hke => hst k e (by omega) (hrest k e hk hke))))
      by_cases hkx : k = x
      · subst hkx
        rcases eraI hke with z | z
        · omega
        · exact hmv e (hhi (k + 1) e (by omega) z.2)
      · exact hst k e hkx (hlo k e (by omega) hke)
  exact ⟨l.length - 1 - i + 1, key (l.length - 1 - i) i u1 (by omega) (Nat.le_refl _) ⟨a1, a2, a3, a4, a5⟩ a6 (fun k e hk hke => by
    rcases eraI hke with z | z
    · exact hsame k e (m4 k e z.2)
    · omega) (fun k e hk hke => hsame k e (m4 k e hke)) (fun k e _ he => hsame k e he)⟩
theorem MEu.lt {cap : Nat} {u : MS} {l : List En} (h : MEu cap u l) {i : Nat} {e : En} (hi : l[i]? = some e) : i < l.length ∧ i < 32 ∧ l.length ≤ 32 ∧ mS u i e ∧ (n_wt e).length ≤ 4 := by
  obtain ⟨m1, m2, m3, m4⟩ := h
  have := (List.getElem?_eq_some_iff.mp hi).1
  exact ⟨this, by omega, by omega, m4 i e hi, (m4 i e hi).2.2.2.2.2.2.1⟩
theorem vM_goes {cap : Nat} {u : MS} {c : Co} {tape : Nat → Int32} {n : Nat} {l : List En} {fs : List Fr} {ls : List Int32} {th : Int32} {i : Nat} {e : En} {Post : MS → Prop} (h : RM cap u c tape n l fs ls th) (hi : l[i]? = some e) (hb : ls.length + 10 < 2 ^ 30) (hP : ∀ u' : MS, RM cap u' c tape n (l.eraseIdx i) fs (ls ++ n_wt e) th → Post u') : wp_X8_goes (nI i) u Post := by
  have key : ∀ (f k : Nat) (u1 : MS), k + f = (n_wt e).length → RM cap u1 c tape n l fs (ls ++ (n_wt e).take k) th → lp_X8_goes_2 Post (f + 1) (nI i) (nI k) u1 := by
    intro f
    induction f with
    | zero =>
      intro k u1 hk h1
      show lb_X8_goes_2 Post _ (nI i) (nI k) u1
      unfold lb_X8_goes_2
      obtain ⟨q1, q2, q3, q4, q5⟩ := h1.2.2.1.lt hi
      have hk2 : k = (n_wt e).length := by omega
      subst hk2
      rw [List.take_length] at h1
      rw [nI_clamp (by omega), q4.2.2.2.2.2.1]
      exact ⟨vp_in_nI (by omega) (by omega), br_t (nI_le (Nat.le_refl _) (by omega)) (vM_take h1.2.2.1 q1 (fun u' ho hE _ => hP u' (h1.onlyE ho hE)))⟩
    | succ f ih =>
      intro k u1 hk h1
      show lb_X8_goes_2 Post (lp_X8_goes_2 Post (f + 1)) (nI i) (nI k) u1
      unfold lb_X8_goes_2
      obtain ⟨q1, q2, q3, q4, q5⟩ := h1.2.2.1.lt hi
      obtain ⟨d, hd⟩ := get_lt (l := n_wt e) (i := k) (by omega)
      have e1 : (4 : Int32) * nI i + nI k = nI (4 * i + k) := mul_add 4 _ _
      rw [e1, nI_clamp (by omega), nI_clamp (by omega), q4.2.2.2.2.2.1, q4.2.2.2.2.2.2.2 k d hd, nI_1]
      refine ⟨vp_in_nI (by omega) (by omega), br_f (nI_ge (by omega) (by omega)) ⟨vp_in_nI (by omega) (by omega), vM_lose h1 (by rw [List.length_append, List.length_take]; omega) (fun u7 h7 _ => ih (k + 1) u7 (by omega) ?_)⟩⟩
      rw [List.take_succ, hd, Option.toList_some, ← List.append_assoc]
      exact h7
  exact ⟨(n_wt e).length + 1, key (n_wt e).length 0 u (by omega) (by rw [List.take_zero, List.append_nil]; exact h)⟩
theorem ME.app {cap : Nat} {u : MS} {l : List En} {e : En} (hn : M_entries u = nI (l.length + 1)) (hl : l.length < cap) (h32 : cap ≤ 32) (h : ∀ (k : Nat) (x : En), l[k]? = some x → mS u k x) (he : mS u l.length e) : MEu cap u (l ++ [e]) := by
  refine ⟨by rw [hn, List.length_append]; rfl, by rw [List.length_append]; exact hl, h32, fun k x hk => ?_⟩
  rcases Nat.lt_or_ge k l.length with z | z
  · rw [List.getElem?_append_left z] at hk
    exact h k x hk
  · rw [List.getElem?_append_right z] at hk
    have hz : k - l.length < 1 := (List.getElem?_eq_some_iff.mp hk).1
    have hk3 : k = l.length := by omega
    subst hk3
    rw [Nat.sub_self] at hk
    cases hk
    exact he
theorem vM_use {cap : Nat} {u : MS} {c : Co} {tape : Nat → Int32} {n : Nat} {l : List En} {fs : List Fr} {ls : List Int32} {th : Int32} {i : Nat} {e : En} {Post : MS → Prop} (h : RM cap u c tape n l fs ls th) (hi : l[i]? = some e) (hP : ∀ u' : MS, RM cap u' c tape n (l.eraseIdx i ++ [n_use e (c_time c)]) fs ls th → Post u') : wp_X8_use (nI i) u Post := by
  obtain ⟨q1, q2, q3, q4, q5⟩ := h.2.2.1.lt hi
  obtain ⟨m1, m2, m3, m4⟩ := h.2.2.1
  have hlen : (l.eraseIdx i).length = l.length - 1 := by rw [List.length_eraseIdx]; simp [q1]
  unfold wp_X8_use
  rw [nI_clamp (by omega), (mcore_all h.1).2.1]
  refine ⟨vp_in_nI (by omega) (by omega), fun u2 h2 => ?_⟩
  obtain ⟨a1, a2, a3, a4, a5, a6, a7, a8, a9, a10, a11, a12, a13⟩ := sM_used h2
  have hE2 : MEu cap u2 (l.set i (n_use e (c_time c))) := by
    refine ⟨by rw [a6, m1, List.length_set], by rw [List.length_set]; exact m2, m3, fun k x hk => ?_⟩
    show meOk _ _ _ _ _ _ _ k x
    rw [a7, a8, a9, a10, a11, a12, a13]
    by_cases hki : k = i
    · subst hki
      rw [List.getElem?_set_self q1] at hk
      cases hk
      obtain ⟨z1, z2, z3, z4, z5, z6, z7, z8⟩ := q4
      exact ⟨z1, z2, z3, z4, if_pos rfl, z6, z7, z8⟩
    · rw [List.getElem?_set_ne (fun z => hki z.symm)] at hk
      obtain ⟨z1, z2, z3, z4, z5, z6, z7, z8⟩ := m4 k x hk
      exact ⟨z1, z2, z3, z4, (if_neg hki).trans z5, z6, z7, z8⟩
  have hi2 : (l.set i (n_use e (c_time c)))[i]? = some (n_use e (c_time c)) := List.getElem?_set_self q1
  have hl2 : (l.set i (n_use e (c_time c))).length = l.length := List.length_set
  have e32 : (32 : Int32) = nI 32 := rfl
  rw [e32]
  refine vM_move (by omega) (by omega) (by omega) (fun u5 o5 n5 mv5 st5 => ?_)
  have hE5 : MEu cap u5 (l.set i (n_use e (c_time c))) := by
    refine ⟨n5.trans hE2.1, hE2.2.1, m3, fun k x hk => st5 k x ?_ (hE2.2.2.2 k x hk)⟩
    have := (List.getElem?_eq_some_iff.mp hk).1
    omega
  have s5 := mv5 _ (hE2.2.2.2 i _ hi2)
  refine vM_take hE5 (by omega) (fun u7 o7 hE7 r7 => ?_)
  have s7 := r7 32 _ (by omega) s5
  have her : (l.set i (n_use e (c_time c))).eraseIdx i = l.eraseIdx i := by
    rw [List.eraseIdx_set_eq]
  rw [her] at hE7
  rw [hE7.1, hlen]
  refine vM_move (by omega) (by omega) (by omega) (fun u9 o9 n9 mv9 st9 u10 h10 => hP u10 ?_)
  obtain ⟨b1, b2, b3, b4, b5, b6, b7, b8, b9, b10, b11, b12, b13⟩ := sM_entries h10
  have hs : ∀ (k : Nat) (x : En), mS u9 k x → mS u10 k x := by
    intro k x hx
    show meOk _ _ _ _ _ _ _ k x
    rw [b7, b8, b9, b10, b11, b12, b13]
    exact hx
  have hoall : onlyME u u10 := onlyME.tr (onlyME.tr (onlyME.tr ⟨a1, a2, a3, a4, a5⟩ o5) o7) (onlyME.tr o9 ⟨b1, b2, b3, b4, b5⟩)
  refine h.onlyE hoall (ME.app ?_ (by omega) m3 (fun k x hk => hs k x (st9 k x ?_ (hE7.2.2.2 k x hk))) ?_)
  · rw [b6, n9, hE7.1]
    exact nI_1 _
  · have := (List.getElem?_eq_some_iff.mp hk).1
    omega
  · rw [hlen]
    exact hs _ _ (mv9 _ s7)
theorem vM_makeRoom {cap : Nat} {u : MS} {c : Co} {tape : Nat → Int32} {n : Nat} {l : List En} {fs : List Fr} {ls : List Int32} {th : Int32} {Post : Int32 → MS → Prop} (h : RM cap u c tape n l fs ls th) (hk : ∀ (i : Nat) (e : En), l[i]? = some e → ¬ n_kd e = 1 → n_wt e = []) (hb : ls.length + 10 < 2 ^ 30) (h1 : l.length < cap → Post (1 : Int32) u) (h2 : ∀ (i : Nat) (u' : MS), cap ≤ l.length → roomI l = some i → RM cap u' c tape n (l.eraseIdx i) fs ls th → Post (1 : Int32) u') (h3 : cap ≤ l.length → roomI l = none → Post (0 : Int32) u) : wp_X8_makeRoom u Post := by
  obtain ⟨m1, m2, m3, m4⟩ := h.2.2.1
  unfold wp_X8_makeRoom
  rw [h.2.2.2.2.2.2, m1]
  refine ⟨fun q => ?_, fun q => h1 ?_⟩
  · have hc : cap ≤ l.length := (nI_leI (by omega) (by omega)).mp q
    have key : ∀ (f x : Nat), x + f = l.length → (∀ (j : Nat) (e : En), j < x → l[j]? = some e → n_kd e = 1) → lp_X8_makeRoom_15 Post (f + 1) (nI x) u := by
      intro f
      induction f with
      | zero =>
        intro x hx hall
        show lb_X8_makeRoom_15 Post _ (nI x) u
        unfold lb_X8_makeRoom_15
        rw [m1]
        refine br_t (nI_le (by omega) (by omega)) (h3 hc (roomI_none (fun j e he => hall j e ?_ he)))
        have := (List.getElem?_eq_some_iff.mp he).1
        omega
      | succ f ih =>
        intro x hx hall
        show lb_X8_makeRoom_15 Post (lp_X8_makeRoom_15 Post (f + 1)) (nI x) u
        unfold lb_X8_makeRoom_15
        obtain ⟨e, he⟩ := get_lt (l := l) (i := x) (by omega)
        rw [m1, nI_clamp (by omega), (m4 x e he).2.1, nI_1]
        refine br_f (nI_ge (by omega) (by omega)) ⟨vp_in_nI (by omega) (by omega), fun q1 => ih (x + 1) (by omega) (fun j e' hj he' => ?_), fun q1 => vM_goes h he hb (fun u' hu => ?_)⟩
        · by_cases hjx : j = x
          · subst hjx
            rw [he] at he'
            cases he'
            exact q1
          · exact hall j e' (by omega) he'
        · rw [hk x e he q1, List.append_nil] at hu
          exact h2 x u' hc (roomI_some he q1 hall) hu
    exact ⟨l.length + 1, key l.length 0 (by omega) (fun j e hj => absurd hj (by omega))⟩
  · rcases Nat.lt_or_ge l.length cap with z | z
    · exact z
    · exact absurd (nI_le z (by omega)) q
theorem vM_make {cap : Nat} {u : MS} {c : Co} {tape : Nat → Int32} {n : Nat} {l : List En} {fs : List Fr} {ls : List Int32} {th : Int32} {a k : Int32} {hw : Int64} {Post : MS → Prop} (h : RM cap u c tape n l fs ls th) (hl : l.length < cap) (hP : ∀ u' : MS, RM cap u' c tape n (l ++ [(a, k, hw, c_time c, c_time c, [])]) fs ls th → Post u') : wp_X8_make a k hw u Post := by
  obtain ⟨m1, m2, m3, m4⟩ := h.2.2.1
  unfold wp_X8_make
  intro u1 h1
  rw [m1, nI_clamp (by omega)]
  refine ⟨vp_in_nI (by omega) (by omega), fun u4 h4 u6 h6 u8 h8 u10 h10 u12 h12 u14 h14 => hP u14 ?_⟩
  obtain ⟨z1, z2, z3, z4, z5, z6, z7, z8, z9, z10, z11, z12, z13⟩ := sM_entries h1
  obtain ⟨a1, a2, a3, a4, a5, a6, a7, a8, a9, a10, a11, a12, a13⟩ := sM_addresses h4
  obtain ⟨b1, b2, b3, b4, b5, b6, b7, b8, b9, b10, b11, b12, b13⟩ := sM_kinds h6
  obtain ⟨c1, c2, c3, c4, c5, c6, c7, c8, c9, c10, c11, c12, c13⟩ := sM_hardware h8
  obtain ⟨d1, d2, d3, d4, d5, d6, d7, d8, d9, d10, d11, d12, d13⟩ := sM_since h10
  obtain ⟨e1, e2, e3, e4, e5, e6, e7, e8, e9, e10, e11, e12, e13⟩ := sM_used h12
  obtain ⟨f1, f2, f3, f4, f5, f6, f7, f8, f9, f10, f11, f12, f13⟩ := sM_waiting h14
  have t8 : M_time u8 = c_time c := (mcore_all ((c1.trans (b1.trans (a1.trans z1))).trans h.1)).2.1
  have t10 : M_time u10 = c_time c := (mcore_all ((d1.trans (c1.trans (b1.trans (a1.trans z1)))).trans h.1)).2.1
  have o14 : onlyME u u14 := ⟨f1.trans (e1.trans (d1.trans (c1.trans (b1.trans (a1.trans z1))))), f2.trans (e2.trans (d2.trans (c2.trans (b2.trans (a2.trans z2))))), f3.trans (e3.trans (d3.trans (c3.trans (b3.trans (a3.trans z3))))), f4.trans (e4.trans (d4.trans (c4.trans (b4.trans (a4.trans z4))))), f5.trans (e5.trans (d5.trans (c5.trans (b5.trans (a5.trans z5)))))⟩
  have g6 : M_entries u14 = nI (l.length + 1) := by rw [f6, e6, d6, c6, b6, a6, z6, m1]; exact nI_1 _
  have g7 : M_addresses u14 = upd (M_addresses u) l.length a := by rw [f7, e7, d7, c7, b7, a7, z7]
  have g8 : M_kinds u14 = upd (M_kinds u) l.length k := by rw [f8, e8, d8, c8, b8, a8, z8]
  have g9 : M_hardware u14 = vp_updL (M_hardware u) l.length hw := by rw [f9, e9, d9, c9, b9, a9, z9]
  have g10 : M_since u14 = upd (M_since u) l.length (c_time c) := by rw [f10, e10, d10, t8, c10, b10, a10, z10]
  have g11 : M_used u14 = upd (M_used u) l.length (c_time c) := by rw [f11, e11, t10, d11, c11, b11, a11, z11]
  have g12 : M_waiting u14 = upd (M_waiting u) l.length 0 := by rw [f12, e12, d12, c12, b12, a12, z12]
  have g13 : M_waits u14 = M_waits u := by rw [f13, e13, d13, c13, b13, a13, z13]
  refine h.onlyE o14 (ME.app g6 hl m3 (fun j x hj => ?_) ?_)
  · have hjl := (List.getElem?_eq_some_iff.mp hj).1
    have hne : j ≠ l.length := by omega
    obtain ⟨y1, y2, y3, y4, y5, y6, y7, y8⟩ := m4 j x hj
    show meOk _ _ _ _ _ _ _ j x
    rw [g7, g8, g9, g10, g11, g12, g13]
    exact ⟨(if_neg hne).trans y1, (if_neg hne).trans y2, (pk_uLn hne).trans y3, (if_neg hne).trans y4, (if_neg hne).trans y5, (if_neg hne).trans y6, y7, y8⟩
  · show meOk _ _ _ _ _ _ _ l.length _
    rw [g7, g8, g9, g10, g11, g12, g13]
    exact ⟨if_pos rfl, if_pos rfl, pk_uLs, if_pos rfl, if_pos rfl, if_pos rfl, Nat.zero_le _, fun k9 x hx => by simp [n_wt] at hx⟩
theorem vM_giveUp {cap : Nat} {u : MS} {c : Co} {tape : Nat → Int32} {n : Nat} {l : List En} {fs : List Fr} {ls : List Int32} {th : Int32} {Post : MS → Prop} (h : RM cap u c tape n l fs ls th) (hbl : ls.length + 200 < 2 ^ 30) (hP : ∀ u' : MS, RM cap u' (c_up c) tape n [] fs (ls ++ l.flatMap n_wt) th → Post u') : wp_X8_giveUp u Post := by
  unfold wp_X8_giveUp
  intro u1 h1 u3 h3
  obtain ⟨a1, a2, a3, a4, a5, a6, a7, a8, a9, a10, a11, a12, a13⟩ := sM_phase h1
  obtain ⟨b1, b2, b3, b4, b5, b6, b7, b8, b9, b10, b11, b12, b13⟩ := sM_own h3
  obtain ⟨g1, g2, g3, g4, g5, g6, g7, g8⟩ := mcore_all h.1
  have hR : RM cap u3 (c_up c) tape n l fs ls th := by
    refine h.keepM ?_ (b1.trans a1) (b2.trans a2) (b3.trans a3) (b4.trans a4) (b5.trans a5)
    unfold mcore c_up
    rw [b6, b7, b8, b9, b10, b11, b12, b13, a6, a7, a8, a10, a11, a12, a13, g1, g2, g5, g6, g7, g8]
  have key : ∀ (r : List En) (ls1 : List Int32) (u4 : MS), RM cap u4 (c_up c) tape n r fs ls1 th → ls1.length + 4 * r.length + 10 < 2 ^ 30 → (∀ u' : MS, RM cap u' (c_up c) tape n [] fs (ls1 ++ r.flatMap n_wt) th → Post u') → lp_X8_giveUp_10 Post (r.length + 1) u4 := by
    intro r
    induction r with
    | nil =>
      intro ls1 u4 h4 _ hQ
      show lb_X8_giveUp_10 Post _ u4
      unfold lb_X8_giveUp_10
      rw [h4.2.2.1.1]
      rw [List.flatMap_nil, List.append_nil] at hQ
      exact br_t (by decide) (hQ u4 h4)
    | cons e r ih =>
      intro ls1 u4 h4 hb4 hQ
      show lb_X8_giveUp_10 Post (lp_X8_giveUp_10 Post (r.length + 1)) u4
      unfold lb_X8_giveUp_10
      have hg : (e :: r)[0]? = some e := rfl
      obtain ⟨q1, q2, q3, q4, q5⟩ := h4.2.2.1.lt hg
      rw [List.length_cons] at hb4
      rw [h4.2.2.1.1]
      refine br_f (nI_nle q1 (by omega)) (vM_goes h4 hg (by omega) (fun u' hu => ih (ls1 ++ n_wt e) u' hu (by rw [List.length_append]; omega) (fun u9 h9 => hQ u9 ?_)))
      rw [List.flatMap_cons, ← List.append_assoc]
      exact h9
  have hcp := h.2.2.1.2.1
  have h32 := h.2.2.1.2.2.1
  exact ⟨l.length + 1, key l ls u3 hR (by omega) hP⟩
