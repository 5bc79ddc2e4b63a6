/-! the class: the cache -/
theorem zn_sub1 {a : Nat} (h : 1 ≤ a) : nI a - (1 : Int32) = nI (a - 1) := pk_sub (b := 1) h
def findA (a : Int32) (l : List En) : Option Nat := l.findIdx? (fun e => decide (n_ad e = a))
def sumW (l : List En) : Nat := (l.map (fun e => (n_wt e).length)).sum
def roomI (l : List En) : Option Nat := l.findIdx? (fun e => decide (¬ n_kd e = 1))
theorem findA_some {a : Int32} {l : List En} {i : Nat} {e : En} (hi : l[i]? = some e) (he : n_ad e = a) (hb : ∀ (j : Nat) (e' : En), j < i → l[j]? = some e' → ¬ n_ad e' = a) : findA a l = some i := by
  unfold findA
  rw [List.findIdx?_eq_some_iff_getElem]
  obtain ⟨hl, hg⟩ := List.getElem?_eq_some_iff.mp hi
  refine ⟨hl, by rw [hg]; simp [he], fun j hj => ?_⟩
  have := hb j l[j] hj (List.getElem?_eq_getElem (by omega))
  simp [this]
theorem findA_none {a : Int32} {l : List En} (hb : ∀ (j : Nat) (e' : En), l[j]? = some e' → ¬ n_ad e' = a) : findA a l = none := by
  unfold findA
  rw [List.findIdx?_eq_none_iff]
  intro e he
  obtain ⟨j, hj⟩ := List.getElem?_of_mem he
  simp [hb j e hj]
theorem findA_spec {a : Int32} {l : List En} {i : Nat} (h : findA a l = some i) : ∃ e, l[i]? = some e ∧ n_ad e = a := by
  unfold findA at h
  rw [List.findIdx?_eq_some_iff_getElem] at h
  obtain ⟨hl, h1, -⟩ := h
  exact ⟨l[i], List.getElem?_eq_getElem hl, by simpa using h1⟩
theorem roomI_some {l : List En} {i : Nat} {e : En} (hi : l[i]? = some e) (he : ¬ n_kd e = 1) (hb : ∀ (j : Nat) (e' : En), j < i → l[j]? = some e' → n_kd e' = 1) : roomI l = some i := by
  unfold roomI
  rw [List.findIdx?_eq_some_iff_getElem]
  obtain ⟨hl, hg⟩ := List.getElem?_eq_some_iff.mp hi
  refine ⟨hl, by rw [hg]; simp [he], fun j hj => ?_⟩
  have := hb j l[j] hj (List.getElem?_eq_getElem (by omega))
  simp [this]
theorem roomI_none {l : List En} (hb : ∀ (j : Nat) (e' : En), l[j]? = some e' → n_kd e' = 1) : roomI l = none := by
  unfold roomI
  rw [List.findIdx?_eq_none_iff]
  intro e he
  obtain ⟨j, hj⟩ := List.getElem?_of_mem he
  simp [hb j e hj]
theorem roomI_spec {l : List En} {i : Nat} (h : roomI l = some i) : ∃ e, l[i]? = some e ∧ ¬ n_kd e = 1 := by
  unfold roomI at h
  rw [List.findIdx?_eq_some_iff_getElem] at h
  obtain ⟨hl, h1, -⟩ := h
  exact ⟨l[i], List.getElem?_eq_getElem hl, by simpa using h1⟩
/-- what a list has at a place, out of an XE -/
theorem XE.at {cap : Nat} {size : Int32} {row : Nat → Nat} {E : Nat → ET} {Q : Nat → Nat → Int32} {l : List En} (h : XE cap size row E Q l) {i : Nat} {e : En} (hi : l[i]? = some e) : i < l.length ∧ i < cap ∧ row i < cap ∧ xeOk e (E (row i)) (Q (row i)) := by
  obtain ⟨h1, h2, h3, h4, h5, h6⟩ := h
  have hl := (List.getElem?_eq_some_iff.mp hi).1
  exact ⟨hl, by omega, h4 i (by omega), h6 i e hi⟩
theorem xeOk.fields {e : En} {t : ET} {q : Nat → Int32} (h : xeOk e t q) : e_waiting t = nI (n_wt e).length ∧ e_address t = n_ad e ∧ e_number t = n_hw e ∧ e_kind t = n_kd e ∧ e_since t = n_si e ∧ e_used t = n_us e := by
  obtain ⟨rfl, -, -⟩ := h
  exact ⟨rfl, rfl, rfl, rfl, rfl, rfl⟩
theorem get_lt {α : Type} {l : List α} {i : Nat} (h : i < l.length) : ∃ e, l[i]? = some e := ⟨l[i], List.getElem?_eq_getElem h⟩
theorem vX_indexOf {cap : Nat} {u : XS} {l : List En} {a : Int32} {Post : Int32 → XS → Prop} (h : XEu cap u l) (hs : ∀ (i : Nat) (e : En), findA a l = some i → l[i]? = some e → n_ad e = a → Post (nI i) u) (hn : findA a l = none → Post (-1 : Int32) u) : wp_X0_indexOf cap a u Post := by
  have h0 := h
  obtain ⟨h1, h2, h3, -⟩ := h
  have key : ∀ (f i : Nat), i + f = l.length → (∀ (j : Nat) (e' : En), j < i → l[j]? = some e' → ¬ n_ad e' = a) → lp_X0_indexOf_2 cap Post (f + 1) a (nI i) u := by
    intro f
    induction f with
    | zero =>
      intro i hi hb
      show lb_X0_indexOf_2 cap Post (lp_X0_indexOf_2 cap Post 0) a (nI i) u
      unfold lb_X0_indexOf_2
      rw [h1]
      exact br_t (nI_le (by omega) (by omega)) (hn (findA_none (fun j e' hj => hb j e' (by have := (List.getElem?_eq_some_iff.mp hj).1; omega) hj)))
    | succ f ih =>
      intro i hi hb
      show lb_X0_indexOf_2 cap Post (lp_X0_indexOf_2 cap Post (f + 1)) a (nI i) u
      unfold lb_X0_indexOf_2
      obtain ⟨e, he⟩ := get_lt (l := l) (i := i) (by omega)
      obtain ⟨-, g2, g3, g4⟩ := h0.at he
      have hcl : (nI i).toNatClampNeg = i := nI_clamp (by omega)
      rw [h1]
      refine br_f (nI_ge (by omega) (by omega)) ?_
      rw [hcl, g4.fields.2.1]
      refine ⟨vp_in_nI (by omega) (by omega), g3, fun q => ?_, fun q => hs i e (findA_some he q hb) he q⟩
      rw [nI_1]
      refine ih (i + 1) (by omega) (fun j e' hj hj2 => ?_)
      by_cases hji : j = i
      · subst hji; rw [he] at hj2; cases hj2; exact q
      · exact hb j e' (by omega) hj2
  exact ⟨l.length + 1, key l.length 0 (by omega) (fun j e' hj => absurd hj (by omega))⟩
theorem sumW_take {l : List En} {i : Nat} {e : En} (hi : l[i]? = some e) : sumW (l.take (i + 1)) = sumW (l.take i) + (n_wt e).length := by
  unfold sumW
  rw [List.take_succ, hi]
  simp
theorem vX_countWaiting {cap : Nat} {u : XS} {l : List En} {Post : Int32 → XS → Prop} (h : XEu cap u l) (hP : Post (nI (sumW l)) u) : wp_X0_countWaiting cap u Post := by
  have h0 := h
  obtain ⟨h1, h2, h3, -⟩ := h
  have key : ∀ (f i : Nat), i + f = l.length → lp_X0_countWaiting_4 cap Post (f + 1) (nI (sumW (l.take i))) (nI i) u := by
    intro f
    induction f with
    | zero =>
      intro i hi
      show lb_X0_countWaiting_4 cap Post (lp_X0_countWaiting_4 cap Post 0) (nI (sumW (l.take i))) (nI i) u
      unfold lb_X0_countWaiting_4
      rw [h1]
      have hi2 : i = l.length := by omega
      subst hi2
      rw [List.take_length]
      exact br_t (nI_le (by omega) (by omega)) hP
    | succ f ih =>
      intro i hi
      show lb_X0_countWaiting_4 cap Post (lp_X0_countWaiting_4 cap Post (f + 1)) (nI (sumW (l.take i))) (nI i) u
      unfold lb_X0_countWaiting_4
      obtain ⟨e, he⟩ := get_lt (l := l) (i := i) (by omega)
      obtain ⟨-, g2, g3, g4⟩ := h0.at he
      have hcl : (nI i).toNatClampNeg = i := nI_clamp (by omega)
      rw [h1]
      refine br_f (nI_ge (by omega) (by omega)) ?_
      rw [hcl, g4.fields.1, nI_1, nI_add, ← sumW_take he]
      exact ⟨vp_in_nI (by omega) (by omega), g3, ih (i + 1) (by omega)⟩
  exact ⟨l.length + 1, key l.length 0 (by omega)⟩
/-- the rows behind a move to the end -/
def rotS (i s k : Nat) : Nat := if k = s then i else if i ≤ k ∧ k < s then k + 1 else k
theorem rotS_lt {cap i s : Nat} (hi : i ≤ s) (hs : s < cap) {k : Nat} (hk : k < cap) : rotS i s k < cap := by
  unfold rotS; split
  · omega
  · split <;> omega
theorem rotS_inj {i s j k : Nat} (hi : i ≤ s) (h : rotS i s j = rotS i s k) : j = k := by
  unfold rotS at h
  split at h <;> split at h <;> (try split at h) <;> (try split at h) <;> omega
theorem rot_get {α : Type} {l : List α} {i : Nat} {e : α} (hi : l[i]? = some e) {k : Nat} {x : α} (hk : (l.eraseIdx i ++ [e])[k]? = some x) : k < l.length ∧ l[rotS i (l.length - 1) k]? = some x := by
  have hl := (List.getElem?_eq_some_iff.mp hi).1
  have hlen : (l.eraseIdx i).length = l.length - 1 := by rw [List.length_eraseIdx]; simp [hl]
  by_cases hk2 : k < l.length - 1
  · rw [List.getElem?_append_left (by omega), List.getElem?_eraseIdx] at hk
    refine ⟨by omega, ?_⟩
    unfold rotS
    rw [if_neg (by omega)]
    by_cases h3 : k < i
    · rw [if_pos h3] at hk
      rw [if_neg (by omega)]
      exact hk
    · rw [if_neg h3] at hk
      rw [if_pos (by omega)]
      exact hk
  · rw [List.getElem?_append_right (by omega), hlen] at hk
    have hz : k - (l.length - 1) < 1 := (List.getElem?_eq_some_iff.mp hk).1
    have hk3 : k = l.length - 1 := by omega
    subst hk3
    rw [Nat.sub_self] at hk
    cases hk
    refine ⟨by omega, ?_⟩
    unfold rotS
    rw [if_pos rfl]
    exact hi
theorem XE.rot {cap : Nat} {size : Int32} {row : Nat → Nat} {E : Nat → ET} {Q : Nat → Nat → Int32} {l : List En} (h : XE cap size row E Q l) {i : Nat} {e : En} (hi : l[i]? = some e) : XE cap size (fun k => row (rotS i (l.length - 1) k)) E Q (l.eraseIdx i ++ [e]) := by
  have hl := (List.getElem?_eq_some_iff.mp hi).1
  obtain ⟨h1, h2, h3, h4, h5, h6⟩ := h
  have hlen : (l.eraseIdx i ++ [e]).length = l.length := by rw [List.length_append, List.length_eraseIdx]; simp [hl]; omega
  refine ⟨by rw [hlen]; exact h1, by omega, h3, fun k hk => h4 _ (rotS_lt (by omega) (by omega) hk), fun j k hj hk hjk => rotS_inj (i := i) (s := l.length - 1) (by omega) (h5 _ _ (rotS_lt (by omega) (by omega) hj) (rotS_lt (by omega) (by omega) hk) hjk), fun k x hk => ?_⟩
  obtain ⟨-, g⟩ := rot_get hi hk
  exact h6 _ x g
/-- fewer entries -/
theorem XE.init' {cap : Nat} {size : Int32} {row : Nat → Nat} {E : Nat → ET} {Q : Nat → Nat → Int32} {l : List En} {e : En} (h : XE cap size row E Q (l ++ [e])) : XE cap (nI l.length) row E Q l := by
  obtain ⟨h1, h2, h3, h4, h5, h6⟩ := h
  rw [List.length_append, List.length_singleton] at h2
  exact ⟨rfl, by omega, h3, h4, h5, fun i x hi => h6 i x (by rw [List.getElem?_append_left (List.getElem?_eq_some_iff.mp hi).1]; exact hi)⟩
/-- one entry written anew -/
theorem XE.put {cap : Nat} {size : Int32} {row : Nat → Nat} {E E' : Nat → ET} {Q Q' : Nat → Nat → Int32} {l : List En} (h : XE cap size row E Q l) {i : Nat} {e e' : En} (hi : l[i]? = some e) (ho : ∀ j, j ≠ row i → E' j = E j ∧ Q' j = Q j) (hok : xeOk e' (E' (row i)) (Q' (row i))) : XE cap size row E' Q' (l.set i e') := by
  have hl := (List.getElem?_eq_some_iff.mp hi).1
  obtain ⟨h1, h2, h3, h4, h5, h6⟩ := h
  refine ⟨by rw [List.length_set]; exact h1, by rw [List.length_set]; exact h2, h3, h4, h5, fun k x hk => ?_⟩
  by_cases hki : k = i
  · subst hki
    rw [List.getElem?_set_self hl] at hk
    cases hk
    exact hok
  · rw [List.getElem?_set_ne (Ne.symm hki)] at hk
    have hkl := (List.getElem?_eq_some_iff.mp hk).1
    obtain ⟨e1, e2⟩ := ho (row k) (fun q => hki (h5 k i (by omega) (by omega) q))
    rw [e1, e2]
    exact h6 k x hk
/-- all but the rows stay -/
def onlyRow (u u' : XS) : Prop := core u' = core u ∧ xT u' = xT u ∧ xF u' = xF u ∧ xL u' = xL u ∧ xO u' = xO u ∧ X_size u' = X_size u ∧ X_E u' = X_E u ∧ X_Q u' = X_Q u
theorem vX_moveToEnd {cap : Nat} {u : XS} {l : List En} {i : Nat} {Post : Nat → XS → Prop} (h : XEu cap u l) (hi : i < l.length) (hP : ∀ u' : XS, onlyRow u u' → X_row u' = (fun k => X_row u (rotS i (l.length - 1) k)) → Post (X_row u i) u') : wp_X0_moveToEnd cap (nI i) u Post := by
  obtain ⟨h1, h2, h3, h4, h5, h6⟩ := h
  have hcl : (nI i).toNatClampNeg = i := nI_clamp (by omega)
  unfold wp_X0_moveToEnd
  rw [hcl]
  have key : ∀ (f t : Nat) (u1 : XS), t + f = l.length - 1 → i ≤ t → onlyRow u u1 → X_row u1 = (fun k => X_row u (if i ≤ k ∧ k < t then k + 1 else k)) → lp_X0_moveToEnd_9 cap Post (f + 1) (X_row u i) (nI t) u1 := by
    intro f
    induction f with
    | zero =>
      intro t u1 ht hit ho hr
      show lb_X0_moveToEnd_9 cap Post (lp_X0_moveToEnd_9 cap Post 0) (X_row u i) (nI t) u1
      unfold lb_X0_moveToEnd_9
      obtain ⟨o1, o2, o3, o4, o5, o6, o7, o8⟩ := ho
      have e1 : X_size u1 - (1 : Int32) = nI (l.length - 1) := by rw [o6, h1]; exact zn_sub1 (by omega)
      have hcl2 : (nI (l.length - 1)).toNatClampNeg = l.length - 1 := nI_clamp (by omega)
      rw [e1]
      refine br_t (nI_le (by omega) (by omega)) ⟨h4 i (by omega), vp_in_nI (by omega) (by omega), fun u4 hu4 => ?_⟩
      rw [hcl2] at hu4
      obtain ⟨a1, a2, a3, a4, a5, a6, a7, a8, a9⟩ := sX_row hu4
      refine hP u4 ⟨a1.trans o1, a2.trans o2, a3.trans o3, a4.trans o4, a5.trans o5, a6.trans o6, a8.trans o7, a9.trans o8⟩ ?_
      rw [a7, hr]
      funext k
      unfold rotS
      have ht2 : t = l.length - 1 := by omega
      subst ht2
      by_cases hk : k = l.length - 1
      · subst hk
        rw [va_up_self, if_pos rfl]
      · rw [va_up_ne _ _ hk, if_neg hk]
    | succ f ih =>
      intro t u1 ht hit ho hr
      show lb_X0_moveToEnd_9 cap Post (lp_X0_moveToEnd_9 cap Post (f + 1)) (X_row u i) (nI t) u1
      unfold lb_X0_moveToEnd_9
      have ho1 := ho
      obtain ⟨o1, o2, o3, o4, o5, o6, o7, o8⟩ := ho
      have e1 : X_size u1 - (1 : Int32) = nI (l.length - 1) := by rw [o6, h1]; exact zn_sub1 (by omega)
      have e2 : nI t + (1 : Int32) = nI (t + 1) := nI_1 t
      have hc1 : (nI t).toNatClampNeg = t := nI_clamp (by omega)
      have hc2 : (nI (t + 1)).toNatClampNeg = t + 1 := nI_clamp (by omega)
      have er : X_row u1 (t + 1) = X_row u (t + 1) := by rw [hr]; show X_row u (if i ≤ t + 1 ∧ t + 1 < t then t + 1 + 1 else t + 1) = _; rw [if_neg (by omega)]
      rw [e1, e2, hc2, er]
      refine br_f (nI_ge (by omega) (by omega)) ⟨vp_in_nI (by omega) (by omega), h4 _ (by omega), vp_in_nI (by omega) (by omega), fun u9 hu9 => ?_⟩
      rw [hc1] at hu9
      obtain ⟨a1, a2, a3, a4, a5, a6, a7, a8, a9⟩ := sX_row hu9
      refine ih (t + 1) u9 (by omega) (by omega) ⟨a1.trans o1, a2.trans o2, a3.trans o3, a4.trans o4, a5.trans o5, a6.trans o6, a8.trans o7, a9.trans o8⟩ ?_
      rw [a7, hr]
      funext k
      by_cases hk : k = t
      · subst hk
        rw [va_up_self, if_pos (by omega)]
      · rw [va_up_ne _ _ hk]
        by_cases h8 : i ≤ k ∧ k < t
        · rw [if_pos h8, if_pos (by omega)]
        · rw [if_neg h8, if_neg (by omega)]
  refine ⟨vp_in_nI (by omega) (by omega), l.length - 1 - i + 1, key (l.length - 1 - i) i u (by omega) (Nat.le_refl _) ⟨rfl, rfl, rfl, rfl, rfl, rfl, rfl, rfl⟩ ?_⟩
  funext k
  rw [if_neg (by omega)]
theorem vX_remove {cap : Nat} {u : XS} {c : Co} {tape : Nat → Int32} {n : Nat} {l : List En} {fs : List Fr} {ls : List Int32} {o : Nat → Int64} {i : Nat} {Post : XS → Prop} (h : RX cap u c tape n l fs ls o) (hi : i < l.length) (hP : ∀ u' : XS, RX cap u' c tape n (l.eraseIdx i) fs ls o → Post u') : wp_X0_remove cap (nI i) u Post := by
  obtain ⟨hc, ht, he, hf, hl, ho⟩ := h
  obtain ⟨e, hie⟩ := get_lt hi
  unfold wp_X0_remove
  refine vX_moveToEnd he hi (fun u2 ho2 hr2 u3 h3 => hP u3 ?_)
  obtain ⟨o1, o2, o3, o4, o5, o6, o7, o8⟩ := ho2
  obtain ⟨a1, a2, a3, a4, a5, a6, a7, a8, a9⟩ := sX_size h3
  have hx := (he.rot hie).init'
  refine ⟨(a1.trans o1).trans hc, ht.keep (a2.trans o2), ?_, hf.keep (a3.trans o3), hl.keep (a4.trans o4), (g_xO (a5.trans o5)).trans ho⟩
  unfold XEu
  have hlen : (l.eraseIdx i).length = l.length - 1 := by rw [List.length_eraseIdx]; simp [hi]
  rw [a6, a7, a8, a9, o6, o7, o8, hr2, he.1, show nI l.length - (1 : Int32) = nI (l.eraseIdx i).length by rw [hlen]; exact zn_sub1 (by omega)]
  exact hx
/-- an entry with another time of use -/
def n_use (e : En) (t : Int32) : En := (n_ad e, n_kd e, n_hw e, n_si e, t, n_wt e)
theorem vX_use {cap : Nat} {u : XS} {c : Co} {tape : Nat → Int32} {n : Nat} {l : List En} {fs : List Fr} {ls : List Int32} {o : Nat → Int64} {i : Nat} {e : En} {t : Int32} {Post : Nat → XS → Prop} (h : RX cap u c tape n l fs ls o) (hi : l[i]? = some e) (hP : ∀ u' : XS, RX cap u' c tape n (l.eraseIdx i ++ [n_use e t]) fs ls o → Post (X_row u' (l.length - 1)) u') : wp_X0_use cap (nI i) t u Post := by
  obtain ⟨hc, ht, he, hf, hl, ho⟩ := h
  have hil := (List.getElem?_eq_some_iff.mp hi).1
  unfold wp_X0_use
  refine vX_moveToEnd he hil (fun u2 ho2 hr2 => ?_)
  obtain ⟨o1, o2, o3, o4, o5, o6, o7, o8⟩ := ho2
  refine ⟨(he.at hi).2.2.1, fun u4 h4 => ?_⟩
  obtain ⟨a1, a2, a3, a4, a5, a6, a7, a8, a9⟩ := sX_E h4
  have hlen : (l.eraseIdx i).length = l.length - 1 := by rw [List.length_eraseIdx]; simp [hil]
  have hrl : X_row u4 (l.length - 1) = X_row u i := by
    rw [a7, hr2]
    show X_row u (rotS i (l.length - 1) (l.length - 1)) = _
    unfold rotS
    rw [if_pos rfl]
  rw [← hrl]
  refine hP u4 ⟨(a1.trans o1).trans hc, ht.keep (a2.trans o2), ?_, hf.keep (a3.trans o3), hl.keep (a4.trans o4), (g_xO (a5.trans o5)).trans ho⟩
  have hx := he.rot hi
  have hlast : (l.eraseIdx i ++ [e])[l.length - 1]? = some e := by rw [← hlen, List.getElem?_append_right (by omega), Nat.sub_self]; rfl
  have hset : (l.eraseIdx i ++ [e]).set (l.length - 1) (n_use e t) = l.eraseIdx i ++ [n_use e t] := by
    rw [← hlen, List.set_append_right _ _ (by omega), Nat.sub_self]
    rfl
  unfold XEu
  rw [a6, a7, a8, a9, o6, o7, o8, hr2, ← hset]
  refine hx.put hlast (fun j hj => ⟨?_, rfl⟩) ?_
  · have hj2 : j ≠ X_row u i := by
      intro q
      apply hj
      show j = X_row u (rotS i (l.length - 1) (l.length - 1))
      unfold rotS
      rw [if_pos rfl]
      exact q
    rw [va_up_ne _ _ hj2]
  · show xeOk _ (va_up (X_E u) (X_row u i) _ (X_row u (rotS i (l.length - 1) (l.length - 1)))) (X_Q u (X_row u (rotS i (l.length - 1) (l.length - 1))))
    unfold rotS
    rw [if_pos rfl, va_up_self]
    obtain ⟨g1, g2, g3⟩ := (he.at hi).2.2.2
    rw [g1]
    exact ⟨rfl, g2, g3⟩
theorem vX_makeRoom {cap : Nat} {u : XS} {c : Co} {tape : Nat → Int32} {n : Nat} {l : List En} {fs : List Fr} {ls : List Int32} {o : Nat → Int64} {Post : Int32 → XS → Prop} (h : RX cap u c tape n l fs ls o) (h1 : l.length < cap → Post (1 : Int32) u) (h2 : ∀ (i : Nat) (u' : XS), cap ≤ l.length → roomI l = some i → RX cap u' c tape n (l.eraseIdx i) fs ls o → Post (1 : Int32) u') (h3 : cap ≤ l.length → roomI l = none → Post (0 : Int32) u) : wp_X0_makeRoom cap u Post := by
  have h0 := h
  obtain ⟨hc, ht, he, hf, hl, ho⟩ := h
  have he0 := he
  obtain ⟨g1, g2, g3, -⟩ := he
  unfold wp_X0_makeRoom
  show (nI cap ≤ X_size u → _) ∧ _
  rw [g1]
  by_cases hcap : l.length < cap
  · exact br_f (nI_ge hcap (by omega)) (h1 hcap)
  refine br_t (nI_le (by omega) (by omega)) ?_
  have key : ∀ (f i : Nat), i + f = l.length → (∀ (j : Nat) (e' : En), j < i → l[j]? = some e' → n_kd e' = 1) → lp_X0_makeRoom_16 cap Post (f + 1) (nI i) u := by
    intro f
    induction f with
    | zero =>
      intro i hi hb
      show lb_X0_makeRoom_16 cap Post (lp_X0_makeRoom_16 cap Post 0) (nI i) u
      unfold lb_X0_makeRoom_16
      rw [g1]
      exact br_t (nI_le (by omega) (by omega)) (h3 (by omega) (roomI_none (fun j e' hj => hb j e' (by have := (List.getElem?_eq_some_iff.mp hj).1; omega) hj)))
    | succ f ih =>
      intro i hi hb
      show lb_X0_makeRoom_16 cap Post (lp_X0_makeRoom_16 cap Post (f + 1)) (nI i) u
      unfold lb_X0_makeRoom_16
      obtain ⟨e, hie⟩ := get_lt (l := l) (i := i) (by omega)
      obtain ⟨-, k2, k3, k4⟩ := he0.at hie
      have hcl : (nI i).toNatClampNeg = i := nI_clamp (by omega)
      rw [g1]
      refine br_f (nI_ge (by omega) (by omega)) ?_
      rw [hcl, k4.fields.2.2.2.1]
      refine ⟨vp_in_nI (by omega) (by omega), k3, fun q => ?_, fun q => ?_⟩
      · rw [nI_1]
        refine ih (i + 1) (by omega) (fun j e' hj hj2 => ?_)
        by_cases hji : j = i
        · subst hji; rw [hie] at hj2; cases hj2; exact q
        · exact hb j e' (by omega) hj2
      · exact vX_remove h0 (by omega) (fun u' hu' => h2 i u' (by omega) (roomI_some hie q hb) hu')
  exact ⟨l.length + 1, key l.length 0 (by omega) (fun j e' hj => absurd hj (by omega))⟩
theorem vX_become {cap : Nat} {u : XS} {j : Nat} {k t : Int32} {Post : XS → Prop} (hj : j < cap) (hP : ∀ u' : XS, core u' = core u → xT u' = xT u → xF u' = xF u → xL u' = xL u → xO u' = xO u → X_size u' = X_size u → X_row u' = X_row u → X_Q u' = X_Q u → X_E u' = va_up (X_E u) j (es_since (es_kind (X_E u j) k) t) → Post u') : wp_X1_become cap j k t u Post := by
  unfold wp_X1_become
  refine ⟨hj, fun u2 h2 u4 h4 => ?_⟩
  obtain ⟨a1, a2, a3, a4, a5, a6, a7, a8, a9⟩ := sX_E h2
  obtain ⟨b1, b2, b3, b4, b5, b6, b7, b8, b9⟩ := sX_E h4
  refine hP u4 (b1.trans a1) (b2.trans a2) (b3.trans a3) (b4.trans a4) (b5.trans a5) (b6.trans a6) (b7.trans a7) (b9.trans a9) ?_
  rw [b8, a8, va_up_self]
  funext i
  by_cases hi : i = j
  · subst hi; rw [va_up_self, va_up_self]
  · rw [va_up_ne _ _ hi, va_up_ne _ _ hi, va_up_ne _ _ hi]
theorem vX_add {cap : Nat} {u : XS} {c : Co} {tape : Nat → Int32} {n : Nat} {l : List En} {fs : List Fr} {ls : List Int32} {o : Nat → Int64} {a : Int32} {hw : Int64} {k t : Int32} {Post : Nat → XS → Prop} (h : RX cap u c tape n l fs ls o) (hcap : l.length < cap) (hP : ∀ u' : XS, RX cap u' c tape n (l ++ [(a, k, hw, t, t, [])]) fs ls o → Post (X_row u' l.length) u') : wp_X0_add cap a hw k t u Post := by
  obtain ⟨hc, ht, he, hf, hl, ho⟩ := h
  obtain ⟨g1, g2, g3, g4, g5, g6⟩ := he
  have hcl : (nI l.length).toNatClampNeg = l.length := nI_clamp (by omega)
  unfold wp_X0_add
  rw [g1, hcl]
  refine ⟨vp_in_nI hcap (by omega), fun u2 h2 => ⟨g4 _ hcap, fun u5 h5 u7 h7 u9 h9 u11 h11 => ?_⟩⟩
  refine vX_become (g4 _ hcap) (fun u' i1 i2 i3 i4 i5 i6 i7 i8 i9 => ?_)
  obtain ⟨a1, a2, a3, a4, a5, a6, a7, a8, a9⟩ := sX_size h2
  obtain ⟨b1, b2, b3, b4, b5, b6, b7, b8, b9⟩ := sX_E h5
  obtain ⟨c1, c2, c3, c4, c5, c6, c7, c8, c9⟩ := sX_E h7
  obtain ⟨d1, d2, d3, d4, d5, d6, d7, d8, d9⟩ := sX_E h9
  obtain ⟨f1, f2, f3, f4, f5, f6, f7, f8, f9⟩ := sX_E h11
  have er : X_row u' = X_row u := by rw [i7, f7, d7, c7, b7, a7]
  have eQ : X_Q u' = X_Q u := by rw [i8, f9, d9, c9, b9, a9]
  have es : X_size u' = nI (l.length + 1) := by rw [i6, f6, d6, c6, b6, a6]; exact nI_1 _
  have eE : ∀ j, j ≠ X_row u l.length → X_E u' j = X_E u j := fun j hj => by
    rw [i9, va_up_ne _ _ hj, f8, va_up_ne _ _ hj, d8, va_up_ne _ _ hj, c8, va_up_ne _ _ hj, b8, va_up_ne _ _ hj, a8]
  have eN : X_E u' (X_row u l.length) = (0, a, hw, k, t, t) := by
    rw [i9, va_up_self, f8, va_up_self, d8, va_up_self, c8, va_up_self, b8, va_up_self, a8]
    rfl
  rw [← er]
  refine hP u' ⟨i1.trans (f1.trans (d1.trans (c1.trans (b1.trans (a1.trans hc))))), ht.keep (i2.trans (f2.trans (d2.trans (c2.trans (b2.trans a2))))), ?_, hf.keep (i3.trans (f3.trans (d3.trans (c3.trans (b3.trans a3))))), hl.keep (i4.trans (f4.trans (d4.trans (c4.trans (b4.trans a4))))), (g_xO (i5.trans (f5.trans (d5.trans (c5.trans (b5.trans a5)))))).trans ho⟩
  refine ⟨by rw [es, List.length_append]; rfl, by rw [List.length_append]; exact hcap, g3, fun i hi => by rw [er]; exact g4 i hi, fun i j hi hj => by rw [er]; exact g5 i j hi hj, fun i x hi => ?_⟩
  rw [er, eQ]
  by_cases hil : i < l.length
  · rw [List.getElem?_append_left hil] at hi
    rw [eE _ (fun q => by have := g5 i l.length (by omega) hcap q; omega)]
    exact g6 i x hi
  · rw [List.getElem?_append_right (by omega)] at hi
    have hz : i - l.length < 1 := (List.getElem?_eq_some_iff.mp hi).1
    have hil2 : i = l.length := by omega
    subst hil2
    rw [Nat.sub_self] at hi
    cases hi
    rw [eN]
    exact ⟨rfl, by simp [n_wt], fun k x h => by simp [n_wt] at h⟩
