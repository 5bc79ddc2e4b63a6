/-! the class: what is sent, and the clock -/
def chgE (c : Co) (e : En) (d : Int32) : En := if n_kd e = 1 then (if (n_wt e).length < 4 then n_wait e d else e) else (if n_kd e = 3 then n_beco e 4 (c_time c) else e)
def chgR (e : En) : Int32 := if n_kd e = 1 then (if (n_wt e).length < 4 then 1 else 2) else 0
def chgF (c : Co) (e : En) (d : Int32) : List Fr := if n_kd e = 1 then [] else (if n_kd e = 3 then [fDat (n_hw e) d, fReq c (n_hw e) (c_own c) (n_ad e)] else [fDat (n_hw e) d])
def chgL (e : En) (d : Int32) : List Int32 := if n_kd e = 1 then (if (n_wt e).length < 4 then [] else [d]) else []
abbrev S4 : Type := Int32 × List En × List Fr × List Int32
def sndS (cap : Nat) (c : Co) (l : List En) (fs : List Fr) (ls : List Int32) (a d : Int32) : S4 :=
  match findA a l with
  | some i => (match l[i]? with
    | some e => (chgR e, l.eraseIdx i ++ [n_use (chgE c e d) (c_time c)], fs ++ chgF c e d, ls ++ chgL e d)
    | none => (0, l, fs, ls))
  | none => (match roomL cap l with
    | some l1 => (1, l1 ++ [(a, 1, 0, c_time c, c_time c, [d])], fs ++ [fReq c cALL (c_own c) a], ls)
    | none => (2, l, fs, ls ++ [d]))
theorem set_same {α : Type} {l : List α} {i : Nat} {e : α} (h : l[i]? = some e) : l.set i e = l := by
  obtain ⟨h1, h2⟩ := List.getElem?_eq_some_iff.mp h
  subst h2
  exact List.set_getElem_self h1
theorem last_get {α : Type} {l : List α} {i : Nat} {e e' : α} (h : l[i]? = some e) : (l.eraseIdx i ++ [e'])[l.length - 1]? = some e' := by
  have h1 := (List.getElem?_eq_some_iff.mp h).1
  have h2 : (l.eraseIdx i).length = l.length - 1 := by rw [List.length_eraseIdx]; simp [h1]
  rw [← h2, List.getElem?_append_right (Nat.le_refl _), Nat.sub_self]
  rfl
theorem set_end {α : Type} {l : List α} {e e' : α} {k : Nat} (h : k = l.length) : (l ++ [e]).set k e' = l ++ [e'] := by
  subst h
  rw [List.set_append_right _ _ (Nat.le_refl _), Nat.sub_self]
  rfl
theorem vX_sendTo {cap : Nat} {u : XS} {c : Co} {tape : Nat → Int32} {n : Nat} {l : List En} {fs : List Fr} {ls : List Int32} {o : Nat → Int64} {i : Nat} {e : En} {d : Int32} {Post : Int32 → XS → Prop} (h : RX cap u c tape n l fs ls o) (hi : l[i]? = some e) (hb : fs.length + 10 < 2 ^ 30) (hbl : ls.length + 10 < 2 ^ 30) (hP : ∀ u' : XS, RX cap u' c tape n (l.set i (chgE c e d)) (fs ++ chgF c e d) (ls ++ chgL e d) o → Post (chgR e) u') : wp_X7_sendTo cap (X_row u i) d u Post := by
  obtain ⟨q1, q2, q3, ⟨q4, q5, q6⟩⟩ := h.2.2.1.at hi
  have hk : e_kind (X_E u (X_row u i)) = n_kd e := by rw [q4]; rfl
  have hw : e_number (X_E u (X_row u i)) = n_hw e := by rw [q4]; rfl
  have ha : e_address (X_E u (X_row u i)) = n_ad e := by rw [q4]; rfl
  unfold wp_X7_sendTo
  rw [hk, hw]
  refine ⟨q3, fun hne => vX_addData h (by omega) (fun u4 h4 hx => ?_), fun h1 => vX_putInLine h hi (by omega) (fun u' hl hu => ?_) (fun u' hl hu => ?_)⟩
  · obtain ⟨x1, x2, x3, x4⟩ := g_xE hx
    unfold chgE chgF chgL chgR at hP
    rw [if_neg hne, if_neg hne, if_neg hne, if_neg hne] at hP
    rw [x3, hk, hw, ha]
    refine ⟨fun h3 => ?_, fun h3 => ?_⟩
    · rw [if_neg h3, if_neg h3, set_same hi, List.append_nil] at hP
      exact hP u4 h4
    · rw [if_pos h3, if_pos h3, List.append_nil] at hP
      obtain ⟨g1, g2, g3, g4, g5, g6, g7, g8⟩ := core_all h4.1
      rw [g4]
      refine vX_request h4 (by rw [List.length_append, List.length_singleton]; omega) (fun u7 h7 hx7 => vX_become q3 (fun u' i1 i2 i3 i4 i5 i6 i7 i8 i9 => hP u' ?_))
      obtain ⟨y1, y2, y3, y4⟩ := g_xE hx7
      have hr7 : X_row u7 = X_row u := y2.trans x2
      have hE7 : X_E u7 = X_E u := y3.trans x3
      have hQ7 : X_Q u7 = X_Q u := y4.trans x4
      have ht7 : X_time u7 = c_time c := (core_all h7.1).2.1
      rw [List.append_assoc] at h7
      refine h7.putE hi i1 i2 i3 i4 i5 i6 i7 (fun j hj => ⟨by rw [hr7] at hj; rw [i9, va_up_ne _ _ hj], by rw [i8]⟩) ?_
      rw [hr7, i9, va_up_self, i8, hE7, hQ7, q4, ht7]
      exact ⟨rfl, q5, q6⟩
  · unfold chgE chgF chgL chgR at hP
    rw [if_pos h1, if_pos h1, if_pos h1, if_pos h1, if_pos hl, if_pos hl, if_pos hl, List.append_nil, List.append_nil] at hP
    exact hP u' hu
  · unfold chgE chgF chgL chgR at hP
    rw [if_pos h1, if_pos h1, if_pos h1, if_pos h1, if_neg hl, if_neg hl, if_neg hl, List.append_nil, set_same hi] at hP
    exact hP u' hu
theorem vX_sendToStranger {cap : Nat} {u : XS} {c : Co} {tape : Nat → Int32} {n : Nat} {l : List En} {fs : List Fr} {ls : List Int32} {o : Nat → Int64} {a d : Int32} {Post : Int32 → XS → Prop} (h : RX cap u c tape n l fs ls o) (hcap : 1 ≤ cap) (hf : findA a l = none) (hb : fs.length + 10 < 2 ^ 30) (hbl : ls.length + 10 < 2 ^ 30) (hP : ∀ u' : XS, RX cap u' c tape n (sndS cap c l fs ls a d).2.1 (sndS cap c l fs ls a d).2.2.1 (sndS cap c l fs ls a d).2.2.2 o → Post (sndS cap c l fs ls a d).1 u') : wp_X7_sendToStranger cap a d u Post := by
  unfold sndS at hP
  rw [hf] at hP
  have key : ∀ (u2 : XS) (l1 : List En), RX cap u2 c tape n l1 fs ls o → l1.length < cap → roomL cap l = some l1 → wp_X0_add cap a (0 : Int64) (1 : Int32) (X_time u2) u2 (fun r4 u5 => wp_X7_request cap (281474976710655 : Int64) (X_own u5) a u5 (fun u7 => r4 < cap ∧ (wp_X7_putInLine cap r4 d u7 (fun r9 u10 => Post r9 u10)))) := by
    intro u2 l1 h2 hl1 hr
    rw [hr] at hP
    rw [(core_all h2.1).2.1]
    refine vX_add h2 hl1 (fun u5 h5 => ?_)
    rw [(core_all h5.1).2.2.2.1]
    refine vX_request h5 (by omega) (fun u7 h7 hx7 => ?_)
    obtain ⟨y1, y2, y3, y4⟩ := g_xE hx7
    have hg : (l1 ++ [(a, (1 : Int32), (0 : Int64), c_time c, c_time c, ([] : List Int32))])[l1.length]? = some (a, 1, 0, c_time c, c_time c, []) := by
      rw [List.getElem?_append_right (Nat.le_refl _), Nat.sub_self]
      rfl
    rw [← y2]
    refine ⟨(h7.2.2.1.at hg).2.2.1, vX_putInLine h7 hg (by omega) (fun u' hl hu => ?_) (fun u' hl hu => absurd (show (0 : Nat) < 4 by omega) hl)⟩
    rw [set_end rfl] at hu
    exact hP u' hu
  unfold wp_X7_sendToStranger
  refine vX_makeRoom h (fun hlt => ?_) (fun i u' hle hri hu' => ?_) (fun hle hri => ?_)
  · exact ⟨fun _ => key u l h hlt (by unfold roomL; rw [if_pos hlt]), fun z => absurd z (by decide)⟩
  · refine ⟨fun _ => key u' _ hu' ?_ (by unfold roomL; rw [if_neg (by omega), hri]; rfl), fun z => absurd z (by decide)⟩
    obtain ⟨e9, hie9, -⟩ := roomI_spec hri
    have hil := (List.getElem?_eq_some_iff.mp hie9).1
    have hcp := h.2.2.1.2.1
    rw [List.length_eraseIdx]
    simp only [hil, if_true]
    omega
  · refine ⟨fun z => absurd rfl z, fun _ => vX_lose h (by omega) (fun u' hu' _ => ?_)⟩
    have hr : roomL cap l = none := by unfold roomL; rw [if_neg (by omega), hri]; rfl
    rw [hr] at hP
    exact hP u' hu'
abbrev sndBad (c : Co) (a : Int32) : Prop := a = 0 ∨ a = -1 ∨ a = c_own c
theorem vX_send {cap : Nat} {u : XS} {c : Co} {tape : Nat → Int32} {n : Nat} {l : List En} {fs : List Fr} {ls : List Int32} {o : Nat → Int64} {a d : Int32} {Post : Int32 → XS → Prop} {PX : String → XS → Prop} (h : RX cap u c tape n l fs ls o) (hcap : 1 ≤ cap) (hb : fs.length + 10 < 2 ^ 30) (hbl : ls.length + 10 < 2 ^ 30) (h1 : sndBad c a → PX "java/lang/IllegalArgumentException" u) (h2 : ¬ sndBad c a → ¬ (2 : Int32) ≤ c_ph c → PX "java/lang/IllegalStateException" u) (hP : ¬ sndBad c a → (2 : Int32) ≤ c_ph c → ∀ u' : XS, RX cap u' c tape n (sndS cap c l fs ls a d).2.1 (sndS cap c l fs ls a d).2.2.1 (sndS cap c l fs ls a d).2.2.2 o → Post (sndS cap c l fs ls a d).1 u') : wp_X7_send cap a d u Post PX := by
  obtain ⟨g1, g2, g3, g4, g5, g6, g7, g8⟩ := core_all h.1
  unfold wp_X7_send
  rw [g3, g4]
  refine ⟨fun q => h1 (Or.inl q), fun q1 => ⟨fun q => h1 (Or.inr (Or.inl q)), fun q2 => ⟨fun q3 => ⟨fun q4 => ?_, fun q4 => h2 (fun z => ?_) q4⟩, fun q => h1 (Or.inr (Or.inr q))⟩⟩⟩
  · have hnb : ¬ sndBad c a := fun z => z.elim q1 (fun z => z.elim q2 q3)
    have hP := hP hnb q4
    refine vX_indexOf h.2.2.1 (fun i e hf hi ha => ?_) (fun hf => ?_)
    · have hil := (List.getElem?_eq_some_iff.mp hi).1
      have h32 := h.2.2.1.2.2.1
      have hcp := h.2.2.1.2.1
      have hlg : (l.eraseIdx i).length = l.length - 1 := by rw [List.length_eraseIdx]; simp [hil]
      refine br_t (nI_pos' (by omega)) ?_
      rw [g2]
      refine vX_use h hi (fun u9 h9 => ?_)
      have hg := last_get (e' := n_use e (c_time c)) hi
      refine ⟨(h9.2.2.1.at hg).2.2.1, vX_sendTo h9 hg hb hbl (fun u' hu => ?_)⟩
      rw [set_end hlg.symm] at hu
      unfold sndS at hP
      rw [hf] at hP
      simp only [hi] at hP
      have e1 : chgE c (n_use e (c_time c)) d = n_use (chgE c e d) (c_time c) := by
        unfold chgE
        by_cases k1 : n_kd e = 1
        · rw [if_pos k1, if_pos (show n_kd (n_use e (c_time c)) = 1 from k1)]
          by_cases k2 : (n_wt e).length < 4
          · rw [if_pos k2, if_pos (show (n_wt (n_use e (c_time c))).length < 4 from k2)]; rfl
          · rw [if_neg k2, if_neg (show ¬ (n_wt (n_use e (c_time c))).length < 4 from k2)]
        · rw [if_neg k1, if_neg (show ¬ n_kd (n_use e (c_time c)) = 1 from k1)]
          by_cases k2 : n_kd e = 3
          · rw [if_pos k2, if_pos (show n_kd (n_use e (c_time c)) = 3 from k2)]; rfl
          · rw [if_neg k2, if_neg (show ¬ n_kd (n_use e (c_time c)) = 3 from k2)]
      rw [e1] at hu
      exact hP u' hu
    · exact br_f (by decide) (vX_sendToStranger h hcap hf hb hbl hP)
  · rcases z with z | z | z
    · exact q1 z
    · exact q2 z
    · exact q3 z
/-! the clock -/
def c_phs (c : Co) (p : Int32) : Co := (c_here c, c_time c, p, c_own c, c_cl c, c_df c, c_re c, c_ag c)
def c_tim (c : Co) (t : Int32) : Co := (c_here c, t, c_ph c, c_own c, c_cl c, c_df c, c_re c, c_ag c)
abbrev isPrb (c : Co) : Prop := c_ph c = 1 ∧ (c_time c - c_cl c = 2 ∨ c_time c - c_cl c = 4)
abbrev isAn1 (c : Co) : Prop := c_ph c = 1 ∧ c_time c - c_cl c = 6
abbrev isAn2 (c : Co) : Prop := c_ph c = 2 ∧ c_time c - c_cl c = 8
def owC (c : Co) : Co := if isPrb c then c else if isAn1 c then c_phs c 2 else if isAn2 c then c_phs c 3 else c
def owF (c : Co) : List Fr := if isPrb c then [fReq c cALL 0 (c_own c)] else if isAn1 c then [fReq c cALL (c_own c) (c_own c)] else if isAn2 c then [fReq c cALL (c_own c) (c_own c)] else []
theorem RX.keepE {cap : Nat} {u u' : XS} {c c' : Co} {tape : Nat → Int32} {n : Nat} {l : List En} {fs : List Fr} {ls : List Int32} {o : Nat → Int64} (h : RX cap u c tape n l fs ls o) (hc : core u' = c') (k2 : xT u' = xT u) (k3 : xF u' = xF u) (k4 : xL u' = xL u) (k5 : xE u' = xE u) (k6 : xO u' = xO u) : RX cap u' c' tape n l fs ls o :=
  ⟨hc, h.2.1.keep k2, h.2.2.1.keep k5, h.2.2.2.1.keep k3, h.2.2.2.2.1.keep k4, (g_xO k6).trans h.2.2.2.2.2⟩
theorem vX_phase {cap : Nat} {u u' : XS} {c : Co} {tape : Nat → Int32} {n : Nat} {l : List En} {fs : List Fr} {ls : List Int32} {o : Nat → Int64} {p : Int32} (h : RX cap u c tape n l fs ls o) (h5 : u' = Xs_phase u p) : RX cap u' (c_phs c p) tape n l fs ls o := by
  obtain ⟨a1, a2, a3, a4, a5, a6, a7, a8, a9, a10, a11, a12, a13⟩ := sX_phase h5
  obtain ⟨g1, g2, g3, g4, g5, g6, g7, g8⟩ := core_all h.1
  refine h.keepE ?_ a1 a2 a3 a4 a5
  unfold core c_phs
  rw [a6, a7, a8, a9, a10, a11, a12, a13, g1, g2, g4, g5, g6, g7, g8]
theorem vX_time {cap : Nat} {u u' : XS} {c : Co} {tape : Nat → Int32} {n : Nat} {l : List En} {fs : List Fr} {ls : List Int32} {o : Nat → Int64} {p : Int32} (h : RX cap u c tape n l fs ls o) (h5 : u' = Xs_time u p) : RX cap u' (c_tim c p) tape n l fs ls o := by
  obtain ⟨a1, a2, a3, a4, a5, a6, a7, a8, a9, a10, a11, a12, a13⟩ := sX_time h5
  obtain ⟨g1, g2, g3, g4, g5, g6, g7, g8⟩ := core_all h.1
  refine h.keepE ?_ a1 a2 a3 a4 a5
  unfold core c_tim
  rw [a6, a7, a8, a9, a10, a11, a12, a13, g1, g3, g4, g5, g6, g7, g8]
theorem vX_tickOwn {cap : Nat} {u : XS} {c : Co} {tape : Nat → Int32} {n : Nat} {l : List En} {fs : List Fr} {ls : List Int32} {o : Nat → Int64} {Post : XS → Prop} (h : RX cap u c tape n l fs ls o) (hb : fs.length + 10 < 2 ^ 30) (hP : ∀ u' : XS, RX cap u' (owC c) tape n l (fs ++ owF c) ls o → Post u') : wp_X7_tickOwn cap u Post := by
  obtain ⟨g1, g2, g3, g4, g5, g6, g7, g8⟩ := core_all h.1
  have prb : isPrb c → wp_X7_probe cap u Post := by
    intro q
    unfold owC owF at hP
    rw [if_pos q, if_pos q] at hP
    exact vX_probe h (by omega) hP
  unfold owC owF at hP
  have j61 : ¬ isPrb c → ¬ isAn1 c → jn_X7_tickOwn_61 cap Post (c_time c - c_cl c) u := by
    intro k1 k2
    rw [if_neg k1, if_neg k1, if_neg k2, if_neg k2] at hP
    unfold jn_X7_tickOwn_61
    rw [g3]
    refine ⟨fun q => hP u ?_, fun q1 => ⟨fun q => hP u ?_, fun q2 => vX_announce h (by omega) (fun u4 h4 u5 h5 => hP u5 ?_)⟩⟩
    · rw [if_neg (fun z => q z.1), if_neg (fun z => q z.1), List.append_nil]; exact h
    · rw [if_neg (fun z => q z.2), if_neg (fun z => q z.2), List.append_nil]; exact h
    · rw [if_pos ⟨q1, q2⟩, if_pos ⟨q1, q2⟩]; exact vX_phase h4 h5
  have j35 : ¬ isPrb c → jn_X7_tickOwn_35 cap Post (c_time c - c_cl c) u := by
    intro k1
    unfold jn_X7_tickOwn_35
    rw [g3]
    refine ⟨fun q => j61 k1 (fun z => q z.1), fun q1 => ⟨fun q => j61 k1 (fun z => q z.2), fun q2 => vX_announce h (by omega) (fun u4 h4 u5 h5 => hP u5 ?_)⟩⟩
    rw [if_neg k1, if_neg k1, if_pos ⟨q1, q2⟩, if_pos ⟨q1, q2⟩]
    exact vX_phase h4 h5
  unfold wp_X7_tickOwn
  rw [g2, g3, g5]
  exact ⟨fun q => j35 (fun z => q z.1), fun q1 => ⟨fun q => prb ⟨q1, Or.inl q⟩, fun q2 => ⟨fun q => j35 (fun z => z.2.elim q2 q), fun q => prb ⟨q1, Or.inr q⟩⟩⟩⟩
abbrev ovr (c : Co) (e : En) : Prop := (n_kd e = 1 ∧ ¬ c_time c - n_si e < 6) ∨ (n_kd e = 3 ∧ ¬ c_time c - n_us e < c_ag c) ∨ (n_kd e = 4 ∧ ¬ c_time c - n_si e < 3)
def tF (c : Co) (e : En) : List Fr := if n_kd e = 1 ∧ (c_time c - n_si e = 2 ∨ c_time c - n_si e = 4) then [fReq c cALL (c_own c) (n_ad e)] else if n_kd e = 4 then [fReq c (n_hw e) (c_own c) (n_ad e)] else []
def tE (c : Co) (e : En) : En := if n_kd e = 2 ∧ ¬ c_time c - n_si e < c_re c then n_beco e 3 (c_time c) else e
def tkL (c : Co) : List En → List En
  | [] => []
  | e :: r => if ovr c e then tkL c r else tE c e :: tkL c r
def tkF (c : Co) : List En → List Fr
  | [] => []
  | e :: r => (if ovr c e then [] else tF c e) ++ tkF c r
def tkS (c : Co) : List En → List Int32
  | [] => []
  | e :: r => (if ovr c e then n_wt e else []) ++ tkS c r
theorem vX_isOver {cap : Nat} {u : XS} {c : Co} {tape : Nat → Int32} {n : Nat} {l : List En} {fs : List Fr} {ls : List Int32} {o : Nat → Int64} {i : Nat} {e : En} {Post : Int32 → XS → Prop} (h : RX cap u c tape n l fs ls o) (hi : l[i]? = some e) (h1 : ovr c e → Post (1 : Int32) u) (h0 : ¬ ovr c e → Post (0 : Int32) u) : wp_X7_isOver cap (X_row u i) u Post := by
  obtain ⟨q1, q2, q3, ⟨q4, q5, q6⟩⟩ := h.2.2.1.at hi
  obtain ⟨g1, g2, g3, g4, g5, g6, g7, g8⟩ := core_all h.1
  have hk : e_kind (X_E u (X_row u i)) = n_kd e := by rw [q4]; rfl
  have hs : e_since (X_E u (X_row u i)) = n_si e := by rw [q4]; rfl
  have hu : e_used (X_E u (X_row u i)) = n_us e := by rw [q4]; rfl
  unfold wp_X7_isOver
  rw [hk, hs, hu, g2, g8]
  refine ⟨q3, fun k => ⟨fun q => h0 ?_, fun q => h1 (Or.inl ⟨k, q⟩)⟩, fun k => h0 ?_, fun k => ⟨fun q => h0 ?_, fun q => h1 (Or.inr (Or.inl ⟨k, q⟩))⟩, fun k => ⟨fun q => h0 ?_, fun q => h1 (Or.inr (Or.inr ⟨k, q⟩))⟩, fun k => h0 ?_⟩
  · rintro (z | z | z)
    · exact z.2 q
    · exact absurd (k.symm.trans z.1) (by decide)
    · exact absurd (k.symm.trans z.1) (by decide)
  · rintro (z | z | z) <;> exact absurd (k.symm.trans z.1) (by decide)
  · rintro (z | z | z)
    · exact absurd (k.symm.trans z.1) (by decide)
    · exact z.2 q
    · exact absurd (k.symm.trans z.1) (by decide)
  · rintro (z | z | z)
    · exact absurd (k.symm.trans z.1) (by decide)
    · exact absurd (k.symm.trans z.1) (by decide)
    · exact z.2 q
  · rintro (z | z | z)
    · exact k.1 z.1
    · exact k.2.2.1 z.1
    · exact k.2.2.2 z.1
theorem vX_tickEntry {cap : Nat} {u : XS} {c : Co} {tape : Nat → Int32} {n : Nat} {l : List En} {fs : List Fr} {ls : List Int32} {o : Nat → Int64} {i : Nat} {e : En} {Post : XS → Prop} (h : RX cap u c tape n l fs ls o) (hi : l[i]? = some e) (hb : fs.length + 10 < 2 ^ 30) (hP : ∀ u' : XS, RX cap u' c tape n (l.set i (tE c e)) (fs ++ tF c e) ls o → Post u') : wp_X7_tickEntry cap (X_row u i) u Post := by
  obtain ⟨q1, q2, q3, ⟨q4, q5, q6⟩⟩ := h.2.2.1.at hi
  obtain ⟨g1, g2, g3, g4, g5, g6, g7, g8⟩ := core_all h.1
  have hk : e_kind (X_E u (X_row u i)) = n_kd e := by rw [q4]; rfl
  have hs : e_since (X_E u (X_row u i)) = n_si e := by rw [q4]; rfl
  have hw : e_number (X_E u (X_row u i)) = n_hw e := by rw [q4]; rfl
  have ha : e_address (X_E u (X_row u i)) = n_ad e := by rw [q4]; rfl
  unfold tE tF at hP
  have j46 : ¬ (n_kd e = 1 ∧ (c_time c - n_si e = 2 ∨ c_time c - n_si e = 4)) → jn_X7_tickEntry_46 cap Post (X_row u i) (c_time c - n_si e) u := by
    intro k1
    rw [if_neg k1] at hP
    unfold jn_X7_tickEntry_46
    rw [hk, hw, ha, g7, g2, g4]
    refine ⟨q3, fun k4 => ?_, fun k4 => ?_⟩
    · rw [if_neg k4, List.append_nil] at hP
      refine ⟨fun k2 => hP u ?_, fun k2 => ⟨fun q => hP u ?_, fun q => vX_become q3 (fun u' i1 i2 i3 i4 i5 i6 i7 i8 i9 => hP u' ?_)⟩⟩
      · rw [if_neg (fun z => k2 z.1), set_same hi]; exact h
      · rw [if_neg (fun z => z.2 q), set_same hi]; exact h
      · rw [if_pos ⟨k2, q⟩]
        refine h.putE hi i1 i2 i3 i4 i5 i6 i7 (fun j hj => ⟨by rw [i9, va_up_ne _ _ hj], by rw [i8]⟩) ?_
        rw [i9, va_up_self, i8, q4]
        exact ⟨rfl, q5, q6⟩
    · rw [if_neg (fun z => absurd (k4.symm.trans z.1) (by decide)), if_pos k4, set_same hi] at hP
      exact vX_request h (by omega) (fun u8 h8 _ => hP u8 h8)
  have req : (n_kd e = 1 ∧ (c_time c - n_si e = 2 ∨ c_time c - n_si e = 4)) → wp_X7_request cap (281474976710655 : Int64) (c_own c) (n_ad e) u Post := by
    intro k
    rw [if_pos k, if_neg (fun z => absurd (k.1.symm.trans z.1) (by decide)), set_same hi] at hP
    exact vX_request h (by omega) (fun u8 h8 _ => hP u8 h8)
  unfold wp_X7_tickEntry
  rw [hk, hs, ha, g2, g4]
  exact ⟨q3, fun k => j46 (fun z => k z.1), fun k => ⟨fun q => req ⟨k, Or.inl q⟩, fun q2 => ⟨fun q => j46 (fun z => z.2.elim q2 q), fun q => req ⟨k, Or.inr q⟩⟩⟩⟩
theorem set_mid {α : Type} (P : List α) (e e' : α) (r : List α) : (P ++ e :: r).set P.length e' = P ++ e' :: r := by
  rw [List.set_append_right _ _ (Nat.le_refl _), Nat.sub_self]
  rfl
theorem get_mid {α : Type} (P : List α) (e : α) (r : List α) : (P ++ e :: r)[P.length]? = some e := by
  rw [List.getElem?_append_right (Nat.le_refl _), Nat.sub_self]
  rfl
theorem era_mid {α : Type} (P : List α) (e : α) (r : List α) : (P ++ e :: r).eraseIdx P.length = P ++ r := by
  rw [List.eraseIdx_append_of_length_le (Nat.le_refl _), Nat.sub_self]
  rfl
theorem tF_le (c : Co) (e : En) : (tF c e).length ≤ 1 := by
  unfold tF
  split
  · exact Nat.le_refl _
  · split
    · exact Nat.le_refl _
    · exact Nat.zero_le _
theorem vX_tickEntries {cap : Nat} {u : XS} {c : Co} {tape : Nat → Int32} {n : Nat} {l : List En} {fs : List Fr} {ls : List Int32} {o : Nat → Int64} {Post : XS → Prop} (h : RX cap u c tape n l fs ls o) (hb : fs.length + 100 < 2 ^ 30) (hbl : ls.length + 200 < 2 ^ 30) (hP : ∀ u' : XS, RX cap u' c tape n (tkL c l) (fs ++ tkF c l) (ls ++ tkS c l) o → Post u') : wp_X7_tickEntries cap u Post := by
  have key : ∀ (r P : List En) (fs1 : List Fr) (ls1 : List Int32) (u1 : XS), RX cap u1 c tape n (P ++ r) fs1 ls1 o → fs1.length + r.length + 10 < 2 ^ 30 → ls1.length + 4 * r.length + 10 < 2 ^ 30 → (∀ u' : XS, RX cap u' c tape n (P ++ tkL c r) (fs1 ++ tkF c r) (ls1 ++ tkS c r) o → Post u') → lp_X7_tickEntries_10 cap Post (r.length + 1) (nI P.length) (nI r.length) u1 := by
    intro r
    induction r with
    | nil =>
      intro P fs1 ls1 u1 h1 _ _ hQ
      show lb_X7_tickEntries_10 cap Post _ (nI P.length) (nI 0) u1
      unfold lb_X7_tickEntries_10
      simp only [tkL, tkF, tkS, List.append_nil] at hQ
      rw [List.append_nil] at h1
      exact br_t (by decide) (hQ u1 h1)
    | cons e r ih =>
      intro P fs1 ls1 u1 h1 hb1 hb2 hQ
      have h32 := h1.2.2.1.2.2.1
      have hcp := h1.2.2.1.2.1
      rw [List.length_append, List.length_cons] at hcp
      rw [List.length_cons] at hb1 hb2
      have hg := get_mid P e r
      obtain ⟨q1, q2, q3, ⟨q4, q5, q6⟩⟩ := h1.2.2.1.at hg
      have hcl : (nI P.length).toNatClampNeg = P.length := nI_clamp (by omega)
      have hm1 : nI (e :: r).length + (-1) = nI r.length := by rw [zn_m1, List.length_cons]; exact zn_sub1 (a := r.length + 1) (by omega)
      have hp1 : nI P.length + 1 = nI (P ++ [tE c e]).length := by rw [List.length_append, List.length_singleton]; exact nI_1 _
      show lb_X7_tickEntries_10 cap Post (lp_X7_tickEntries_10 cap Post (r.length + 1)) (nI P.length) (nI (e :: r).length) u1
      unfold lb_X7_tickEntries_10
      rw [hcl, hm1]
      refine br_f (nI_nle (n := (e :: r).length) (by rw [List.length_cons]; omega) (by rw [List.length_cons]; omega)) ⟨vp_in_nI (by omega) (by omega), q3, vX_isOver h1 hg (fun ho => ?_) (fun ho => ?_)⟩
      · refine ⟨fun z => absurd z (by decide), fun _ => vX_loseWaiting h1 hg (by omega) (fun u10 h10 _ => vX_remove h10 (by rw [List.length_set]; exact q1) (fun u12 h12 => ih P fs1 (ls1 ++ n_wt e) u12 ?_ (by omega) (by rw [List.length_append]; omega) (fun u' hu' => hQ u' ?_)))⟩
        · rw [set_mid, era_mid] at h12
          exact h12
        · simp only [tkL, tkF, tkS, if_pos ho, List.nil_append]
          rw [List.append_assoc] at hu'
          exact hu'
      · refine ⟨fun _ => vX_tickEntry h1 hg (by omega) (fun u8 h8 => ?_), fun z => absurd rfl z⟩
        rw [hp1]
        have := tF_le c e
        refine ih (P ++ [tE c e]) (fs1 ++ tF c e) ls1 u8 ?_ (by rw [List.length_append]; omega) (by omega) (fun u' hu' => hQ u' ?_)
        · rw [set_mid] at h8
          rw [List.append_assoc]
          exact h8
        · simp only [tkL, tkF, tkS, if_neg ho, List.nil_append]
          rw [List.append_assoc, List.append_assoc] at hu'
          exact hu'
  have h32 := h.2.2.1.2.2.1
  have hcp := h.2.2.1.2.1
  unfold wp_X7_tickEntries
  rw [h.2.2.1.1]
  exact ⟨l.length + 1, key l [] fs ls u h (by omega) (by omega) hP⟩
def stC (c : Co) : Co := owC (c_tim c (c_time c + 1))
def stG (g : G4) : G4 := (stC g.1, tkL (stC g.1) g.2.1, (g.2.2.1 ++ owF (c_tim g.1 (c_time g.1 + 1))) ++ tkF (stC g.1) g.2.1, g.2.2.2 ++ tkS (stC g.1) g.2.1)
def stN : Nat → G4 → G4
  | 0, g => g
  | k + 1, g => stN k (stG g)
theorem owF_le (c : Co) : (owF c).length ≤ 1 := by
  unfold owF
  split
  · exact Nat.le_refl _
  · split
    · exact Nat.le_refl _
    · split
      · exact Nat.le_refl _
      · exact Nat.zero_le _
theorem tkF_le (c : Co) : ∀ l : List En, (tkF c l).length ≤ l.length
  | [] => Nat.le_refl _
  | e :: r => by
    have h1 := tkF_le c r
    have h2 := tF_le c e
    rw [tkF, List.length_append, List.length_cons]
    split
    · rw [List.length_nil]; omega
    · omega
theorem tkS_le (c : Co) : ∀ l : List En, (∀ e, e ∈ l → (n_wt e).length ≤ 4) → (tkS c l).length ≤ 4 * l.length
  | [], _ => Nat.le_refl _
  | e :: r, h => by
    have h1 := tkS_le c r (fun x hx => h x (List.mem_cons_of_mem _ hx))
    have h2 := h e List.mem_cons_self
    rw [tkS, List.length_append, List.length_cons]
    split
    · omega
    · rw [List.length_nil]; omega
theorem RX.small {cap : Nat} {u : XS} {c : Co} {tape : Nat → Int32} {n : Nat} {l : List En} {fs : List Fr} {ls : List Int32} {o : Nat → Int64} (h : RX cap u c tape n l fs ls o) : l.length ≤ 32 ∧ ∀ e, e ∈ l → (n_wt e).length ≤ 4 := by
  have h32 := h.2.2.1.2.2.1
  have hcp := h.2.2.1.2.1
  refine ⟨by omega, fun e he => ?_⟩
  obtain ⟨i, hi⟩ := List.mem_iff_getElem?.mp he
  exact (h.2.2.1.at hi).2.2.2.2.1
theorem vX_tickLoop {cap : Nat} {tape : Nat → Int32} {n : Nat} {o : Nat → Int64} {N : Nat} {Post : Int32 → XS → Prop} {PX : String → XS → Prop} (hN : N ≤ 40) : ∀ (f k : Nat) (u : XS) (g : G4), k + f = N → RX cap u g.1 tape n g.2.1 g.2.2.1 g.2.2.2 o → g.2.2.1.length + 100 * f + 200 < 2 ^ 30 → g.2.2.2.length + 200 * f + 300 < 2 ^ 30 → (∀ u' : XS, RX cap u' (stN f g).1 tape n (stN f g).2.1 (stN f g).2.2.1 (stN f g).2.2.2 o → Post (c_time (stN f g).1) u') → lp_X7_tick_20 cap Post PX (f + 1) (nI N) (nI k) u := by
  intro f
  induction f with
  | zero =>
    intro k u g hk h _ _ hP
    show lb_X7_tick_20 cap Post PX _ (nI N) (nI k) u
    unfold lb_X7_tick_20
    rw [(core_all h.1).2.1]
    exact br_t (nI_le (by omega) (by omega)) (hP u h)
  | succ f ih =>
    intro k u g hk h hb hbl hP
    show lb_X7_tick_20 cap Post PX (lp_X7_tick_20 cap Post PX (f + 1)) (nI N) (nI k) u
    unfold lb_X7_tick_20
    obtain ⟨s1, s2⟩ := h.small
    rw [(core_all h.1).2.1]
    refine br_f (fun z => absurd ((nI_leI (by omega) (by omega)).mp z) (by omega)) (fun u2 h2 => vX_tickOwn (vX_time h h2) (by omega) (fun u5 h5 => ?_))
    have w1 := owF_le (c_tim g.1 (c_time g.1 + 1))
    refine vX_tickEntries h5 (by rw [List.length_append]; omega) (by omega) (fun u7 h7 => ?_)
    have w2 := tkF_le (stC g.1) g.2.1
    have w3 := tkS_le (stC g.1) g.2.1 s2
    rw [nI_1]
    refine ih (k + 1) u7 (stG g) (by omega) h7 ?_ ?_ hP
    · show ((g.2.2.1 ++ owF (c_tim g.1 (c_time g.1 + 1))) ++ tkF (stC g.1) g.2.1).length + 100 * f + 200 < 2 ^ 30
      rw [List.length_append, List.length_append]
      omega
    · show (g.2.2.2 ++ tkS (stC g.1) g.2.1).length + 200 * f + 300 < 2 ^ 30
      rw [List.length_append]
      omega
theorem vX_tick {cap : Nat} {u : XS} {c : Co} {tape : Nat → Int32} {n : Nat} {l : List En} {fs : List Fr} {ls : List Int32} {o : Nat → Int64} {a : Int32} {Post : Int32 → XS → Prop} {PX : String → XS → Prop} (h : RX cap u c tape n l fs ls o) (hb : fs.length + 5000 < 2 ^ 30) (hbl : ls.length + 9000 < 2 ^ 30) (h1 : (a < 0 ∨ ¬ a ≤ 40) → PX "java/lang/IllegalArgumentException" u) (hP : ∀ N : Nat, N ≤ 40 → a = nI N → ∀ u' : XS, RX cap u' (stN N (c, l, fs, ls)).1 tape n (stN N (c, l, fs, ls)).2.1 (stN N (c, l, fs, ls)).2.2.1 (stN N (c, l, fs, ls)).2.2.2 o → Post (c_time (stN N (c, l, fs, ls)).1) u') : wp_X7_tick cap a u Post PX := by
  unfold wp_X7_tick
  refine ⟨fun q => h1 (Or.inl q), fun q1 => ⟨fun q2 => ?_, fun q => h1 (Or.inr q)⟩⟩
  have z0 : (0 : Int32).toInt = 0 := rfl
  have z40 : (40 : Int32).toInt = 40 := rfl
  have k1 : ¬ a.toInt < 0 := fun z => q1 (zi_lt.mpr (by rw [z0]; exact z))
  have k2 : a.toInt ≤ 40 := by have := zi_le.mp q2; rw [z40] at this; exact this
  have hN : a = nI a.toInt.toNat := by
    apply zi_eq.mpr
    rw [nI_toInt (by omega)]
    omega
  have := vX_tickLoop (cap := cap) (tape := tape) (n := n) (o := o) (N := a.toInt.toNat) (Post := Post) (PX := PX) (by omega) a.toInt.toNat 0 u (c, l, fs, ls) (by omega) h (by show fs.length + _ + _ < _; omega) (by show ls.length + _ + _ < _; omega) (hP _ (by omega) hN)
  rw [← hN] at this
  exact ⟨_, this⟩
