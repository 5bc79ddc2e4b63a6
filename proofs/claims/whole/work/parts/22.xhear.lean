/-! the class: a packet that is heard -/
abbrev G4 : Type := Co × List En × List Fr × List Int32
abbrev cHEAD : Int64 := 4429186564
def c_dfd (c : Co) : Co := (c_here c, c_time c, c_ph c, c_own c, c_cl c, c_time c, c_re c, c_ag c)
abbrev IsConf (c : Co) (op fr9 to9 : Int32) : Prop := ¬ c_ph c = 0 ∧ (fr9 = c_own c ∨ (c_ph c = 1 ∧ op = 1 ∧ fr9 = 0 ∧ to9 = c_own c))
abbrev IsBad (c : Co) (tape : Nat → Int32) (n : Nat) : Prop := ¬ n = 28 ∨ ¬ rdN tape 0 6 = cHEAD ∨ (¬ Int64.toInt32 (rdN tape 6 2) = 1 ∧ ¬ Int64.toInt32 (rdN tape 6 2) = 2) ∨ rdN tape 8 6 = c_here c ∨ rdN tape 8 6 = 0 ∨ rdN tape 8 6 = cALL
abbrev IsDef (c : Co) : Prop := ¬ c_ph c = 1 ∧ (c_df c = -1 ∨ ¬ (c_time c - c_df c < 10))
def confS (c : Co) (l : List En) (fs : List Fr) (ls : List Int32) : G4 := if IsDef c then (c_dfd c, l, fs ++ [fReq c cALL (c_own c) (c_own c)], ls) else (c_up c, [], fs, ls ++ l.flatMap n_wt)
def roomL (cap : Nat) (l : List En) : Option (List En) := if l.length < cap then some l else (roomI l).map (fun i => l.eraseIdx i)
def ownL (cap : Nat) (c : Co) (l : List En) (s : Int64) (fr9 : Int32) : List En := if ¬ fr9 = 0 ∧ findA fr9 l = none then (match roomL cap l with | some l1 => l1 ++ [(fr9, 2, s, c_time c, c_time c, [])] | none => l) else l
def ownF (c : Co) (fs : List Fr) (op : Int32) (s : Int64) (fr9 : Int32) : List Fr := if op = 1 then fs ++ [(s, .inr (pk 2 (c_here c) (c_own c) s fr9))] else fs
def lrnL (c : Co) (l : List En) (s : Int64) (fr9 : Int32) : List En := match findA fr9 l with | some i => (match l[i]? with | some e => l.set i (n_learn e s (c_time c)) | none => l) | none => l
def lrnF (l : List En) (fs : List Fr) (s : Int64) (fr9 : Int32) : List Fr := match findA fr9 l with | some i => (match l[i]? with | some e => fs ++ (n_wt e).map (fDat s) | none => fs) | none => fs
def takS (cap : Nat) (c : Co) (l : List En) (fs : List Fr) (ls : List Int32) (op : Int32) (s : Int64) (fr9 to9 : Int32) : Int32 × G4 :=
  if IsConf c op fr9 to9 then (2, confS c l fs ls)
  else if ¬ c_ph c < 2 ∧ to9 = c_own c then (0, (c, ownL cap c (lrnL c l s fr9) s fr9, ownF c (lrnF l fs s fr9) op s fr9, ls))
  else (0, (c, lrnL c l s fr9, lrnF l fs s fr9, ls))
def heaS (cap : Nat) (c : Co) (tape : Nat → Int32) (n : Nat) (l : List En) (fs : List Fr) (ls : List Int32) : Int32 × G4 :=
  if IsBad c tape n then (1, (c, l, fs, ls)) else takS cap c l fs ls (Int64.toInt32 (rdN tape 6 2)) (rdN tape 8 6) (Int64.toInt32 (rdN tape 14 4)) (Int64.toInt32 (rdN tape 24 4))
theorem vX_learn {cap : Nat} {u : XS} {c : Co} {tape : Nat → Int32} {n : Nat} {l : List En} {fs : List Fr} {ls : List Int32} {o : Nat → Int64} {i : Nat} {e : En} {s : Int64} {Post : XS → Prop} (h : RX cap u c tape n l fs ls o) (hi : l[i]? = some e) (hb : fs.length + 10 < 2 ^ 30) (hP : ∀ u' : XS, RX cap u' c tape n (l.set i (n_learn e s (c_time c))) (fs ++ (n_wt e).map (fDat s)) ls o → Post u') : wp_X7_learn cap (X_row u i) s u Post := by
  obtain ⟨q1, q2, q3, ⟨q4, q5, q6⟩⟩ := h.2.2.1.at hi
  unfold wp_X7_learn
  refine ⟨q3, fun u2 h2 => vX_become q3 (fun u' i1 i2 i3 i4 i5 i6 i7 i8 i9 => ?_)⟩
  obtain ⟨a1, a2, a3, a4, a5, a6, a7, a8, a9⟩ := sX_E h2
  have ht2 : X_time u2 = c_time c := (core_all (a1.trans h.1)).2.1
  have hl2 := (List.getElem?_eq_some_iff.mp hi).1
  have hE : X_E u' (X_row u i) = (nI (n_wt e).length, n_ad e, s, 2, c_time c, n_us e) := by
    rw [i9, va_up_self, a8, va_up_self, q4, ht2]
    rfl
  have hset : (l.set i (n_ad e, 2, s, c_time c, n_us e, n_wt e))[i]? = some (n_ad e, 2, s, c_time c, n_us e, n_wt e) := List.getElem?_set_self hl2
  have hrow : X_row u' = X_row u := i7.trans a7
  have hR : RX cap u' c tape n (l.set i (n_ad e, 2, s, c_time c, n_us e, n_wt e)) fs ls o := by
    refine h.putE hi (i1.trans a1) (i2.trans a2) (i3.trans a3) (i4.trans a4) (i5.trans a5) (i6.trans a6) hrow (fun j hj => ⟨by rw [i9, va_up_ne _ _ hj, a8, va_up_ne _ _ hj], by rw [i8, a9]⟩) ?_
    rw [hE, i8, a9]
    exact ⟨rfl, q5, q6⟩
  have key : ∀ (f k : Nat) (u1 : XS), k + f = (n_wt e).length → xE u1 = xE u' → RX cap u1 c tape n (l.set i (n_ad e, 2, s, c_time c, n_us e, n_wt e)) (fs ++ ((n_wt e).take k).map (fDat s)) ls o → lp_X7_learn_17 cap Post (f + 1) (X_row u i) s (nI k) u1 := by
    intro f
    induction f with
    | zero =>
      intro k u1 hk hx h1
      show lb_X7_learn_17 cap Post (lp_X7_learn_17 cap Post 0) (X_row u i) s (nI k) u1
      unfold lb_X7_learn_17
      obtain ⟨x1, x2, x3, x4⟩ := g_xE hx
      rw [x3, hE]
      refine ⟨q3, br_t (nI_le (by omega) (by omega)) (fun u3 h3 => ?_)⟩
      obtain ⟨b1, b2, b3, b4, b5, b6, b7, b8, b9⟩ := sX_E h3
      have hk2 : k = (n_wt e).length := by omega
      rw [hk2, List.take_length] at h1
      have hr1 : X_row u1 i = X_row u i := by rw [x2, hrow]
      have := h1.putE (e' := n_learn e s (c_time c)) hset b1 b2 b3 b4 b5 b6 b7 (fun j hj => ⟨by rw [hr1] at hj; rw [b8, va_up_ne _ _ hj, x3], by rw [b9]⟩) (by
        rw [hr1, b8, va_up_self]
        exact ⟨rfl, by simp [n_wt, n_learn], fun k x h => by simp [n_wt, n_learn] at h⟩)
      rw [List.set_set] at this
      exact hP u3 this
    | succ f ih =>
      intro k u1 hk hx h1
      show lb_X7_learn_17 cap Post (lp_X7_learn_17 cap Post (f + 1)) (X_row u i) s (nI k) u1
      unfold lb_X7_learn_17
      obtain ⟨x1, x2, x3, x4⟩ := g_xE hx
      obtain ⟨d, hd⟩ := get_lt (l := n_wt e) (i := k) (by omega)
      have hcl : (nI k).toNatClampNeg = k := nI_clamp (by omega)
      rw [x3, hE, hcl, x4, i8, a9, q6 k d hd]
      refine ⟨q3, br_f (nI_ge (by omega) (by omega)) ⟨vp_in_nI (by omega) (by omega), ?_⟩⟩
      refine vX_addData h1 (by rw [List.length_append, List.length_map, List.length_take]; omega) (fun u7 h7 hx7 => ?_)
      rw [nI_1]
      refine ih (k + 1) u7 (by omega) (hx7.trans hx) ?_
      rw [List.take_succ, hd, Option.toList_some, List.map_append, ← List.append_assoc]
      exact h7
  exact ⟨(n_wt e).length + 1, key (n_wt e).length 0 u' (by omega) rfl (by rw [List.take_zero, List.map_nil, List.append_nil]; exact hR)⟩
theorem vX_isBad {cap : Nat} {u : XS} {c : Co} {tape : Nat → Int32} {n : Nat} {l : List En} {fs : List Fr} {ls : List Int32} {o : Nat → Int64} {Post : Int32 → XS → Prop} (h : RX cap u c tape n l fs ls o) (h1 : IsBad c tape n → Post (1 : Int32) u) (h0 : ¬ IsBad c tape n → Post (0 : Int32) u) : wp_X7_isBad cap u Post := by
  have hn : n ≤ 40 := h.2.1.2.1
  have e28 : (28 : Int32) = nI 28 := rfl
  unfold wp_X7_isBad
  rw [h.2.1.1, e28]
  by_cases hn28 : n = 28
  · subst hn28
    refine br_nf rfl (vX_head h ⟨fun hh => vX_operation h ?_, fun hh => h1 (Or.inr (Or.inl hh))⟩)
    have fin : (Int64.toInt32 (rdN tape 6 2) = 1 ∨ Int64.toInt32 (rdN tape 6 2) = 2) → jn_X7_isBad_48 cap Post u := by
      intro hop
      unfold jn_X7_isBad_48
      refine vX_sender h ?_
      rw [(core_all h.1).1]
      refine ⟨fun q => h1 (Or.inr (Or.inr (Or.inr (Or.inl q)))), fun q1 => ⟨fun q => h1 (Or.inr (Or.inr (Or.inr (Or.inr (Or.inl q))))), fun q2 => ⟨fun q3 => h0 ?_, fun q => h1 (Or.inr (Or.inr (Or.inr (Or.inr (Or.inr q)))))⟩⟩⟩
      rintro (g | g | g | g | g | g)
      · exact g rfl
      · exact g hh
      · rcases hop with z | z
        · exact g.1 z
        · exact g.2 z
      · exact q1 g
      · exact q2 g
      · exact q3 g
    exact ⟨fun q => fin (Or.inl q), fun q => ⟨fun q2 => fin (Or.inr q2), fun q2 => h1 (Or.inr (Or.inr (Or.inl ⟨q, q2⟩)))⟩⟩
  · exact br_nt (fun q => hn28 ((nI_eq (by omega) (by omega)).mp q)) (h1 (Or.inl hn28))
theorem vX_isConflict {cap : Nat} {u : XS} {c : Co} {tape : Nat → Int32} {n : Nat} {l : List En} {fs : List Fr} {ls : List Int32} {o : Nat → Int64} {Post : Int32 → XS → Prop} (h : RX cap u c tape n l fs ls o) (h1 : IsConf c (Int64.toInt32 (rdN tape 6 2)) (Int64.toInt32 (rdN tape 14 4)) (Int64.toInt32 (rdN tape 24 4)) → Post (1 : Int32) u) (h0 : ¬ IsConf c (Int64.toInt32 (rdN tape 6 2)) (Int64.toInt32 (rdN tape 14 4)) (Int64.toInt32 (rdN tape 24 4)) → Post (0 : Int32) u) : wp_X7_isConflict cap u Post := by
  obtain ⟨k1, k2, k3, k4, k5, k6, k7, k8⟩ := core_all h.1
  unfold wp_X7_isConflict
  rw [k3]
  by_cases hp : c_ph c = 0
  · exact br_nf hp (h0 (fun q => q.1 hp))
  refine br_nt hp (vX_senderAddress h ?_)
  have fin : (¬ (c_ph c = 1 ∧ Int64.toInt32 (rdN tape 6 2) = 1 ∧ Int64.toInt32 (rdN tape 14 4) = 0 ∧ Int64.toInt32 (rdN tape 24 4) = c_own c)) → jn_X7_isConflict_58 cap Post (Int64.toInt32 (rdN tape 14 4)) u := by
    intro hn
    unfold jn_X7_isConflict_58 jn_X7_isConflict_59
    rw [k4]
    exact ⟨fun q => h1 ⟨hp, Or.inl q⟩, fun q => br_t rfl (h0 (fun z => z.2.elim q hn))⟩
  rw [k3]
  refine ⟨fun q => fin (fun z => q z.1), fun q1 => vX_operation h ⟨fun q => fin (fun z => q z.2.1), fun q2 => ⟨fun q => fin (fun z => q z.2.2.1), fun q3 => vX_targetAddress h ?_⟩⟩⟩
  rw [k4]
  refine ⟨fun q => fin (fun z => q z.2.2.2), fun q4 => ?_⟩
  unfold jn_X7_isConflict_59
  rw [k4]
  exact ⟨fun q => h1 ⟨hp, Or.inl q⟩, fun q => br_f (by decide) (h1 ⟨hp, Or.inr ⟨q1, q2, q3, q4⟩⟩)⟩
theorem vX_meetConflict {cap : Nat} {u : XS} {c : Co} {tape : Nat → Int32} {n : Nat} {l : List En} {fs : List Fr} {ls : List Int32} {o : Nat → Int64} {Post : XS → Prop} (h : RX cap u c tape n l fs ls o) (hb : fs.length + 1 < 2 ^ 30) (hbl : ls.length + 200 < 2 ^ 30) (hP : ∀ u' : XS, RX cap u' (confS c l fs ls).1 tape n (confS c l fs ls).2.1 (confS c l fs ls).2.2.1 (confS c l fs ls).2.2.2 o → Post u') : wp_X7_meetConflict cap u Post := by
  obtain ⟨k1, k2, k3, k4, k5, k6, k7, k8⟩ := core_all h.1
  have giv : ¬ IsDef c → wp_X7_giveUp cap u Post := by
    intro hd
    refine vX_giveUp h hbl (fun u' hu => hP u' ?_)
    unfold confS
    rw [if_neg hd]
    exact hu
  have j27 : ∀ t0 : Int32, ((¬ t0 = 0) ↔ (c_df c = -1 ∨ ¬ (c_time c - c_df c < 10))) → jn_X7_meetConflict_27 cap Post t0 u := by
    intro t0 ht0
    unfold jn_X7_meetConflict_27
    rw [k3]
    refine ⟨fun q => giv (fun z => z.1 q), fun q => ⟨fun q2 => ?_, fun q2 => giv (fun z => (ht0.mpr z.2) q2)⟩⟩
    refine vX_announce h hb (fun u6 h6 u7 h7 => hP u7 ?_)
    obtain ⟨a1, a2, a3, a4, a5, a6, a7, a8, a9, a10, a11, a12, a13⟩ := sX_defended h7
    obtain ⟨g1, g2, g3, g4, g5, g6, g7, g8⟩ := core_all h6.1
    have hc : core u7 = c_dfd c := by
      unfold core c_dfd
      rw [a6, a7, a8, a9, a10, a11, a12, a13, g1, g2, g3, g4, g5, g7, g8]
    unfold confS
    rw [if_pos ⟨q, ht0.mp q2⟩]
    exact ⟨hc, h6.2.1.keep a1, h6.2.2.1.keep a4, h6.2.2.2.1.keep a2, h6.2.2.2.2.1.keep a3, (g_xO a5).trans h6.2.2.2.2.2⟩
  unfold wp_X7_meetConflict jn_X7_meetConflict_22
  rw [k6, k2]
  exact ⟨fun q => j27 1 ⟨fun _ => Or.inl q, fun _ => by decide⟩, fun q => ⟨fun q2 => j27 0 ⟨fun z => absurd rfl z, fun z => z.elim (fun z => absurd z q) (fun z => absurd q2 z)⟩, fun q2 => j27 1 ⟨fun _ => Or.inr q2, fun _ => by decide⟩⟩⟩
theorem vX_takeInForOwn {cap : Nat} {u : XS} {c : Co} {tape : Nat → Int32} {n : Nat} {l : List En} {fs : List Fr} {ls : List Int32} {o : Nat → Int64} {Post : XS → Prop} (h : RX cap u c tape n l fs ls o) (hb : fs.length + 1 < 2 ^ 30) (hP : ∀ u' : XS, RX cap u' c tape n (ownL cap c l (rdN tape 8 6) (Int64.toInt32 (rdN tape 14 4))) (ownF c fs (Int64.toInt32 (rdN tape 6 2)) (rdN tape 8 6) (Int64.toInt32 (rdN tape 14 4))) ls o → Post u') : wp_X7_takeInForOwn cap u Post := by
  have j54 : ∀ (u1 : XS), RX cap u1 c tape n (ownL cap c l (rdN tape 8 6) (Int64.toInt32 (rdN tape 14 4))) fs ls o → jn_X7_takeInForOwn_54 cap Post (Int64.toInt32 (rdN tape 14 4)) u1 := by
    intro u1 hu1
    obtain ⟨k1, k2, k3, k4, k5, k6, k7, k8⟩ := core_all hu1.1
    unfold jn_X7_takeInForOwn_54
    refine vX_operation hu1 ⟨fun q => hP u1 ?_, fun q => vX_sender hu1 (vX_sender hu1 ?_)⟩
    · unfold ownF
      rw [if_neg q]
      exact hu1
    · rw [k1, k4]
      refine vX_addPacketE hu1 hb (fun u9 h9 _ => hP u9 ?_)
      unfold ownF
      rw [if_pos q]
      exact h9
  unfold wp_X7_takeInForOwn
  refine vX_senderAddress h ⟨fun q => j54 u ?_, fun q => vX_indexOf h.2.2.1 (fun i e hf hi ha => ?_) (fun hf => ?_)⟩
  · unfold ownL
    rw [if_neg (fun z => z.1 q)]
    exact h
  · have hil := (List.getElem?_eq_some_iff.mp hi).1
    have h32 := h.2.2.1.2.2.1
    have hcp := h.2.2.1.2.1
    refine br_t (nI_pos' (by omega)) (j54 u ?_)
    unfold ownL
    rw [if_neg (fun z => by rw [hf] at z; exact absurd z.2 (by simp))]
    exact h
  · refine br_f (by decide) (vX_makeRoom h (fun hlt => ?_) (fun i u' hle hri hu' => ?_) (fun hle hri => ?_))
    · refine br_f (by decide) (vX_sender h ?_)
      rw [(core_all h.1).2.1]
      refine vX_add h hlt (fun u13 h13 => j54 u13 ?_)
      unfold ownL roomL
      rw [if_pos ⟨q, hf⟩, if_pos hlt]
      exact h13
    · refine br_f (by decide) (vX_sender hu' ?_)
      rw [(core_all hu'.1).2.1]
      have hcp := h.2.2.1.2.1
      obtain ⟨e9, hie9, -⟩ := roomI_spec hri
      have hil := (List.getElem?_eq_some_iff.mp hie9).1
      refine vX_add hu' (by rw [List.length_eraseIdx]; simp [hil]; omega) (fun u13 h13 => j54 u13 ?_)
      unfold ownL roomL
      rw [if_pos ⟨q, hf⟩, if_neg (by omega), hri]
      exact h13
    · refine br_t rfl (j54 u ?_)
      unfold ownL roomL
      rw [if_pos ⟨q, hf⟩, if_neg (by omega), hri]
      exact h
theorem vX_takeIn {cap : Nat} {u : XS} {c : Co} {tape : Nat → Int32} {n : Nat} {l : List En} {fs : List Fr} {ls : List Int32} {o : Nat → Int64} {Post : Int32 → XS → Prop} (h : RX cap u c tape n l fs ls o) (hb : fs.length + 20 < 2 ^ 30) (hbl : ls.length + 200 < 2 ^ 30) {r : Int32 × G4} (hr : r = takS cap c l fs ls (Int64.toInt32 (rdN tape 6 2)) (rdN tape 8 6) (Int64.toInt32 (rdN tape 14 4)) (Int64.toInt32 (rdN tape 24 4))) (hP : ∀ u' : XS, RX cap u' r.2.1 tape n r.2.2.1 r.2.2.2.1 r.2.2.2.2 o → Post r.1 u') : wp_X7_takeIn cap u Post := by
  unfold wp_X7_takeIn
  refine vX_isConflict h (fun hcf => ?_) (fun hcf => ?_)
  · refine br_f (by decide) (vX_meetConflict h (by omega) hbl (fun u16 h16 => ?_))
    unfold takS at hr
    rw [if_pos hcf] at hr
    subst hr
    exact hP u16 h16
  unfold takS at hr
  rw [if_neg hcf] at hr
  have j52 : ∀ u1 : XS, RX cap u1 c tape n (lrnL c l (rdN tape 8 6) (Int64.toInt32 (rdN tape 14 4))) (lrnF l fs (rdN tape 8 6) (Int64.toInt32 (rdN tape 14 4))) ls o → (lrnF l fs (rdN tape 8 6) (Int64.toInt32 (rdN tape 14 4))).length + 1 < 2 ^ 30 → jn_X7_takeIn_52 cap Post u1 := by
    intro u1 hu1 hb1
    obtain ⟨k1, k2, k3, k4, k5, k6, k7, k8⟩ := core_all hu1.1
    unfold jn_X7_takeIn_52
    rw [k3]
    refine ⟨fun q => ?_, fun q => vX_targetAddress hu1 ?_⟩
    · rw [if_neg (fun z => z.1 q)] at hr
      subst hr
      exact hP u1 hu1
    · rw [k4]
      refine ⟨fun q2 => ?_, fun q2 => vX_takeInForOwn hu1 hb1 (fun u6 h6 => ?_)⟩
      · rw [if_neg (fun z => q2 z.2)] at hr
        subst hr
        exact hP u1 hu1
      · rw [if_pos ⟨q, q2⟩] at hr
        subst hr
        exact hP u6 h6
  refine br_t rfl (vX_senderAddress h (vX_indexOf h.2.2.1 (fun i e hf hi ha => ?_) (fun hf => ?_)))
  · obtain ⟨q1, q2, q3, q4⟩ := h.2.2.1.at hi
    have h32 := h.2.2.1.2.2.1
    have hcl : (nI i).toNatClampNeg = i := nI_clamp (by omega)
    rw [hcl]
    refine br_f (nI_pos (by omega)) ⟨vp_in_nI (by omega) (by omega), vX_sender h ⟨q3, vX_learn h hi (by omega) (fun u14 h14 => j52 u14 ?_ ?_)⟩⟩
    · unfold lrnL lrnF
      rw [hf]
      simp only [hi]
      exact h14
    · unfold lrnF
      rw [hf]
      simp only [hi]
      rw [List.length_append, List.length_map]
      have := q4.2.1
      omega
  · refine br_t (by decide) (j52 u ?_ ?_)
    · unfold lrnL lrnF
      rw [hf]
      exact h
    · unfold lrnF
      rw [hf]
      show fs.length + 1 < _
      omega
theorem vX_hear {cap : Nat} {u : XS} {c : Co} {tape : Nat → Int32} {n : Nat} {l : List En} {fs : List Fr} {ls : List Int32} {o : Nat → Int64} {Post : Int32 → XS → Prop} (h : RX cap u c tape n l fs ls o) (hb : fs.length + 20 < 2 ^ 30) (hbl : ls.length + 200 < 2 ^ 30) {r : Int32 × G4} (hr : r = heaS cap c tape n l fs ls) (hP : ∀ u' : XS, RX cap u' r.2.1 tape 0 r.2.2.1 r.2.2.2.1 r.2.2.2.2 o → Post r.1 u') : wp_X7_hear cap u Post := by
  have fin : ∀ (u1 u2 : XS) (c1 : Co) (l1 : List En) (fs1 : List Fr) (ls1 : List Int32), RX cap u1 c1 tape n l1 fs1 ls1 o → u2 = Xs_tl u1 (0 : Int32) → RX cap u2 c1 tape 0 l1 fs1 ls1 o := by
    intro u1 u2 c1 l1 fs1 ls1 h1 h2
    obtain ⟨a1, a2, a3, a4, a5, a6, a7⟩ := sX_tl h2
    obtain ⟨hc, ⟨ht1, ht2, ht3⟩, he, hf, hl, ho⟩ := h1
    refine ⟨a1.trans hc, ?_, he.keep a4, hf.keep a2, hl.keep a3, (g_xO a5).trans ho⟩
    unfold XTu
    rw [a6, a7]
    exact ⟨rfl, Nat.zero_le _, ht3⟩
  unfold wp_X7_hear
  unfold heaS at hr
  refine vX_isBad h (fun hbad => ?_) (fun hbad => ?_)
  · rw [if_pos hbad] at hr
    subst hr
    exact br_f (by decide) (fun u8 h8 => hP u8 (fin u u8 _ _ _ _ h h8))
  · rw [if_neg hbad] at hr
    exact br_t rfl (vX_takeIn h hb hbl hr (fun u5 h5 u6 h6 => hP u6 (fin u5 u6 _ _ _ _ h5 h6)))
