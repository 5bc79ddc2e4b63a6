/-! what stays true of the lists -/
theorem dist_cons {e : En} {r : List En} : dist (e :: r) ↔ (∀ x, x ∈ r → ¬ n_ad x = n_ad e) ∧ dist r := by
  constructor
  · intro h
    refine ⟨fun x hx hz => ?_, fun i j a b ha hb hab => ?_⟩
    · obtain ⟨i, hi⟩ := List.mem_iff_getElem?.mp hx
      have := h (i + 1) 0 x e (by simpa using hi) rfl hz
      omega
    · have := h (i + 1) (j + 1) a b (by simpa using ha) (by simpa using hb) hab
      omega
  · rintro ⟨h1, h2⟩ i j a b ha hb hab
    rcases i with _ | i <;> rcases j with _ | j
    · rfl
    · have e1 : e = a := by simpa using ha
      have e2 : b ∈ r := List.mem_iff_getElem?.mpr ⟨j, by simpa using hb⟩
      subst e1
      exact absurd hab.symm (h1 b e2)
    · have e1 : e = b := by simpa using hb
      have e2 : a ∈ r := List.mem_iff_getElem?.mpr ⟨i, by simpa using ha⟩
      subst e1
      exact absurd hab (h1 a e2)
    · have := h2 i j a b (by simpa using ha) (by simpa using hb) hab
      omega
theorem dist.erase {l : List En} (h : dist l) (i : Nat) : dist (l.eraseIdx i) := by
  intro j k a b ha hb hab
  rcases eraI ha with ⟨z1, z2⟩ | ⟨z1, z2⟩ <;> rcases eraI hb with ⟨y1, y2⟩ | ⟨y1, y2⟩
  · exact h _ _ _ _ z2 y2 hab
  · have := h _ _ _ _ z2 y2 hab; omega
  · have := h _ _ _ _ z2 y2 hab; omega
  · have := h _ _ _ _ z2 y2 hab; omega
theorem dist.set {l : List En} (h : dist l) {i : Nat} {e e' : En} (hi : l[i]? = some e) (ha : n_ad e' = n_ad e) : dist (l.set i e') := by
  have hil := (List.getElem?_eq_some_iff.mp hi).1
  have hg : ∀ (j : Nat) (x : En), (l.set i e')[j]? = some x → ∃ y, l[j]? = some y ∧ n_ad y = n_ad x := by
    intro j x hj
    by_cases hji : j = i
    · subst hji
      rw [List.getElem?_set_self hil] at hj
      cases hj
      exact ⟨e, hi, ha.symm⟩
    · rw [List.getElem?_set_ne (fun z => hji z.symm)] at hj
      exact ⟨x, hj, rfl⟩
  intro j k a b hja hkb hab
  obtain ⟨y1, w1, w2⟩ := hg j a hja
  obtain ⟨y2, w3, w4⟩ := hg k b hkb
  exact h j k y1 y2 w1 w3 (w2.trans (hab.trans w4.symm))
theorem dist.app {l : List En} (h : dist l) {e : En} (hn : ∀ (j : Nat) (x : En), l[j]? = some x → ¬ n_ad x = n_ad e) : dist (l ++ [e]) := by
  have hg : ∀ (j : Nat) (x : En), (l ++ [e])[j]? = some x → (j < l.length ∧ l[j]? = some x) ∨ (j = l.length ∧ x = e) := by
    intro j x hj
    rcases Nat.lt_or_ge j l.length with z | z
    · rw [List.getElem?_append_left z] at hj
      exact Or.inl ⟨z, hj⟩
    · rw [List.getElem?_append_right z] at hj
      have hz : j - l.length < 1 := (List.getElem?_eq_some_iff.mp hj).1
      have hk3 : j = l.length := by omega
      subst hk3
      rw [Nat.sub_self] at hj
      cases hj
      exact Or.inr ⟨rfl, rfl⟩
  intro j k a b ha hb hab
  rcases hg j a ha with ⟨z1, z2⟩ | ⟨z1, z2⟩ <;> rcases hg k b hb with ⟨y1, y2⟩ | ⟨y1, y2⟩
  · exact h _ _ _ _ z2 y2 hab
  · subst y2; exact absurd hab (hn j a z2)
  · subst z2; exact absurd hab.symm (hn k b y2)
  · omega
theorem okE.mono {T T' : Nat} {e : En} (h : okE T e) (hT : T ≤ T') : okE T' e := by
  obtain ⟨a, b, c, S, hS, hs⟩ := h
  exact ⟨a, b, c, S, by omega, hs⟩
def INV (T : Nat) (c : Co) (l : List En) : Prop := PhOk c ∧ c_time c = nI T ∧ dist l ∧ ∀ e, e ∈ l → okE T e
theorem INV.wt {T : Nat} {c : Co} {l : List En} (h : INV T c l) : wtOk l := fun i e hi hk => (h.2.2.2 e (List.mem_iff_getElem?.mpr ⟨i, hi⟩)).2.2.1 hk
theorem INV.co {T : Nat} {c c' : Co} {l : List En} (h : INV T c l) (h1 : PhOk c') (h2 : c_time c' = c_time c) : INV T c' l := ⟨h1, h2.trans h.2.1, h.2.2⟩
theorem INV.set {T : Nat} {c : Co} {l : List En} (h : INV T c l) {i : Nat} {e e' : En} (hi : l[i]? = some e) (ha : n_ad e' = n_ad e) (ho : okE T e') : INV T c (l.set i e') := by
  refine ⟨h.1, h.2.1, h.2.2.1.set hi ha, fun x hx => ?_⟩
  rcases List.mem_or_eq_of_mem_set hx with z | z
  · exact h.2.2.2 x z
  · subst z; exact ho
theorem INV.rot {T : Nat} {c : Co} {l : List En} (h : INV T c l) {i : Nat} {e e' : En} (hi : l[i]? = some e) (ha : n_ad e' = n_ad e) (ho : okE T e') : INV T c (l.eraseIdx i ++ [e']) := by
  refine ⟨h.1, h.2.1, (h.2.2.1.erase i).app (fun j x hj hz => ?_), fun x hx => ?_⟩
  · rcases eraI hj with ⟨z1, z2⟩ | ⟨z1, z2⟩
    · have := h.2.2.1 _ _ _ _ z2 hi (hz.trans ha); omega
    · have := h.2.2.1 _ _ _ _ z2 hi (hz.trans ha); omega
  · rcases List.mem_append.mp hx with z | z
    · exact h.2.2.2 x (List.mem_of_mem_eraseIdx z)
    · rw [List.mem_singleton.mp z]; exact ho
theorem INV.room {T cap : Nat} {c : Co} {l l1 : List En} (h : INV T c l) (hr : roomL cap l = some l1) {e : En} (hf : findA (n_ad e) l = none) (ho : okE T e) : INV T c (l1 ++ [e]) := by
  unfold roomL at hr
  split at hr
  · cases hr
    refine ⟨h.1, h.2.1, h.2.2.1.app (fun j x hj => findA_none' hf hj), fun x hx => ?_⟩
    rcases List.mem_append.mp hx with z | z
    · exact h.2.2.2 x z
    · rw [List.mem_singleton.mp z]; exact ho
  · rcases hri : roomI l with _ | i
    · rw [hri] at hr; cases hr
    · rw [hri] at hr
      cases hr
      refine ⟨h.1, h.2.1, (h.2.2.1.erase i).app (fun j x hj => ?_), fun x hx => ?_⟩
      · rcases eraI hj with ⟨z1, z2⟩ | ⟨z1, z2⟩
        · exact findA_none' hf z2
        · exact findA_none' hf z2
      · rcases List.mem_append.mp hx with z | z
        · exact h.2.2.2 x (List.mem_of_mem_eraseIdx z)
        · rw [List.mem_singleton.mp z]; exact ho
theorem PhOk.p0 {c : Co} (h : c_ph c = 0) : PhOk c := Or.inl h
theorem INV.up {T : Nat} {c : Co} {l : List En} (h : INV T c l) : INV T (c_up c) [] := ⟨Or.inl rfl, h.2.1, fun i j a b ha => by simp at ha, fun x hx => absurd hx List.not_mem_nil⟩
theorem INV.lrn {T : Nat} {c : Co} {l : List En} (h : INV T c l) (s : Int64) (a : Int32) : INV T c (lrnL c l s a) := by
  unfold lrnL
  rcases hf : findA a l with _ | i
  · exact h
  · obtain ⟨e, he, ha⟩ := findA_spec hf
    simp only [he]
    exact h.set he rfl ⟨Or.inr (Or.inl rfl), fun z => absurd (show (2 : Int32) = 1 from z) (by decide), fun _ => rfl, T, Nat.le_refl _, h.2.1⟩
theorem INV.ownl {T cap : Nat} {c : Co} {l : List En} (h : INV T c l) (s : Int64) (a : Int32) : INV T c (ownL cap c l s a) := by
  unfold ownL
  split
  · rename_i hc
    rcases hr : roomL cap l with _ | l1
    · exact h
    · exact h.room (e := (a, 2, s, c_time c, c_time c, [])) hr hc.2 ⟨Or.inr (Or.inl rfl), fun z => absurd (show (2 : Int32) = 1 from z) (by decide), fun _ => rfl, T, Nat.le_refl _, h.2.1⟩
  · exact h
theorem INV.hea {T cap : Nat} {c : Co} {tape : Nat → Int32} {n : Nat} {l : List En} {fs : List Fr} {ls : List Int32} (h : INV T c l) : INV T (heaS cap c tape n l fs ls).2.1 (heaS cap c tape n l fs ls).2.2.1 := by
  unfold heaS
  split
  · exact h
  · unfold takS
    split
    · unfold confS
      split
      · exact h.co h.1 rfl
      · exact h.up
    · split
      · exact (h.lrn _ _).ownl _ _
      · exact h.lrn _ _
theorem INV.snd {T cap : Nat} {c : Co} {l : List En} {fs : List Fr} {ls : List Int32} {a d : Int32} (h : INV T c l) : INV T c (sndS cap c l fs ls a d).2.1 := by
  unfold sndS
  rcases hf : findA a l with _ | i
  · simp only
    rcases hr : roomL cap l with _ | l1
    · exact h
    · exact h.room (e := (a, 1, 0, c_time c, c_time c, [d])) hr hf ⟨Or.inl rfl, fun _ => rfl, fun z => absurd rfl z, T, Nat.le_refl _, h.2.1⟩
  · obtain ⟨e, he, ha⟩ := findA_spec hf
    simp only [he]
    have ho := h.2.2.2 e (List.mem_iff_getElem?.mpr ⟨i, he⟩)
    refine h.rot he ?_ ?_
    · unfold chgE
      split
      · split <;> rfl
      · split <;> rfl
    · obtain ⟨o1, o2, o3, S, hS, o4⟩ := ho
      unfold chgE
      split
      · rename_i k1
        split
        · exact ⟨o1, o2, fun z => absurd k1 z, S, hS, o4⟩
        · exact ⟨o1, o2, o3, S, hS, o4⟩
      · rename_i k1
        split
        · exact ⟨Or.inr (Or.inr (Or.inr rfl)), fun z => absurd (show (4 : Int32) = 1 from z) (by decide), fun _ => o3 k1, T, Nat.le_refl _, h.2.1⟩
        · exact ⟨o1, o2, o3, S, hS, o4⟩
theorem tkL_mem {c : Co} : ∀ {l : List En} {x : En}, x ∈ tkL c l → ∃ e, e ∈ l ∧ x = tE c e
  | [], x, h => absurd h List.not_mem_nil
  | e :: r, x, h => by
    rw [tkL] at h
    split at h
    · obtain ⟨y, hy, hx⟩ := tkL_mem h
      exact ⟨y, List.mem_cons_of_mem _ hy, hx⟩
    · rcases List.mem_cons.mp h with z | z
      · exact ⟨e, List.mem_cons_self, z⟩
      · obtain ⟨y, hy, hx⟩ := tkL_mem z
        exact ⟨y, List.mem_cons_of_mem _ hy, hx⟩
theorem tE_ad (c : Co) (e : En) : n_ad (tE c e) = n_ad e := by
  unfold tE
  split <;> rfl
theorem dist_tk {c : Co} : ∀ {l : List En}, dist l → dist (tkL c l)
  | [], h => h
  | e :: r, h => by
    obtain ⟨h1, h2⟩ := dist_cons.mp h
    rw [tkL]
    split
    · exact dist_tk h2
    · refine dist_cons.mpr ⟨fun x hx hz => ?_, dist_tk h2⟩
      obtain ⟨y, hy, rfl⟩ := tkL_mem hx
      rw [tE_ad, tE_ad] at hz
      exact h1 y hy hz
theorem INV.st {T : Nat} {g : G4} (h : INV T g.1 g.2.1) : INV (T + 1) (stG g).1 (stG g).2.1 ∧ c_time (c_tim g.1 (c_time g.1 + 1)) = nI (T + 1) ∧ c_time (stC g.1) = nI (T + 1) := by
  have t1 : c_time (c_tim g.1 (c_time g.1 + 1)) = nI (T + 1) := by
    show c_time g.1 + 1 = _
    rw [h.2.1]
    exact nI_1 _
  have t2 : c_time (stC g.1) = nI (T + 1) := by
    unfold stC owC
    split
    · exact t1
    · split
      · exact t1
      · split
        · exact t1
        · exact t1
  have ph : PhOk (stC g.1) := by
    unfold stC owC
    split
    · exact h.1
    · split
      · exact Or.inr (Or.inr (Or.inl rfl))
      · split
        · exact Or.inr (Or.inr (Or.inr rfl))
        · exact h.1
  refine ⟨⟨ph, t2, dist_tk h.2.2.1, fun x hx => ?_⟩, t1, t2⟩
  obtain ⟨e, he, rfl⟩ := tkL_mem hx
  have ho := h.2.2.2 e he
  unfold tE
  split
  · rename_i hc
    exact ⟨Or.inr (Or.inr (Or.inl rfl)), fun z => absurd (show (3 : Int32) = 1 from z) (by decide), fun _ => ho.2.2.1 (by rw [hc.1]; decide), T + 1, Nat.le_refl _, t2⟩
  · exact ho.mono (by omega)
theorem INV.stN : ∀ (N : Nat) {T : Nat} {g : G4}, INV T g.1 g.2.1 → INV (T + N) (stN N g).1 (stN N g).2.1
  | 0, T, g, h => h
  | N + 1, T, g, h => by
    have := INV.stN N h.st.1
    rw [show T + (N + 1) = T + 1 + N by omega]
    exact this
theorem stG_le {g : G4} (hl : g.2.1.length ≤ 32) (hw : ∀ e, e ∈ g.2.1 → (n_wt e).length ≤ 4) : (stG g).2.1.length ≤ 32 ∧ (stG g).2.2.1.length ≤ g.2.2.1.length + 33 ∧ (stG g).2.2.2.length ≤ g.2.2.2.length + 128 ∧ ∀ e, e ∈ (stG g).2.1 → (n_wt e).length ≤ 4 := by
  have w1 := owF_le (c_tim g.1 (c_time g.1 + 1))
  have w2 := tkF_le (stC g.1) g.2.1
  have w3 := tkS_le (stC g.1) g.2.1 hw
  have w4 : ∀ l : List En, (tkL (stC g.1) l).length ≤ l.length := by
    intro l
    induction l with
    | nil => exact Nat.le_refl _
    | cons e r ih =>
      rw [tkL, List.length_cons]
      split
      · omega
      · rw [List.length_cons]; omega
  refine ⟨Nat.le_trans (w4 _) hl, ?_, ?_, fun x hx => ?_⟩
  · show ((g.2.2.1 ++ owF (c_tim g.1 (c_time g.1 + 1))) ++ tkF (stC g.1) g.2.1).length ≤ _
    rw [List.length_append, List.length_append]
    omega
  · show (g.2.2.2 ++ tkS (stC g.1) g.2.1).length ≤ _
    rw [List.length_append]
    omega
  · obtain ⟨e, he, rfl⟩ := tkL_mem hx
    unfold tE
    split
    · exact hw e he
    · exact hw e he
theorem stN_le : ∀ (N : Nat) {g : G4}, g.2.1.length ≤ 32 → (∀ e, e ∈ g.2.1 → (n_wt e).length ≤ 4) → (stN N g).2.2.1.length ≤ g.2.2.1.length + 33 * N ∧ (stN N g).2.2.2.length ≤ g.2.2.2.length + 128 * N
  | 0, g, _, _ => ⟨Nat.le_refl _, Nat.le_refl _⟩
  | N + 1, g, hl, hw => by
    obtain ⟨a1, a2, a3, a4⟩ := stG_le hl hw
    obtain ⟨b1, b2⟩ := stN_le N a1 a4
    rw [stN]
    exact ⟨by omega, by omega⟩
theorem RM.small {cap : Nat} {u : MS} {c : Co} {tape : Nat → Int32} {n : Nat} {l : List En} {fs : List Fr} {ls : List Int32} {th : Int32} (h : RM cap u c tape n l fs ls th) : l.length ≤ 32 ∧ ∀ e, e ∈ l → (n_wt e).length ≤ 4 := by
  have h32 := h.2.2.1.2.2.1
  have hcp := h.2.2.1.2.1
  refine ⟨by omega, fun e he => ?_⟩
  obtain ⟨i, hi⟩ := List.mem_iff_getElem?.mp he
  exact (h.2.2.1.lt hi).2.2.2.2
theorem vM_tickLoop {cap : Nat} {tape : Nat → Int32} {n : Nat} {N : Nat} {Post : Int32 → MS → Prop} (hN : N ≤ 40) : ∀ (f k : Nat) (u : MS) (g : G4) (T : Nat), k + f = N → RM cap u g.1 tape n g.2.1 g.2.2.1 g.2.2.2 0 → INV T g.1 g.2.1 → T + f < 100000 → g.2.2.1.length + 100 * f + 200 < 2 ^ 30 → g.2.2.2.length + 200 * f + 300 < 2 ^ 30 → (∀ u' : MS, RM cap u' (stN f g).1 tape n (stN f g).2.1 (stN f g).2.2.1 (stN f g).2.2.2 0 → Post (c_time (stN f g).1) u') → lp_X8_tick_21 Post (f + 1) (nI N) (nI k) u := by
  intro f
  induction f with
  | zero =>
    intro k u g T hk h _ _ _ _ hP
    show lb_X8_tick_21 Post _ (nI N) (nI k) u
    unfold lb_X8_tick_21
    rw [(mcore_all h.1).2.1, nthr h]
    exact br_t (nI_le (by omega) (by omega)) (br_t (by decide) (hP u h))
  | succ f ih =>
    intro k u g T hk h hI hT hb hbl hP
    show lb_X8_tick_21 Post (lp_X8_tick_21 Post (f + 1)) (nI N) (nI k) u
    unfold lb_X8_tick_21
    obtain ⟨s1, s2⟩ := h.small
    obtain ⟨i1, i2, i3⟩ := hI.st
    rw [(mcore_all h.1).2.1, nthr h]
    refine br_f (fun z => absurd ((nI_leI (by omega) (by omega)).mp z) (by omega)) (br_nf rfl (fun u2 h2 => vM_ownTick (vM_time h h2) (by omega) (fun u5 h5 => ?_)))
    have w1 := owF_le (c_tim g.1 (c_time g.1 + 1))
    have w2 := tkF_le (stC g.1) g.2.1
    have w3 := tkS_le (stC g.1) g.2.1 s2
    refine vM_tickEntries (T := T) h5 hI.2.2.2 (by omega) i3 (by rw [List.length_append]; omega) (by omega) (fun u7 h7 => ?_)
    rw [nI_1]
    refine ih (k + 1) u7 (stG g) (T + 1) (by omega) h7 i1 (by omega) ?_ ?_ hP
    · show ((g.2.2.1 ++ owF (c_tim g.1 (c_time g.1 + 1))) ++ tkF (stC g.1) g.2.1).length + 100 * f + 200 < 2 ^ 30
      rw [List.length_append, List.length_append]
      omega
    · show (g.2.2.2 ++ tkS (stC g.1) g.2.1).length + 200 * f + 300 < 2 ^ 30
      rw [List.length_append]
      omega
theorem vM_tick {cap : Nat} {u : MS} {c : Co} {tape : Nat → Int32} {n : Nat} {l : List En} {fs : List Fr} {ls : List Int32} {th a : Int32} {T : Nat} {Post : Int32 → MS → Prop} (h : RM cap u c tape n l fs ls th) (hI : INV T c l) (hT : T + 40 < 100000) (hb : fs.length + 5000 < 2 ^ 30) (hbl : ls.length + 9000 < 2 ^ 30) (h1 : (a < 0 ∨ ¬ a ≤ 40) → ∀ u' : MS, RM cap u' c tape n l fs ls 1 → Post 0 u') (hP : ∀ N : Nat, N ≤ 40 → a = nI N → ∀ u' : MS, RM cap u' (stN N (c, l, fs, ls)).1 tape n (stN N (c, l, fs, ls)).2.1 (stN N (c, l, fs, ls)).2.2.1 (stN N (c, l, fs, ls)).2.2.2 0 → Post (c_time (stN N (c, l, fs, ls)).1) u') : wp_X8_tick a u Post := by
  have bad : (a < 0 ∨ ¬ a ≤ 40) → ∀ u2 : MS, u2 = Ms_thrown u (1 : Int32) → ∃ f : Nat, lp_X8_tick_21 Post f a (0 : Int32) u2 := by
    intro hb9 u2 hu2
    have hr := (vM_thrown h hu2).1
    refine ⟨1, ?_⟩
    show lb_X8_tick_21 Post _ a 0 u2
    unfold lb_X8_tick_21
    rw [nthr hr]
    exact ⟨fun _ => br_f (by decide) (h1 hb9 u2 hr), fun _ => br_nt (by decide) (br_f (by decide) (h1 hb9 u2 hr))⟩
  unfold wp_X8_tick
  refine ⟨fun q => bad (Or.inl q), fun q1 => ⟨fun q2 u5 hu5 => ?_, fun q => bad (Or.inr q)⟩⟩
  have z0 : (0 : Int32).toInt = 0 := rfl
  have z40 : (40 : Int32).toInt = 40 := rfl
  have k1 : ¬ a.toInt < 0 := fun z => q1 (zi_lt.mpr (by rw [z0]; exact z))
  have k2 : a.toInt ≤ 40 := by have := zi_le.mp q2; rw [z40] at this; exact this
  have hN : a = nI a.toInt.toNat := by
    apply zi_eq.mpr
    rw [nI_toInt (by omega)]
    omega
  have hr := (vM_thrown h hu5).1
  have := vM_tickLoop (cap := cap) (tape := tape) (n := n) (N := a.toInt.toNat) (Post := Post) (by omega) a.toInt.toNat 0 u5 (c, l, fs, ls) T (by omega) hr hI (by omega) (by show fs.length + _ + _ < _; omega) (by show ls.length + _ + _ < _; omega) (hP _ (by omega) hN)
  rw [← hN] at this
  exact ⟨_, this⟩
