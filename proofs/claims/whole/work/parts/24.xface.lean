/-! the class: its answers -/
theorem outX {cap : Nat} {u : XS} {c : Co} {tape : Nat → Int32} {n : Nat} {l : List En} {fs : List Fr} {ls : List Int32} {o : Nat → Int64} (h : RX cap u c tape n l fs ls o) {v : Int64} {P : XS → Prop} (hP : ∀ (u' : XS) (o' : Nat → Int64), RX cap u' c tape n l fs ls o' → o' 0 = v → P u') : vp_in (0 : Int32) 1 ∧ (∀ u3 : XS, u3 = Xs_out u (vp_updL (X_out u) (Int32.toNatClampNeg (0 : Int32)) v) → P u3) := by
  refine ⟨vp_in_nI (n := 0) (by omega) (by omega), fun u3 h3 => ?_⟩
  obtain ⟨a1, a2, a3, a4, a5, a6⟩ := sX_out h3
  exact hP u3 _ ⟨a1.trans h.1, h.2.1.keep a2, h.2.2.1.keep a5, h.2.2.2.1.keep a3, h.2.2.2.2.1.keep a4, a6⟩ pk_uLs
def gK (cap : Nat) (c : Co) (tape : Nat → Int32) (n : Nat) (l : List En) (fs : List Fr) (ls : List Int32) (Post : Int32 → XS → Prop) (g : Int32 × Int64) : Prop := ∀ (u' : XS) (o' : Nat → Int64), RX cap u' c tape n l fs ls o' → (g.1 = 0 → o' 0 = g.2) → Post g.1 u'
theorem gK.ok {cap : Nat} {u : XS} {c : Co} {tape : Nat → Int32} {n : Nat} {l : List En} {fs : List Fr} {ls : List Int32} {o : Nat → Int64} {Post : Int32 → XS → Prop} {v : Int64} (h : RX cap u c tape n l fs ls o) (k : gK cap c tape n l fs ls Post (0, v)) : vp_in (0 : Int32) 1 ∧ (∀ u3 : XS, u3 = Xs_out u (vp_updL (X_out u) (Int32.toNatClampNeg (0 : Int32)) v) → Post 0 u3) := outX h (fun u' o' hu ho => k u' o' hu (fun _ => ho))
theorem gK.bad {cap : Nat} {u : XS} {c : Co} {tape : Nat → Int32} {n : Nat} {l : List En} {fs : List Fr} {ls : List Int32} {o : Nat → Int64} {Post : Int32 → XS → Prop} {v : Int64} {r : Int32} (h : RX cap u c tape n l fs ls o) (k : gK cap c tape n l fs ls Post (r, v)) (hr : ¬ r = 0) : Post r u := k u o h (fun z => absurd z hr)
def i64 (x : Int32) : Int64 := Int32.toInt64 x
def gCnt (c : Co) (l : List En) (fs : List Fr) (ls : List Int32) (a : Int32) : Int32 × Int64 :=
  if a = 0 then (0, i64 (c_ph c)) else if a = 1 then (0, i64 (c_own c)) else if a = 2 then (0, i64 (c_time c)) else if a = 3 then (0, i64 (nI l.length)) else if a = 4 then (0, i64 (nI fs.length)) else if a = 5 then (0, i64 (nI ls.length)) else if a = 6 then (0, i64 (nI (sumW l))) else if a = 7 then (0, i64 (c_df c)) else (1, 0)
theorem wL_count {cap : Nat} {u : XS} {c : Co} {tape : Nat → Int32} {n : Nat} {l : List En} {fs : List Fr} {ls : List Int32} {o : Nat → Int64} {a : Int32} {Post : Int32 → XS → Prop} (h : RX cap u c tape n l fs ls o) (hP : gK cap c tape n l fs ls Post (gCnt c l fs ls a)) : wp_L_count cap a u Post := by
  obtain ⟨g1, g2, g3, g4, g5, g6, g7, g8⟩ := core_all h.1
  unfold wp_L_count wp_X7_count
  rw [g2, g3, g4, g6, h.2.2.1.1, h.2.2.2.1.1, h.2.2.2.2.1.1]
  refine ⟨fun k => ?_, fun k => ?_, fun k => ?_, fun k => ?_, fun k => ?_, fun k => ?_, fun k => vX_countWaiting h.2.2.1 ?_, fun k => ?_, fun k => ⟨rfl, ?_⟩⟩
  · exact gK.ok h (by subst k; simpa [gCnt, i64] using hP)
  · exact gK.ok h (by subst k; simpa [gCnt, i64] using hP)
  · exact gK.ok h (by subst k; simpa [gCnt, i64] using hP)
  · exact gK.ok h (by subst k; simpa [gCnt, i64] using hP)
  · exact gK.ok h (by subst k; simpa [gCnt, i64] using hP)
  · exact gK.ok h (by subst k; simpa [gCnt, i64] using hP)
  · exact gK.ok h (by subst k; simpa [gCnt, i64] using hP)
  · exact gK.ok h (by subst k; simpa [gCnt, i64] using hP)
  · obtain ⟨k0, k1, k2, k3, k4, k5, k6, k7⟩ := k
    unfold gCnt at hP
    rw [if_neg k0, if_neg k1, if_neg k2, if_neg k3, if_neg k4, if_neg k5, if_neg k6, if_neg k7] at hP
    exact gK.bad h hP (by decide)
def gEnt (l : List En) (a : Int32) : Int32 × Int64 := if a < 0 then (1, 0) else match l[a.toNatClampNeg]? with
  | some e => (0, i64 (n_ad e))
  | none => (1, 0)
theorem wL_entry {cap : Nat} {u : XS} {c : Co} {tape : Nat → Int32} {n : Nat} {l : List En} {fs : List Fr} {ls : List Int32} {o : Nat → Int64} {a : Int32} {Post : Int32 → XS → Prop} (h : RX cap u c tape n l fs ls o) (hP : gK cap c tape n l fs ls Post (gEnt l a)) : wp_L_entry cap a u Post := by
  have h32 := h.2.2.1.2.2.1
  have hcp := h.2.2.1.2.1
  unfold wp_L_entry wp_X7_entry
  unfold gEnt at hP
  refine ⟨fun q => ⟨rfl, ?_⟩, fun q => ?_⟩
  · rw [if_pos q] at hP
    exact gK.bad h hP (by decide)
  · rw [if_neg q] at hP
    obtain ⟨k, hk, rfl⟩ := nI_of q
    rw [nI_clamp hk] at hP ⊢
    rw [h.2.2.1.1]
    refine ⟨fun q2 => ?_, fun q2 => ⟨rfl, ?_⟩⟩
    · have hkl := (nI_ltI hk (by omega)).mp q2
      obtain ⟨e, he⟩ := get_lt hkl
      obtain ⟨q1, q2, q3, ⟨q4, q5, q6⟩⟩ := h.2.2.1.at he
      simp only [he] at hP
      rw [q4]
      exact ⟨vp_in_nI (by omega) (by omega), q3, gK.ok h hP⟩
    · have hkl : ¬ k < l.length := fun z => q2 ((nI_ltI hk (by omega)).mpr z)
      rw [List.getElem?_eq_none (by omega)] at hP
      exact gK.bad h hP (by decide)
def fndE (a : Int32) (l : List En) : Option En := match findA a l with
  | some i => l[i]?
  | none => none
def gAbt (l : List En) (a b : Int32) : Int32 × Int64 := if b < 0 ∨ ¬ b ≤ 3 then (1, 0) else match fndE a l with
  | some e => (0, i64 (if b = 0 then n_kd e else if b = 1 then nI (n_wt e).length else if b = 2 then n_si e else n_us e))
  | none => (2, 0)
theorem wL_about {cap : Nat} {u : XS} {c : Co} {tape : Nat → Int32} {n : Nat} {l : List En} {fs : List Fr} {ls : List Int32} {o : Nat → Int64} {a b : Int32} {Post : Int32 → XS → Prop} (h : RX cap u c tape n l fs ls o) (hP : gK cap c tape n l fs ls Post (gAbt l a b)) : wp_L_about cap a b u Post := by
  have h32 := h.2.2.1.2.2.1
  have hcp := h.2.2.1.2.1
  unfold wp_L_about wp_X7_about
  unfold gAbt at hP
  refine ⟨fun q => Or.inl ⟨rfl, ?_⟩, fun q1 => ⟨fun q2 => ?_, fun q => Or.inl ⟨rfl, ?_⟩⟩⟩
  · rw [if_pos (Or.inl q)] at hP
    exact gK.bad h hP (by decide)
  · rw [if_neg (fun z => z.elim q1 (fun z => z q2))] at hP
    unfold fndE at hP
    refine vX_indexOf h.2.2.1 (fun i e hf hi ha => ?_) (fun hf => ?_)
    · have hil := (List.getElem?_eq_some_iff.mp hi).1
      obtain ⟨z1, z2, z3, ⟨z4, z5, z6⟩⟩ := h.2.2.1.at hi
      rw [hf] at hP
      simp only [hi] at hP
      rw [nI_clamp (by omega), z4]
      refine br_t (nI_pos' (by omega)) ⟨vp_in_nI (by omega) (by omega), fun k => ⟨z3, ?_⟩, fun k => ⟨z3, ?_⟩, fun k => ⟨z3, ?_⟩, fun k => ⟨z3, ?_⟩⟩
      · exact gK.ok h (by rw [if_pos k] at hP; exact hP)
      · exact gK.ok h (by rw [if_neg (by rw [k]; decide), if_pos k] at hP; exact hP)
      · exact gK.ok h (by rw [if_neg (by rw [k]; decide), if_neg (by rw [k]; decide), if_pos k] at hP; exact hP)
      · exact gK.ok h (by rw [if_neg k.1, if_neg k.2.1, if_neg k.2.2] at hP; exact hP)
    · rw [hf] at hP
      exact br_f (by decide) (Or.inr ⟨rfl, gK.bad h hP (by decide)⟩)
  · rw [if_pos (Or.inr q)] at hP
    exact gK.bad h hP (by decide)
def gHw (l : List En) (a : Int32) : Int32 × Int64 := match fndE a l with
  | some e => (0, n_hw e)
  | none => (1, 0)
theorem wL_hardware {cap : Nat} {u : XS} {c : Co} {tape : Nat → Int32} {n : Nat} {l : List En} {fs : List Fr} {ls : List Int32} {o : Nat → Int64} {a : Int32} {Post : Int32 → XS → Prop} (h : RX cap u c tape n l fs ls o) (hP : gK cap c tape n l fs ls Post (gHw l a)) : wp_L_hardware cap a u Post := by
  have h32 := h.2.2.1.2.2.1
  have hcp := h.2.2.1.2.1
  unfold wp_L_hardware wp_X7_hardware
  unfold gHw fndE at hP
  refine vX_indexOf h.2.2.1 (fun i e hf hi ha => ?_) (fun hf => ?_)
  · have hil := (List.getElem?_eq_some_iff.mp hi).1
    obtain ⟨z1, z2, z3, ⟨z4, z5, z6⟩⟩ := h.2.2.1.at hi
    rw [hf] at hP
    simp only [hi] at hP
    rw [nI_clamp (by omega), z4]
    exact br_t (nI_pos' (by omega)) ⟨vp_in_nI (by omega) (by omega), z3, gK.ok h hP⟩
  · rw [hf] at hP
    exact br_f (by decide) ⟨rfl, gK.bad h hP (by decide)⟩
def gKnw (l : List En) (a : Int32) : Int32 := match fndE a l with
  | some e => if n_kd e = 1 then 0 else 1
  | none => 0
theorem vX_knows {cap : Nat} {u : XS} {c : Co} {tape : Nat → Int32} {n : Nat} {l : List En} {fs : List Fr} {ls : List Int32} {o : Nat → Int64} {a : Int32} {Post : Int32 → XS → Prop} (h : RX cap u c tape n l fs ls o) (hP : Post (gKnw l a) u) : wp_X7_knows cap a u Post := by
  have h32 := h.2.2.1.2.2.1
  have hcp := h.2.2.1.2.1
  unfold wp_X7_knows
  unfold gKnw fndE at hP
  refine vX_indexOf h.2.2.1 (fun i e hf hi ha => ?_) (fun hf => ?_)
  · have hil := (List.getElem?_eq_some_iff.mp hi).1
    obtain ⟨z1, z2, z3, ⟨z4, z5, z6⟩⟩ := h.2.2.1.at hi
    rw [hf] at hP
    simp only [hi] at hP
    rw [nI_clamp (by omega), z4]
    refine br_f (nI_pos (by omega)) ⟨vp_in_nI (by omega) (by omega), z3, fun k => ?_, fun k => ?_⟩
    · rw [if_pos (show n_kd e = 1 from k)] at hP; exact hP
    · rw [if_neg (show ¬ n_kd e = 1 from k)] at hP; exact hP
  · rw [hf] at hP
    exact br_t (by decide) hP
def gWai (l : List En) (a b : Int32) : Int32 × Int64 := match fndE a l with
  | some e => if b < 0 then (2, 0) else (match (n_wt e)[b.toNatClampNeg]? with
    | some x => (0, i64 x)
    | none => (2, 0))
  | none => (1, 0)
theorem wL_waits {cap : Nat} {u : XS} {c : Co} {tape : Nat → Int32} {n : Nat} {l : List En} {fs : List Fr} {ls : List Int32} {o : Nat → Int64} {a b : Int32} {Post : Int32 → XS → Prop} (h : RX cap u c tape n l fs ls o) (hP : gK cap c tape n l fs ls Post (gWai l a b)) : wp_L_waits cap a b u Post := by
  have h32 := h.2.2.1.2.2.1
  have hcp := h.2.2.1.2.1
  unfold wp_L_waits wp_X7_waits
  unfold gWai fndE at hP
  refine vX_indexOf h.2.2.1 (fun i e hf hi ha => ?_) (fun hf => ?_)
  · have hil := (List.getElem?_eq_some_iff.mp hi).1
    obtain ⟨z1, z2, z3, ⟨z4, z5, z6⟩⟩ := h.2.2.1.at hi
    rw [hf] at hP
    simp only [hi] at hP
    rw [nI_clamp (by omega), z4]
    refine br_t (nI_pos' (by omega)) ⟨vp_in_nI (by omega) (by omega), fun k => Or.inr ⟨rfl, ?_⟩, fun k => ⟨z3, ?_⟩⟩
    · rw [if_pos k] at hP
      exact gK.bad h hP (by decide)
    · rw [if_neg k] at hP
      obtain ⟨j, hj, rfl⟩ := nI_of k
      rw [nI_clamp hj] at hP ⊢
      refine ⟨fun q2 => ?_, fun q2 => Or.inr ⟨rfl, ?_⟩⟩
      · have hjl : j < (n_wt e).length := (nI_ltI hj (by omega)).mp q2
        obtain ⟨x, hx⟩ := get_lt hjl
        simp only [hx] at hP
        rw [z6 j x hx]
        exact ⟨vp_in_nI (by omega) (by omega), gK.ok h hP⟩
      · have hjl : ¬ j < (n_wt e).length := fun z => q2 ((nI_ltI hj (by omega)).mpr z)
        rw [List.getElem?_eq_none (by omega)] at hP
        exact gK.bad h hP (by decide)
  · rw [hf] at hP
    exact br_f (by decide) (Or.inl ⟨rfl, gK.bad h hP (by decide)⟩)
/-! what is kept of frames and losses -/
def kept {α : Type} (l : List α) (a : Int32) : Option α := if a < 0 then none else l[l.length - 100 + a.toNatClampNeg]?
theorem kept_neg {α : Type} {l : List α} {a : Int32} (h : a < 0) : kept l a = none := by unfold kept; rw [if_pos h]
theorem kept_nI {α : Type} {l : List α} {k : Nat} (hk : k < 2 ^ 31) : kept l (nI k) = l[l.length - 100 + k]? := by
  unfold kept
  rw [if_neg (nI_pos hk), nI_clamp hk]
theorem kept_out {α : Type} {l : List α} {k : Nat} (hk : k < 2 ^ 31) (h : 100 ≤ k ∨ l.length ≤ k) : kept l (nI k) = none := by
  rw [kept_nI hk]
  exact List.getElem?_eq_none (by omega)
theorem kept_in {α : Type} {l : List α} {k : Nat} (hk : k < 100) (h : k < l.length) : ∃ x, kept l (nI k) = some x ∧ l[l.length - 100 + k]? = some x := by
  obtain ⟨x, hx⟩ := get_lt (l := l) (i := l.length - 100 + k) (by omega)
  exact ⟨x, by rw [kept_nI (by omega), hx], hx⟩
theorem base100 {N : Nat} (h : N < 2 ^ 30) : (if (0 : Int32) < (nI N - (100 : Int32)) then (nI N - (100 : Int32)) else (0 : Int32)) = nI (N - 100) := by
  have e0 : (0 : Int32) = nI 0 := rfl
  have e100 : (100 : Int32) = nI 100 := rfl
  by_cases h1 : 100 ≤ N
  · rw [e100, pk_sub h1, e0]
    by_cases h2 : N = 100
    · subst h2
      exact if_neg (nI_nlt (Nat.le_refl _) (by omega))
    · exact if_pos (nI_lt (by omega) (by omega))
  · have hd : ∀ M : Nat, M < 100 → ¬ (0 : Int32) < nI M - 100 := by decide +kernel
    rw [if_neg (hd N (by omega)), show N - 100 = 0 by omega]
    rfl
theorem vX_holds_f {cap : Nat} {u : XS} {fs : List Fr} {a : Int32} {Post : Int32 → XS → Prop} (h : XFu u fs) (h1 : ∀ (k : Nat) (x : Fr), a = nI k → k < 100 → kept fs a = some x → fs[fs.length - 100 + k]? = some x → Post 1 u) (h0 : kept fs a = none → Post 0 u) : wp_X4_holds_f cap a u Post := by
  obtain ⟨f1, f2, f3⟩ := h
  unfold wp_X4_holds_f
  rw [f1]
  refine ⟨fun q => h0 (kept_neg q), fun q => ?_⟩
  obtain ⟨k, hk, rfl⟩ := nI_of q
  have e100 : (100 : Int32) = nI 100 := rfl
  rw [e100]
  refine ⟨fun q2 => h0 (kept_out hk (Or.inl ((nI_leI (by omega) hk).mp q2))), fun q2 => ⟨fun q3 => h0 (kept_out hk (Or.inr ((nI_leI (by omega) hk).mp q3))), fun q3 => ?_⟩⟩
  have k1 : k < 100 := by
    rcases Nat.lt_or_ge k 100 with z | z
    · exact z
    · exact absurd (nI_le z hk) q2
  have k2 : k < fs.length := by
    rcases Nat.lt_or_ge k fs.length with z | z
    · exact z
    · exact absurd (nI_le z hk) q3
  obtain ⟨x, hx, hx2⟩ := kept_in k1 k2
  exact h1 k x rfl k1 hx hx2
theorem vX_holds_l {cap : Nat} {u : XS} {fs : List Int32} {a : Int32} {Post : Int32 → XS → Prop} (h : XLu u fs) (h1 : ∀ (k : Nat) (x : Int32), a = nI k → k < 100 → kept fs a = some x → fs[fs.length - 100 + k]? = some x → Post 1 u) (h0 : kept fs a = none → Post 0 u) : wp_X4_holds_l cap a u Post := by
  obtain ⟨f1, f2, f3⟩ := h
  unfold wp_X4_holds_l
  rw [f1]
  refine ⟨fun q => h0 (kept_neg q), fun q => ?_⟩
  obtain ⟨k, hk, rfl⟩ := nI_of q
  have e100 : (100 : Int32) = nI 100 := rfl
  rw [e100]
  refine ⟨fun q2 => h0 (kept_out hk (Or.inl ((nI_leI (by omega) hk).mp q2))), fun q2 => ⟨fun q3 => h0 (kept_out hk (Or.inr ((nI_leI (by omega) hk).mp q3))), fun q3 => ?_⟩⟩
  have k1 : k < 100 := by
    rcases Nat.lt_or_ge k 100 with z | z
    · exact z
    · exact absurd (nI_le z hk) q2
  have k2 : k < fs.length := by
    rcases Nat.lt_or_ge k fs.length with z | z
    · exact z
    · exact absurd (nI_le z hk) q3
  obtain ⟨x, hx, hx2⟩ := kept_in k1 k2
  exact h1 k x rfl k1 hx hx2
theorem vX_slotOf_f {cap : Nat} {u : XS} {fs : List Fr} {k : Nat} {Post : Int32 → XS → Prop} (h : XFu u fs) (hk : k < 100) (hP : Post (nI ((fs.length - 100 + k) % 100)) u) : wp_X4_slotOf_f cap (nI k) u Post := by
  obtain ⟨f1, f2, f3⟩ := h
  unfold wp_X4_slotOf_f
  rw [f1, base100 f2, nI_add]
  exact sJ_floorMod (by omega) hP
theorem vX_slotOf_l {cap : Nat} {u : XS} {fs : List Int32} {k : Nat} {Post : Int32 → XS → Prop} (h : XLu u fs) (hk : k < 100) (hP : Post (nI ((fs.length - 100 + k) % 100)) u) : wp_X4_slotOf_l cap (nI k) u Post := by
  obtain ⟨f1, f2, f3⟩ := h
  unfold wp_X4_slotOf_l
  rw [f1, base100 f2, nI_add]
  exact sJ_floorMod (by omega) hP
def gTo (fs : List Fr) (a : Int32) : Int32 × Int64 := match kept fs a with
  | some f => (0, f.1)
  | none => (1, 0)
def fDa (f : Fr) : Int32 := match f.2 with
  | .inl d => d
  | .inr _ => -1
def gDat (fs : List Fr) (a : Int32) : Int32 × Int64 := match kept fs a with
  | some f => (0, i64 (fDa f))
  | none => (1, 0)
def gOut (fs : List Fr) (a b : Int32) : Int32 × Int64 := match kept fs a with
  | some f => (match f.2 with
    | .inl _ => (1, 0)
    | .inr bs => if b < 0 then (1, 0) else if b < 28 then (0, i64 (bs b.toNatClampNeg)) else (1, 0))
  | none => (1, 0)
def gLos (ls : List Int32) (a : Int32) : Int32 × Int64 := match kept ls a with
  | some x => (0, i64 x)
  | none => (1, 0)
theorem wL_to {cap : Nat} {u : XS} {c : Co} {tape : Nat → Int32} {n : Nat} {l : List En} {fs : List Fr} {ls : List Int32} {o : Nat → Int64} {a : Int32} {Post : Int32 → XS → Prop} (h : RX cap u c tape n l fs ls o) (hP : gK cap c tape n l fs ls Post (gTo fs a)) : wp_L_to cap a u Post := by
  unfold wp_L_to wp_X7_to
  unfold gTo at hP
  refine vX_holds_f h.2.2.2.1 (fun k x hak hk hx hx2 => ⟨fun _ => ?_, fun z => absurd z (by decide)⟩) (fun hn => ⟨fun z => absurd rfl z, fun _ => ⟨rfl, ?_⟩⟩)
  · rw [hx] at hP
    subst hak
    have hr := h.2.2.2.1.2.2 _ _ hx2 (by omega)
    refine vX_slotOf_f h.2.2.2.1 hk ?_
    rw [nI_clamp (by omega), hr.1]
    exact ⟨vp_in_nI (by omega) (by omega), gK.ok h hP⟩
  · rw [hn] at hP
    exact gK.bad h hP (by decide)
theorem wL_data {cap : Nat} {u : XS} {c : Co} {tape : Nat → Int32} {n : Nat} {l : List En} {fs : List Fr} {ls : List Int32} {o : Nat → Int64} {a : Int32} {Post : Int32 → XS → Prop} (h : RX cap u c tape n l fs ls o) (hP : gK cap c tape n l fs ls Post (gDat fs a)) : wp_L_data cap a u Post := by
  unfold wp_L_data wp_X7_data
  unfold gDat at hP
  refine vX_holds_f h.2.2.2.1 (fun k x hak hk hx hx2 => ⟨fun _ => ?_, fun z => absurd z (by decide)⟩) (fun hn => ⟨fun z => absurd rfl z, fun _ => ⟨rfl, ?_⟩⟩)
  · rw [hx] at hP
    subst hak
    have hr := h.2.2.2.1.2.2 _ _ hx2 (by omega)
    refine vX_slotOf_f h.2.2.2.1 hk ?_
    have hv : X_fn u ((fs.length - 100 + k) % 100) = fDa x := by
      rcases x with ⟨t, d | bs⟩
      · exact hr.2.1
      · exact hr.2.1
    rw [nI_clamp (by omega), hv]
    exact ⟨vp_in_nI (by omega) (by omega), gK.ok h hP⟩
  · rw [hn] at hP
    exact gK.bad h hP (by decide)
theorem wL_lost {cap : Nat} {u : XS} {c : Co} {tape : Nat → Int32} {n : Nat} {l : List En} {fs : List Fr} {ls : List Int32} {o : Nat → Int64} {a : Int32} {Post : Int32 → XS → Prop} (h : RX cap u c tape n l fs ls o) (hP : gK cap c tape n l fs ls Post (gLos ls a)) : wp_L_lost cap a u Post := by
  unfold wp_L_lost wp_X7_lost
  unfold gLos at hP
  refine vX_holds_l h.2.2.2.2.1 (fun k x hak hk hx hx2 => ⟨fun _ => ?_, fun z => absurd z (by decide)⟩) (fun hn => ⟨fun z => absurd rfl z, fun _ => ⟨rfl, ?_⟩⟩)
  · rw [hx] at hP
    subst hak
    have hr := h.2.2.2.2.1.2.2 _ _ hx2 (by omega)
    refine vX_slotOf_l h.2.2.2.2.1 hk ?_
    rw [nI_clamp (by omega), hr]
    exact ⟨vp_in_nI (by omega) (by omega), gK.ok h hP⟩
  · rw [hn] at hP
    exact gK.bad h hP (by decide)
theorem wL_out {cap : Nat} {u : XS} {c : Co} {tape : Nat → Int32} {n : Nat} {l : List En} {fs : List Fr} {ls : List Int32} {o : Nat → Int64} {a b : Int32} {Post : Int32 → XS → Prop} (h : RX cap u c tape n l fs ls o) (hP : gK cap c tape n l fs ls Post (gOut fs a b)) : wp_L_out cap a b u Post := by
  unfold wp_L_out wp_X7_out
  unfold gOut at hP
  refine vX_holds_f h.2.2.2.1 (fun k x hak hk hx hx2 => ⟨fun z => absurd z (by decide), fun _ => ?_⟩) (fun hn => ⟨fun _ => ⟨rfl, ?_⟩, fun z => absurd rfl z⟩)
  · rw [hx] at hP
    subst hak
    have hr := h.2.2.2.1.2.2 _ _ hx2 (by omega)
    unfold wp_X2_isPacket
    refine vX_slotOf_f h.2.2.2.1 hk ?_
    rw [nI_clamp (by omega)]
    refine ⟨vp_in_nI (by omega) (by omega), ?_⟩
    rcases x with ⟨t, d | bs⟩
    · rw [hr.2.2]
      exact ⟨rfl, fun _ => ⟨rfl, gK.bad h hP (by decide)⟩, fun z => absurd rfl z⟩
    · rw [hr.2.2.1]
      simp only at hP
      refine ⟨rfl, fun z => absurd z (by decide), fun _ => ⟨fun q => ⟨rfl, ?_⟩, fun q => ?_⟩⟩
      · rw [if_pos q] at hP
        exact gK.bad h hP (by decide)
      · rw [if_neg q] at hP
        refine ⟨fun q2 => ?_, fun q2 => ⟨rfl, ?_⟩⟩
        · rw [if_pos q2] at hP
          obtain ⟨j, hj, rfl⟩ := nI_of q
          have e28 : (28 : Int32) = nI 28 := rfl
          rw [e28] at q2
          have hj28 := (nI_ltI hj (by omega)).mp q2
          rw [nI_clamp hj] at hP
          unfold wp_X2_byteOf
          refine vX_slotOf_f h.2.2.2.1 hk ?_
          rw [e28, pk_mul, nI_add, nI_clamp (by omega), Nat.mul_comm, hr.2.2.2 j hj28]
          exact ⟨vp_in_nI (by omega) (by omega), gK.ok h hP⟩
        · rw [if_neg q2] at hP
          exact gK.bad h hP (by decide)
  · rw [hn] at hP
    exact gK.bad h hP (by decide)
/-! here, type, claim, release -/
def c_her (c : Co) (a : Int64) : Co := (a, c_time c, c_ph c, c_own c, c_cl c, c_df c, c_re c, c_ag c)
def c_clm (c : Co) (a : Int32) : Co := (c_here c, c_time c, 1, a, c_time c, -1, c_re c, c_ag c)
abbrev herBad (a : Int64) : Prop := a < 1 ∨ ¬ a < 281474976710655
abbrev clmBad (a : Int32) : Prop := a = 0 ∨ a = -1
theorem wL_here {cap : Nat} {u : XS} {c : Co} {tape : Nat → Int32} {n : Nat} {l : List En} {fs : List Fr} {ls : List Int32} {o : Nat → Int64} {a : Int64} {Post : Int32 → XS → Prop} (h : RX cap u c tape n l fs ls o) (h1 : herBad a → Post 1 u) (h2 : ¬ herBad a → ¬ c_ph c = 0 → Post 2 u) (hP : ¬ herBad a → c_ph c = 0 → ∀ u' : XS, RX cap u' (c_her c a) tape n l fs ls o → Post 0 u') : wp_L_here cap a u Post := by
  obtain ⟨g1, g2, g3, g4, g5, g6, g7, g8⟩ := core_all h.1
  unfold wp_L_here wp_X7_here
  rw [g3]
  refine ⟨fun q => Or.inl ⟨rfl, h1 (Or.inl q)⟩, fun q1 => ⟨fun q2 => ?_, fun q => Or.inl ⟨rfl, h1 (Or.inr q)⟩⟩⟩
  have nb : ¬ herBad a := fun z => z.elim q1 (fun z => z q2)
  refine ⟨fun q u4 h4 => hP nb q u4 ?_, fun q => Or.inr ⟨rfl, h2 nb q⟩⟩
  obtain ⟨a1, a2, a3, a4, a5, a6, a7, a8, a9, a10, a11, a12, a13⟩ := sX_here h4
  refine h.keepE ?_ a1 a2 a3 a4 a5
  unfold core c_her
  rw [a6, a7, a8, a9, a10, a11, a12, a13, g2, g3, g4, g5, g6, g7, g8]
theorem wL_type {cap : Nat} {u : XS} {c : Co} {tape : Nat → Int32} {n : Nat} {l : List En} {fs : List Fr} {ls : List Int32} {o : Nat → Int64} {w : Int64} {a : Int32} {Post : Int32 → XS → Prop} (h : RX cap u c tape n l fs ls o) (h1 : (a < 1 ∨ ¬ a ≤ 8) → Post 1 u) (h2 : ∀ m : Nat, 1 ≤ m → m ≤ 8 → a = nI m → 40 < n + m → Post 2 u) (hP : ∀ m : Nat, 1 ≤ m → m ≤ 8 → a = nI m → n + m ≤ 40 → ∀ (u' : XS) (o' : Nat → Int64), RX cap u' c (tyT tape n m w) (n + m) l fs ls o' → o' 0 = i64 (nI (n + m)) → Post 0 u') : wp_L_type cap w a u Post := by
  unfold wp_L_type wp_X7_type
  refine ⟨fun q => Or.inl ⟨rfl, h1 (Or.inl q)⟩, fun q1 => ⟨fun q2 => ?_, fun q => Or.inl ⟨rfl, h1 (Or.inr q)⟩⟩⟩
  have z1 : (1 : Int32).toInt = 1 := rfl
  have z8 : (8 : Int32).toInt = 8 := rfl
  have k1 : ¬ a.toInt < 1 := fun z => q1 (zi_lt.mpr (by rw [z1]; exact z))
  have k2 : a.toInt ≤ 8 := by have := zi_le.mp q2; rw [z8] at this; exact this
  obtain ⟨m, hm, rfl⟩ : ∃ m : Nat, m < 2 ^ 31 ∧ a = nI m := ⟨a.toInt.toNat, by omega, by apply zi_eq.mpr; rw [nI_toInt (by omega)]; omega⟩
  rw [nI_toInt hm] at k1 k2
  have hn : n ≤ 40 := h.2.1.2.1
  have e40 : (40 : Int32) = nI 40 := rfl
  unfold wp_X5_hasRoomFor
  rw [h.2.1.1, nI_add, e40]
  refine ⟨fun q => ⟨fun z => absurd rfl z, fun _ => Or.inr ⟨rfl, h2 m (by omega) (by omega) rfl ((nI_ltI (by omega) (by omega)).mp q)⟩⟩, fun q => ⟨fun _ => ?_, fun z => absurd z (by decide)⟩⟩
  have hnm : ¬ 40 < n + m := fun z => q (nI_lt z (by omega))
  refine vX_append h (by omega) (by omega) (fun u' hu he => ?_)
  rw [he]
  exact outX hu (fun u3 o3 h3 ho => hP m (by omega) (by omega) rfl (by omega) u3 o3 h3 ho)
theorem wL_claim {cap : Nat} {u : XS} {c : Co} {tape : Nat → Int32} {n : Nat} {l : List En} {fs : List Fr} {ls : List Int32} {o : Nat → Int64} {a : Int32} {Post : Int32 → XS → Prop} (h : RX cap u c tape n l fs ls o) (hb : fs.length + 1 < 2 ^ 30) (h1 : clmBad a → Post 1 u) (h2 : ¬ clmBad a → ¬ c_ph c = 0 → Post 2 u) (hP : ¬ clmBad a → c_ph c = 0 → ∀ u' : XS, RX cap u' (c_clm c a) tape n l (fs ++ [fReq c cALL 0 a]) ls o → Post 0 u') : wp_L_claim cap a u Post := by
  obtain ⟨g1, g2, g3, g4, g5, g6, g7, g8⟩ := core_all h.1
  unfold wp_L_claim wp_X7_claim
  rw [g3]
  refine ⟨fun q => Or.inl ⟨rfl, h1 (Or.inl q)⟩, fun q1 => ⟨fun q2 => ?_, fun q => Or.inl ⟨rfl, h1 (Or.inr q)⟩⟩⟩
  have nb : ¬ clmBad a := fun z => z.elim q1 q2
  refine ⟨fun q u4 h4 u6 h6 u8 h8 u10 h10 => ?_, fun q => Or.inr ⟨rfl, h2 nb q⟩⟩
  obtain ⟨a1, a2, a3, a4, a5, a6, a7, a8, a9, a10, a11, a12, a13⟩ := sX_own h4
  obtain ⟨b1, b2, b3, b4, b5, b6, b7, b8, b9, b10, b11, b12, b13⟩ := sX_phase h6
  obtain ⟨d1, d2, d3, d4, d5, d6, d7, d8, d9, d10, d11, d12, d13⟩ := sX_claimed h8
  obtain ⟨e1, e2, e3, e4, e5, e6, e7, e8, e9, e10, e11, e12, e13⟩ := sX_defended h10
  have hR : RX cap u10 (c_clm c a) tape n l fs ls o := by
    refine h.keepE ?_ (e1.trans (d1.trans (b1.trans a1))) (e2.trans (d2.trans (b2.trans a2))) (e3.trans (d3.trans (b3.trans a3))) (e4.trans (d4.trans (b4.trans a4))) (e5.trans (d5.trans (b5.trans a5)))
    unfold core c_clm
    rw [e6, e7, e8, e9, e10, e11, e12, e13, d6, d7, d8, d9, d10, d12, d13, b6, b7, b8, b9, b12, b13, a6, a7, a9, a12, a13, g1, g2, g7, g8]
  exact vX_probe hR hb (fun u13 h13 => hP nb q u13 h13)
theorem vX_release {cap : Nat} {u : XS} {c : Co} {tape : Nat → Int32} {n : Nat} {l : List En} {fs : List Fr} {ls : List Int32} {o : Nat → Int64} {Post : Int32 → XS → Prop} (h : RX cap u c tape n l fs ls o) (hbl : ls.length + 200 < 2 ^ 30) (hP : ∀ u' : XS, RX cap u' (c_up c) tape n [] fs (ls ++ l.flatMap n_wt) o → Post (if c_ph c = 0 then 0 else 1) u') : wp_X7_release cap u Post := by
  unfold wp_X7_release
  rw [(core_all h.1).2.2.1]
  refine ⟨fun q => vX_giveUp h hbl (fun u' hu => ?_), fun q => vX_giveUp h hbl (fun u' hu => ?_)⟩
  · have := hP u' hu
    rw [if_pos q] at this
    exact this
  · have := hP u' hu
    rw [if_neg q] at this
    exact this
theorem wL_send {cap : Nat} {u : XS} {c : Co} {tape : Nat → Int32} {n : Nat} {l : List En} {fs : List Fr} {ls : List Int32} {o : Nat → Int64} {a d : Int32} {Post : Int32 → XS → Prop} (h : RX cap u c tape n l fs ls o) (hcap : 1 ≤ cap) (hb : fs.length + 10 < 2 ^ 30) (hbl : ls.length + 10 < 2 ^ 30) (h1 : sndBad c a → Post 1 u) (h2 : ¬ sndBad c a → ¬ (2 : Int32) ≤ c_ph c → Post 2 u) (hP : ¬ sndBad c a → (2 : Int32) ≤ c_ph c → ∀ (u' : XS) (o' : Nat → Int64), RX cap u' c tape n (sndS cap c l fs ls a d).2.1 (sndS cap c l fs ls a d).2.2.1 (sndS cap c l fs ls a d).2.2.2 o' → o' 0 = i64 (sndS cap c l fs ls a d).1 → Post 0 u') : wp_L_send cap a d u Post := by
  unfold wp_L_send
  exact vX_send h hcap hb hbl (fun q => Or.inl ⟨rfl, h1 q⟩) (fun q1 q2 => Or.inr ⟨rfl, h2 q1 q2⟩) (fun q1 q2 u' hu => outX hu (fun u3 o3 h3 ho => hP q1 q2 u3 o3 h3 ho))
theorem wL_tick {cap : Nat} {u : XS} {c : Co} {tape : Nat → Int32} {n : Nat} {l : List En} {fs : List Fr} {ls : List Int32} {o : Nat → Int64} {a : Int32} {Post : Int32 → XS → Prop} (h : RX cap u c tape n l fs ls o) (hb : fs.length + 5000 < 2 ^ 30) (hbl : ls.length + 9000 < 2 ^ 30) (h1 : (a < 0 ∨ ¬ a ≤ 40) → Post 1 u) (hP : ∀ N : Nat, N ≤ 40 → a = nI N → ∀ (u' : XS) (o' : Nat → Int64), RX cap u' (stN N (c, l, fs, ls)).1 tape n (stN N (c, l, fs, ls)).2.1 (stN N (c, l, fs, ls)).2.2.1 (stN N (c, l, fs, ls)).2.2.2 o' → o' 0 = i64 (c_time (stN N (c, l, fs, ls)).1) → Post 0 u') : wp_L_tick cap a u Post := by
  unfold wp_L_tick
  exact vX_tick h hb hbl (fun q => ⟨rfl, h1 q⟩) (fun N hN ha u' hu => outX hu (fun u3 o3 h3 ho => hP N hN ha u3 o3 h3 ho))
