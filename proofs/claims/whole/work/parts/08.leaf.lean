/-! walks: the small classes -/
section XWK
variable {p : Program} {l : Launch} {e : Env} {R : Room} {s : State} {m : MethodId} {args : Array Value} {below : List Frame} {meth : Method} {c : Code} {G : va_G} {A : Nat → Prop} {nL : Nat} {Q : State → Prop} {cells slots : Nat} {K : Nat → ClassId} {cc : ByteArray} {own : String} {ret : Option FieldType} {pc n : Nat} {lv : List (Nat × Value)} {st : List Value} {L : Nat → Nat} {cap : Nat} {T ws : va_W}
def wp_J9_floorMod (a0 : Int32) (a1 : Int32) (Post : Int32 → Prop) : Prop :=
  ¬ a1 = 0 ∧ (((0 ≤ (a0 ^^^ a1) → Post (a0 - a0 / a1 * a1)) ∧ (¬ (0 ≤ (a0 ^^^ a1)) → (((a0 - a0 / a1 * a1) = 0 → Post (a0 - a0 / a1 * a1)) ∧ (¬ ((a0 - a0 / a1 * a1) = 0) → Post ((a0 - a0 / a1 * a1) + a1))))))
set_option maxHeartbeats 4000000 in
set_option maxRecDepth 20000 in
theorem c_J9_floorMod {a0 : Int32} {a1 : Int32} {Post : Int32 → Prop} (hw : wp_J9_floorMod a0 a1 Post) : xMet l yJ9_floorMod_7cf53 cJ9_floorMod_7cf53 3 (some .int) 0 0 0 0 G K [.int a0, .int a1] ws (fun v ws' => ∃ r : Int32, v = some (.int r) ∧ ws' = ws ∧ Post r) := by
  refine xMet.intro (lv := [(0, .int a0), (1, .int a1)]) (by decide +kernel) rfl (Nat.le_of_ble_eq_true rfl) rfl (fun p e s m args below meth c A C => ?_)
  unfold wp_J9_floorMod at hw
  refine x_iload_n C dJ9_floorMod_7cf53_0 rfl rfl 0 rfl ?_
  refine x_iload_n C dJ9_floorMod_7cf53_1 rfl rfl 1 rfl ?_
  obtain ⟨h1, hw⟩ := hw
  refine x_irem C dJ9_floorMod_7cf53_2 rfl h1 ?_
  refine x_istore_n C (lv' := [(2, .int (a0 - a0 / a1 * a1)), (0, .int a0), (1, .int a1)]) dJ9_floorMod_7cf53_3 rfl rfl (by decide) rfl ?_
  refine x_iload_n C dJ9_floorMod_7cf53_4 rfl rfl 1 rfl ?_
  refine x_iload_n C dJ9_floorMod_7cf53_5 rfl rfl 2 rfl ?_
  refine x_ixor C dJ9_floorMod_7cf53_6 rfl ?_
  refine x_if_ge C 18 dJ9_floorMod_7cf53_7 rfl (by decide) (fun c2 => ?_) (fun c2 => ?_)
  · have hw := hw.1 c2
    refine x_iload_n C dJ9_floorMod_7cf53_18 rfl rfl 0 rfl ?_
    exact x_iret C dJ9_floorMod_7cf53_19 rfl rfl ⟨_, rfl, rfl, hw⟩
  · have hw := hw.2 c2
    refine x_iload_n C dJ9_floorMod_7cf53_10 rfl rfl 0 rfl ?_
    refine x_if_eq C 18 dJ9_floorMod_7cf53_11 rfl (by decide) (fun c3 => ?_) (fun c3 => ?_)
    · have hw := hw.1 c3
      refine x_iload_n C dJ9_floorMod_7cf53_18 rfl rfl 0 rfl ?_
      exact x_iret C dJ9_floorMod_7cf53_19 rfl rfl ⟨_, rfl, rfl, hw⟩
    · have hw := hw.2 c3
      refine x_iload_n C dJ9_floorMod_7cf53_14 rfl rfl 0 rfl ?_
      refine x_iload_n C dJ9_floorMod_7cf53_15 rfl rfl 2 rfl ?_
      refine x_iadd C dJ9_floorMod_7cf53_16 rfl ?_
      exact x_iret C dJ9_floorMod_7cf53_17 rfl rfl ⟨_, rfl, rfl, hw⟩
set_option maxRecDepth 20000 in
theorem k_J9_floorMod (C : xCx p s m args meth c G K A nL cc own ret) {a0 : Int32} {a1 : Int32} {idx : Nat} {rest : List Value} {Post : Int32 → Prop} (hlink : Cond.methodLink own idx yJ9_floorMod_7cf53 ∈ gw_tbl) (hR : 0 + 1 ≤ R.frames ∧ 8 + (3 + 11) + 0 ≤ R.locals) (hf : cells ≤ R.cells ∧ slots ≤ R.slots) (hW : (rest.map fun v => v.category).sum ≤ 8) (hw : wp_J9_floorMod a0 a1 Post) (hdg : decode cc n = .ok (.invokestatic idx, 3)) (hp : pc = n) (kk : ∀ r : Int32, Post r → xV p l e R s m args below meth c G A nL Q cells slots ws (n + 3) lv (.int r :: rest)) : xV p l e R s m args below meth c G A nL Q cells slots ws pc lv (.int a1 :: .int a0 :: rest) :=
  x_callS C (As := [.int a0, .int a1]) (c_J9_floorMod hw) ⟨hlink, i_271, i_7, i_272⟩ (k := 2) (by decide +kernel) rfl hR hf hW rfl hdg hp (fun v ws' ⟨r, hv, hws, hPo⟩ _ => by subst hv; subst hws; exact kk r hPo)
def wp_X4_nextSlot_f (cap : Nat) (u : XS) (Post : Int32 → XS → Prop) : Prop :=
  wp_J9_floorMod (X_ft u) (100 : Int32) (fun r1 => (∀ (u3 : XS), u3 = Xs_ft u ((X_ft u) + (1 : Int32)) → Post r1 u3))
set_option maxHeartbeats 4000000 in
set_option maxRecDepth 20000 in
theorem c_X4_nextSlot_f {u : XS} {Post : Int32 → XS → Prop} (hw : wp_X4_nextSlot_f cap  u Post) : xMet l yX4_nextSlot cX4_nextSlot 2 (some .int) 1 22 0 0 G K [.ref (L 6)] (xw L K cap u T) (fun v ws' => ∃ (r : Int32) (u' : XS), v = some (.int r) ∧ ws' = (xw L K cap u' T) ∧ Post r u') := by
  refine xMet.intro (lv := [(0, .ref (L 6))]) (by decide) rfl (Nat.le_of_ble_eq_true rfl) rfl (fun p e s m args below meth c A C => ?_)
  unfold wp_X4_nextSlot_f at hw
  refine x_aload_n C dX4_nextSlot_0 rfl rfl 0 rfl ?_
  refine gX6_total C i_54 dX4_nextSlot_1 rfl ?_
  refine x_bipush C (v := (100 : Int32)) dX4_nextSlot_4 rfl (by decide) ?_
  refine k_J9_floorMod C i_270 ⟨Nat.le_of_ble_eq_true rfl, Nat.le_of_ble_eq_true rfl⟩ ⟨Nat.zero_le _, Nat.zero_le _⟩ (Nat.le_of_ble_eq_true rfl) hw dX4_nextSlot_6 rfl (fun r1 hw => ?_)
  refine x_istore_n C (lv' := [(1, .int r1), (0, .ref (L 6))]) dX4_nextSlot_9 rfl rfl (by decide) rfl ?_
  refine x_aload_n C dX4_nextSlot_10 rfl rfl 1 rfl ?_
  refine x_dup C dX4_nextSlot_11 rfl rfl ?_
  refine gX6_total C i_54 dX4_nextSlot_12 rfl ?_
  refine x_iconst C (v := (1 : Int32)) dX4_nextSlot_15 rfl (by decide) ?_
  refine x_iadd C dX4_nextSlot_16 rfl ?_
  refine pX6_total C i_54 dX4_nextSlot_17 rfl (fun u3 e4 => ?_)
  have hw := hw u3 e4
  refine x_iload_n C dX4_nextSlot_20 rfl rfl 0 rfl ?_
  exact x_iret C dX4_nextSlot_21 rfl (xw_same _ _) ⟨_, _, rfl, rfl, hw⟩
set_option maxRecDepth 20000 in
theorem k_X4_nextSlot_f (C : xCx p s m args meth c G K A nL cc own ret) {u : XS} {idx : Nat} {rest : List Value} {Post : Int32 → XS → Prop} (hlink : Cond.methodLink own idx yX4_nextSlot ∈ gw_tbl) (hR : 1 + 1 ≤ R.frames ∧ 8 + (2 + 11) + 22 ≤ R.locals) (hf : cells ≤ R.cells ∧ slots ≤ R.slots) (hW : (rest.map fun v => v.category).sum ≤ 8) (hw : wp_X4_nextSlot_f cap  u Post) (hdg : decode cc n = .ok (.invokevirtual idx, 3)) (hp : pc = n) (kk : ∀ (r : Int32) (u' : XS), Post r u' → xV p l e R s m args below meth c G A nL Q cells slots (xw L K cap u' T) (n + 3) lv (.int r :: rest)) : xV p l e R s m args below meth c G A nL Q cells slots (xw L K cap u T) pc lv (.ref (L 6) :: rest) :=
  x_callV C (As := []) (c_X4_nextSlot_f hw) ⟨hlink, i_267, i_268, i_4, i_269⟩ 6 rfl rfl rfl (k := 0) (by decide +kernel) rfl hR hf hW rfl hdg hp (fun v ws' ⟨r, u', hv, hws, hPo⟩ _ => by subst hv; subst hws; exact kk r u' hPo)
def wp_X4_nextSlot_l (cap : Nat) (u : XS) (Post : Int32 → XS → Prop) : Prop :=
  wp_J9_floorMod (X_lt u) (100 : Int32) (fun r1 => (∀ (u3 : XS), u3 = Xs_lt u ((X_lt u) + (1 : Int32)) → Post r1 u3))
set_option maxHeartbeats 4000000 in
set_option maxRecDepth 20000 in
theorem c_X4_nextSlot_l {u : XS} {Post : Int32 → XS → Prop} (hw : wp_X4_nextSlot_l cap  u Post) : xMet l yX4_nextSlot cX4_nextSlot 2 (some .int) 1 22 0 0 G K [.ref (L 12)] (xw L K cap u T) (fun v ws' => ∃ (r : Int32) (u' : XS), v = some (.int r) ∧ ws' = (xw L K cap u' T) ∧ Post r u') := by
  refine xMet.intro (lv := [(0, .ref (L 12))]) (by decide) rfl (Nat.le_of_ble_eq_true rfl) rfl (fun p e s m args below meth c A C => ?_)
  unfold wp_X4_nextSlot_l at hw
  refine x_aload_n C dX4_nextSlot_0 rfl rfl 0 rfl ?_
  refine gX12_total C i_54 dX4_nextSlot_1 rfl ?_
  refine x_bipush C (v := (100 : Int32)) dX4_nextSlot_4 rfl (by decide) ?_
  refine k_J9_floorMod C i_270 ⟨Nat.le_of_ble_eq_true rfl, Nat.le_of_ble_eq_true rfl⟩ ⟨Nat.zero_le _, Nat.zero_le _⟩ (Nat.le_of_ble_eq_true rfl) hw dX4_nextSlot_6 rfl (fun r1 hw => ?_)
  refine x_istore_n C (lv' := [(1, .int r1), (0, .ref (L 12))]) dX4_nextSlot_9 rfl rfl (by decide) rfl ?_
  refine x_aload_n C dX4_nextSlot_10 rfl rfl 1 rfl ?_
  refine x_dup C dX4_nextSlot_11 rfl rfl ?_
  refine gX12_total C i_54 dX4_nextSlot_12 rfl ?_
  refine x_iconst C (v := (1 : Int32)) dX4_nextSlot_15 rfl (by decide) ?_
  refine x_iadd C dX4_nextSlot_16 rfl ?_
  refine pX12_total C i_54 dX4_nextSlot_17 rfl (fun u3 e4 => ?_)
  have hw := hw u3 e4
  refine x_iload_n C dX4_nextSlot_20 rfl rfl 0 rfl ?_
  exact x_iret C dX4_nextSlot_21 rfl (xw_same _ _) ⟨_, _, rfl, rfl, hw⟩
set_option maxRecDepth 20000 in
theorem k_X4_nextSlot_l (C : xCx p s m args meth c G K A nL cc own ret) {u : XS} {idx : Nat} {rest : List Value} {Post : Int32 → XS → Prop} (hlink : Cond.methodLink own idx yX4_nextSlot ∈ gw_tbl) (hR : 1 + 1 ≤ R.frames ∧ 8 + (2 + 11) + 22 ≤ R.locals) (hf : cells ≤ R.cells ∧ slots ≤ R.slots) (hW : (rest.map fun v => v.category).sum ≤ 8) (hw : wp_X4_nextSlot_l cap  u Post) (hdg : decode cc n = .ok (.invokevirtual idx, 3)) (hp : pc = n) (kk : ∀ (r : Int32) (u' : XS), Post r u' → xV p l e R s m args below meth c G A nL Q cells slots (xw L K cap u' T) (n + 3) lv (.int r :: rest)) : xV p l e R s m args below meth c G A nL Q cells slots (xw L K cap u T) pc lv (.ref (L 12) :: rest) :=
  x_callV C (As := []) (c_X4_nextSlot_l hw) ⟨hlink, i_267, i_268, i_4, i_269⟩ 12 rfl rfl rfl (k := 0) (by decide +kernel) rfl hR hf hW rfl hdg hp (fun v ws' ⟨r, u', hv, hws, hPo⟩ _ => by subst hv; subst hws; exact kk r u' hPo)
def wp_X4_holds_f (cap : Nat) (a1 : Int32) (u : XS) (Post : Int32 → XS → Prop) : Prop :=
  ((a1 < 0 → Post (0 : Int32) u) ∧ (¬ (a1 < 0) → (((100 : Int32) ≤ a1 → Post (0 : Int32) u) ∧ (¬ ((100 : Int32) ≤ a1) → (((X_ft u) ≤ a1 → Post (0 : Int32) u) ∧ (¬ ((X_ft u) ≤ a1) → Post (1 : Int32) u))))))
set_option maxHeartbeats 4000000 in
set_option maxRecDepth 20000 in
theorem c_X4_holds_f {a1 : Int32} {u : XS} {Post : Int32 → XS → Prop} (hw : wp_X4_holds_f cap a1 u Post) : xMet l yX4_holds cX4_holds 2 (some .boolean) 0 0 0 0 G K [.ref (L 6), .int a1] (xw L K cap u T) (fun v ws' => ∃ (r : Int32) (u' : XS), v = some (.int r) ∧ ws' = (xw L K cap u' T) ∧ Post r u') := by
  refine xMet.intro (lv := [(0, .ref (L 6)), (1, .int a1)]) (by decide) rfl (Nat.le_of_ble_eq_true rfl) rfl (fun p e s m args below meth c A C => ?_)
  unfold wp_X4_holds_f at hw
  refine x_iload_n C dX4_holds_0 rfl rfl 1 rfl ?_
  refine x_if_lt C 22 dX4_holds_1 rfl (by decide) (fun c1 => ?_) (fun c1 => ?_)
  · have hw := hw.1 c1
    refine x_iconst C (v := (0 : Int32)) dX4_holds_22 rfl (by decide) ?_
    exact x_zret C dX4_holds_23 rfl rfl (xw_same _ _) ⟨_, _, rfl, rfl, hw⟩
  · have hw := hw.2 c1
    refine x_iload_n C dX4_holds_4 rfl rfl 1 rfl ?_
    refine x_bipush C (v := (100 : Int32)) dX4_holds_5 rfl (by decide) ?_
    refine x_icmp_ge C 22 dX4_holds_7 rfl (by decide) (fun c2 => ?_) (fun c2 => ?_)
    · have hw := hw.1 c2
      refine x_iconst C (v := (0 : Int32)) dX4_holds_22 rfl (by decide) ?_
      exact x_zret C dX4_holds_23 rfl rfl (xw_same _ _) ⟨_, _, rfl, rfl, hw⟩
    · have hw := hw.2 c2
      refine x_iload_n C dX4_holds_10 rfl rfl 1 rfl ?_
      refine x_aload_n C dX4_holds_11 rfl rfl 0 rfl ?_
      refine gX6_total C i_54 dX4_holds_12 rfl ?_
      refine x_icmp_ge C 22 dX4_holds_15 rfl (by decide) (fun c3 => ?_) (fun c3 => ?_)
      · have hw := hw.1 c3
        refine x_iconst C (v := (0 : Int32)) dX4_holds_22 rfl (by decide) ?_
        exact x_zret C dX4_holds_23 rfl rfl (xw_same _ _) ⟨_, _, rfl, rfl, hw⟩
      · have hw := hw.2 c3
        refine x_iconst C (v := (1 : Int32)) dX4_holds_18 rfl (by decide) ?_
        refine x_goto C (tgt := 23) dX4_holds_19 rfl (by decide) ?_
        exact x_zret C dX4_holds_23 rfl rfl (xw_same _ _) ⟨_, _, rfl, rfl, hw⟩
set_option maxRecDepth 20000 in
theorem k_X4_holds_f (C : xCx p s m args meth c G K A nL cc own ret) {a1 : Int32} {u : XS} {idx : Nat} {rest : List Value} {Post : Int32 → XS → Prop} (hlink : Cond.methodLink own idx yX4_holds ∈ gw_tbl) (hR : 0 + 1 ≤ R.frames ∧ 8 + (2 + 11) + 0 ≤ R.locals) (hf : cells ≤ R.cells ∧ slots ≤ R.slots) (hW : (rest.map fun v => v.category).sum ≤ 8) (hw : wp_X4_holds_f cap a1 u Post) (hdg : decode cc n = .ok (.invokevirtual idx, 3)) (hp : pc = n) (kk : ∀ (r : Int32) (u' : XS), Post r u' → xV p l e R s m args below meth c G A nL Q cells slots (xw L K cap u' T) (n + 3) lv (.int r :: rest)) : xV p l e R s m args below meth c G A nL Q cells slots (xw L K cap u T) pc lv (.int a1 :: .ref (L 6) :: rest) :=
  x_callV C (As := [.int a1]) (c_X4_holds_f hw) ⟨hlink, i_575, i_576, i_4, i_577⟩ 6 rfl rfl rfl (k := 1) (by decide +kernel) rfl hR hf hW rfl hdg hp (fun v ws' ⟨r, u', hv, hws, hPo⟩ _ => by subst hv; subst hws; exact kk r u' hPo)
def wp_X4_holds_l (cap : Nat) (a1 : Int32) (u : XS) (Post : Int32 → XS → Prop) : Prop :=
  ((a1 < 0 → Post (0 : Int32) u) ∧ (¬ (a1 < 0) → (((100 : Int32) ≤ a1 → Post (0 : Int32) u) ∧ (¬ ((100 : Int32) ≤ a1) → (((X_lt u) ≤ a1 → Post (0 : Int32) u) ∧ (¬ ((X_lt u) ≤ a1) → Post (1 : Int32) u))))))
set_option maxHeartbeats 4000000 in
set_option maxRecDepth 20000 in
theorem c_X4_holds_l {a1 : Int32} {u : XS} {Post : Int32 → XS → Prop} (hw : wp_X4_holds_l cap a1 u Post) : xMet l yX4_holds cX4_holds 2 (some .boolean) 0 0 0 0 G K [.ref (L 12), .int a1] (xw L K cap u T) (fun v ws' => ∃ (r : Int32) (u' : XS), v = some (.int r) ∧ ws' = (xw L K cap u' T) ∧ Post r u') := by
  refine xMet.intro (lv := [(0, .ref (L 12)), (1, .int a1)]) (by decide) rfl (Nat.le_of_ble_eq_true rfl) rfl (fun p e s m args below meth c A C => ?_)
  unfold wp_X4_holds_l at hw
  refine x_iload_n C dX4_holds_0 rfl rfl 1 rfl ?_
  refine x_if_lt C 22 dX4_holds_1 rfl (by decide) (fun c1 => ?_) (fun c1 => ?_)
  · have hw := hw.1 c1
    refine x_iconst C (v := (0 : Int32)) dX4_holds_22 rfl (by decide) ?_
    exact x_zret C dX4_holds_23 rfl rfl (xw_same _ _) ⟨_, _, rfl, rfl, hw⟩
  · have hw := hw.2 c1
    refine x_iload_n C dX4_holds_4 rfl rfl 1 rfl ?_
    refine x_bipush C (v := (100 : Int32)) dX4_holds_5 rfl (by decide) ?_
    refine x_icmp_ge C 22 dX4_holds_7 rfl (by decide) (fun c2 => ?_) (fun c2 => ?_)
    · have hw := hw.1 c2
      refine x_iconst C (v := (0 : Int32)) dX4_holds_22 rfl (by decide) ?_
      exact x_zret C dX4_holds_23 rfl rfl (xw_same _ _) ⟨_, _, rfl, rfl, hw⟩
    · have hw := hw.2 c2
      refine x_iload_n C dX4_holds_10 rfl rfl 1 rfl ?_
      refine x_aload_n C dX4_holds_11 rfl rfl 0 rfl ?_
      refine gX12_total C i_54 dX4_holds_12 rfl ?_
      refine x_icmp_ge C 22 dX4_holds_15 rfl (by decide) (fun c3 => ?_) (fun c3 => ?_)
      · have hw := hw.1 c3
        refine x_iconst C (v := (0 : Int32)) dX4_holds_22 rfl (by decide) ?_
        exact x_zret C dX4_holds_23 rfl rfl (xw_same _ _) ⟨_, _, rfl, rfl, hw⟩
      · have hw := hw.2 c3
        refine x_iconst C (v := (1 : Int32)) dX4_holds_18 rfl (by decide) ?_
        refine x_goto C (tgt := 23) dX4_holds_19 rfl (by decide) ?_
        exact x_zret C dX4_holds_23 rfl rfl (xw_same _ _) ⟨_, _, rfl, rfl, hw⟩
set_option maxRecDepth 20000 in
theorem k_X4_holds_l (C : xCx p s m args meth c G K A nL cc own ret) {a1 : Int32} {u : XS} {idx : Nat} {rest : List Value} {Post : Int32 → XS → Prop} (hlink : Cond.methodLink own idx yX4_holds ∈ gw_tbl) (hR : 0 + 1 ≤ R.frames ∧ 8 + (2 + 11) + 0 ≤ R.locals) (hf : cells ≤ R.cells ∧ slots ≤ R.slots) (hW : (rest.map fun v => v.category).sum ≤ 8) (hw : wp_X4_holds_l cap a1 u Post) (hdg : decode cc n = .ok (.invokevirtual idx, 3)) (hp : pc = n) (kk : ∀ (r : Int32) (u' : XS), Post r u' → xV p l e R s m args below meth c G A nL Q cells slots (xw L K cap u' T) (n + 3) lv (.int r :: rest)) : xV p l e R s m args below meth c G A nL Q cells slots (xw L K cap u T) pc lv (.int a1 :: .ref (L 12) :: rest) :=
  x_callV C (As := [.int a1]) (c_X4_holds_l hw) ⟨hlink, i_575, i_576, i_4, i_577⟩ 12 rfl rfl rfl (k := 1) (by decide +kernel) rfl hR hf hW rfl hdg hp (fun v ws' ⟨r, u', hv, hws, hPo⟩ _ => by subst hv; subst hws; exact kk r u' hPo)
def wp_X4_slotOf_f (cap : Nat) (a1 : Int32) (u : XS) (Post : Int32 → XS → Prop) : Prop :=
  wp_J9_floorMod ((if (0 : Int32) < ((X_ft u) - (100 : Int32)) then ((X_ft u) - (100 : Int32)) else (0 : Int32)) + a1) (100 : Int32) (fun r1 => Post r1 u)
set_option maxHeartbeats 4000000 in
set_option maxRecDepth 20000 in
theorem c_X4_slotOf_f {a1 : Int32} {u : XS} {Post : Int32 → XS → Prop} (hw : wp_X4_slotOf_f cap a1 u Post) : xMet l yX4_slotOf cX4_slotOf 2 (some .int) 1 30 0 0 G K [.ref (L 6), .int a1] (xw L K cap u T) (fun v ws' => ∃ (r : Int32) (u' : XS), v = some (.int r) ∧ ws' = (xw L K cap u' T) ∧ Post r u') := by
  refine xMet.intro (lv := [(0, .ref (L 6)), (1, .int a1)]) (by decide) rfl (Nat.le_of_ble_eq_true rfl) rfl (fun p e s m args below meth c A C => ?_)
  unfold wp_X4_slotOf_f at hw
  refine x_iconst C (v := (0 : Int32)) dX4_slotOf_0 rfl (by decide) ?_
  refine x_aload_n C dX4_slotOf_1 rfl rfl 0 rfl ?_
  refine gX6_total C i_54 dX4_slotOf_2 rfl ?_
  refine x_bipush C (v := (100 : Int32)) dX4_slotOf_5 rfl (by decide) ?_
  refine x_isub C dX4_slotOf_7 rfl ?_
  refine x_max C ⟨i_582, i_105, i_7, i_106⟩ ⟨Nat.le_of_ble_eq_true rfl, Nat.le_of_ble_eq_true rfl⟩ ⟨Nat.zero_le _, Nat.zero_le _⟩ dX4_slotOf_8 rfl ?_
  refine x_iload_n C dX4_slotOf_11 rfl rfl 1 rfl ?_
  refine x_iadd C dX4_slotOf_12 rfl ?_
  refine x_bipush C (v := (100 : Int32)) dX4_slotOf_13 rfl (by decide) ?_
  refine k_J9_floorMod C i_270 ⟨Nat.le_of_ble_eq_true rfl, Nat.le_of_ble_eq_true rfl⟩ ⟨Nat.zero_le _, Nat.zero_le _⟩ (Nat.le_of_ble_eq_true rfl) hw dX4_slotOf_15 rfl (fun r1 hw => ?_)
  exact x_iret C dX4_slotOf_18 rfl (xw_same _ _) ⟨_, _, rfl, rfl, hw⟩
set_option maxRecDepth 20000 in
theorem k_X4_slotOf_f (C : xCx p s m args meth c G K A nL cc own ret) {a1 : Int32} {u : XS} {idx : Nat} {rest : List Value} {Post : Int32 → XS → Prop} (hlink : Cond.methodLink own idx yX4_slotOf ∈ gw_tbl) (hR : 1 + 1 ≤ R.frames ∧ 8 + (2 + 11) + 30 ≤ R.locals) (hf : cells ≤ R.cells ∧ slots ≤ R.slots) (hW : (rest.map fun v => v.category).sum ≤ 8) (hw : wp_X4_slotOf_f cap a1 u Post) (hdg : decode cc n = .ok (.invokevirtual idx, 3)) (hp : pc = n) (kk : ∀ (r : Int32) (u' : XS), Post r u' → xV p l e R s m args below meth c G A nL Q cells slots (xw L K cap u' T) (n + 3) lv (.int r :: rest)) : xV p l e R s m args below meth c G A nL Q cells slots (xw L K cap u T) pc lv (.int a1 :: .ref (L 6) :: rest) :=
  x_callV C (As := [.int a1]) (c_X4_slotOf_f hw) ⟨hlink, i_579, i_580, i_4, i_581⟩ 6 rfl rfl rfl (k := 1) (by decide +kernel) rfl hR hf hW rfl hdg hp (fun v ws' ⟨r, u', hv, hws, hPo⟩ _ => by subst hv; subst hws; exact kk r u' hPo)
def wp_X4_slotOf_l (cap : Nat) (a1 : Int32) (u : XS) (Post : Int32 → XS → Prop) : Prop :=
  wp_J9_floorMod ((if (0 : Int32) < ((X_lt u) - (100 : Int32)) then ((X_lt u) - (100 : Int32)) else (0 : Int32)) + a1) (100 : Int32) (fun r1 => Post r1 u)
set_option maxHeartbeats 4000000 in
set_option maxRecDepth 20000 in
theorem c_X4_slotOf_l {a1 : Int32} {u : XS} {Post : Int32 → XS → Prop} (hw : wp_X4_slotOf_l cap a1 u Post) : xMet l yX4_slotOf cX4_slotOf 2 (some .int) 1 30 0 0 G K [.ref (L 12), .int a1] (xw L K cap u T) (fun v ws' => ∃ (r : Int32) (u' : XS), v = some (.int r) ∧ ws' = (xw L K cap u' T) ∧ Post r u') := by
  refine xMet.intro (lv := [(0, .ref (L 12)), (1, .int a1)]) (by decide) rfl (Nat.le_of_ble_eq_true rfl) rfl (fun p e s m args below meth c A C => ?_)
  unfold wp_X4_slotOf_l at hw
  refine x_iconst C (v := (0 : Int32)) dX4_slotOf_0 rfl (by decide) ?_
  refine x_aload_n C dX4_slotOf_1 rfl rfl 0 rfl ?_
  refine gX12_total C i_54 dX4_slotOf_2 rfl ?_
  refine x_bipush C (v := (100 : Int32)) dX4_slotOf_5 rfl (by decide) ?_
  refine x_isub C dX4_slotOf_7 rfl ?_
  refine x_max C ⟨i_582, i_105, i_7, i_106⟩ ⟨Nat.le_of_ble_eq_true rfl, Nat.le_of_ble_eq_true rfl⟩ ⟨Nat.zero_le _, Nat.zero_le _⟩ dX4_slotOf_8 rfl ?_
  refine x_iload_n C dX4_slotOf_11 rfl rfl 1 rfl ?_
  refine x_iadd C dX4_slotOf_12 rfl ?_
  refine x_bipush C (v := (100 : Int32)) dX4_slotOf_13 rfl (by decide) ?_
  refine k_J9_floorMod C i_270 ⟨Nat.le_of_ble_eq_true rfl, Nat.le_of_ble_eq_true rfl⟩ ⟨Nat.zero_le _, Nat.zero_le _⟩ (Nat.le_of_ble_eq_true rfl) hw dX4_slotOf_15 rfl (fun r1 hw => ?_)
  exact x_iret C dX4_slotOf_18 rfl (xw_same _ _) ⟨_, _, rfl, rfl, hw⟩
set_option maxRecDepth 20000 in
theorem k_X4_slotOf_l (C : xCx p s m args meth c G K A nL cc own ret) {a1 : Int32} {u : XS} {idx : Nat} {rest : List Value} {Post : Int32 → XS → Prop} (hlink : Cond.methodLink own idx yX4_slotOf ∈ gw_tbl) (hR : 1 + 1 ≤ R.frames ∧ 8 + (2 + 11) + 30 ≤ R.locals) (hf : cells ≤ R.cells ∧ slots ≤ R.slots) (hW : (rest.map fun v => v.category).sum ≤ 8) (hw : wp_X4_slotOf_l cap a1 u Post) (hdg : decode cc n = .ok (.invokevirtual idx, 3)) (hp : pc = n) (kk : ∀ (r : Int32) (u' : XS), Post r u' → xV p l e R s m args below meth c G A nL Q cells slots (xw L K cap u' T) (n + 3) lv (.int r :: rest)) : xV p l e R s m args below meth c G A nL Q cells slots (xw L K cap u T) pc lv (.int a1 :: .ref (L 12) :: rest) :=
  x_callV C (As := [.int a1]) (c_X4_slotOf_l hw) ⟨hlink, i_579, i_580, i_4, i_581⟩ 12 rfl rfl rfl (k := 1) (by decide +kernel) rfl hR hf hW rfl hdg hp (fun v ws' ⟨r, u', hv, hws, hPo⟩ _ => by subst hv; subst hws; exact kk r u' hPo)
def lb_X6_write_t_8 (cap : Nat) (Post : XS → Prop) (Ks : Int32 → Int64 → Int32 → XS → Prop) (x1 : Int32) (x5 : Int64) (x7 : Int32) (u : XS) : Prop :=
  ((x7 < 0 → Post u) ∧ (¬ (x7 < 0) → vp_in (x1 + x7) 40 ∧ ((∀ (u3 : XS), u3 = Xs_tb u (upd (X_tb u) (Int32.toNatClampNeg (x1 + x7)) (vp_nar .byte (Int8.toInt32 (Int32.toInt8 (Int64.toInt32 x5))))) → Ks x1 (x5 >>> (Int32.toInt64 (8 : Int32) &&& 63)) (x7 + (-1)) u3))))
def lp_X6_write_t_8 (cap : Nat) (Post : XS → Prop) : Nat → Int32 → Int64 → Int32 → XS → Prop
  | 0 => fun _ _ _ _ => False
  | f + 1 => fun x1 x5 x7 u => lb_X6_write_t_8 cap Post (lp_X6_write_t_8 cap Post f) x1 x5 x7 u
set_option maxHeartbeats 4000000 in
set_option maxRecDepth 20000 in
theorem t_X6_write_t_8 (C : xCx p s m args meth c G K A 8 cX6_write RX6 none) {u0 : XS} {Post : XS → Prop} : ∀ (f : Nat) (x1 : Int32) (x5 : Int64) (x7 : Int32) (u : XS) , lp_X6_write_t_8 cap  Post f x1 x5 x7 u → xV p l e (xRm 0 0 0 0) s m args below meth c G A 8 (xQ G A (xw L K cap u0 T) (fun v ws' => ∃ u' : XS, v = none ∧ ws' = (xw L K cap u' T) ∧ Post u') below args s 0 0) 0 0 (xw L K cap u T) 8 [(0, .ref (L 4)), (1, .int x1), (5, .long x5), (7, .int x7)] [] := by
  intro f
  induction f with
  | zero => intro x1 x5 x7 u hw; exact hw.elim
  | succ f ih =>
    intro x1 x5 x7 u hw
    have hw : lb_X6_write_t_8 cap  Post (lp_X6_write_t_8 cap  Post f) x1 x5 x7 u := hw
    unfold lb_X6_write_t_8 at hw
    refine x_iload C dX6_write_8 rfl 3 rfl ?_
    refine x_if_lt C 36 dX6_write_10 rfl (by decide) (fun c1 => ?_) (fun c1 => ?_)
    · have hw := hw.1 c1
      exact x_vret C dX6_write_36 rfl (xw_same _ _) ⟨_, rfl, rfl, hw⟩
    · have hw := hw.2 c1
      refine x_aload_n C dX6_write_13 rfl rfl 0 rfl ?_
      refine x_iload_n C dX6_write_14 rfl rfl 1 rfl ?_
      refine x_iload C dX6_write_15 rfl 3 rfl ?_
      refine x_iadd C dX6_write_17 rfl ?_
      refine x_lload C dX6_write_18 rfl 2 rfl ?_
      refine x_l2i C dX6_write_20 rfl ?_
      refine x_i2b C dX6_write_21 rfl ?_
      obtain ⟨h2, hw⟩ := hw
      refine pX4_at C h2 dX6_write_22 rfl (fun u3 e4 => ?_)
      have hw := hw u3 e4
      refine x_lload C dX6_write_23 rfl 2 rfl ?_
      refine x_bipush C (v := (8 : Int32)) dX6_write_25 rfl (by decide) ?_
      refine x_lshr C dX6_write_27 rfl ?_
      refine x_lstore C (lv' := [(5, .long (x5 >>> (Int32.toInt64 (8 : Int32) &&& 63))), (0, .ref (L 4)), (1, .int x1), (7, .int x7)]) dX6_write_28 rfl (by decide) rfl ?_
      refine x_iinc C (k := 3) (v := x7 + (-1)) (lv' := [(7, .int (x7 + (-1))), (5, .long (x5 >>> (Int32.toInt64 (8 : Int32) &&& 63))), (0, .ref (L 4)), (1, .int x1)]) dX6_write_30 rfl rfl rfl (by decide) rfl ?_
      refine x_goto C (tgt := 8) dX6_write_33 rfl (by decide) ?_
      refine x_lv [2, 3, 1, 0] rfl ?_
      exact ih x1 (x5 >>> (Int32.toInt64 (8 : Int32) &&& 63)) (x7 + (-1)) u3 hw
def wp_X6_write_t (cap : Nat) (a1 : Int32) (a2 : Int32) (a3 : Int64) (u : XS) (Post : XS → Prop) : Prop :=
  ∃ f9 : Nat, lp_X6_write_t_8 cap Post f9 a1 a3 (a2 - (1 : Int32)) u
set_option maxHeartbeats 4000000 in
set_option maxRecDepth 20000 in
theorem c_X6_write_t {a1 : Int32} {a2 : Int32} {a3 : Int64} {u : XS} {Post : XS → Prop} (hw : wp_X6_write_t cap a1 a2 a3 u Post) : xMet l yX6_write cX6_write 8 none 0 0 0 0 G K [.ref (L 4), .int a1, .int a2, .long a3] (xw L K cap u T) (fun v ws' => ∃ u' : XS, v = none ∧ ws' = (xw L K cap u' T) ∧ Post u') := by
  refine xMet.intro (lv := [(0, .ref (L 4)), (1, .int a1), (2, .int a2), (3, .long a3)]) (by decide) rfl (Nat.le_of_ble_eq_true rfl) rfl (fun p e s m args below meth c A C => ?_)
  unfold wp_X6_write_t at hw
  refine x_lload_n C dX6_write_0 rfl rfl 3 rfl ?_
  refine x_lstore C (lv' := [(5, .long a3), (0, .ref (L 4)), (1, .int a1), (2, .int a2), (3, .long a3)]) dX6_write_1 rfl (by decide) rfl ?_
  refine x_iload_n C dX6_write_3 rfl rfl 3 rfl ?_
  refine x_iconst C (v := (1 : Int32)) dX6_write_4 rfl (by decide) ?_
  refine x_isub C dX6_write_5 rfl ?_
  refine x_istore C (lv' := [(7, .int (a2 - (1 : Int32))), (5, .long a3), (0, .ref (L 4)), (1, .int a1), (2, .int a2), (3, .long a3)]) dX6_write_6 rfl (by decide) rfl ?_
  refine x_lv [2, 3, 1, 0] rfl ?_
  obtain ⟨f9, hw⟩ := hw
  exact t_X6_write_t_8 C f9 a1 a3 (a2 - (1 : Int32)) u hw
set_option maxRecDepth 20000 in
theorem k_X6_write_t (C : xCx p s m args meth c G K A nL cc own ret) {a1 : Int32} {a2 : Int32} {a3 : Int64} {u : XS} {idx : Nat} {rest : List Value} {Post : XS → Prop} (hlink : Cond.methodLink own idx yX6_write ∈ gw_tbl) (hR : 0 + 1 ≤ R.frames ∧ 8 + (8 + 11) + 0 ≤ R.locals) (hf : cells ≤ R.cells ∧ slots ≤ R.slots) (hW : (rest.map fun v => v.category).sum ≤ 8) (hw : wp_X6_write_t cap a1 a2 a3 u Post) (hdg : decode cc n = .ok (.invokestatic idx, 3)) (hp : pc = n) (kk : ∀ u' : XS, Post u' → xV p l e R s m args below meth c G A nL Q cells slots (xw L K cap u' T) (n + 3) lv rest) : xV p l e R s m args below meth c G A nL Q cells slots (xw L K cap u T) pc lv (.long a3 :: .int a2 :: .int a1 :: .ref (L 4) :: rest) :=
  x_callS C (As := [.ref (L 4), .int a1, .int a2, .long a3]) (c_X6_write_t hw) ⟨hlink, i_207, i_15, i_208⟩ (k := 4) (by decide +kernel) rfl hR hf hW rfl hdg hp (fun v ws' ⟨u', hv, hws, hPo⟩ _ => by subst hv; subst hws; exact kk u' hPo)
def lb_X6_write_f_8 (cap : Nat) (Post : XS → Prop) (Ks : Int32 → Int64 → Int32 → XS → Prop) (x1 : Int32) (x5 : Int64) (x7 : Int32) (u : XS) : Prop :=
  ((x7 < 0 → Post u) ∧ (¬ (x7 < 0) → vp_in (x1 + x7) 2800 ∧ ((∀ (u3 : XS), u3 = Xs_fb u (upd (X_fb u) (Int32.toNatClampNeg (x1 + x7)) (vp_nar .byte (Int8.toInt32 (Int32.toInt8 (Int64.toInt32 x5))))) → Ks x1 (x5 >>> (Int32.toInt64 (8 : Int32) &&& 63)) (x7 + (-1)) u3))))
def lp_X6_write_f_8 (cap : Nat) (Post : XS → Prop) : Nat → Int32 → Int64 → Int32 → XS → Prop
  | 0 => fun _ _ _ _ => False
  | f + 1 => fun x1 x5 x7 u => lb_X6_write_f_8 cap Post (lp_X6_write_f_8 cap Post f) x1 x5 x7 u
set_option maxHeartbeats 4000000 in
set_option maxRecDepth 20000 in
theorem t_X6_write_f_8 (C : xCx p s m args meth c G K A 8 cX6_write RX6 none) {u0 : XS} {Post : XS → Prop} : ∀ (f : Nat) (x1 : Int32) (x5 : Int64) (x7 : Int32) (u : XS) , lp_X6_write_f_8 cap  Post f x1 x5 x7 u → xV p l e (xRm 0 0 0 0) s m args below meth c G A 8 (xQ G A (xw L K cap u0 T) (fun v ws' => ∃ u' : XS, v = none ∧ ws' = (xw L K cap u' T) ∧ Post u') below args s 0 0) 0 0 (xw L K cap u T) 8 [(0, .ref (L 10)), (1, .int x1), (5, .long x5), (7, .int x7)] [] := by
  intro f
  induction f with
  | zero => intro x1 x5 x7 u hw; exact hw.elim
  | succ f ih =>
    intro x1 x5 x7 u hw
    have hw : lb_X6_write_f_8 cap  Post (lp_X6_write_f_8 cap  Post f) x1 x5 x7 u := hw
    unfold lb_X6_write_f_8 at hw
    refine x_iload C dX6_write_8 rfl 3 rfl ?_
    refine x_if_lt C 36 dX6_write_10 rfl (by decide) (fun c1 => ?_) (fun c1 => ?_)
    · have hw := hw.1 c1
      exact x_vret C dX6_write_36 rfl (xw_same _ _) ⟨_, rfl, rfl, hw⟩
    · have hw := hw.2 c1
      refine x_aload_n C dX6_write_13 rfl rfl 0 rfl ?_
      refine x_iload_n C dX6_write_14 rfl rfl 1 rfl ?_
      refine x_iload C dX6_write_15 rfl 3 rfl ?_
      refine x_iadd C dX6_write_17 rfl ?_
      refine x_lload C dX6_write_18 rfl 2 rfl ?_
      refine x_l2i C dX6_write_20 rfl ?_
      refine x_i2b C dX6_write_21 rfl ?_
      obtain ⟨h2, hw⟩ := hw
      refine pX10_at C h2 dX6_write_22 rfl (fun u3 e4 => ?_)
      have hw := hw u3 e4
      refine x_lload C dX6_write_23 rfl 2 rfl ?_
      refine x_bipush C (v := (8 : Int32)) dX6_write_25 rfl (by decide) ?_
      refine x_lshr C dX6_write_27 rfl ?_
      refine x_lstore C (lv' := [(5, .long (x5 >>> (Int32.toInt64 (8 : Int32) &&& 63))), (0, .ref (L 10)), (1, .int x1), (7, .int x7)]) dX6_write_28 rfl (by decide) rfl ?_
      refine x_iinc C (k := 3) (v := x7 + (-1)) (lv' := [(7, .int (x7 + (-1))), (5, .long (x5 >>> (Int32.toInt64 (8 : Int32) &&& 63))), (0, .ref (L 10)), (1, .int x1)]) dX6_write_30 rfl rfl rfl (by decide) rfl ?_
      refine x_goto C (tgt := 8) dX6_write_33 rfl (by decide) ?_
      refine x_lv [2, 3, 1, 0] rfl ?_
      exact ih x1 (x5 >>> (Int32.toInt64 (8 : Int32) &&& 63)) (x7 + (-1)) u3 hw
def wp_X6_write_f (cap : Nat) (a1 : Int32) (a2 : Int32) (a3 : Int64) (u : XS) (Post : XS → Prop) : Prop :=
  ∃ f9 : Nat, lp_X6_write_f_8 cap Post f9 a1 a3 (a2 - (1 : Int32)) u
set_option maxHeartbeats 4000000 in
set_option maxRecDepth 20000 in
theorem c_X6_write_f {a1 : Int32} {a2 : Int32} {a3 : Int64} {u : XS} {Post : XS → Prop} (hw : wp_X6_write_f cap a1 a2 a3 u Post) : xMet l yX6_write cX6_write 8 none 0 0 0 0 G K [.ref (L 10), .int a1, .int a2, .long a3] (xw L K cap u T) (fun v ws' => ∃ u' : XS, v = none ∧ ws' = (xw L K cap u' T) ∧ Post u') := by
  refine xMet.intro (lv := [(0, .ref (L 10)), (1, .int a1), (2, .int a2), (3, .long a3)]) (by decide) rfl (Nat.le_of_ble_eq_true rfl) rfl (fun p e s m args below meth c A C => ?_)
  unfold wp_X6_write_f at hw
  refine x_lload_n C dX6_write_0 rfl rfl 3 rfl ?_
  refine x_lstore C (lv' := [(5, .long a3), (0, .ref (L 10)), (1, .int a1), (2, .int a2), (3, .long a3)]) dX6_write_1 rfl (by decide) rfl ?_
  refine x_iload_n C dX6_write_3 rfl rfl 3 rfl ?_
  refine x_iconst C (v := (1 : Int32)) dX6_write_4 rfl (by decide) ?_
  refine x_isub C dX6_write_5 rfl ?_
  refine x_istore C (lv' := [(7, .int (a2 - (1 : Int32))), (5, .long a3), (0, .ref (L 10)), (1, .int a1), (2, .int a2), (3, .long a3)]) dX6_write_6 rfl (by decide) rfl ?_
  refine x_lv [2, 3, 1, 0] rfl ?_
  obtain ⟨f9, hw⟩ := hw
  exact t_X6_write_f_8 C f9 a1 a3 (a2 - (1 : Int32)) u hw
set_option maxRecDepth 20000 in
theorem k_X6_write_f (C : xCx p s m args meth c G K A nL cc own ret) {a1 : Int32} {a2 : Int32} {a3 : Int64} {u : XS} {idx : Nat} {rest : List Value} {Post : XS → Prop} (hlink : Cond.methodLink own idx yX6_write ∈ gw_tbl) (hR : 0 + 1 ≤ R.frames ∧ 8 + (8 + 11) + 0 ≤ R.locals) (hf : cells ≤ R.cells ∧ slots ≤ R.slots) (hW : (rest.map fun v => v.category).sum ≤ 8) (hw : wp_X6_write_f cap a1 a2 a3 u Post) (hdg : decode cc n = .ok (.invokestatic idx, 3)) (hp : pc = n) (kk : ∀ u' : XS, Post u' → xV p l e R s m args below meth c G A nL Q cells slots (xw L K cap u' T) (n + 3) lv rest) : xV p l e R s m args below meth c G A nL Q cells slots (xw L K cap u T) pc lv (.long a3 :: .int a2 :: .int a1 :: .ref (L 10) :: rest) :=
  x_callS C (As := [.ref (L 10), .int a1, .int a2, .long a3]) (c_X6_write_f hw) ⟨hlink, i_207, i_15, i_208⟩ (k := 4) (by decide +kernel) rfl hR hf hW rfl hdg hp (fun v ws' ⟨u', hv, hws, hPo⟩ _ => by subst hv; subst hws; exact kk u' hPo)
def wp_X6_writePacket_t (cap : Nat) (a1 : Int32) (a2 : Int32) (a3 : Int64) (a5 : Int32) (a6 : Int64) (a8 : Int32) (u : XS) (Post : XS → Prop) : Prop :=
  wp_X6_write_t cap a1 (6 : Int32) (4429186564 : Int64) u (fun u2 => wp_X6_write_t cap (a1 + (6 : Int32)) (2 : Int32) (Int32.toInt64 a2) u2 (fun u4 => wp_X6_write_t cap (a1 + (8 : Int32)) (6 : Int32) a3 u4 (fun u6 => wp_X6_write_t cap (a1 + (14 : Int32)) (4 : Int32) (Int32.toInt64 a5) u6 (fun u8 => wp_X6_write_t cap (a1 + (18 : Int32)) (6 : Int32) a6 u8 (fun u10 => wp_X6_write_t cap (a1 + (24 : Int32)) (4 : Int32) (Int32.toInt64 a8) u10 (fun u12 => Post u12))))))
set_option maxHeartbeats 4000000 in
set_option maxRecDepth 20000 in
theorem c_X6_writePacket_t {a1 : Int32} {a2 : Int32} {a3 : Int64} {a5 : Int32} {a6 : Int64} {a8 : Int32} {u : XS} {Post : XS → Prop} (hw : wp_X6_writePacket_t cap a1 a2 a3 a5 a6 a8 u Post) : xMet l yX6_writePacket cX6_writePacket 9 none 1 27 0 0 G K [.ref (L 4), .int a1, .int a2, .long a3, .int a5, .long a6, .int a8] (xw L K cap u T) (fun v ws' => ∃ u' : XS, v = none ∧ ws' = (xw L K cap u' T) ∧ Post u') := by
  refine xMet.intro (lv := [(0, .ref (L 4)), (1, .int a1), (2, .int a2), (3, .long a3), (5, .int a5), (6, .long a6), (8, .int a8)]) (by decide) rfl (Nat.le_of_ble_eq_true rfl) rfl (fun p e s m args below meth c A C => ?_)
  unfold wp_X6_writePacket_t at hw
  refine x_aload_n C dX6_writePacket_0 rfl rfl 0 rfl ?_
  refine x_iload_n C dX6_writePacket_1 rfl rfl 1 rfl ?_
  refine x_bipush C (v := (6 : Int32)) dX6_writePacket_2 rfl (by decide) ?_
  refine x_ldc2 C dX6_writePacket_4 rfl i_205 ?_
  refine k_X6_write_t C i_206 ⟨Nat.le_of_ble_eq_true rfl, Nat.le_of_ble_eq_true rfl⟩ ⟨Nat.zero_le _, Nat.zero_le _⟩ (Nat.le_of_ble_eq_true rfl) hw dX6_writePacket_7 rfl (fun u2 hw => ?_)
  refine x_aload_n C dX6_writePacket_10 rfl rfl 0 rfl ?_
  refine x_iload_n C dX6_writePacket_11 rfl rfl 1 rfl ?_
  refine x_bipush C (v := (6 : Int32)) dX6_writePacket_12 rfl (by decide) ?_
  refine x_iadd C dX6_writePacket_14 rfl ?_
  refine x_iconst C (v := (2 : Int32)) dX6_writePacket_15 rfl (by decide) ?_
  refine x_iload_n C dX6_writePacket_16 rfl rfl 2 rfl ?_
  refine x_i2l C dX6_writePacket_17 rfl ?_
  refine k_X6_write_t C i_206 ⟨Nat.le_of_ble_eq_true rfl, Nat.le_of_ble_eq_true rfl⟩ ⟨Nat.zero_le _, Nat.zero_le _⟩ (Nat.le_of_ble_eq_true rfl) hw dX6_writePacket_18 rfl (fun u4 hw => ?_)
  refine x_aload_n C dX6_writePacket_21 rfl rfl 0 rfl ?_
  refine x_iload_n C dX6_writePacket_22 rfl rfl 1 rfl ?_
  refine x_bipush C (v := (8 : Int32)) dX6_writePacket_23 rfl (by decide) ?_
  refine x_iadd C dX6_writePacket_25 rfl ?_
  refine x_bipush C (v := (6 : Int32)) dX6_writePacket_26 rfl (by decide) ?_
  refine x_lload_n C dX6_writePacket_28 rfl rfl 3 rfl ?_
  refine k_X6_write_t C i_206 ⟨Nat.le_of_ble_eq_true rfl, Nat.le_of_ble_eq_true rfl⟩ ⟨Nat.zero_le _, Nat.zero_le _⟩ (Nat.le_of_ble_eq_true rfl) hw dX6_writePacket_29 rfl (fun u6 hw => ?_)
  refine x_aload_n C dX6_writePacket_32 rfl rfl 0 rfl ?_
  refine x_iload_n C dX6_writePacket_33 rfl rfl 1 rfl ?_
  refine x_bipush C (v := (14 : Int32)) dX6_writePacket_34 rfl (by decide) ?_
  refine x_iadd C dX6_writePacket_36 rfl ?_
  refine x_iconst C (v := (4 : Int32)) dX6_writePacket_37 rfl (by decide) ?_
  refine x_iload C dX6_writePacket_38 rfl 4 rfl ?_
  refine x_i2l C dX6_writePacket_40 rfl ?_
  refine k_X6_write_t C i_206 ⟨Nat.le_of_ble_eq_true rfl, Nat.le_of_ble_eq_true rfl⟩ ⟨Nat.zero_le _, Nat.zero_le _⟩ (Nat.le_of_ble_eq_true rfl) hw dX6_writePacket_41 rfl (fun u8 hw => ?_)
  refine x_aload_n C dX6_writePacket_44 rfl rfl 0 rfl ?_
  refine x_iload_n C dX6_writePacket_45 rfl rfl 1 rfl ?_
  refine x_bipush C (v := (18 : Int32)) dX6_writePacket_46 rfl (by decide) ?_
  refine x_iadd C dX6_writePacket_48 rfl ?_
  refine x_bipush C (v := (6 : Int32)) dX6_writePacket_49 rfl (by decide) ?_
  refine x_lload C dX6_writePacket_51 rfl 5 rfl ?_
  refine k_X6_write_t C i_206 ⟨Nat.le_of_ble_eq_true rfl, Nat.le_of_ble_eq_true rfl⟩ ⟨Nat.zero_le _, Nat.zero_le _⟩ (Nat.le_of_ble_eq_true rfl) hw dX6_writePacket_53 rfl (fun u10 hw => ?_)
  refine x_aload_n C dX6_writePacket_56 rfl rfl 0 rfl ?_
  refine x_iload_n C dX6_writePacket_57 rfl rfl 1 rfl ?_
  refine x_bipush C (v := (24 : Int32)) dX6_writePacket_58 rfl (by decide) ?_
  refine x_iadd C dX6_writePacket_60 rfl ?_
  refine x_iconst C (v := (4 : Int32)) dX6_writePacket_61 rfl (by decide) ?_
  refine x_iload C dX6_writePacket_62 rfl 6 rfl ?_
  refine x_i2l C dX6_writePacket_64 rfl ?_
  refine k_X6_write_t C i_206 ⟨Nat.le_of_ble_eq_true rfl, Nat.le_of_ble_eq_true rfl⟩ ⟨Nat.zero_le _, Nat.zero_le _⟩ (Nat.le_of_ble_eq_true rfl) hw dX6_writePacket_65 rfl (fun u12 hw => ?_)
  exact x_vret C dX6_writePacket_68 rfl (xw_same _ _) ⟨_, rfl, rfl, hw⟩
set_option maxRecDepth 20000 in
theorem k_X6_writePacket_t (C : xCx p s m args meth c G K A nL cc own ret) {a1 : Int32} {a2 : Int32} {a3 : Int64} {a5 : Int32} {a6 : Int64} {a8 : Int32} {u : XS} {idx : Nat} {rest : List Value} {Post : XS → Prop} (hlink : Cond.methodLink own idx yX6_writePacket ∈ gw_tbl) (hR : 1 + 1 ≤ R.frames ∧ 8 + (9 + 11) + 27 ≤ R.locals) (hf : cells ≤ R.cells ∧ slots ≤ R.slots) (hW : (rest.map fun v => v.category).sum ≤ 8) (hw : wp_X6_writePacket_t cap a1 a2 a3 a5 a6 a8 u Post) (hdg : decode cc n = .ok (.invokestatic idx, 3)) (hp : pc = n) (kk : ∀ u' : XS, Post u' → xV p l e R s m args below meth c G A nL Q cells slots (xw L K cap u' T) (n + 3) lv rest) : xV p l e R s m args below meth c G A nL Q cells slots (xw L K cap u T) pc lv (.int a8 :: .long a6 :: .int a5 :: .long a3 :: .int a2 :: .int a1 :: .ref (L 4) :: rest) :=
  x_callS C (As := [.ref (L 4), .int a1, .int a2, .long a3, .int a5, .long a6, .int a8]) (c_X6_writePacket_t hw) ⟨hlink, i_203, i_15, i_204⟩ (k := 7) (by decide +kernel) rfl hR hf hW rfl hdg hp (fun v ws' ⟨u', hv, hws, hPo⟩ _ => by subst hv; subst hws; exact kk u' hPo)
def wp_X6_writePacket_f (cap : Nat) (a1 : Int32) (a2 : Int32) (a3 : Int64) (a5 : Int32) (a6 : Int64) (a8 : Int32) (u : XS) (Post : XS → Prop) : Prop :=
  wp_X6_write_f cap a1 (6 : Int32) (4429186564 : Int64) u (fun u2 => wp_X6_write_f cap (a1 + (6 : Int32)) (2 : Int32) (Int32.toInt64 a2) u2 (fun u4 => wp_X6_write_f cap (a1 + (8 : Int32)) (6 : Int32) a3 u4 (fun u6 => wp_X6_write_f cap (a1 + (14 : Int32)) (4 : Int32) (Int32.toInt64 a5) u6 (fun u8 => wp_X6_write_f cap (a1 + (18 : Int32)) (6 : Int32) a6 u8 (fun u10 => wp_X6_write_f cap (a1 + (24 : Int32)) (4 : Int32) (Int32.toInt64 a8) u10 (fun u12 => Post u12))))))
set_option maxHeartbeats 4000000 in
set_option maxRecDepth 20000 in
theorem c_X6_writePacket_f {a1 : Int32} {a2 : Int32} {a3 : Int64} {a5 : Int32} {a6 : Int64} {a8 : Int32} {u : XS} {Post : XS → Prop} (hw : wp_X6_writePacket_f cap a1 a2 a3 a5 a6 a8 u Post) : xMet l yX6_writePacket cX6_writePacket 9 none 1 27 0 0 G K [.ref (L 10), .int a1, .int a2, .long a3, .int a5, .long a6, .int a8] (xw L K cap u T) (fun v ws' => ∃ u' : XS, v = none ∧ ws' = (xw L K cap u' T) ∧ Post u') := by
  refine xMet.intro (lv := [(0, .ref (L 10)), (1, .int a1), (2, .int a2), (3, .long a3), (5, .int a5), (6, .long a6), (8, .int a8)]) (by decide) rfl (Nat.le_of_ble_eq_true rfl) rfl (fun p e s m args below meth c A C => ?_)
  unfold wp_X6_writePacket_f at hw
  refine x_aload_n C dX6_writePacket_0 rfl rfl 0 rfl ?_
  refine x_iload_n C dX6_writePacket_1 rfl rfl 1 rfl ?_
  refine x_bipush C (v := (6 : Int32)) dX6_writePacket_2 rfl (by decide) ?_
  refine x_ldc2 C dX6_writePacket_4 rfl i_205 ?_
  refine k_X6_write_f C i_206 ⟨Nat.le_of_ble_eq_true rfl, Nat.le_of_ble_eq_true rfl⟩ ⟨Nat.zero_le _, Nat.zero_le _⟩ (Nat.le_of_ble_eq_true rfl) hw dX6_writePacket_7 rfl (fun u2 hw => ?_)
  refine x_aload_n C dX6_writePacket_10 rfl rfl 0 rfl ?_
  refine x_iload_n C dX6_writePacket_11 rfl rfl 1 rfl ?_
  refine x_bipush C (v := (6 : Int32)) dX6_writePacket_12 rfl (by decide) ?_
  refine x_iadd C dX6_writePacket_14 rfl ?_
  refine x_iconst C (v := (2 : Int32)) dX6_writePacket_15 rfl (by decide) ?_
  refine x_iload_n C dX6_writePacket_16 rfl rfl 2 rfl ?_
  refine x_i2l C dX6_writePacket_17 rfl ?_
  refine k_X6_write_f C i_206 ⟨Nat.le_of_ble_eq_true rfl, Nat.le_of_ble_eq_true rfl⟩ ⟨Nat.zero_le _, Nat.zero_le _⟩ (Nat.le_of_ble_eq_true rfl) hw dX6_writePacket_18 rfl (fun u4 hw => ?_)
  refine x_aload_n C dX6_writePacket_21 rfl rfl 0 rfl ?_
  refine x_iload_n C dX6_writePacket_22 rfl rfl 1 rfl ?_
  refine x_bipush C (v := (8 : Int32)) dX6_writePacket_23 rfl (by decide) ?_
  refine x_iadd C dX6_writePacket_25 rfl ?_
  refine x_bipush C (v := (6 : Int32)) dX6_writePacket_26 rfl (by decide) ?_
  refine x_lload_n C dX6_writePacket_28 rfl rfl 3 rfl ?_
  refine k_X6_write_f C i_206 ⟨Nat.le_of_ble_eq_true rfl, Nat.le_of_ble_eq_true rfl⟩ ⟨Nat.zero_le _, Nat.zero_le _⟩ (Nat.le_of_ble_eq_true rfl) hw dX6_writePacket_29 rfl (fun u6 hw => ?_)
  refine x_aload_n C dX6_writePacket_32 rfl rfl 0 rfl ?_
  refine x_iload_n C dX6_writePacket_33 rfl rfl 1 rfl ?_
  refine x_bipush C (v := (14 : Int32)) dX6_writePacket_34 rfl (by decide) ?_
  refine x_iadd C dX6_writePacket_36 rfl ?_
  refine x_iconst C (v := (4 : Int32)) dX6_writePacket_37 rfl (by decide) ?_
  refine x_iload C dX6_writePacket_38 rfl 4 rfl ?_
  refine x_i2l C dX6_writePacket_40 rfl ?_
  refine k_X6_write_f C i_206 ⟨Nat.le_of_ble_eq_true rfl, Nat.le_of_ble_eq_true rfl⟩ ⟨Nat.zero_le _, Nat.zero_le _⟩ (Nat.le_of_ble_eq_true rfl) hw dX6_writePacket_41 rfl (fun u8 hw => ?_)
  refine x_aload_n C dX6_writePacket_44 rfl rfl 0 rfl ?_
  refine x_iload_n C dX6_writePacket_45 rfl rfl 1 rfl ?_
  refine x_bipush C (v := (18 : Int32)) dX6_writePacket_46 rfl (by decide) ?_
  refine x_iadd C dX6_writePacket_48 rfl ?_
  refine x_bipush C (v := (6 : Int32)) dX6_writePacket_49 rfl (by decide) ?_
  refine x_lload C dX6_writePacket_51 rfl 5 rfl ?_
  refine k_X6_write_f C i_206 ⟨Nat.le_of_ble_eq_true rfl, Nat.le_of_ble_eq_true rfl⟩ ⟨Nat.zero_le _, Nat.zero_le _⟩ (Nat.le_of_ble_eq_true rfl) hw dX6_writePacket_53 rfl (fun u10 hw => ?_)
  refine x_aload_n C dX6_writePacket_56 rfl rfl 0 rfl ?_
  refine x_iload_n C dX6_writePacket_57 rfl rfl 1 rfl ?_
  refine x_bipush C (v := (24 : Int32)) dX6_writePacket_58 rfl (by decide) ?_
  refine x_iadd C dX6_writePacket_60 rfl ?_
  refine x_iconst C (v := (4 : Int32)) dX6_writePacket_61 rfl (by decide) ?_
  refine x_iload C dX6_writePacket_62 rfl 6 rfl ?_
  refine x_i2l C dX6_writePacket_64 rfl ?_
  refine k_X6_write_f C i_206 ⟨Nat.le_of_ble_eq_true rfl, Nat.le_of_ble_eq_true rfl⟩ ⟨Nat.zero_le _, Nat.zero_le _⟩ (Nat.le_of_ble_eq_true rfl) hw dX6_writePacket_65 rfl (fun u12 hw => ?_)
  exact x_vret C dX6_writePacket_68 rfl (xw_same _ _) ⟨_, rfl, rfl, hw⟩
set_option maxRecDepth 20000 in
theorem k_X6_writePacket_f (C : xCx p s m args meth c G K A nL cc own ret) {a1 : Int32} {a2 : Int32} {a3 : Int64} {a5 : Int32} {a6 : Int64} {a8 : Int32} {u : XS} {idx : Nat} {rest : List Value} {Post : XS → Prop} (hlink : Cond.methodLink own idx yX6_writePacket ∈ gw_tbl) (hR : 1 + 1 ≤ R.frames ∧ 8 + (9 + 11) + 27 ≤ R.locals) (hf : cells ≤ R.cells ∧ slots ≤ R.slots) (hW : (rest.map fun v => v.category).sum ≤ 8) (hw : wp_X6_writePacket_f cap a1 a2 a3 a5 a6 a8 u Post) (hdg : decode cc n = .ok (.invokestatic idx, 3)) (hp : pc = n) (kk : ∀ u' : XS, Post u' → xV p l e R s m args below meth c G A nL Q cells slots (xw L K cap u' T) (n + 3) lv rest) : xV p l e R s m args below meth c G A nL Q cells slots (xw L K cap u T) pc lv (.int a8 :: .long a6 :: .int a5 :: .long a3 :: .int a2 :: .int a1 :: .ref (L 10) :: rest) :=
  x_callS C (As := [.ref (L 10), .int a1, .int a2, .long a3, .int a5, .long a6, .int a8]) (c_X6_writePacket_f hw) ⟨hlink, i_203, i_15, i_204⟩ (k := 7) (by decide +kernel) rfl hR hf hW rfl hdg hp (fun v ws' ⟨u', hv, hws, hPo⟩ _ => by subst hv; subst hws; exact kk u' hPo)
def lb_X6_read_5 (cap : Nat) (Post : Int64 → XS → Prop) (Ks : Int32 → Int32 → Int64 → Int32 → XS → Prop) (x1 : Int32) (x2 : Int32) (x3 : Int64) (x5 : Int32) (u : XS) : Prop :=
  ((x2 ≤ x5 → Post x3 u) ∧ (¬ (x2 ≤ x5) → vp_in (x1 + x5) 40 ∧ (Ks x1 x2 ((x3 <<< (Int32.toInt64 (8 : Int32) &&& 63)) ||| (Int32.toInt64 ((X_tb u (Int32.toNatClampNeg (x1 + x5))) &&& (255 : Int32)))) (x5 + 1) u)))
def lp_X6_read_5 (cap : Nat) (Post : Int64 → XS → Prop) : Nat → Int32 → Int32 → Int64 → Int32 → XS → Prop
  | 0 => fun _ _ _ _ _ => False
  | f + 1 => fun x1 x2 x3 x5 u => lb_X6_read_5 cap Post (lp_X6_read_5 cap Post f) x1 x2 x3 x5 u
set_option maxHeartbeats 4000000 in
set_option maxRecDepth 20000 in
theorem t_X6_read_5 (C : xCx p s m args meth c G K A 6 cX6_read RX6 (some .long)) {u0 : XS} {Post : Int64 → XS → Prop} : ∀ (f : Nat) (x1 : Int32) (x2 : Int32) (x3 : Int64) (x5 : Int32) (u : XS) , lp_X6_read_5 cap  Post f x1 x2 x3 x5 u → xV p l e (xRm 0 0 0 0) s m args below meth c G A 6 (xQ G A (xw L K cap u0 T) (fun v ws' => ∃ (r : Int64) (u' : XS), v = some (.long r) ∧ ws' = (xw L K cap u' T) ∧ Post r u') below args s 0 0) 0 0 (xw L K cap u T) 5 [(0, .ref (L 4)), (1, .int x1), (2, .int x2), (3, .long x3), (5, .int x5)] [] := by
  intro f
  induction f with
  | zero => intro x1 x2 x3 x5 u hw; exact hw.elim
  | succ f ih =>
    intro x1 x2 x3 x5 u hw
    have hw : lb_X6_read_5 cap  Post (lp_X6_read_5 cap  Post f) x1 x2 x3 x5 u := hw
    unfold lb_X6_read_5 at hw
    refine x_iload C dX6_read_5 rfl 4 rfl ?_
    refine x_iload_n C dX6_read_7 rfl rfl 2 rfl ?_
    refine x_icmp_ge C 34 dX6_read_8 rfl (by decide) (fun c1 => ?_) (fun c1 => ?_)
    · have hw := hw.1 c1
      refine x_lload_n C dX6_read_34 rfl rfl 3 rfl ?_
      exact x_lret C dX6_read_35 rfl (xw_same _ _) ⟨_, _, rfl, rfl, hw⟩
    · have hw := hw.2 c1
      refine x_lload_n C dX6_read_11 rfl rfl 3 rfl ?_
      refine x_bipush C (v := (8 : Int32)) dX6_read_12 rfl (by decide) ?_
      refine x_lshl C dX6_read_14 rfl ?_
      refine x_aload_n C dX6_read_15 rfl rfl 0 rfl ?_
      refine x_iload_n C dX6_read_16 rfl rfl 1 rfl ?_
      refine x_iload C dX6_read_17 rfl 4 rfl ?_
      refine x_iadd C dX6_read_19 rfl ?_
      obtain ⟨h2, hw⟩ := hw
      refine gX4_at C h2 dX6_read_20 rfl ?_
      refine x_sipush C (v := (255 : Int32)) dX6_read_21 rfl (by decide) ?_
      refine x_iand C dX6_read_24 rfl ?_
      refine x_i2l C dX6_read_25 rfl ?_
      refine x_lor C dX6_read_26 rfl ?_
      refine x_lstore_n C (lv' := [(3, .long ((x3 <<< (Int32.toInt64 (8 : Int32) &&& 63)) ||| (Int32.toInt64 ((X_tb u (Int32.toNatClampNeg (x1 + x5))) &&& (255 : Int32))))), (0, .ref (L 4)), (1, .int x1), (2, .int x2), (5, .int x5)]) dX6_read_27 rfl rfl (by decide) rfl ?_
      refine x_iinc C (k := 4) (v := x5 + 1) (lv' := [(5, .int (x5 + 1)), (3, .long ((x3 <<< (Int32.toInt64 (8 : Int32) &&& 63)) ||| (Int32.toInt64 ((X_tb u (Int32.toNatClampNeg (x1 + x5))) &&& (255 : Int32))))), (0, .ref (L 4)), (1, .int x1), (2, .int x2)]) dX6_read_28 rfl rfl rfl (by decide) rfl ?_
      refine x_goto C (tgt := 5) dX6_read_31 rfl (by decide) ?_
      refine x_lv [2, 3, 4, 1, 0] rfl ?_
      exact ih x1 x2 ((x3 <<< (Int32.toInt64 (8 : Int32) &&& 63)) ||| (Int32.toInt64 ((X_tb u (Int32.toNatClampNeg (x1 + x5))) &&& (255 : Int32)))) (x5 + 1) u hw
def wp_X6_read (cap : Nat) (a1 : Int32) (a2 : Int32) (u : XS) (Post : Int64 → XS → Prop) : Prop :=
  ∃ f9 : Nat, lp_X6_read_5 cap Post f9 a1 a2 (0 : Int64) (0 : Int32) u
set_option maxHeartbeats 4000000 in
set_option maxRecDepth 20000 in
theorem c_X6_read {a1 : Int32} {a2 : Int32} {u : XS} {Post : Int64 → XS → Prop} (hw : wp_X6_read cap a1 a2 u Post) : xMet l yX6_read cX6_read 6 (some .long) 0 0 0 0 G K [.ref (L 4), .int a1, .int a2] (xw L K cap u T) (fun v ws' => ∃ (r : Int64) (u' : XS), v = some (.long r) ∧ ws' = (xw L K cap u' T) ∧ Post r u') := by
  refine xMet.intro (lv := [(0, .ref (L 4)), (1, .int a1), (2, .int a2)]) (by decide) rfl (Nat.le_of_ble_eq_true rfl) rfl (fun p e s m args below meth c A C => ?_)
  unfold wp_X6_read at hw
  refine x_lconst C (v := (0 : Int64)) dX6_read_0 rfl (by decide) ?_
  refine x_lstore_n C (lv' := [(3, .long (0 : Int64)), (0, .ref (L 4)), (1, .int a1), (2, .int a2)]) dX6_read_1 rfl rfl (by decide) rfl ?_
  refine x_iconst C (v := (0 : Int32)) dX6_read_2 rfl (by decide) ?_
  refine x_istore C (lv' := [(5, .int (0 : Int32)), (3, .long (0 : Int64)), (0, .ref (L 4)), (1, .int a1), (2, .int a2)]) dX6_read_3 rfl (by decide) rfl ?_
  refine x_lv [2, 3, 4, 1, 0] rfl ?_
  obtain ⟨f9, hw⟩ := hw
  exact t_X6_read_5 C f9 a1 a2 (0 : Int64) (0 : Int32) u hw
set_option maxRecDepth 20000 in
theorem k_X6_read (C : xCx p s m args meth c G K A nL cc own ret) {a1 : Int32} {a2 : Int32} {u : XS} {idx : Nat} {rest : List Value} {Post : Int64 → XS → Prop} (hlink : Cond.methodLink own idx yX6_read ∈ gw_tbl) (hR : 0 + 1 ≤ R.frames ∧ 8 + (6 + 11) + 0 ≤ R.locals) (hf : cells ≤ R.cells ∧ slots ≤ R.slots) (hW : (rest.map fun v => v.category).sum ≤ 8) (hw : wp_X6_read cap a1 a2 u Post) (hdg : decode cc n = .ok (.invokestatic idx, 3)) (hp : pc = n) (kk : ∀ (r : Int64) (u' : XS), Post r u' → xV p l e R s m args below meth c G A nL Q cells slots (xw L K cap u' T) (n + 3) lv (.long r :: rest)) : xV p l e R s m args below meth c G A nL Q cells slots (xw L K cap u T) pc lv (.int a2 :: .int a1 :: .ref (L 4) :: rest) :=
  x_callS C (As := [.ref (L 4), .int a1, .int a2]) (c_X6_read hw) ⟨hlink, i_222, i_15, i_223⟩ (k := 3) (by decide +kernel) rfl hR hf hW rfl hdg hp (fun v ws' ⟨r, u', hv, hws, hPo⟩ _ => by subst hv; subst hws; exact kk r u' hPo)
def wp_X5_hasRoomFor (cap : Nat) (a1 : Int32) (u : XS) (Post : Int32 → XS → Prop) : Prop :=
  (((40 : Int32) < ((X_tl u) + a1) → Post (0 : Int32) u) ∧ (¬ ((40 : Int32) < ((X_tl u) + a1)) → Post (1 : Int32) u))
set_option maxHeartbeats 4000000 in
set_option maxRecDepth 20000 in
theorem c_X5_hasRoomFor {a1 : Int32} {u : XS} {Post : Int32 → XS → Prop} (hw : wp_X5_hasRoomFor cap a1 u Post) : xMet l yX5_hasRoomFor cX5_hasRoomFor 2 (some .boolean) 0 0 0 0 G K [.ref (L 3), .int a1] (xw L K cap u T) (fun v ws' => ∃ (r : Int32) (u' : XS), v = some (.int r) ∧ ws' = (xw L K cap u' T) ∧ Post r u') := by
  refine xMet.intro (lv := [(0, .ref (L 3)), (1, .int a1)]) (by decide) rfl (Nat.le_of_ble_eq_true rfl) rfl (fun p e s m args below meth c A C => ?_)
  unfold wp_X5_hasRoomFor at hw
  refine x_aload_n C dX5_hasRoomFor_0 rfl rfl 0 rfl ?_
  refine gX3_length C i_34 dX5_hasRoomFor_1 rfl ?_
  refine x_iload_n C dX5_hasRoomFor_4 rfl rfl 1 rfl ?_
  refine x_iadd C dX5_hasRoomFor_5 rfl ?_
  refine x_bipush C (v := (40 : Int32)) dX5_hasRoomFor_6 rfl (by decide) ?_
  refine x_icmp_gt C 15 dX5_hasRoomFor_8 rfl (by decide) (fun c1 => ?_) (fun c1 => ?_)
  · have hw := hw.1 c1
    refine x_iconst C (v := (0 : Int32)) dX5_hasRoomFor_15 rfl (by decide) ?_
    exact x_zret C dX5_hasRoomFor_16 rfl rfl (xw_same _ _) ⟨_, _, rfl, rfl, hw⟩
  · have hw := hw.2 c1
    refine x_iconst C (v := (1 : Int32)) dX5_hasRoomFor_11 rfl (by decide) ?_
    refine x_goto C (tgt := 16) dX5_hasRoomFor_12 rfl (by decide) ?_
    exact x_zret C dX5_hasRoomFor_16 rfl rfl (xw_same _ _) ⟨_, _, rfl, rfl, hw⟩
set_option maxRecDepth 20000 in
theorem k_X5_hasRoomFor (C : xCx p s m args meth c G K A nL cc own ret) {a1 : Int32} {u : XS} {idx : Nat} {rest : List Value} {Post : Int32 → XS → Prop} (hlink : Cond.methodLink own idx yX5_hasRoomFor ∈ gw_tbl) (hR : 0 + 1 ≤ R.frames ∧ 8 + (2 + 11) + 0 ≤ R.locals) (hf : cells ≤ R.cells ∧ slots ≤ R.slots) (hW : (rest.map fun v => v.category).sum ≤ 8) (hw : wp_X5_hasRoomFor cap a1 u Post) (hdg : decode cc n = .ok (.invokevirtual idx, 3)) (hp : pc = n) (kk : ∀ (r : Int32) (u' : XS), Post r u' → xV p l e R s m args below meth c G A nL Q cells slots (xw L K cap u' T) (n + 3) lv (.int r :: rest)) : xV p l e R s m args below meth c G A nL Q cells slots (xw L K cap u T) pc lv (.int a1 :: .ref (L 3) :: rest) :=
  x_callV C (As := [.int a1]) (c_X5_hasRoomFor hw) ⟨hlink, i_431, i_432, i_2, i_433⟩ 3 rfl rfl rfl (k := 1) (by decide +kernel) rfl hR hf hW rfl hdg hp (fun v ws' ⟨r, u', hv, hws, hPo⟩ _ => by subst hv; subst hws; exact kk r u' hPo)
def lb_X5_append_3 (cap : Nat) (Post : XS → Prop) (Ks : Int64 → Int32 → Int32 → XS → Prop) (x1 : Int64) (x3 : Int32) (x4 : Int32) (u : XS) : Prop :=
  ((x3 ≤ x4 → (∀ (u2 : XS), u2 = Xs_tl u ((X_tl u) + x3) → Post u2)) ∧ (¬ (x3 ≤ x4) → vp_in ((X_tl u) + x4) 40 ∧ ((∀ (u5 : XS), u5 = Xs_tb u (upd (X_tb u) (Int32.toNatClampNeg ((X_tl u) + x4)) (vp_nar .byte (Int8.toInt32 (Int32.toInt8 (Int64.toInt32 (x1 >>> (Int32.toInt64 ((8 : Int32) * x4) &&& 63))))))) → Ks x1 x3 (x4 + 1) u5))))
def lp_X5_append_3 (cap : Nat) (Post : XS → Prop) : Nat → Int64 → Int32 → Int32 → XS → Prop
  | 0 => fun _ _ _ _ => False
  | f + 1 => fun x1 x3 x4 u => lb_X5_append_3 cap Post (lp_X5_append_3 cap Post f) x1 x3 x4 u
set_option maxHeartbeats 4000000 in
set_option maxRecDepth 20000 in
theorem t_X5_append_3 (C : xCx p s m args meth c G K A 5 cX5_append RX5 none) {u0 : XS} {Post : XS → Prop} : ∀ (f : Nat) (x1 : Int64) (x3 : Int32) (x4 : Int32) (u : XS) , lp_X5_append_3 cap  Post f x1 x3 x4 u → xV p l e (xRm 0 0 0 0) s m args below meth c G A 5 (xQ G A (xw L K cap u0 T) (fun v ws' => ∃ u' : XS, v = none ∧ ws' = (xw L K cap u' T) ∧ Post u') below args s 0 0) 0 0 (xw L K cap u T) 3 [(0, .ref (L 3)), (1, .long x1), (3, .int x3), (4, .int x4)] [] := by
  intro f
  induction f with
  | zero => intro x1 x3 x4 u hw; exact hw.elim
  | succ f ih =>
    intro x1 x3 x4 u hw
    have hw : lb_X5_append_3 cap  Post (lp_X5_append_3 cap  Post f) x1 x3 x4 u := hw
    unfold lb_X5_append_3 at hw
    refine x_iload C dX5_append_3 rfl 3 rfl ?_
    refine x_iload_n C dX5_append_5 rfl rfl 2 rfl ?_
    refine x_icmp_ge C 36 dX5_append_6 rfl (by decide) (fun c1 => ?_) (fun c1 => ?_)
    · have hw := hw.1 c1
      refine x_aload_n C dX5_append_36 rfl rfl 0 rfl ?_
      refine x_dup C dX5_append_37 rfl rfl ?_
      refine gX3_length C i_34 dX5_append_38 rfl ?_
      refine x_iload_n C dX5_append_41 rfl rfl 2 rfl ?_
      refine x_iadd C dX5_append_42 rfl ?_
      refine pX3_length C i_34 dX5_append_43 rfl (fun u2 e3 => ?_)
      have hw := hw u2 e3
      exact x_vret C dX5_append_46 rfl (xw_same _ _) ⟨_, rfl, rfl, hw⟩
    · have hw := hw.2 c1
      refine x_aload_n C dX5_append_9 rfl rfl 0 rfl ?_
      refine gX3_bytes C i_32 dX5_append_10 rfl ?_
      refine x_aload_n C dX5_append_13 rfl rfl 0 rfl ?_
      refine gX3_length C i_34 dX5_append_14 rfl ?_
      refine x_iload C dX5_append_17 rfl 3 rfl ?_
      refine x_iadd C dX5_append_19 rfl ?_
      refine x_lload_n C dX5_append_20 rfl rfl 1 rfl ?_
      refine x_bipush C (v := (8 : Int32)) dX5_append_21 rfl (by decide) ?_
      refine x_iload C dX5_append_23 rfl 3 rfl ?_
      refine x_imul C dX5_append_25 rfl ?_
      refine x_lshr C dX5_append_26 rfl ?_
      refine x_l2i C dX5_append_27 rfl ?_
      refine x_i2b C dX5_append_28 rfl ?_
      obtain ⟨h4, hw⟩ := hw
      refine pX4_at C h4 dX5_append_29 rfl (fun u5 e6 => ?_)
      have hw := hw u5 e6
      refine x_iinc C (k := 3) (v := x4 + 1) (lv' := [(4, .int (x4 + 1)), (0, .ref (L 3)), (1, .long x1), (3, .int x3)]) dX5_append_30 rfl rfl rfl (by decide) rfl ?_
      refine x_goto C (tgt := 3) dX5_append_33 rfl (by decide) ?_
      refine x_lv [1, 2, 3, 0] rfl ?_
      exact ih x1 x3 (x4 + 1) u5 hw
def wp_X5_append (cap : Nat) (a1 : Int64) (a3 : Int32) (u : XS) (Post : XS → Prop) : Prop :=
  ∃ f9 : Nat, lp_X5_append_3 cap Post f9 a1 a3 (0 : Int32) u
set_option maxHeartbeats 4000000 in
set_option maxRecDepth 20000 in
theorem c_X5_append {a1 : Int64} {a3 : Int32} {u : XS} {Post : XS → Prop} (hw : wp_X5_append cap a1 a3 u Post) : xMet l yX5_append cX5_append 5 none 0 0 0 0 G K [.ref (L 3), .long a1, .int a3] (xw L K cap u T) (fun v ws' => ∃ u' : XS, v = none ∧ ws' = (xw L K cap u' T) ∧ Post u') := by
  refine xMet.intro (lv := [(0, .ref (L 3)), (1, .long a1), (3, .int a3)]) (by decide) rfl (Nat.le_of_ble_eq_true rfl) rfl (fun p e s m args below meth c A C => ?_)
  unfold wp_X5_append at hw
  refine x_iconst C (v := (0 : Int32)) dX5_append_0 rfl (by decide) ?_
  refine x_istore C (lv' := [(4, .int (0 : Int32)), (0, .ref (L 3)), (1, .long a1), (3, .int a3)]) dX5_append_1 rfl (by decide) rfl ?_
  refine x_lv [1, 2, 3, 0] rfl ?_
  obtain ⟨f9, hw⟩ := hw
  exact t_X5_append_3 C f9 a1 a3 (0 : Int32) u hw
set_option maxRecDepth 20000 in
theorem k_X5_append (C : xCx p s m args meth c G K A nL cc own ret) {a1 : Int64} {a3 : Int32} {u : XS} {idx : Nat} {rest : List Value} {Post : XS → Prop} (hlink : Cond.methodLink own idx yX5_append ∈ gw_tbl) (hR : 0 + 1 ≤ R.frames ∧ 8 + (5 + 11) + 0 ≤ R.locals) (hf : cells ≤ R.cells ∧ slots ≤ R.slots) (hW : (rest.map fun v => v.category).sum ≤ 8) (hw : wp_X5_append cap a1 a3 u Post) (hdg : decode cc n = .ok (.invokevirtual idx, 3)) (hp : pc = n) (kk : ∀ u' : XS, Post u' → xV p l e R s m args below meth c G A nL Q cells slots (xw L K cap u' T) (n + 3) lv rest) : xV p l e R s m args below meth c G A nL Q cells slots (xw L K cap u T) pc lv (.int a3 :: .long a1 :: .ref (L 3) :: rest) :=
  x_callV C (As := [.long a1, .int a3]) (c_X5_append hw) ⟨hlink, i_435, i_436, i_2, i_437⟩ 3 rfl rfl rfl (k := 2) (by decide +kernel) rfl hR hf hW rfl hdg hp (fun v ws' ⟨u', hv, hws, hPo⟩ _ => by subst hv; subst hws; exact kk u' hPo)
def wp_X5_head (cap : Nat) (u : XS) (Post : Int64 → XS → Prop) : Prop :=
  wp_X6_read cap (0 : Int32) (6 : Int32) u (fun r1 u2 => Post r1 u2)
set_option maxHeartbeats 4000000 in
set_option maxRecDepth 20000 in
theorem c_X5_head {u : XS} {Post : Int64 → XS → Prop} (hw : wp_X5_head cap  u Post) : xMet l yX5_head cX5_head 1 (some .long) 1 25 0 0 G K [.ref (L 3)] (xw L K cap u T) (fun v ws' => ∃ (r : Int64) (u' : XS), v = some (.long r) ∧ ws' = (xw L K cap u' T) ∧ Post r u') := by
  refine xMet.intro (lv := [(0, .ref (L 3))]) (by decide) rfl (Nat.le_of_ble_eq_true rfl) rfl (fun p e s m args below meth c A C => ?_)
  unfold wp_X5_head at hw
  refine x_aload_n C dX5_head_0 rfl rfl 0 rfl ?_
  refine gX3_bytes C i_32 dX5_head_1 rfl ?_
  refine x_iconst C (v := (0 : Int32)) dX5_head_4 rfl (by decide) ?_
  refine x_bipush C (v := (6 : Int32)) dX5_head_5 rfl (by decide) ?_
  refine k_X6_read C i_221 ⟨Nat.le_of_ble_eq_true rfl, Nat.le_of_ble_eq_true rfl⟩ ⟨Nat.zero_le _, Nat.zero_le _⟩ (Nat.le_of_ble_eq_true rfl) hw dX5_head_7 rfl (fun r1 u2 hw => ?_)
  exact x_lret C dX5_head_10 rfl (xw_same _ _) ⟨_, _, rfl, rfl, hw⟩
set_option maxRecDepth 20000 in
theorem k_X5_head (C : xCx p s m args meth c G K A nL cc own ret) {u : XS} {idx : Nat} {rest : List Value} {Post : Int64 → XS → Prop} (hlink : Cond.methodLink own idx yX5_head ∈ gw_tbl) (hR : 1 + 1 ≤ R.frames ∧ 8 + (1 + 11) + 25 ≤ R.locals) (hf : cells ≤ R.cells ∧ slots ≤ R.slots) (hW : (rest.map fun v => v.category).sum ≤ 8) (hw : wp_X5_head cap  u Post) (hdg : decode cc n = .ok (.invokevirtual idx, 3)) (hp : pc = n) (kk : ∀ (r : Int64) (u' : XS), Post r u' → xV p l e R s m args below meth c G A nL Q cells slots (xw L K cap u' T) (n + 3) lv (.long r :: rest)) : xV p l e R s m args below meth c G A nL Q cells slots (xw L K cap u T) pc lv (.ref (L 3) :: rest) :=
  x_callV C (As := []) (c_X5_head hw) ⟨hlink, i_218, i_219, i_2, i_220⟩ 3 rfl rfl rfl (k := 0) (by decide +kernel) rfl hR hf hW rfl hdg hp (fun v ws' ⟨r, u', hv, hws, hPo⟩ _ => by subst hv; subst hws; exact kk r u' hPo)
def wp_X5_operation (cap : Nat) (u : XS) (Post : Int32 → XS → Prop) : Prop :=
  wp_X6_read cap (6 : Int32) (2 : Int32) u (fun r1 u2 => Post (Int64.toInt32 r1) u2)
set_option maxHeartbeats 4000000 in
set_option maxRecDepth 20000 in
theorem c_X5_operation {u : XS} {Post : Int32 → XS → Prop} (hw : wp_X5_operation cap  u Post) : xMet l yX5_operation cX5_operation 1 (some .int) 1 25 0 0 G K [.ref (L 3)] (xw L K cap u T) (fun v ws' => ∃ (r : Int32) (u' : XS), v = some (.int r) ∧ ws' = (xw L K cap u' T) ∧ Post r u') := by
  refine xMet.intro (lv := [(0, .ref (L 3))]) (by decide) rfl (Nat.le_of_ble_eq_true rfl) rfl (fun p e s m args below meth c A C => ?_)
  unfold wp_X5_operation at hw
  refine x_aload_n C dX5_operation_0 rfl rfl 0 rfl ?_
  refine gX3_bytes C i_32 dX5_operation_1 rfl ?_
  refine x_bipush C (v := (6 : Int32)) dX5_operation_4 rfl (by decide) ?_
  refine x_iconst C (v := (2 : Int32)) dX5_operation_6 rfl (by decide) ?_
  refine k_X6_read C i_221 ⟨Nat.le_of_ble_eq_true rfl, Nat.le_of_ble_eq_true rfl⟩ ⟨Nat.zero_le _, Nat.zero_le _⟩ (Nat.le_of_ble_eq_true rfl) hw dX5_operation_7 rfl (fun r1 u2 hw => ?_)
  refine x_l2i C dX5_operation_10 rfl ?_
  exact x_iret C dX5_operation_11 rfl (xw_same _ _) ⟨_, _, rfl, rfl, hw⟩
set_option maxRecDepth 20000 in
theorem k_X5_operation (C : xCx p s m args meth c G K A nL cc own ret) {u : XS} {idx : Nat} {rest : List Value} {Post : Int32 → XS → Prop} (hlink : Cond.methodLink own idx yX5_operation ∈ gw_tbl) (hR : 1 + 1 ≤ R.frames ∧ 8 + (1 + 11) + 25 ≤ R.locals) (hf : cells ≤ R.cells ∧ slots ≤ R.slots) (hW : (rest.map fun v => v.category).sum ≤ 8) (hw : wp_X5_operation cap  u Post) (hdg : decode cc n = .ok (.invokevirtual idx, 3)) (hp : pc = n) (kk : ∀ (r : Int32) (u' : XS), Post r u' → xV p l e R s m args below meth c G A nL Q cells slots (xw L K cap u' T) (n + 3) lv (.int r :: rest)) : xV p l e R s m args below meth c G A nL Q cells slots (xw L K cap u T) pc lv (.ref (L 3) :: rest) :=
  x_callV C (As := []) (c_X5_operation hw) ⟨hlink, i_226, i_227, i_2, i_228⟩ 3 rfl rfl rfl (k := 0) (by decide +kernel) rfl hR hf hW rfl hdg hp (fun v ws' ⟨r, u', hv, hws, hPo⟩ _ => by subst hv; subst hws; exact kk r u' hPo)
def wp_X5_sender (cap : Nat) (u : XS) (Post : Int64 → XS → Prop) : Prop :=
  wp_X6_read cap (8 : Int32) (6 : Int32) u (fun r1 u2 => Post r1 u2)
set_option maxHeartbeats 4000000 in
set_option maxRecDepth 20000 in
theorem c_X5_sender {u : XS} {Post : Int64 → XS → Prop} (hw : wp_X5_sender cap  u Post) : xMet l yX5_sender cX5_sender 1 (some .long) 1 25 0 0 G K [.ref (L 3)] (xw L K cap u T) (fun v ws' => ∃ (r : Int64) (u' : XS), v = some (.long r) ∧ ws' = (xw L K cap u' T) ∧ Post r u') := by
  refine xMet.intro (lv := [(0, .ref (L 3))]) (by decide) rfl (Nat.le_of_ble_eq_true rfl) rfl (fun p e s m args below meth c A C => ?_)
  unfold wp_X5_sender at hw
  refine x_aload_n C dX5_sender_0 rfl rfl 0 rfl ?_
  refine gX3_bytes C i_32 dX5_sender_1 rfl ?_
  refine x_bipush C (v := (8 : Int32)) dX5_sender_4 rfl (by decide) ?_
  refine x_bipush C (v := (6 : Int32)) dX5_sender_6 rfl (by decide) ?_
  refine k_X6_read C i_221 ⟨Nat.le_of_ble_eq_true rfl, Nat.le_of_ble_eq_true rfl⟩ ⟨Nat.zero_le _, Nat.zero_le _⟩ (Nat.le_of_ble_eq_true rfl) hw dX5_sender_8 rfl (fun r1 u2 hw => ?_)
  exact x_lret C dX5_sender_11 rfl (xw_same _ _) ⟨_, _, rfl, rfl, hw⟩
set_option maxRecDepth 20000 in
theorem k_X5_sender (C : xCx p s m args meth c G K A nL cc own ret) {u : XS} {idx : Nat} {rest : List Value} {Post : Int64 → XS → Prop} (hlink : Cond.methodLink own idx yX5_sender ∈ gw_tbl) (hR : 1 + 1 ≤ R.frames ∧ 8 + (1 + 11) + 25 ≤ R.locals) (hf : cells ≤ R.cells ∧ slots ≤ R.slots) (hW : (rest.map fun v => v.category).sum ≤ 8) (hw : wp_X5_sender cap  u Post) (hdg : decode cc n = .ok (.invokevirtual idx, 3)) (hp : pc = n) (kk : ∀ (r : Int64) (u' : XS), Post r u' → xV p l e R s m args below meth c G A nL Q cells slots (xw L K cap u' T) (n + 3) lv (.long r :: rest)) : xV p l e R s m args below meth c G A nL Q cells slots (xw L K cap u T) pc lv (.ref (L 3) :: rest) :=
  x_callV C (As := []) (c_X5_sender hw) ⟨hlink, i_230, i_231, i_2, i_232⟩ 3 rfl rfl rfl (k := 0) (by decide +kernel) rfl hR hf hW rfl hdg hp (fun v ws' ⟨r, u', hv, hws, hPo⟩ _ => by subst hv; subst hws; exact kk r u' hPo)
def wp_X5_senderAddress (cap : Nat) (u : XS) (Post : Int32 → XS → Prop) : Prop :=
  wp_X6_read cap (14 : Int32) (4 : Int32) u (fun r1 u2 => Post (Int64.toInt32 r1) u2)
set_option maxHeartbeats 4000000 in
set_option maxRecDepth 20000 in
theorem c_X5_senderAddress {u : XS} {Post : Int32 → XS → Prop} (hw : wp_X5_senderAddress cap  u Post) : xMet l yX5_senderAddress cX5_senderAddress 1 (some .int) 1 25 0 0 G K [.ref (L 3)] (xw L K cap u T) (fun v ws' => ∃ (r : Int32) (u' : XS), v = some (.int r) ∧ ws' = (xw L K cap u' T) ∧ Post r u') := by
  refine xMet.intro (lv := [(0, .ref (L 3))]) (by decide) rfl (Nat.le_of_ble_eq_true rfl) rfl (fun p e s m args below meth c A C => ?_)
  unfold wp_X5_senderAddress at hw
  refine x_aload_n C dX5_senderAddress_0 rfl rfl 0 rfl ?_
  refine gX3_bytes C i_32 dX5_senderAddress_1 rfl ?_
  refine x_bipush C (v := (14 : Int32)) dX5_senderAddress_4 rfl (by decide) ?_
  refine x_iconst C (v := (4 : Int32)) dX5_senderAddress_6 rfl (by decide) ?_
  refine k_X6_read C i_221 ⟨Nat.le_of_ble_eq_true rfl, Nat.le_of_ble_eq_true rfl⟩ ⟨Nat.zero_le _, Nat.zero_le _⟩ (Nat.le_of_ble_eq_true rfl) hw dX5_senderAddress_7 rfl (fun r1 u2 hw => ?_)
  refine x_l2i C dX5_senderAddress_10 rfl ?_
  exact x_iret C dX5_senderAddress_11 rfl (xw_same _ _) ⟨_, _, rfl, rfl, hw⟩
set_option maxRecDepth 20000 in
theorem k_X5_senderAddress (C : xCx p s m args meth c G K A nL cc own ret) {u : XS} {idx : Nat} {rest : List Value} {Post : Int32 → XS → Prop} (hlink : Cond.methodLink own idx yX5_senderAddress ∈ gw_tbl) (hR : 1 + 1 ≤ R.frames ∧ 8 + (1 + 11) + 25 ≤ R.locals) (hf : cells ≤ R.cells ∧ slots ≤ R.slots) (hW : (rest.map fun v => v.category).sum ≤ 8) (hw : wp_X5_senderAddress cap  u Post) (hdg : decode cc n = .ok (.invokevirtual idx, 3)) (hp : pc = n) (kk : ∀ (r : Int32) (u' : XS), Post r u' → xV p l e R s m args below meth c G A nL Q cells slots (xw L K cap u' T) (n + 3) lv (.int r :: rest)) : xV p l e R s m args below meth c G A nL Q cells slots (xw L K cap u T) pc lv (.ref (L 3) :: rest) :=
  x_callV C (As := []) (c_X5_senderAddress hw) ⟨hlink, i_243, i_244, i_2, i_245⟩ 3 rfl rfl rfl (k := 0) (by decide +kernel) rfl hR hf hW rfl hdg hp (fun v ws' ⟨r, u', hv, hws, hPo⟩ _ => by subst hv; subst hws; exact kk r u' hPo)
def wp_X5_targetAddress (cap : Nat) (u : XS) (Post : Int32 → XS → Prop) : Prop :=
  wp_X6_read cap (24 : Int32) (4 : Int32) u (fun r1 u2 => Post (Int64.toInt32 r1) u2)
set_option maxHeartbeats 4000000 in
set_option maxRecDepth 20000 in
theorem c_X5_targetAddress {u : XS} {Post : Int32 → XS → Prop} (hw : wp_X5_targetAddress cap  u Post) : xMet l yX5_targetAddress cX5_targetAddress 1 (some .int) 1 25 0 0 G K [.ref (L 3)] (xw L K cap u T) (fun v ws' => ∃ (r : Int32) (u' : XS), v = some (.int r) ∧ ws' = (xw L K cap u' T) ∧ Post r u') := by
  refine xMet.intro (lv := [(0, .ref (L 3))]) (by decide) rfl (Nat.le_of_ble_eq_true rfl) rfl (fun p e s m args below meth c A C => ?_)
  unfold wp_X5_targetAddress at hw
  refine x_aload_n C dX5_targetAddress_0 rfl rfl 0 rfl ?_
  refine gX3_bytes C i_32 dX5_targetAddress_1 rfl ?_
  refine x_bipush C (v := (24 : Int32)) dX5_targetAddress_4 rfl (by decide) ?_
  refine x_iconst C (v := (4 : Int32)) dX5_targetAddress_6 rfl (by decide) ?_
  refine k_X6_read C i_221 ⟨Nat.le_of_ble_eq_true rfl, Nat.le_of_ble_eq_true rfl⟩ ⟨Nat.zero_le _, Nat.zero_le _⟩ (Nat.le_of_ble_eq_true rfl) hw dX5_targetAddress_7 rfl (fun r1 u2 hw => ?_)
  refine x_l2i C dX5_targetAddress_10 rfl ?_
  exact x_iret C dX5_targetAddress_11 rfl (xw_same _ _) ⟨_, _, rfl, rfl, hw⟩
set_option maxRecDepth 20000 in
theorem k_X5_targetAddress (C : xCx p s m args meth c G K A nL cc own ret) {u : XS} {idx : Nat} {rest : List Value} {Post : Int32 → XS → Prop} (hlink : Cond.methodLink own idx yX5_targetAddress ∈ gw_tbl) (hR : 1 + 1 ≤ R.frames ∧ 8 + (1 + 11) + 25 ≤ R.locals) (hf : cells ≤ R.cells ∧ slots ≤ R.slots) (hW : (rest.map fun v => v.category).sum ≤ 8) (hw : wp_X5_targetAddress cap  u Post) (hdg : decode cc n = .ok (.invokevirtual idx, 3)) (hp : pc = n) (kk : ∀ (r : Int32) (u' : XS), Post r u' → xV p l e R s m args below meth c G A nL Q cells slots (xw L K cap u' T) (n + 3) lv (.int r :: rest)) : xV p l e R s m args below meth c G A nL Q cells slots (xw L K cap u T) pc lv (.ref (L 3) :: rest) :=
  x_callV C (As := []) (c_X5_targetAddress hw) ⟨hlink, i_247, i_248, i_2, i_249⟩ 3 rfl rfl rfl (k := 0) (by decide +kernel) rfl hR hf hW rfl hdg hp (fun v ws' ⟨r, u', hv, hws, hPo⟩ _ => by subst hv; subst hws; exact kk r u' hPo)
def wp_X2_addData (cap : Nat) (a1 : Int64) (a3 : Int32) (u : XS) (Post : XS → Prop) : Prop :=
  wp_X4_nextSlot_f cap u (fun r1 u2 => vp_in r1 100 ∧ ((∀ (u4 : XS), u4 = Xs_fg u2 (vp_updL (X_fg u2) (Int32.toNatClampNeg r1) a1) → (∀ (u6 : XS), u6 = Xs_fn u4 (upd (X_fn u4) (Int32.toNatClampNeg r1) a3) → (∀ (u8 : XS), u8 = Xs_fp u6 (upd (X_fp u6) (Int32.toNatClampNeg r1) (vp_nar .boolean (0 : Int32))) → Post u8)))))
set_option maxHeartbeats 4000000 in
set_option maxRecDepth 20000 in
theorem c_X2_addData {a1 : Int64} {a3 : Int32} {u : XS} {Post : XS → Prop} (hw : wp_X2_addData cap a1 a3 u Post) : xMet l yX2_addData cX2_addData 5 none 2 43 0 0 G K [.ref (L 5), .long a1, .int a3] (xw L K cap u T) (fun v ws' => ∃ u' : XS, v = none ∧ ws' = (xw L K cap u' T) ∧ Post u') := by
  refine xMet.intro (lv := [(0, .ref (L 5)), (1, .long a1), (3, .int a3)]) (by decide) rfl (Nat.le_of_ble_eq_true rfl) rfl (fun p e s m args below meth c A C => ?_)
  unfold wp_X2_addData at hw
  refine x_aload_n C dX2_addData_0 rfl rfl 0 rfl ?_
  refine gX5_ring C i_59 dX2_addData_1 rfl ?_
  refine k_X4_nextSlot_f C i_285 ⟨Nat.le_of_ble_eq_true rfl, Nat.le_of_ble_eq_true rfl⟩ ⟨Nat.zero_le _, Nat.zero_le _⟩ (Nat.le_of_ble_eq_true rfl) hw dX2_addData_4 rfl (fun r1 u2 hw => ?_)
  refine x_istore C (lv' := [(4, .int r1), (0, .ref (L 5)), (1, .long a1), (3, .int a3)]) dX2_addData_7 rfl (by decide) rfl ?_
  refine x_aload_n C dX2_addData_9 rfl rfl 1 rfl ?_
  refine gX5_goals C i_61 dX2_addData_10 rfl ?_
  refine x_iload C dX2_addData_13 rfl 0 rfl ?_
  refine x_lload_n C dX2_addData_15 rfl rfl 2 rfl ?_
  obtain ⟨h3, hw⟩ := hw
  refine pX7_at C h3 dX2_addData_16 rfl (fun u4 e5 => ?_)
  have hw := hw u4 e5
  refine x_aload_n C dX2_addData_17 rfl rfl 1 rfl ?_
  refine gX5_numbers C i_63 dX2_addData_18 rfl ?_
  refine x_iload C dX2_addData_21 rfl 0 rfl ?_
  refine x_iload_n C dX2_addData_23 rfl rfl 3 rfl ?_
  refine pX8_at C h3 dX2_addData_24 rfl (fun u6 e7 => ?_)
  have hw := hw u6 e7
  refine x_aload_n C dX2_addData_25 rfl rfl 1 rfl ?_
  refine gX5_packets C i_65 dX2_addData_26 rfl ?_
  refine x_iload C dX2_addData_29 rfl 0 rfl ?_
  refine x_iconst C (v := (0 : Int32)) dX2_addData_31 rfl (by decide) ?_
  refine pX9_at C h3 dX2_addData_32 rfl (fun u8 e9 => ?_)
  have hw := hw u8 e9
  exact x_vret C dX2_addData_33 rfl (xw_same _ _) ⟨_, rfl, rfl, hw⟩
set_option maxRecDepth 20000 in
theorem k_X2_addData (C : xCx p s m args meth c G K A nL cc own ret) {a1 : Int64} {a3 : Int32} {u : XS} {idx : Nat} {rest : List Value} {Post : XS → Prop} (hlink : Cond.methodLink own idx yX2_addData ∈ gw_tbl) (hR : 2 + 1 ≤ R.frames ∧ 8 + (5 + 11) + 43 ≤ R.locals) (hf : cells ≤ R.cells ∧ slots ≤ R.slots) (hW : (rest.map fun v => v.category).sum ≤ 8) (hw : wp_X2_addData cap a1 a3 u Post) (hdg : decode cc n = .ok (.invokevirtual idx, 3)) (hp : pc = n) (kk : ∀ u' : XS, Post u' → xV p l e R s m args below meth c G A nL Q cells slots (xw L K cap u' T) (n + 3) lv rest) : xV p l e R s m args below meth c G A nL Q cells slots (xw L K cap u T) pc lv (.int a3 :: .long a1 :: .ref (L 5) :: rest) :=
  x_callV C (As := [.long a1, .int a3]) (c_X2_addData hw) ⟨hlink, i_300, i_301, i_3, i_302⟩ 5 rfl rfl rfl (k := 2) (by decide +kernel) rfl hR hf hW rfl hdg hp (fun v ws' ⟨u', hv, hws, hPo⟩ _ => by subst hv; subst hws; exact kk u' hPo)
def wp_X2_addPacket (cap : Nat) (a1 : Int64) (a3 : Int32) (a4 : Int64) (a6 : Int32) (a7 : Int64) (a9 : Int32) (u : XS) (Post : XS → Prop) : Prop :=
  wp_X4_nextSlot_f cap u (fun r1 u2 => vp_in r1 100 ∧ ((∀ (u4 : XS), u4 = Xs_fg u2 (vp_updL (X_fg u2) (Int32.toNatClampNeg r1) a1) → (∀ (u6 : XS), u6 = Xs_fn u4 (upd (X_fn u4) (Int32.toNatClampNeg r1) (-1 : Int32)) → (∀ (u8 : XS), u8 = Xs_fp u6 (upd (X_fp u6) (Int32.toNatClampNeg r1) (vp_nar .boolean (1 : Int32))) → wp_X6_writePacket_f cap (r1 * (28 : Int32)) a3 a4 a6 a7 a9 u8 (fun u11 => Post u11))))))
set_option maxHeartbeats 4000000 in
set_option maxRecDepth 20000 in
theorem c_X2_addPacket {a1 : Int64} {a3 : Int32} {a4 : Int64} {a6 : Int32} {a7 : Int64} {a9 : Int32} {u : XS} {Post : XS → Prop} (hw : wp_X2_addPacket cap a1 a3 a4 a6 a7 a9 u Post) : xMet l yX2_addPacket cX2_addPacket 11 none 2 55 0 0 G K [.ref (L 5), .long a1, .int a3, .long a4, .int a6, .long a7, .int a9] (xw L K cap u T) (fun v ws' => ∃ u' : XS, v = none ∧ ws' = (xw L K cap u' T) ∧ Post u') := by
  refine xMet.intro (lv := [(0, .ref (L 5)), (1, .long a1), (3, .int a3), (4, .long a4), (6, .int a6), (7, .long a7), (9, .int a9)]) (by decide) rfl (Nat.le_of_ble_eq_true rfl) rfl (fun p e s m args below meth c A C => ?_)
  unfold wp_X2_addPacket at hw
  refine x_aload_n C dX2_addPacket_0 rfl rfl 0 rfl ?_
  refine gX5_ring C i_59 dX2_addPacket_1 rfl ?_
  refine k_X4_nextSlot_f C i_285 ⟨Nat.le_of_ble_eq_true rfl, Nat.le_of_ble_eq_true rfl⟩ ⟨Nat.zero_le _, Nat.zero_le _⟩ (Nat.le_of_ble_eq_true rfl) hw dX2_addPacket_4 rfl (fun r1 u2 hw => ?_)
  refine x_istore C (lv' := [(10, .int r1), (0, .ref (L 5)), (1, .long a1), (3, .int a3), (4, .long a4), (6, .int a6), (7, .long a7), (9, .int a9)]) dX2_addPacket_7 rfl (by decide) rfl ?_
  refine x_aload_n C dX2_addPacket_9 rfl rfl 1 rfl ?_
  refine gX5_goals C i_61 dX2_addPacket_10 rfl ?_
  refine x_iload C dX2_addPacket_13 rfl 0 rfl ?_
  refine x_lload_n C dX2_addPacket_15 rfl rfl 2 rfl ?_
  obtain ⟨h3, hw⟩ := hw
  refine pX7_at C h3 dX2_addPacket_16 rfl (fun u4 e5 => ?_)
  have hw := hw u4 e5
  refine x_aload_n C dX2_addPacket_17 rfl rfl 1 rfl ?_
  refine gX5_numbers C i_63 dX2_addPacket_18 rfl ?_
  refine x_iload C dX2_addPacket_21 rfl 0 rfl ?_
  refine x_iconst C (v := (-1 : Int32)) dX2_addPacket_23 rfl (by decide) ?_
  refine pX8_at C h3 dX2_addPacket_24 rfl (fun u6 e7 => ?_)
  have hw := hw u6 e7
  refine x_aload_n C dX2_addPacket_25 rfl rfl 1 rfl ?_
  refine gX5_packets C i_65 dX2_addPacket_26 rfl ?_
  refine x_iload C dX2_addPacket_29 rfl 0 rfl ?_
  refine x_iconst C (v := (1 : Int32)) dX2_addPacket_31 rfl (by decide) ?_
  refine pX9_at C h3 dX2_addPacket_32 rfl (fun u8 e9 => ?_)
  have hw := hw u8 e9
  refine x_aload_n C dX2_addPacket_33 rfl rfl 1 rfl ?_
  refine gX5_bytes C i_66 dX2_addPacket_34 rfl ?_
  refine x_iload C dX2_addPacket_37 rfl 0 rfl ?_
  refine x_bipush C (v := (28 : Int32)) dX2_addPacket_39 rfl (by decide) ?_
  refine x_imul C dX2_addPacket_41 rfl ?_
  refine x_iload_n C dX2_addPacket_42 rfl rfl 3 rfl ?_
  refine x_lload C dX2_addPacket_43 rfl 4 rfl ?_
  refine x_iload C dX2_addPacket_45 rfl 5 rfl ?_
  refine x_lload C dX2_addPacket_47 rfl 6 rfl ?_
  refine x_iload C dX2_addPacket_49 rfl 7 rfl ?_
  refine k_X6_writePacket_f C i_286 ⟨Nat.le_of_ble_eq_true rfl, Nat.le_of_ble_eq_true rfl⟩ ⟨Nat.zero_le _, Nat.zero_le _⟩ (Nat.le_of_ble_eq_true rfl) hw dX2_addPacket_51 rfl (fun u11 hw => ?_)
  exact x_vret C dX2_addPacket_54 rfl (xw_same _ _) ⟨_, rfl, rfl, hw⟩
set_option maxRecDepth 20000 in
theorem k_X2_addPacket (C : xCx p s m args meth c G K A nL cc own ret) {a1 : Int64} {a3 : Int32} {a4 : Int64} {a6 : Int32} {a7 : Int64} {a9 : Int32} {u : XS} {idx : Nat} {rest : List Value} {Post : XS → Prop} (hlink : Cond.methodLink own idx yX2_addPacket ∈ gw_tbl) (hR : 2 + 1 ≤ R.frames ∧ 8 + (11 + 11) + 55 ≤ R.locals) (hf : cells ≤ R.cells ∧ slots ≤ R.slots) (hW : (rest.map fun v => v.category).sum ≤ 8) (hw : wp_X2_addPacket cap a1 a3 a4 a6 a7 a9 u Post) (hdg : decode cc n = .ok (.invokevirtual idx, 3)) (hp : pc = n) (kk : ∀ u' : XS, Post u' → xV p l e R s m args below meth c G A nL Q cells slots (xw L K cap u' T) (n + 3) lv rest) : xV p l e R s m args below meth c G A nL Q cells slots (xw L K cap u T) pc lv (.int a9 :: .long a7 :: .int a6 :: .long a4 :: .int a3 :: .long a1 :: .ref (L 5) :: rest) :=
  x_callV C (As := [.long a1, .int a3, .long a4, .int a6, .long a7, .int a9]) (c_X2_addPacket hw) ⟨hlink, i_282, i_283, i_3, i_284⟩ 5 rfl rfl rfl (k := 6) (by decide +kernel) rfl hR hf hW rfl hdg hp (fun v ws' ⟨u', hv, hws, hPo⟩ _ => by subst hv; subst hws; exact kk u' hPo)
def wp_X2_isPacket (cap : Nat) (a1 : Int32) (u : XS) (Post : Int32 → XS → Prop) : Prop :=
  wp_X4_slotOf_f cap a1 u (fun r1 u2 => vp_in r1 100 ∧ (narrow .boolean (.int (X_fp u2 (Int32.toNatClampNeg r1))) = .int (X_fp u2 (Int32.toNatClampNeg r1)) ∧ (Post (X_fp u2 (Int32.toNatClampNeg r1)) u2)))
set_option maxHeartbeats 4000000 in
set_option maxRecDepth 20000 in
theorem c_X2_isPacket {a1 : Int32} {u : XS} {Post : Int32 → XS → Prop} (hw : wp_X2_isPacket cap a1 u Post) : xMet l yX2_isPacket cX2_isPacket 2 (some .boolean) 2 51 0 0 G K [.ref (L 5), .int a1] (xw L K cap u T) (fun v ws' => ∃ (r : Int32) (u' : XS), v = some (.int r) ∧ ws' = (xw L K cap u' T) ∧ Post r u') := by
  refine xMet.intro (lv := [(0, .ref (L 5)), (1, .int a1)]) (by decide) rfl (Nat.le_of_ble_eq_true rfl) rfl (fun p e s m args below meth c A C => ?_)
  unfold wp_X2_isPacket at hw
  refine x_aload_n C dX2_isPacket_0 rfl rfl 0 rfl ?_
  refine gX5_packets C i_65 dX2_isPacket_1 rfl ?_
  refine x_aload_n C dX2_isPacket_4 rfl rfl 0 rfl ?_
  refine gX5_ring C i_59 dX2_isPacket_5 rfl ?_
  refine x_iload_n C dX2_isPacket_8 rfl rfl 1 rfl ?_
  refine k_X4_slotOf_f C i_601 ⟨Nat.le_of_ble_eq_true rfl, Nat.le_of_ble_eq_true rfl⟩ ⟨Nat.zero_le _, Nat.zero_le _⟩ (Nat.le_of_ble_eq_true rfl) hw dX2_isPacket_9 rfl (fun r1 u2 hw => ?_)
  obtain ⟨h3, hw⟩ := hw
  refine gX9_at C h3 dX2_isPacket_12 rfl ?_
  obtain ⟨h4, hw⟩ := hw
  exact x_zret C dX2_isPacket_13 rfl h4 (xw_same _ _) ⟨_, _, rfl, rfl, hw⟩
set_option maxRecDepth 20000 in
theorem k_X2_isPacket (C : xCx p s m args meth c G K A nL cc own ret) {a1 : Int32} {u : XS} {idx : Nat} {rest : List Value} {Post : Int32 → XS → Prop} (hlink : Cond.methodLink own idx yX2_isPacket ∈ gw_tbl) (hR : 2 + 1 ≤ R.frames ∧ 8 + (2 + 11) + 51 ≤ R.locals) (hf : cells ≤ R.cells ∧ slots ≤ R.slots) (hW : (rest.map fun v => v.category).sum ≤ 8) (hw : wp_X2_isPacket cap a1 u Post) (hdg : decode cc n = .ok (.invokevirtual idx, 3)) (hp : pc = n) (kk : ∀ (r : Int32) (u' : XS), Post r u' → xV p l e R s m args below meth c G A nL Q cells slots (xw L K cap u' T) (n + 3) lv (.int r :: rest)) : xV p l e R s m args below meth c G A nL Q cells slots (xw L K cap u T) pc lv (.int a1 :: .ref (L 5) :: rest) :=
  x_callV C (As := [.int a1]) (c_X2_isPacket hw) ⟨hlink, i_598, i_599, i_3, i_600⟩ 5 rfl rfl rfl (k := 1) (by decide +kernel) rfl hR hf hW rfl hdg hp (fun v ws' ⟨r, u', hv, hws, hPo⟩ _ => by subst hv; subst hws; exact kk r u' hPo)
def wp_X2_byteOf (cap : Nat) (a1 : Int32) (a2 : Int32) (u : XS) (Post : Int32 → XS → Prop) : Prop :=
  wp_X4_slotOf_f cap a1 u (fun r1 u2 => vp_in ((r1 * (28 : Int32)) + a2) 2800 ∧ (Post ((X_fb u2 (Int32.toNatClampNeg ((r1 * (28 : Int32)) + a2))) &&& (255 : Int32)) u2))
set_option maxHeartbeats 4000000 in
set_option maxRecDepth 20000 in
theorem c_X2_byteOf {a1 : Int32} {a2 : Int32} {u : XS} {Post : Int32 → XS → Prop} (hw : wp_X2_byteOf cap a1 a2 u Post) : xMet l yX2_byteOf cX2_byteOf 3 (some .int) 2 51 0 0 G K [.ref (L 5), .int a1, .int a2] (xw L K cap u T) (fun v ws' => ∃ (r : Int32) (u' : XS), v = some (.int r) ∧ ws' = (xw L K cap u' T) ∧ Post r u') := by
  refine xMet.intro (lv := [(0, .ref (L 5)), (1, .int a1), (2, .int a2)]) (by decide) rfl (Nat.le_of_ble_eq_true rfl) rfl (fun p e s m args below meth c A C => ?_)
  unfold wp_X2_byteOf at hw
  refine x_aload_n C dX2_byteOf_0 rfl rfl 0 rfl ?_
  refine gX5_bytes C i_66 dX2_byteOf_1 rfl ?_
  refine x_aload_n C dX2_byteOf_4 rfl rfl 0 rfl ?_
  refine gX5_ring C i_59 dX2_byteOf_5 rfl ?_
  refine x_iload_n C dX2_byteOf_8 rfl rfl 1 rfl ?_
  refine k_X4_slotOf_f C i_601 ⟨Nat.le_of_ble_eq_true rfl, Nat.le_of_ble_eq_true rfl⟩ ⟨Nat.zero_le _, Nat.zero_le _⟩ (Nat.le_of_ble_eq_true rfl) hw dX2_byteOf_9 rfl (fun r1 u2 hw => ?_)
  refine x_bipush C (v := (28 : Int32)) dX2_byteOf_12 rfl (by decide) ?_
  refine x_imul C dX2_byteOf_14 rfl ?_
  refine x_iload_n C dX2_byteOf_15 rfl rfl 2 rfl ?_
  refine x_iadd C dX2_byteOf_16 rfl ?_
  obtain ⟨h3, hw⟩ := hw
  refine gX10_at C h3 dX2_byteOf_17 rfl ?_
  refine x_sipush C (v := (255 : Int32)) dX2_byteOf_18 rfl (by decide) ?_
  refine x_iand C dX2_byteOf_21 rfl ?_
  exact x_iret C dX2_byteOf_22 rfl (xw_same _ _) ⟨_, _, rfl, rfl, hw⟩
set_option maxRecDepth 20000 in
theorem k_X2_byteOf (C : xCx p s m args meth c G K A nL cc own ret) {a1 : Int32} {a2 : Int32} {u : XS} {idx : Nat} {rest : List Value} {Post : Int32 → XS → Prop} (hlink : Cond.methodLink own idx yX2_byteOf ∈ gw_tbl) (hR : 2 + 1 ≤ R.frames ∧ 8 + (3 + 11) + 51 ≤ R.locals) (hf : cells ≤ R.cells ∧ slots ≤ R.slots) (hW : (rest.map fun v => v.category).sum ≤ 8) (hw : wp_X2_byteOf cap a1 a2 u Post) (hdg : decode cc n = .ok (.invokevirtual idx, 3)) (hp : pc = n) (kk : ∀ (r : Int32) (u' : XS), Post r u' → xV p l e R s m args below meth c G A nL Q cells slots (xw L K cap u' T) (n + 3) lv (.int r :: rest)) : xV p l e R s m args below meth c G A nL Q cells slots (xw L K cap u T) pc lv (.int a2 :: .int a1 :: .ref (L 5) :: rest) :=
  x_callV C (As := [.int a1, .int a2]) (c_X2_byteOf hw) ⟨hlink, i_603, i_604, i_3, i_605⟩ 5 rfl rfl rfl (k := 2) (by decide +kernel) rfl hR hf hW rfl hdg hp (fun v ws' ⟨r, u', hv, hws, hPo⟩ _ => by subst hv; subst hws; exact kk r u' hPo)
def wp_X3_add (cap : Nat) (a1 : Int32) (u : XS) (Post : XS → Prop) : Prop :=
  wp_X4_nextSlot_l cap u (fun r1 u2 => vp_in r1 100 ∧ ((∀ (u4 : XS), u4 = Xs_ln u2 (upd (X_ln u2) (Int32.toNatClampNeg r1) a1) → Post u4)))
set_option maxHeartbeats 4000000 in
set_option maxRecDepth 20000 in
theorem c_X3_add {a1 : Int32} {u : XS} {Post : XS → Prop} (hw : wp_X3_add cap a1 u Post) : xMet l yX3_add cX3_add 2 none 2 43 0 0 G K [.ref (L 11), .int a1] (xw L K cap u T) (fun v ws' => ∃ u' : XS, v = none ∧ ws' = (xw L K cap u' T) ∧ Post u') := by
  refine xMet.intro (lv := [(0, .ref (L 11)), (1, .int a1)]) (by decide) rfl (Nat.le_of_ble_eq_true rfl) rfl (fun p e s m args below meth c A C => ?_)
  unfold wp_X3_add at hw
  refine x_aload_n C dX3_add_0 rfl rfl 0 rfl ?_
  refine gX11_numbers C i_91 dX3_add_1 rfl ?_
  refine x_aload_n C dX3_add_4 rfl rfl 0 rfl ?_
  refine gX11_ring C i_89 dX3_add_5 rfl ?_
  refine k_X4_nextSlot_l C i_266 ⟨Nat.le_of_ble_eq_true rfl, Nat.le_of_ble_eq_true rfl⟩ ⟨Nat.zero_le _, Nat.zero_le _⟩ (Nat.le_of_ble_eq_true rfl) hw dX3_add_8 rfl (fun r1 u2 hw => ?_)
  refine x_iload_n C dX3_add_11 rfl rfl 1 rfl ?_
  obtain ⟨h3, hw⟩ := hw
  refine pX13_at C h3 dX3_add_12 rfl (fun u4 e5 => ?_)
  have hw := hw u4 e5
  exact x_vret C dX3_add_13 rfl (xw_same _ _) ⟨_, rfl, rfl, hw⟩
set_option maxRecDepth 20000 in
theorem k_X3_add (C : xCx p s m args meth c G K A nL cc own ret) {a1 : Int32} {u : XS} {idx : Nat} {rest : List Value} {Post : XS → Prop} (hlink : Cond.methodLink own idx yX3_add ∈ gw_tbl) (hR : 2 + 1 ≤ R.frames ∧ 8 + (2 + 11) + 43 ≤ R.locals) (hf : cells ≤ R.cells ∧ slots ≤ R.slots) (hW : (rest.map fun v => v.category).sum ≤ 8) (hw : wp_X3_add cap a1 u Post) (hdg : decode cc n = .ok (.invokevirtual idx, 3)) (hp : pc = n) (kk : ∀ u' : XS, Post u' → xV p l e R s m args below meth c G A nL Q cells slots (xw L K cap u' T) (n + 3) lv rest) : xV p l e R s m args below meth c G A nL Q cells slots (xw L K cap u T) pc lv (.int a1 :: .ref (L 11) :: rest) :=
  x_callV C (As := [.int a1]) (c_X3_add hw) ⟨hlink, i_263, i_264, i_5, i_265⟩ 11 rfl rfl rfl (k := 1) (by decide +kernel) rfl hR hf hW rfl hdg hp (fun v ws' ⟨u', hv, hws, hPo⟩ _ => by subst hv; subst hws; exact kk u' hPo)
def wp_X1_become (cap : Nat) (j : Nat) (a1 : Int32) (a2 : Int32) (u : XS) (Post : XS → Prop) : Prop :=
  j < cap ∧ ((∀ (u2 : XS), u2 = Xs_E u (va_up (X_E u) j (es_kind (X_E u j) a1)) → (∀ (u4 : XS), u4 = Xs_E u2 (va_up (X_E u2) j (es_since (X_E u2 j) a2)) → Post u4)))
set_option maxHeartbeats 4000000 in
set_option maxRecDepth 20000 in
theorem c_X1_become {j : Nat} {a1 : Int32} {a2 : Int32} {u : XS} {Post : XS → Prop} (hw : wp_X1_become cap j a1 a2 u Post) : xMet l yX1_become cX1_become 3 none 0 0 0 0 G K [.ref (L (15 + 2 * j)), .int a1, .int a2] (xw L K cap u T) (fun v ws' => ∃ u' : XS, v = none ∧ ws' = (xw L K cap u' T) ∧ Post u') := by
  refine xMet.intro (lv := [(0, .ref (L (15 + 2 * j))), (1, .int a1), (2, .int a2)]) (by decide) rfl (Nat.le_of_ble_eq_true rfl) rfl (fun p e s m args below meth c A C => ?_)
  unfold wp_X1_become at hw
  refine x_aload_n C dX1_become_0 rfl rfl 0 rfl ?_
  refine x_iload_n C dX1_become_1 rfl rfl 1 rfl ?_
  obtain ⟨h1, hw⟩ := hw
  refine pE_kind C h1 i_129 dX1_become_2 rfl (fun u2 e3 => ?_)
  have hw := hw u2 e3
  refine x_aload_n C dX1_become_5 rfl rfl 0 rfl ?_
  refine x_iload_n C dX1_become_6 rfl rfl 2 rfl ?_
  refine pE_since C h1 i_132 dX1_become_7 rfl (fun u4 e5 => ?_)
  have hw := hw u4 e5
  exact x_vret C dX1_become_10 rfl (xw_same _ _) ⟨_, rfl, rfl, hw⟩
set_option maxRecDepth 20000 in
theorem k_X1_become (C : xCx p s m args meth c G K A nL cc own ret) {j : Nat} {a1 : Int32} {a2 : Int32} {u : XS} (hj_j : j < cap) {idx : Nat} {rest : List Value} {Post : XS → Prop} (hlink : Cond.methodLink own idx yX1_become ∈ gw_tbl) (hR : 0 + 1 ≤ R.frames ∧ 8 + (3 + 11) + 0 ≤ R.locals) (hf : cells ≤ R.cells ∧ slots ≤ R.slots) (hW : (rest.map fun v => v.category).sum ≤ 8) (hw : wp_X1_become cap j a1 a2 u Post) (hdg : decode cc n = .ok (.invokevirtual idx, 3)) (hp : pc = n) (kk : ∀ u' : XS, Post u' → xV p l e R s m args below meth c G A nL Q cells slots (xw L K cap u' T) (n + 3) lv rest) : xV p l e R s m args below meth c G A nL Q cells slots (xw L K cap u T) pc lv (.int a2 :: .int a1 :: .ref (L (15 + 2 * j)) :: rest) :=
  x_callV C (As := [.int a1, .int a2]) (c_X1_become hw) ⟨hlink, i_296, i_297, i_8, i_298⟩ (15 + 2 * j) rfl rfl (xw_ent hj_j) (k := 2) (by decide +kernel) rfl hR hf hW rfl hdg hp (fun v ws' ⟨u', hv, hws, hPo⟩ _ => by subst hv; subst hws; exact kk u' hPo)
def lb_X0_indexOf_2 (cap : Nat) (Post : Int32 → XS → Prop) (Ks : Int32 → Int32 → XS → Prop) (x1 : Int32) (x2 : Int32) (u : XS) : Prop :=
  (((X_size u) ≤ x2 → Post (-1 : Int32) u) ∧ (¬ ((X_size u) ≤ x2) → vp_in x2 cap ∧ ((X_row u (Int32.toNatClampNeg x2)) < cap ∧ (((¬ ((e_address (X_E u (X_row u (Int32.toNatClampNeg x2)))) = x1) → Ks x1 (x2 + 1) u) ∧ ((e_address (X_E u (X_row u (Int32.toNatClampNeg x2)))) = x1 → Post x2 u))))))
def lp_X0_indexOf_2 (cap : Nat) (Post : Int32 → XS → Prop) : Nat → Int32 → Int32 → XS → Prop
  | 0 => fun _ _ _ => False
  | f + 1 => fun x1 x2 u => lb_X0_indexOf_2 cap Post (lp_X0_indexOf_2 cap Post f) x1 x2 u
set_option maxHeartbeats 4000000 in
set_option maxRecDepth 20000 in
theorem t_X0_indexOf_2 (C : xCx p s m args meth c G K A 3 cX0_indexOf RX0 (some .int)) {u0 : XS} {Post : Int32 → XS → Prop} : ∀ (f : Nat) (x1 : Int32) (x2 : Int32) (u : XS) , lp_X0_indexOf_2 cap  Post f x1 x2 u → xV p l e (xRm 0 0 0 0) s m args below meth c G A 3 (xQ G A (xw L K cap u0 T) (fun v ws' => ∃ (r : Int32) (u' : XS), v = some (.int r) ∧ ws' = (xw L K cap u' T) ∧ Post r u') below args s 0 0) 0 0 (xw L K cap u T) 2 [(0, .ref (L 1)), (1, .int x1), (2, .int x2)] [] := by
  intro f
  induction f with
  | zero => intro x1 x2 u hw; exact hw.elim
  | succ f ih =>
    intro x1 x2 u hw
    have hw : lb_X0_indexOf_2 cap  Post (lp_X0_indexOf_2 cap  Post f) x1 x2 u := hw
    unfold lb_X0_indexOf_2 at hw
    refine x_iload_n C dX0_indexOf_2 rfl rfl 2 rfl ?_
    refine x_aload_n C dX0_indexOf_3 rfl rfl 0 rfl ?_
    refine gX1_size C i_154 dX0_indexOf_4 rfl ?_
    refine x_icmp_ge C 31 dX0_indexOf_7 rfl (by decide) (fun c1 => ?_) (fun c1 => ?_)
    · have hw := hw.1 c1
      refine x_iconst C (v := (-1 : Int32)) dX0_indexOf_31 rfl (by decide) ?_
      exact x_iret C dX0_indexOf_32 rfl (xw_same _ _) ⟨_, _, rfl, rfl, hw⟩
    · have hw := hw.2 c1
      refine x_aload_n C dX0_indexOf_10 rfl rfl 0 rfl ?_
      refine gX1_row C i_152 dX0_indexOf_11 rfl ?_
      refine x_iload_n C dX0_indexOf_14 rfl rfl 2 rfl ?_
      obtain ⟨h2, hw⟩ := hw
      refine gX2_at C h2 dX0_indexOf_15 rfl ?_
      obtain ⟨h3, hw⟩ := hw
      refine gE_address C h3 i_124 dX0_indexOf_16 rfl ?_
      refine x_iload_n C dX0_indexOf_19 rfl rfl 1 rfl ?_
      refine x_icmp_ne C 25 dX0_indexOf_20 rfl (by decide) (fun c4 => ?_) (fun c4 => ?_)
      · have hw := hw.1 c4
        refine x_iinc C (k := 2) (v := x2 + 1) (lv' := [(2, .int (x2 + 1)), (0, .ref (L 1)), (1, .int x1)]) dX0_indexOf_25 rfl rfl rfl (by decide) rfl ?_
        refine x_goto C (tgt := 2) dX0_indexOf_28 rfl (by decide) ?_
        refine x_lv [1, 2, 0] rfl ?_
        exact ih x1 (x2 + 1) u hw
      · have hw := hw.2 c4
        refine x_iload_n C dX0_indexOf_23 rfl rfl 2 rfl ?_
        exact x_iret C dX0_indexOf_24 rfl (xw_same _ _) ⟨_, _, rfl, rfl, hw⟩
def wp_X0_indexOf (cap : Nat) (a1 : Int32) (u : XS) (Post : Int32 → XS → Prop) : Prop :=
  ∃ f9 : Nat, lp_X0_indexOf_2 cap Post f9 a1 (0 : Int32) u
set_option maxHeartbeats 4000000 in
set_option maxRecDepth 20000 in
theorem c_X0_indexOf {a1 : Int32} {u : XS} {Post : Int32 → XS → Prop} (hw : wp_X0_indexOf cap a1 u Post) : xMet l yX0_indexOf cX0_indexOf 3 (some .int) 0 0 0 0 G K [.ref (L 1), .int a1] (xw L K cap u T) (fun v ws' => ∃ (r : Int32) (u' : XS), v = some (.int r) ∧ ws' = (xw L K cap u' T) ∧ Post r u') := by
  refine xMet.intro (lv := [(0, .ref (L 1)), (1, .int a1)]) (by decide) rfl (Nat.le_of_ble_eq_true rfl) rfl (fun p e s m args below meth c A C => ?_)
  unfold wp_X0_indexOf at hw
  refine x_iconst C (v := (0 : Int32)) dX0_indexOf_0 rfl (by decide) ?_
  refine x_istore_n C (lv' := [(2, .int (0 : Int32)), (0, .ref (L 1)), (1, .int a1)]) dX0_indexOf_1 rfl rfl (by decide) rfl ?_
  refine x_lv [1, 2, 0] rfl ?_
  obtain ⟨f9, hw⟩ := hw
  exact t_X0_indexOf_2 C f9 a1 (0 : Int32) u hw
set_option maxRecDepth 20000 in
theorem k_X0_indexOf (C : xCx p s m args meth c G K A nL cc own ret) {a1 : Int32} {u : XS} {idx : Nat} {rest : List Value} {Post : Int32 → XS → Prop} (hlink : Cond.methodLink own idx yX0_indexOf ∈ gw_tbl) (hR : 0 + 1 ≤ R.frames ∧ 8 + (3 + 11) + 0 ≤ R.locals) (hf : cells ≤ R.cells ∧ slots ≤ R.slots) (hW : (rest.map fun v => v.category).sum ≤ 8) (hw : wp_X0_indexOf cap a1 u Post) (hdg : decode cc n = .ok (.invokevirtual idx, 3)) (hp : pc = n) (kk : ∀ (r : Int32) (u' : XS), Post r u' → xV p l e R s m args below meth c G A nL Q cells slots (xw L K cap u' T) (n + 3) lv (.int r :: rest)) : xV p l e R s m args below meth c G A nL Q cells slots (xw L K cap u T) pc lv (.int a1 :: .ref (L 1) :: rest) :=
  x_callV C (As := [.int a1]) (c_X0_indexOf hw) ⟨hlink, i_288, i_289, i_6, i_290⟩ 1 rfl rfl rfl (k := 1) (by decide +kernel) rfl hR hf hW rfl hdg hp (fun v ws' ⟨r, u', hv, hws, hPo⟩ _ => by subst hv; subst hws; exact kk r u' hPo)
def lb_X0_countWaiting_4 (cap : Nat) (Post : Int32 → XS → Prop) (Ks : Int32 → Int32 → XS → Prop) (x1 : Int32) (x2 : Int32) (u : XS) : Prop :=
  (((X_size u) ≤ x2 → Post x1 u) ∧ (¬ ((X_size u) ≤ x2) → vp_in x2 cap ∧ ((X_row u (Int32.toNatClampNeg x2)) < cap ∧ (Ks (x1 + (e_waiting (X_E u (X_row u (Int32.toNatClampNeg x2))))) (x2 + 1) u))))
def lp_X0_countWaiting_4 (cap : Nat) (Post : Int32 → XS → Prop) : Nat → Int32 → Int32 → XS → Prop
  | 0 => fun _ _ _ => False
  | f + 1 => fun x1 x2 u => lb_X0_countWaiting_4 cap Post (lp_X0_countWaiting_4 cap Post f) x1 x2 u
set_option maxHeartbeats 4000000 in
set_option maxRecDepth 20000 in
theorem t_X0_countWaiting_4 (C : xCx p s m args meth c G K A 3 cX0_countWaiting RX0 (some .int)) {u0 : XS} {Post : Int32 → XS → Prop} : ∀ (f : Nat) (x1 : Int32) (x2 : Int32) (u : XS) , lp_X0_countWaiting_4 cap  Post f x1 x2 u → xV p l e (xRm 0 0 0 0) s m args below meth c G A 3 (xQ G A (xw L K cap u0 T) (fun v ws' => ∃ (r : Int32) (u' : XS), v = some (.int r) ∧ ws' = (xw L K cap u' T) ∧ Post r u') below args s 0 0) 0 0 (xw L K cap u T) 4 [(0, .ref (L 1)), (1, .int x1), (2, .int x2)] [] := by
  intro f
  induction f with
  | zero => intro x1 x2 u hw; exact hw.elim
  | succ f ih =>
    intro x1 x2 u hw
    have hw : lb_X0_countWaiting_4 cap  Post (lp_X0_countWaiting_4 cap  Post f) x1 x2 u := hw
    unfold lb_X0_countWaiting_4 at hw
    refine x_iload_n C dX0_countWaiting_4 rfl rfl 2 rfl ?_
    refine x_aload_n C dX0_countWaiting_5 rfl rfl 0 rfl ?_
    refine gX1_size C i_154 dX0_countWaiting_6 rfl ?_
    refine x_icmp_ge C 30 dX0_countWaiting_9 rfl (by decide) (fun c1 => ?_) (fun c1 => ?_)
    · have hw := hw.1 c1
      refine x_iload_n C dX0_countWaiting_30 rfl rfl 1 rfl ?_
      exact x_iret C dX0_countWaiting_31 rfl (xw_same _ _) ⟨_, _, rfl, rfl, hw⟩
    · have hw := hw.2 c1
      refine x_iload_n C dX0_countWaiting_12 rfl rfl 1 rfl ?_
      refine x_aload_n C dX0_countWaiting_13 rfl rfl 0 rfl ?_
      refine gX1_row C i_152 dX0_countWaiting_14 rfl ?_
      refine x_iload_n C dX0_countWaiting_17 rfl rfl 2 rfl ?_
      obtain ⟨h2, hw⟩ := hw
      refine gX2_at C h2 dX0_countWaiting_18 rfl ?_
      obtain ⟨h3, hw⟩ := hw
      refine gE_waiting C h3 i_121 dX0_countWaiting_19 rfl ?_
      refine x_iadd C dX0_countWaiting_22 rfl ?_
      refine x_istore_n C (lv' := [(1, .int (x1 + (e_waiting (X_E u (X_row u (Int32.toNatClampNeg x2)))))), (0, .ref (L 1)), (2, .int x2)]) dX0_countWaiting_23 rfl rfl (by decide) rfl ?_
      refine x_iinc C (k := 2) (v := x2 + 1) (lv' := [(2, .int (x2 + 1)), (1, .int (x1 + (e_waiting (X_E u (X_row u (Int32.toNatClampNeg x2)))))), (0, .ref (L 1))]) dX0_countWaiting_24 rfl rfl rfl (by decide) rfl ?_
      refine x_goto C (tgt := 4) dX0_countWaiting_27 rfl (by decide) ?_
      refine x_lv [2, 1, 0] rfl ?_
      exact ih (x1 + (e_waiting (X_E u (X_row u (Int32.toNatClampNeg x2))))) (x2 + 1) u hw
def wp_X0_countWaiting (cap : Nat) (u : XS) (Post : Int32 → XS → Prop) : Prop :=
  ∃ f9 : Nat, lp_X0_countWaiting_4 cap Post f9 (0 : Int32) (0 : Int32) u
set_option maxHeartbeats 4000000 in
set_option maxRecDepth 20000 in
theorem c_X0_countWaiting {u : XS} {Post : Int32 → XS → Prop} (hw : wp_X0_countWaiting cap  u Post) : xMet l yX0_countWaiting cX0_countWaiting 3 (some .int) 0 0 0 0 G K [.ref (L 1)] (xw L K cap u T) (fun v ws' => ∃ (r : Int32) (u' : XS), v = some (.int r) ∧ ws' = (xw L K cap u' T) ∧ Post r u') := by
  refine xMet.intro (lv := [(0, .ref (L 1))]) (by decide) rfl (Nat.le_of_ble_eq_true rfl) rfl (fun p e s m args below meth c A C => ?_)
  unfold wp_X0_countWaiting at hw
  refine x_iconst C (v := (0 : Int32)) dX0_countWaiting_0 rfl (by decide) ?_
  refine x_istore_n C (lv' := [(1, .int (0 : Int32)), (0, .ref (L 1))]) dX0_countWaiting_1 rfl rfl (by decide) rfl ?_
  refine x_iconst C (v := (0 : Int32)) dX0_countWaiting_2 rfl (by decide) ?_
  refine x_istore_n C (lv' := [(2, .int (0 : Int32)), (1, .int (0 : Int32)), (0, .ref (L 1))]) dX0_countWaiting_3 rfl rfl (by decide) rfl ?_
  refine x_lv [2, 1, 0] rfl ?_
  obtain ⟨f9, hw⟩ := hw
  exact t_X0_countWaiting_4 C f9 (0 : Int32) (0 : Int32) u hw
set_option maxRecDepth 20000 in
theorem k_X0_countWaiting (C : xCx p s m args meth c G K A nL cc own ret) {u : XS} {idx : Nat} {rest : List Value} {Post : Int32 → XS → Prop} (hlink : Cond.methodLink own idx yX0_countWaiting ∈ gw_tbl) (hR : 0 + 1 ≤ R.frames ∧ 8 + (3 + 11) + 0 ≤ R.locals) (hf : cells ≤ R.cells ∧ slots ≤ R.slots) (hW : (rest.map fun v => v.category).sum ≤ 8) (hw : wp_X0_countWaiting cap  u Post) (hdg : decode cc n = .ok (.invokevirtual idx, 3)) (hp : pc = n) (kk : ∀ (r : Int32) (u' : XS), Post r u' → xV p l e R s m args below meth c G A nL Q cells slots (xw L K cap u' T) (n + 3) lv (.int r :: rest)) : xV p l e R s m args below meth c G A nL Q cells slots (xw L K cap u T) pc lv (.ref (L 1) :: rest) :=
  x_callV C (As := []) (c_X0_countWaiting hw) ⟨hlink, i_504, i_505, i_6, i_506⟩ 1 rfl rfl rfl (k := 0) (by decide +kernel) rfl hR hf hW rfl hdg hp (fun v ws' ⟨r, u', hv, hws, hPo⟩ _ => by subst hv; subst hws; exact kk r u' hPo)
def lb_X0_moveToEnd_9 (cap : Nat) (Post : Nat → XS → Prop) (Ks : Nat → Int32 → XS → Prop) (x2 : Nat) (x3 : Int32) (u : XS) : Prop :=
  ((((X_size u) - (1 : Int32)) ≤ x3 → x2 < cap ∧ (vp_in ((X_size u) - (1 : Int32)) cap ∧ ((∀ (u4 : XS), u4 = Xs_row u (va_up (X_row u) (Int32.toNatClampNeg ((X_size u) - (1 : Int32))) x2) → Post x2 u4)))) ∧ (¬ (((X_size u) - (1 : Int32)) ≤ x3) → vp_in (x3 + (1 : Int32)) cap ∧ ((X_row u (Int32.toNatClampNeg (x3 + (1 : Int32)))) < cap ∧ (vp_in x3 cap ∧ ((∀ (u9 : XS), u9 = Xs_row u (va_up (X_row u) (Int32.toNatClampNeg x3) (X_row u (Int32.toNatClampNeg (x3 + (1 : Int32))))) → Ks x2 (x3 + 1) u9))))))
def lp_X0_moveToEnd_9 (cap : Nat) (Post : Nat → XS → Prop) : Nat → Nat → Int32 → XS → Prop
  | 0 => fun _ _ _ => False
  | f + 1 => fun x2 x3 u => lb_X0_moveToEnd_9 cap Post (lp_X0_moveToEnd_9 cap Post f) x2 x3 u
set_option maxHeartbeats 4000000 in
set_option maxRecDepth 20000 in
theorem t_X0_moveToEnd_9 (C : xCx p s m args meth c G K A 4 cX0_moveToEnd RX0 (some (.object "NeighbourDesk$Entry"))) {u0 : XS} {Post : Nat → XS → Prop} : ∀ (f : Nat) (x2 : Nat) (x3 : Int32) (u : XS) , lp_X0_moveToEnd_9 cap  Post f x2 x3 u → xV p l e (xRm 0 0 0 0) s m args below meth c G A 4 (xQ G A (xw L K cap u0 T) (fun v ws' => ∃ (r : Nat) (u' : XS), v = some (.ref (L (15 + 2 * r))) ∧ ws' = (xw L K cap u' T) ∧ Post r u') below args s 0 0) 0 0 (xw L K cap u T) 9 [(0, .ref (L 1)), (2, .ref (L (15 + 2 * x2))), (3, .int x3)] [] := by
  intro f
  induction f with
  | zero => intro x2 x3 u hw; exact hw.elim
  | succ f ih =>
    intro x2 x3 u hw
    have hw : lb_X0_moveToEnd_9 cap  Post (lp_X0_moveToEnd_9 cap  Post f) x2 x3 u := hw
    unfold lb_X0_moveToEnd_9 at hw
    refine x_iload_n C dX0_moveToEnd_9 rfl rfl 2 rfl ?_
    refine x_aload_n C dX0_moveToEnd_10 rfl rfl 0 rfl ?_
    refine gX1_size C i_154 dX0_moveToEnd_11 rfl ?_
    refine x_iconst C (v := (1 : Int32)) dX0_moveToEnd_14 rfl (by decide) ?_
    refine x_isub C dX0_moveToEnd_15 rfl ?_
    refine x_icmp_ge C 39 dX0_moveToEnd_16 rfl (by decide) (fun c1 => ?_) (fun c1 => ?_)
    · have hw := hw.1 c1
      refine x_aload_n C dX0_moveToEnd_39 rfl rfl 0 rfl ?_
      refine gX1_row C i_152 dX0_moveToEnd_40 rfl ?_
      refine x_aload_n C dX0_moveToEnd_43 rfl rfl 0 rfl ?_
      refine gX1_size C i_154 dX0_moveToEnd_44 rfl ?_
      refine x_iconst C (v := (1 : Int32)) dX0_moveToEnd_47 rfl (by decide) ?_
      refine x_isub C dX0_moveToEnd_48 rfl ?_
      refine x_aload_n C dX0_moveToEnd_49 rfl rfl 1 rfl ?_
      obtain ⟨h2, hw⟩ := hw
      obtain ⟨h3, hw⟩ := hw
      refine pX2_at C h2 h3 dX0_moveToEnd_50 rfl (fun u4 e5 => ?_)
      have hw := hw u4 e5
      refine x_aload_n C dX0_moveToEnd_51 rfl rfl 1 rfl ?_
      exact x_aret C dX0_moveToEnd_52 rfl (xw_same _ _) ⟨_, _, rfl, rfl, hw⟩
    · have hw := hw.2 c1
      refine x_aload_n C dX0_moveToEnd_19 rfl rfl 0 rfl ?_
      refine gX1_row C i_152 dX0_moveToEnd_20 rfl ?_
      refine x_iload_n C dX0_moveToEnd_23 rfl rfl 2 rfl ?_
      refine x_aload_n C dX0_moveToEnd_24 rfl rfl 0 rfl ?_
      refine gX1_row C i_152 dX0_moveToEnd_25 rfl ?_
      refine x_iload_n C dX0_moveToEnd_28 rfl rfl 2 rfl ?_
      refine x_iconst C (v := (1 : Int32)) dX0_moveToEnd_29 rfl (by decide) ?_
      refine x_iadd C dX0_moveToEnd_30 rfl ?_
      obtain ⟨h6, hw⟩ := hw
      refine gX2_at C h6 dX0_moveToEnd_31 rfl ?_
      obtain ⟨h7, hw⟩ := hw
      obtain ⟨h8, hw⟩ := hw
      refine pX2_at C h7 h8 dX0_moveToEnd_32 rfl (fun u9 e10 => ?_)
      have hw := hw u9 e10
      refine x_iinc C (k := 2) (v := x3 + 1) (lv' := [(3, .int (x3 + 1)), (0, .ref (L 1)), (2, .ref (L (15 + 2 * x2)))]) dX0_moveToEnd_33 rfl rfl rfl (by decide) rfl ?_
      refine x_goto C (tgt := 9) dX0_moveToEnd_36 rfl (by decide) ?_
      refine x_lv [1, 2, 0] rfl ?_
      exact ih x2 (x3 + 1) u9 hw
def wp_X0_moveToEnd (cap : Nat) (a1 : Int32) (u : XS) (Post : Nat → XS → Prop) : Prop :=
  vp_in a1 cap ∧ (∃ f9 : Nat, lp_X0_moveToEnd_9 cap Post f9 (X_row u (Int32.toNatClampNeg a1)) a1 u)
set_option maxHeartbeats 4000000 in
set_option maxRecDepth 20000 in
theorem c_X0_moveToEnd {a1 : Int32} {u : XS} {Post : Nat → XS → Prop} (hw : wp_X0_moveToEnd cap a1 u Post) : xMet l yX0_moveToEnd cX0_moveToEnd 4 (some (.object "NeighbourDesk$Entry")) 0 0 0 0 G K [.ref (L 1), .int a1] (xw L K cap u T) (fun v ws' => ∃ (r : Nat) (u' : XS), v = some (.ref (L (15 + 2 * r))) ∧ ws' = (xw L K cap u' T) ∧ Post r u') := by
  refine xMet.intro (lv := [(0, .ref (L 1)), (1, .int a1)]) (by decide) rfl (Nat.le_of_ble_eq_true rfl) rfl (fun p e s m args below meth c A C => ?_)
  unfold wp_X0_moveToEnd at hw
  refine x_aload_n C dX0_moveToEnd_0 rfl rfl 0 rfl ?_
  refine gX1_row C i_152 dX0_moveToEnd_1 rfl ?_
  refine x_iload_n C dX0_moveToEnd_4 rfl rfl 1 rfl ?_
  obtain ⟨h1, hw⟩ := hw
  refine gX2_at C h1 dX0_moveToEnd_5 rfl ?_
  refine x_astore_n C (lv' := [(2, .ref (L (15 + 2 * (X_row u (Int32.toNatClampNeg a1))))), (0, .ref (L 1)), (1, .int a1)]) dX0_moveToEnd_6 rfl rfl (by decide) rfl ?_
  refine x_iload_n C dX0_moveToEnd_7 rfl rfl 2 rfl ?_
  refine x_istore_n C (lv' := [(3, .int a1), (2, .ref (L (15 + 2 * (X_row u (Int32.toNatClampNeg a1))))), (0, .ref (L 1)), (1, .int a1)]) dX0_moveToEnd_8 rfl rfl (by decide) rfl ?_
  refine x_lv [2, 1, 0] rfl ?_
  obtain ⟨f9, hw⟩ := hw
  exact t_X0_moveToEnd_9 C f9 (X_row u (Int32.toNatClampNeg a1)) a1 u hw
set_option maxRecDepth 20000 in
theorem k_X0_moveToEnd (C : xCx p s m args meth c G K A nL cc own ret) {a1 : Int32} {u : XS} {idx : Nat} {rest : List Value} {Post : Nat → XS → Prop} (hlink : Cond.methodLink own idx yX0_moveToEnd ∈ gw_tbl) (hR : 0 + 1 ≤ R.frames ∧ 8 + (4 + 11) + 0 ≤ R.locals) (hf : cells ≤ R.cells ∧ slots ≤ R.slots) (hW : (rest.map fun v => v.category).sum ≤ 8) (hw : wp_X0_moveToEnd cap a1 u Post) (hdg : decode cc n = .ok (.invokevirtual idx, 3)) (hp : pc = n) (kk : ∀ (r : Nat) (u' : XS), Post r u' → xV p l e R s m args below meth c G A nL Q cells slots (xw L K cap u' T) (n + 3) lv (.ref (L (15 + 2 * r)) :: rest)) : xV p l e R s m args below meth c G A nL Q cells slots (xw L K cap u T) pc lv (.int a1 :: .ref (L 1) :: rest) :=
  x_callV C (As := [.int a1]) (c_X0_moveToEnd hw) ⟨hlink, i_317, i_s10, i_6, i_318⟩ 1 rfl rfl rfl (k := 1) (by decide +kernel) rfl hR hf hW rfl hdg hp (fun v ws' ⟨r, u', hv, hws, hPo⟩ _ => by subst hv; subst hws; exact kk r u' hPo)
def wp_X0_remove (cap : Nat) (a1 : Int32) (u : XS) (Post : XS → Prop) : Prop :=
  wp_X0_moveToEnd cap a1 u (fun r1 u2 => (∀ (u3 : XS), u3 = Xs_size u2 ((X_size u2) - (1 : Int32)) → Post u3))
set_option maxHeartbeats 4000000 in
set_option maxRecDepth 20000 in
theorem c_X0_remove {a1 : Int32} {u : XS} {Post : XS → Prop} (hw : wp_X0_remove cap a1 u Post) : xMet l yX0_remove cX0_remove 2 none 1 23 0 0 G K [.ref (L 1), .int a1] (xw L K cap u T) (fun v ws' => ∃ u' : XS, v = none ∧ ws' = (xw L K cap u' T) ∧ Post u') := by
  refine xMet.intro (lv := [(0, .ref (L 1)), (1, .int a1)]) (by decide) rfl (Nat.le_of_ble_eq_true rfl) rfl (fun p e s m args below meth c A C => ?_)
  unfold wp_X0_remove at hw
  refine x_aload_n C dX0_remove_0 rfl rfl 0 rfl ?_
  refine x_iload_n C dX0_remove_1 rfl rfl 1 rfl ?_
  refine k_X0_moveToEnd C i_315 ⟨Nat.le_of_ble_eq_true rfl, Nat.le_of_ble_eq_true rfl⟩ ⟨Nat.zero_le _, Nat.zero_le _⟩ (Nat.le_of_ble_eq_true rfl) hw dX0_remove_2 rfl (fun r1 u2 hw => ?_)
  refine x_pop C dX0_remove_5 rfl rfl ?_
  refine x_aload_n C dX0_remove_6 rfl rfl 0 rfl ?_
  refine x_dup C dX0_remove_7 rfl rfl ?_
  refine gX1_size C i_154 dX0_remove_8 rfl ?_
  refine x_iconst C (v := (1 : Int32)) dX0_remove_11 rfl (by decide) ?_
  refine x_isub C dX0_remove_12 rfl ?_
  refine pX1_size C i_154 dX0_remove_13 rfl (fun u3 e4 => ?_)
  have hw := hw u3 e4
  exact x_vret C dX0_remove_16 rfl (xw_same _ _) ⟨_, rfl, rfl, hw⟩
set_option maxRecDepth 20000 in
theorem k_X0_remove (C : xCx p s m args meth c G K A nL cc own ret) {a1 : Int32} {u : XS} {idx : Nat} {rest : List Value} {Post : XS → Prop} (hlink : Cond.methodLink own idx yX0_remove ∈ gw_tbl) (hR : 1 + 1 ≤ R.frames ∧ 8 + (2 + 11) + 23 ≤ R.locals) (hf : cells ≤ R.cells ∧ slots ≤ R.slots) (hW : (rest.map fun v => v.category).sum ≤ 8) (hw : wp_X0_remove cap a1 u Post) (hdg : decode cc n = .ok (.invokevirtual idx, 3)) (hp : pc = n) (kk : ∀ u' : XS, Post u' → xV p l e R s m args below meth c G A nL Q cells slots (xw L K cap u' T) (n + 3) lv rest) : xV p l e R s m args below meth c G A nL Q cells slots (xw L K cap u T) pc lv (.int a1 :: .ref (L 1) :: rest) :=
  x_callV C (As := [.int a1]) (c_X0_remove hw) ⟨hlink, i_312, i_313, i_6, i_314⟩ 1 rfl rfl rfl (k := 1) (by decide +kernel) rfl hR hf hW rfl hdg hp (fun v ws' ⟨u', hv, hws, hPo⟩ _ => by subst hv; subst hws; exact kk u' hPo)
def lb_X0_makeRoom_16 (cap : Nat) (Post : Int32 → XS → Prop) (Ks : Int32 → XS → Prop) (x1 : Int32) (u : XS) : Prop :=
  (((X_size u) ≤ x1 → Post (0 : Int32) u) ∧ (¬ ((X_size u) ≤ x1) → vp_in x1 cap ∧ ((X_row u (Int32.toNatClampNeg x1)) < cap ∧ ((((e_kind (X_E u (X_row u (Int32.toNatClampNeg x1)))) = (1 : Int32) → Ks (x1 + 1) u) ∧ (¬ ((e_kind (X_E u (X_row u (Int32.toNatClampNeg x1)))) = (1 : Int32)) → wp_X0_remove cap x1 u (fun u6 => Post (1 : Int32) u6)))))))
def lp_X0_makeRoom_16 (cap : Nat) (Post : Int32 → XS → Prop) : Nat → Int32 → XS → Prop
  | 0 => fun _ _ => False
  | f + 1 => fun x1 u => lb_X0_makeRoom_16 cap Post (lp_X0_makeRoom_16 cap Post f) x1 u
set_option maxHeartbeats 4000000 in
set_option maxRecDepth 20000 in
theorem t_X0_makeRoom_16 (C : xCx p s m args meth c G K A 2 cX0_makeRoom RX0 (some .boolean)) {u0 : XS} {Post : Int32 → XS → Prop} : ∀ (f : Nat) (x1 : Int32) (u : XS) , lp_X0_makeRoom_16 cap  Post f x1 u → xV p l e (xRm 2 44 0 0) s m args below meth c G A 2 (xQ G A (xw L K cap u0 T) (fun v ws' => ∃ (r : Int32) (u' : XS), v = some (.int r) ∧ ws' = (xw L K cap u' T) ∧ Post r u') below args s 0 0) 0 0 (xw L K cap u T) 16 [(0, .ref (L 1)), (1, .int x1)] [] := by
  intro f
  induction f with
  | zero => intro x1 u hw; exact hw.elim
  | succ f ih =>
    intro x1 u hw
    have hw : lb_X0_makeRoom_16 cap  Post (lp_X0_makeRoom_16 cap  Post f) x1 u := hw
    unfold lb_X0_makeRoom_16 at hw
    refine x_iload_n C dX0_makeRoom_16 rfl rfl 1 rfl ?_
    refine x_aload_n C dX0_makeRoom_17 rfl rfl 0 rfl ?_
    refine gX1_size C i_154 dX0_makeRoom_18 rfl ?_
    refine x_icmp_ge C 50 dX0_makeRoom_21 rfl (by decide) (fun c1 => ?_) (fun c1 => ?_)
    · have hw := hw.1 c1
      refine x_iconst C (v := (0 : Int32)) dX0_makeRoom_50 rfl (by decide) ?_
      exact x_zret C dX0_makeRoom_51 rfl rfl (xw_same _ _) ⟨_, _, rfl, rfl, hw⟩
    · have hw := hw.2 c1
      refine x_aload_n C dX0_makeRoom_24 rfl rfl 0 rfl ?_
      refine gX1_row C i_152 dX0_makeRoom_25 rfl ?_
      refine x_iload_n C dX0_makeRoom_28 rfl rfl 1 rfl ?_
      obtain ⟨h2, hw⟩ := hw
      refine gX2_at C h2 dX0_makeRoom_29 rfl ?_
      obtain ⟨h3, hw⟩ := hw
      refine gE_kind C h3 i_130 dX0_makeRoom_30 rfl ?_
      refine x_iconst C (v := (1 : Int32)) dX0_makeRoom_33 rfl (by decide) ?_
      refine x_icmp_eq C 44 dX0_makeRoom_34 rfl (by decide) (fun c4 => ?_) (fun c4 => ?_)
      · have hw := hw.1 c4
        refine x_iinc C (k := 1) (v := x1 + 1) (lv' := [(1, .int (x1 + 1)), (0, .ref (L 1))]) dX0_makeRoom_44 rfl rfl rfl (by decide) rfl ?_
        refine x_goto C (tgt := 16) dX0_makeRoom_47 rfl (by decide) ?_
        refine x_lv [1, 0] rfl ?_
        exact ih (x1 + 1) u hw
      · have hw := hw.2 c4
        refine x_aload_n C dX0_makeRoom_37 rfl rfl 0 rfl ?_
        refine x_iload_n C dX0_makeRoom_38 rfl rfl 1 rfl ?_
        refine k_X0_remove C i_311 ⟨Nat.le_of_ble_eq_true rfl, Nat.le_of_ble_eq_true rfl⟩ ⟨Nat.zero_le _, Nat.zero_le _⟩ (Nat.le_of_ble_eq_true rfl) hw dX0_makeRoom_39 rfl (fun u6 hw => ?_)
        refine x_iconst C (v := (1 : Int32)) dX0_makeRoom_42 rfl (by decide) ?_
        exact x_zret C dX0_makeRoom_43 rfl rfl (xw_same _ _) ⟨_, _, rfl, rfl, hw⟩
def wp_X0_makeRoom (cap : Nat) (u : XS) (Post : Int32 → XS → Prop) : Prop :=
  (((Int32.ofNat cap) ≤ (X_size u) → ∃ f9 : Nat, lp_X0_makeRoom_16 cap Post f9 (0 : Int32) u) ∧ (¬ ((Int32.ofNat cap) ≤ (X_size u)) → Post (1 : Int32) u))
set_option maxHeartbeats 4000000 in
set_option maxRecDepth 20000 in
theorem c_X0_makeRoom {u : XS} {Post : Int32 → XS → Prop} (hw : wp_X0_makeRoom cap  u Post) : xMet l yX0_makeRoom cX0_makeRoom 2 (some .boolean) 2 44 0 0 G K [.ref (L 1)] (xw L K cap u T) (fun v ws' => ∃ (r : Int32) (u' : XS), v = some (.int r) ∧ ws' = (xw L K cap u' T) ∧ Post r u') := by
  refine xMet.intro (lv := [(0, .ref (L 1))]) (by decide) rfl (Nat.le_of_ble_eq_true rfl) rfl (fun p e s m args below meth c A C => ?_)
  unfold wp_X0_makeRoom at hw
  refine x_aload_n C dX0_makeRoom_0 rfl rfl 0 rfl ?_
  refine gX1_size C i_154 dX0_makeRoom_1 rfl ?_
  refine x_aload_n C dX0_makeRoom_4 rfl rfl 0 rfl ?_
  refine gX1_row C i_152 dX0_makeRoom_5 rfl ?_
  refine lX2 C dX0_makeRoom_8 rfl ?_
  refine x_icmp_ge C 14 dX0_makeRoom_9 rfl (by decide) (fun c1 => ?_) (fun c1 => ?_)
  · have hw := hw.1 c1
    refine x_iconst C (v := (0 : Int32)) dX0_makeRoom_14 rfl (by decide) ?_
    refine x_istore_n C (lv' := [(1, .int (0 : Int32)), (0, .ref (L 1))]) dX0_makeRoom_15 rfl rfl (by decide) rfl ?_
    refine x_lv [1, 0] rfl ?_
    obtain ⟨f9, hw⟩ := hw
    exact t_X0_makeRoom_16 C f9 (0 : Int32) u hw
  · have hw := hw.2 c1
    refine x_iconst C (v := (1 : Int32)) dX0_makeRoom_12 rfl (by decide) ?_
    exact x_zret C dX0_makeRoom_13 rfl rfl (xw_same _ _) ⟨_, _, rfl, rfl, hw⟩
set_option maxRecDepth 20000 in
theorem k_X0_makeRoom (C : xCx p s m args meth c G K A nL cc own ret) {u : XS} {idx : Nat} {rest : List Value} {Post : Int32 → XS → Prop} (hlink : Cond.methodLink own idx yX0_makeRoom ∈ gw_tbl) (hR : 2 + 1 ≤ R.frames ∧ 8 + (2 + 11) + 44 ≤ R.locals) (hf : cells ≤ R.cells ∧ slots ≤ R.slots) (hW : (rest.map fun v => v.category).sum ≤ 8) (hw : wp_X0_makeRoom cap  u Post) (hdg : decode cc n = .ok (.invokevirtual idx, 3)) (hp : pc = n) (kk : ∀ (r : Int32) (u' : XS), Post r u' → xV p l e R s m args below meth c G A nL Q cells slots (xw L K cap u' T) (n + 3) lv (.int r :: rest)) : xV p l e R s m args below meth c G A nL Q cells slots (xw L K cap u T) pc lv (.ref (L 1) :: rest) :=
  x_callV C (As := []) (c_X0_makeRoom hw) ⟨hlink, i_308, i_309, i_6, i_310⟩ 1 rfl rfl rfl (k := 0) (by decide +kernel) rfl hR hf hW rfl hdg hp (fun v ws' ⟨r, u', hv, hws, hPo⟩ _ => by subst hv; subst hws; exact kk r u' hPo)
def wp_X0_add (cap : Nat) (a1 : Int32) (a2 : Int64) (a4 : Int32) (a5 : Int32) (u : XS) (Post : Nat → XS → Prop) : Prop :=
  vp_in (X_size u) cap ∧ ((∀ (u2 : XS), u2 = Xs_size u ((X_size u) + (1 : Int32)) → (X_row u (Int32.toNatClampNeg (X_size u))) < cap ∧ ((∀ (u5 : XS), u5 = Xs_E u2 (va_up (X_E u2) (X_row u (Int32.toNatClampNeg (X_size u))) (es_address (X_E u2 (X_row u (Int32.toNatClampNeg (X_size u)))) a1)) → (∀ (u7 : XS), u7 = Xs_E u5 (va_up (X_E u5) (X_row u (Int32.toNatClampNeg (X_size u))) (es_number (X_E u5 (X_row u (Int32.toNatClampNeg (X_size u)))) a2)) → (∀ (u9 : XS), u9 = Xs_E u7 (va_up (X_E u7) (X_row u (Int32.toNatClampNeg (X_size u))) (es_waiting (X_E u7 (X_row u (Int32.toNatClampNeg (X_size u)))) (0 : Int32))) → (∀ (u11 : XS), u11 = Xs_E u9 (va_up (X_E u9) (X_row u (Int32.toNatClampNeg (X_size u))) (es_used (X_E u9 (X_row u (Int32.toNatClampNeg (X_size u)))) a5)) → wp_X1_become cap (X_row u (Int32.toNatClampNeg (X_size u))) a4 a5 u11 (fun u14 => Post (X_row u (Int32.toNatClampNeg (X_size u))) u14))))))))
set_option maxHeartbeats 4000000 in
set_option maxRecDepth 20000 in
theorem c_X0_add {a1 : Int32} {a2 : Int64} {a4 : Int32} {a5 : Int32} {u : XS} {Post : Nat → XS → Prop} (hw : wp_X0_add cap a1 a2 a4 a5 u Post) : xMet l yX0_add cX0_add 7 (some (.object "NeighbourDesk$Entry")) 1 22 0 0 G K [.ref (L 1), .int a1, .long a2, .int a4, .int a5] (xw L K cap u T) (fun v ws' => ∃ (r : Nat) (u' : XS), v = some (.ref (L (15 + 2 * r))) ∧ ws' = (xw L K cap u' T) ∧ Post r u') := by
  refine xMet.intro (lv := [(0, .ref (L 1)), (1, .int a1), (2, .long a2), (4, .int a4), (5, .int a5)]) (by decide) rfl (Nat.le_of_ble_eq_true rfl) rfl (fun p e s m args below meth c A C => ?_)
  unfold wp_X0_add at hw
  refine x_aload_n C dX0_add_0 rfl rfl 0 rfl ?_
  refine gX1_row C i_152 dX0_add_1 rfl ?_
  refine x_aload_n C dX0_add_4 rfl rfl 0 rfl ?_
  refine gX1_size C i_154 dX0_add_5 rfl ?_
  obtain ⟨h1, hw⟩ := hw
  refine gX2_at C h1 dX0_add_8 rfl ?_
  refine x_astore C (lv' := [(6, .ref (L (15 + 2 * (X_row u (Int32.toNatClampNeg (X_size u)))))), (0, .ref (L 1)), (1, .int a1), (2, .long a2), (4, .int a4), (5, .int a5)]) dX0_add_9 rfl (by decide) rfl ?_
  refine x_aload_n C dX0_add_11 rfl rfl 1 rfl ?_
  refine x_dup C dX0_add_12 rfl rfl ?_
  refine gX1_size C i_154 dX0_add_13 rfl ?_
  refine x_iconst C (v := (1 : Int32)) dX0_add_16 rfl (by decide) ?_
  refine x_iadd C dX0_add_17 rfl ?_
  refine pX1_size C i_154 dX0_add_18 rfl (fun u2 e3 => ?_)
  have hw := hw u2 e3
  refine x_aload C dX0_add_21 rfl 0 rfl ?_
  refine x_iload_n C dX0_add_23 rfl rfl 2 rfl ?_
  obtain ⟨h4, hw⟩ := hw
  refine pE_address C h4 i_124 dX0_add_24 rfl (fun u5 e6 => ?_)
  have hw := hw u5 e6
  refine x_aload C dX0_add_27 rfl 0 rfl ?_
  refine x_lload_n C dX0_add_29 rfl rfl 3 rfl ?_
  refine pE_number C h4 i_127 dX0_add_30 rfl (fun u7 e8 => ?_)
  have hw := hw u7 e8
  refine x_aload C dX0_add_33 rfl 0 rfl ?_
  refine x_iconst C (v := (0 : Int32)) dX0_add_35 rfl (by decide) ?_
  refine pE_waiting C h4 i_121 dX0_add_36 rfl (fun u9 e10 => ?_)
  have hw := hw u9 e10
  refine x_aload C dX0_add_39 rfl 0 rfl ?_
  refine x_iload C dX0_add_41 rfl 5 rfl ?_
  refine pE_used C h4 i_135 dX0_add_43 rfl (fun u11 e12 => ?_)
  have hw := hw u11 e12
  refine x_aload C dX0_add_46 rfl 0 rfl ?_
  refine x_iload C dX0_add_48 rfl 4 rfl ?_
  refine x_iload C dX0_add_50 rfl 5 rfl ?_
  refine k_X1_become C h4 i_323 ⟨Nat.le_of_ble_eq_true rfl, Nat.le_of_ble_eq_true rfl⟩ ⟨Nat.zero_le _, Nat.zero_le _⟩ (Nat.le_of_ble_eq_true rfl) hw dX0_add_52 rfl (fun u14 hw => ?_)
  refine x_aload C dX0_add_55 rfl 0 rfl ?_
  exact x_aret C dX0_add_57 rfl (xw_same _ _) ⟨_, _, rfl, rfl, hw⟩
set_option maxRecDepth 20000 in
theorem k_X0_add (C : xCx p s m args meth c G K A nL cc own ret) {a1 : Int32} {a2 : Int64} {a4 : Int32} {a5 : Int32} {u : XS} {idx : Nat} {rest : List Value} {Post : Nat → XS → Prop} (hlink : Cond.methodLink own idx yX0_add ∈ gw_tbl) (hR : 1 + 1 ≤ R.frames ∧ 8 + (7 + 11) + 22 ≤ R.locals) (hf : cells ≤ R.cells ∧ slots ≤ R.slots) (hW : (rest.map fun v => v.category).sum ≤ 8) (hw : wp_X0_add cap a1 a2 a4 a5 u Post) (hdg : decode cc n = .ok (.invokevirtual idx, 3)) (hp : pc = n) (kk : ∀ (r : Nat) (u' : XS), Post r u' → xV p l e R s m args below meth c G A nL Q cells slots (xw L K cap u' T) (n + 3) lv (.ref (L (15 + 2 * r)) :: rest)) : xV p l e R s m args below meth c G A nL Q cells slots (xw L K cap u T) pc lv (.int a5 :: .int a4 :: .long a2 :: .int a1 :: .ref (L 1) :: rest) :=
  x_callV C (As := [.int a1, .long a2, .int a4, .int a5]) (c_X0_add hw) ⟨hlink, i_320, i_321, i_6, i_322⟩ 1 rfl rfl rfl (k := 4) (by decide +kernel) rfl hR hf hW rfl hdg hp (fun v ws' ⟨r, u', hv, hws, hPo⟩ _ => by subst hv; subst hws; exact kk r u' hPo)
def wp_X0_use (cap : Nat) (a1 : Int32) (a2 : Int32) (u : XS) (Post : Nat → XS → Prop) : Prop :=
  wp_X0_moveToEnd cap a1 u (fun r1 u2 => r1 < cap ∧ ((∀ (u4 : XS), u4 = Xs_E u2 (va_up (X_E u2) r1 (es_used (X_E u2 r1) a2)) → Post r1 u4)))
set_option maxHeartbeats 4000000 in
set_option maxRecDepth 20000 in
theorem c_X0_use {a1 : Int32} {a2 : Int32} {u : XS} {Post : Nat → XS → Prop} (hw : wp_X0_use cap a1 a2 u Post) : xMet l yX0_use cX0_use 4 (some (.object "NeighbourDesk$Entry")) 1 23 0 0 G K [.ref (L 1), .int a1, .int a2] (xw L K cap u T) (fun v ws' => ∃ (r : Nat) (u' : XS), v = some (.ref (L (15 + 2 * r))) ∧ ws' = (xw L K cap u' T) ∧ Post r u') := by
  refine xMet.intro (lv := [(0, .ref (L 1)), (1, .int a1), (2, .int a2)]) (by decide) rfl (Nat.le_of_ble_eq_true rfl) rfl (fun p e s m args below meth c A C => ?_)
  unfold wp_X0_use at hw
  refine x_aload_n C dX0_use_0 rfl rfl 0 rfl ?_
  refine x_iload_n C dX0_use_1 rfl rfl 1 rfl ?_
  refine k_X0_moveToEnd C i_315 ⟨Nat.le_of_ble_eq_true rfl, Nat.le_of_ble_eq_true rfl⟩ ⟨Nat.zero_le _, Nat.zero_le _⟩ (Nat.le_of_ble_eq_true rfl) hw dX0_use_2 rfl (fun r1 u2 hw => ?_)
  refine x_astore_n C (lv' := [(3, .ref (L (15 + 2 * r1))), (0, .ref (L 1)), (1, .int a1), (2, .int a2)]) dX0_use_5 rfl rfl (by decide) rfl ?_
  refine x_aload_n C dX0_use_6 rfl rfl 0 rfl ?_
  refine x_iload_n C dX0_use_7 rfl rfl 3 rfl ?_
  obtain ⟨h3, hw⟩ := hw
  refine pE_used C h3 i_135 dX0_use_8 rfl (fun u4 e5 => ?_)
  have hw := hw u4 e5
  refine x_aload_n C dX0_use_11 rfl rfl 0 rfl ?_
  exact x_aret C dX0_use_12 rfl (xw_same _ _) ⟨_, _, rfl, rfl, hw⟩
set_option maxRecDepth 20000 in
theorem k_X0_use (C : xCx p s m args meth c G K A nL cc own ret) {a1 : Int32} {a2 : Int32} {u : XS} {idx : Nat} {rest : List Value} {Post : Nat → XS → Prop} (hlink : Cond.methodLink own idx yX0_use ∈ gw_tbl) (hR : 1 + 1 ≤ R.frames ∧ 8 + (4 + 11) + 23 ≤ R.locals) (hf : cells ≤ R.cells ∧ slots ≤ R.slots) (hW : (rest.map fun v => v.category).sum ≤ 8) (hw : wp_X0_use cap a1 a2 u Post) (hdg : decode cc n = .ok (.invokevirtual idx, 3)) (hp : pc = n) (kk : ∀ (r : Nat) (u' : XS), Post r u' → xV p l e R s m args below meth c G A nL Q cells slots (xw L K cap u' T) (n + 3) lv (.ref (L (15 + 2 * r)) :: rest)) : xV p l e R s m args below meth c G A nL Q cells slots (xw L K cap u T) pc lv (.int a2 :: .int a1 :: .ref (L 1) :: rest) :=
  x_callV C (As := [.int a1, .int a2]) (c_X0_use hw) ⟨hlink, i_465, i_466, i_6, i_467⟩ 1 rfl rfl rfl (k := 2) (by decide +kernel) rfl hR hf hW rfl hdg hp (fun v ws' ⟨r, u', hv, hws, hPo⟩ _ => by subst hv; subst hws; exact kk r u' hPo)
end XWK
