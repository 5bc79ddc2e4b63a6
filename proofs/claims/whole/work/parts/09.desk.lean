/-! walks: the class itself, what throws nothing -/
section XWK
variable {p : Program} {l : Launch} {e : Env} {R : Room} {s : State} {m : MethodId} {args : Array Value} {below : List Frame} {meth : Method} {c : Code} {G : va_G} {A : Nat → Prop} {nL : Nat} {Q : State → Prop} {cells slots : Nat} {K : Nat → ClassId} {cc : ByteArray} {own : String} {ret : Option FieldType} {pc n : Nat} {lv : List (Nat × Value)} {st : List Value} {L : Nat → Nat} {cap : Nat} {T ws : va_W}
theorem x_out1_4 {x : Int32} (h1 : ¬ x = 1) (h2 : ¬ x = 2) (h3 : ¬ x = 3) (h4 : ¬ x = 4) : x.toInt < 1 ∨ 4 < x.toInt := by
  have g1 : x.toInt ≠ 1 := fun q => h1 (Int32.toInt_inj.mp (by rw [q]; rfl))
  have g2 : x.toInt ≠ 2 := fun q => h2 (Int32.toInt_inj.mp (by rw [q]; rfl))
  have g3 : x.toInt ≠ 3 := fun q => h3 (Int32.toInt_inj.mp (by rw [q]; rfl))
  have g4 : x.toInt ≠ 4 := fun q => h4 (Int32.toInt_inj.mp (by rw [q]; rfl))
  omega
def wp_X7_request (cap : Nat) (a1 : Int64) (a3 : Int32) (a4 : Int32) (u : XS) (Post : XS → Prop) : Prop :=
  wp_X2_addPacket cap a1 (1 : Int32) (X_here u) a3 (0 : Int64) a4 u (fun u2 => Post u2)
set_option maxHeartbeats 4000000 in
set_option maxRecDepth 20000 in
theorem c_X7_request {a1 : Int64} {a3 : Int32} {a4 : Int32} {u : XS} {Post : XS → Prop} (hw : wp_X7_request cap a1 a3 a4 u Post) : xMet l yX7_request cX7_request 5 none 3 85 0 0 G K [.ref (L 0), .long a1, .int a3, .int a4] (xw L K cap u T) (fun v ws' => ∃ u' : XS, v = none ∧ ws' = (xw L K cap u' T) ∧ Post u') := by
  refine xMet.intro (lv := [(0, .ref (L 0)), (1, .long a1), (3, .int a3), (4, .int a4)]) (by decide) rfl (Nat.le_of_ble_eq_true rfl) rfl (fun p e s m args below meth c A C => ?_)
  unfold wp_X7_request at hw
  refine x_aload_n C dX7_request_0 rfl rfl 0 rfl ?_
  refine gX0_frames C i_165 dX7_request_1 rfl ?_
  refine x_lload_n C dX7_request_4 rfl rfl 1 rfl ?_
  refine x_iconst C (v := (1 : Int32)) dX7_request_5 rfl (by decide) ?_
  refine x_aload_n C dX7_request_6 rfl rfl 0 rfl ?_
  refine gX0_hereNumber C i_167 dX7_request_7 rfl ?_
  refine x_iload_n C dX7_request_10 rfl rfl 2 rfl ?_
  refine x_lconst C (v := (0 : Int64)) dX7_request_11 rfl (by decide) ?_
  refine x_iload C dX7_request_12 rfl 3 rfl ?_
  refine k_X2_addPacket C i_281 ⟨Nat.le_of_ble_eq_true rfl, Nat.le_of_ble_eq_true rfl⟩ ⟨Nat.zero_le _, Nat.zero_le _⟩ (Nat.le_of_ble_eq_true rfl) hw dX7_request_14 rfl (fun u2 hw => ?_)
  exact x_vret C dX7_request_17 rfl (xw_same _ _) ⟨_, rfl, rfl, hw⟩
set_option maxRecDepth 20000 in
theorem k_X7_request (C : xCx p s m args meth c G K A nL cc own ret) {a1 : Int64} {a3 : Int32} {a4 : Int32} {u : XS} {idx : Nat} {rest : List Value} {Post : XS → Prop} (hlink : Cond.methodLink own idx yX7_request ∈ gw_tbl) (hR : 3 + 1 ≤ R.frames ∧ 8 + (5 + 11) + 85 ≤ R.locals) (hf : cells ≤ R.cells ∧ slots ≤ R.slots) (hW : (rest.map fun v => v.category).sum ≤ 8) (hw : wp_X7_request cap a1 a3 a4 u Post) (hdg : decode cc n = .ok (.invokevirtual idx, 3)) (hp : pc = n) (kk : ∀ u' : XS, Post u' → xV p l e R s m args below meth c G A nL Q cells slots (xw L K cap u' T) (n + 3) lv rest) : xV p l e R s m args below meth c G A nL Q cells slots (xw L K cap u T) pc lv (.int a4 :: .int a3 :: .long a1 :: .ref (L 0) :: rest) :=
  x_callV C (As := [.long a1, .int a3, .int a4]) (c_X7_request hw) ⟨hlink, i_279, i_s7, i_1, i_280⟩ 0 rfl rfl rfl (k := 3) (by decide +kernel) rfl hR hf hW rfl hdg hp (fun v ws' ⟨u', hv, hws, hPo⟩ _ => by subst hv; subst hws; exact kk u' hPo)
def wp_X7_probe (cap : Nat) (u : XS) (Post : XS → Prop) : Prop :=
  wp_X7_request cap (281474976710655 : Int64) (0 : Int32) (X_own u) u (fun u2 => Post u2)
set_option maxHeartbeats 4000000 in
set_option maxRecDepth 20000 in
theorem c_X7_probe {u : XS} {Post : XS → Prop} (hw : wp_X7_probe cap  u Post) : xMet l yX7_probe cX7_probe 1 none 4 109 0 0 G K [.ref (L 0)] (xw L K cap u T) (fun v ws' => ∃ u' : XS, v = none ∧ ws' = (xw L K cap u' T) ∧ Post u') := by
  refine xMet.intro (lv := [(0, .ref (L 0))]) (by decide) rfl (Nat.le_of_ble_eq_true rfl) rfl (fun p e s m args below meth c A C => ?_)
  unfold wp_X7_probe at hw
  refine x_aload_n C dX7_probe_0 rfl rfl 0 rfl ?_
  refine x_ldc2 C dX7_probe_1 rfl i_233 ?_
  refine x_iconst C (v := (0 : Int32)) dX7_probe_4 rfl (by decide) ?_
  refine x_aload_n C dX7_probe_5 rfl rfl 0 rfl ?_
  refine gX0_own C i_170 dX7_probe_6 rfl ?_
  refine k_X7_request C i_277 ⟨Nat.le_of_ble_eq_true rfl, Nat.le_of_ble_eq_true rfl⟩ ⟨Nat.zero_le _, Nat.zero_le _⟩ (Nat.le_of_ble_eq_true rfl) hw dX7_probe_9 rfl (fun u2 hw => ?_)
  exact x_vret C dX7_probe_12 rfl (xw_same _ _) ⟨_, rfl, rfl, hw⟩
set_option maxRecDepth 20000 in
theorem k_X7_probe (C : xCx p s m args meth c G K A nL cc own ret) {u : XS} {idx : Nat} {rest : List Value} {Post : XS → Prop} (hlink : Cond.methodLink own idx yX7_probe ∈ gw_tbl) (hR : 4 + 1 ≤ R.frames ∧ 8 + (1 + 11) + 109 ≤ R.locals) (hf : cells ≤ R.cells ∧ slots ≤ R.slots) (hW : (rest.map fun v => v.category).sum ≤ 8) (hw : wp_X7_probe cap  u Post) (hdg : decode cc n = .ok (.invokevirtual idx, 3)) (hp : pc = n) (kk : ∀ u' : XS, Post u' → xV p l e R s m args below meth c G A nL Q cells slots (xw L K cap u' T) (n + 3) lv rest) : xV p l e R s m args below meth c G A nL Q cells slots (xw L K cap u T) pc lv (.ref (L 0) :: rest) :=
  x_callV C (As := []) (c_X7_probe hw) ⟨hlink, i_447, i_s12, i_1, i_448⟩ 0 rfl rfl rfl (k := 0) (by decide +kernel) rfl hR hf hW rfl hdg hp (fun v ws' ⟨u', hv, hws, hPo⟩ _ => by subst hv; subst hws; exact kk u' hPo)
def wp_X7_announce (cap : Nat) (u : XS) (Post : XS → Prop) : Prop :=
  wp_X7_request cap (281474976710655 : Int64) (X_own u) (X_own u) u (fun u2 => Post u2)
set_option maxHeartbeats 4000000 in
set_option maxRecDepth 20000 in
theorem c_X7_announce {u : XS} {Post : XS → Prop} (hw : wp_X7_announce cap  u Post) : xMet l yX7_announce cX7_announce 1 none 4 109 0 0 G K [.ref (L 0)] (xw L K cap u T) (fun v ws' => ∃ u' : XS, v = none ∧ ws' = (xw L K cap u' T) ∧ Post u') := by
  refine xMet.intro (lv := [(0, .ref (L 0))]) (by decide) rfl (Nat.le_of_ble_eq_true rfl) rfl (fun p e s m args below meth c A C => ?_)
  unfold wp_X7_announce at hw
  refine x_aload_n C dX7_announce_0 rfl rfl 0 rfl ?_
  refine x_ldc2 C dX7_announce_1 rfl i_233 ?_
  refine x_aload_n C dX7_announce_4 rfl rfl 0 rfl ?_
  refine gX0_own C i_170 dX7_announce_5 rfl ?_
  refine x_aload_n C dX7_announce_8 rfl rfl 0 rfl ?_
  refine gX0_own C i_170 dX7_announce_9 rfl ?_
  refine k_X7_request C i_277 ⟨Nat.le_of_ble_eq_true rfl, Nat.le_of_ble_eq_true rfl⟩ ⟨Nat.zero_le _, Nat.zero_le _⟩ (Nat.le_of_ble_eq_true rfl) hw dX7_announce_12 rfl (fun u2 hw => ?_)
  exact x_vret C dX7_announce_15 rfl (xw_same _ _) ⟨_, rfl, rfl, hw⟩
set_option maxRecDepth 20000 in
theorem k_X7_announce (C : xCx p s m args meth c G K A nL cc own ret) {u : XS} {idx : Nat} {rest : List Value} {Post : XS → Prop} (hlink : Cond.methodLink own idx yX7_announce ∈ gw_tbl) (hR : 4 + 1 ≤ R.frames ∧ 8 + (1 + 11) + 109 ≤ R.locals) (hf : cells ≤ R.cells ∧ slots ≤ R.slots) (hW : (rest.map fun v => v.category).sum ≤ 8) (hw : wp_X7_announce cap  u Post) (hdg : decode cc n = .ok (.invokevirtual idx, 3)) (hp : pc = n) (kk : ∀ u' : XS, Post u' → xV p l e R s m args below meth c G A nL Q cells slots (xw L K cap u' T) (n + 3) lv rest) : xV p l e R s m args below meth c G A nL Q cells slots (xw L K cap u T) pc lv (.ref (L 0) :: rest) :=
  x_callV C (As := []) (c_X7_announce hw) ⟨hlink, i_275, i_s6, i_1, i_276⟩ 0 rfl rfl rfl (k := 0) (by decide +kernel) rfl hR hf hW rfl hdg hp (fun v ws' ⟨u', hv, hws, hPo⟩ _ => by subst hv; subst hws; exact kk u' hPo)
def lb_X7_loseWaiting_2 (cap : Nat) (Post : XS → Prop) (Ks : Nat → Int32 → XS → Prop) (x1 : Nat) (x2 : Int32) (u : XS) : Prop :=
  x1 < cap ∧ ((((e_waiting (X_E u x1)) ≤ x2 → (∀ (u3 : XS), u3 = Xs_E u (va_up (X_E u) x1 (es_waiting (X_E u x1) (0 : Int32))) → Post u3)) ∧ (¬ ((e_waiting (X_E u x1)) ≤ x2) → vp_in x2 4 ∧ (wp_X3_add cap (X_Q u x1 (Int32.toNatClampNeg x2)) u (fun u7 => Ks x1 (x2 + 1) u7)))))
def lp_X7_loseWaiting_2 (cap : Nat) (Post : XS → Prop) : Nat → Nat → Int32 → XS → Prop
  | 0 => fun _ _ _ => False
  | f + 1 => fun x1 x2 u => lb_X7_loseWaiting_2 cap Post (lp_X7_loseWaiting_2 cap Post f) x1 x2 u
set_option maxHeartbeats 4000000 in
set_option maxRecDepth 20000 in
theorem t_X7_loseWaiting_2 (C : xCx p s m args meth c G K A 3 cX7_loseWaiting RX7 none) {u0 : XS} {Post : XS → Prop} : ∀ (f : Nat) (x1 : Nat) (x2 : Int32) (u : XS) , lp_X7_loseWaiting_2 cap  Post f x1 x2 u → xV p l e (xRm 3 64 0 0) s m args below meth c G A 3 (xQ G A (xw L K cap u0 T) (fun v ws' => ∃ u' : XS, v = none ∧ ws' = (xw L K cap u' T) ∧ Post u') below args s 0 0) 0 0 (xw L K cap u T) 2 [(0, .ref (L 0)), (1, .ref (L (15 + 2 * x1))), (2, .int x2)] [] := by
  intro f
  induction f with
  | zero => intro x1 x2 u hw; exact hw.elim
  | succ f ih =>
    intro x1 x2 u hw
    have hw : lb_X7_loseWaiting_2 cap  Post (lp_X7_loseWaiting_2 cap  Post f) x1 x2 u := hw
    unfold lb_X7_loseWaiting_2 at hw
    refine x_iload_n C dX7_loseWaiting_2 rfl rfl 2 rfl ?_
    refine x_aload_n C dX7_loseWaiting_3 rfl rfl 1 rfl ?_
    obtain ⟨h1, hw⟩ := hw
    refine gE_waiting C h1 i_122 dX7_loseWaiting_4 rfl ?_
    refine x_icmp_ge C 29 dX7_loseWaiting_7 rfl (by decide) (fun c2 => ?_) (fun c2 => ?_)
    · have hw := hw.1 c2
      refine x_aload_n C dX7_loseWaiting_29 rfl rfl 1 rfl ?_
      refine x_iconst C (v := (0 : Int32)) dX7_loseWaiting_30 rfl (by decide) ?_
      refine pE_waiting C h1 i_122 dX7_loseWaiting_31 rfl (fun u3 e4 => ?_)
      have hw := hw u3 e4
      exact x_vret C dX7_loseWaiting_34 rfl (xw_same _ _) ⟨_, rfl, rfl, hw⟩
    · have hw := hw.2 c2
      refine x_aload_n C dX7_loseWaiting_10 rfl rfl 0 rfl ?_
      refine gX0_losses C i_166 dX7_loseWaiting_11 rfl ?_
      refine x_aload_n C dX7_loseWaiting_14 rfl rfl 1 rfl ?_
      refine gE_queue C h1 i_119 dX7_loseWaiting_15 rfl ?_
      refine x_iload_n C dX7_loseWaiting_18 rfl rfl 2 rfl ?_
      obtain ⟨h5, hw⟩ := hw
      refine gQ_at C h1 h5 dX7_loseWaiting_19 rfl ?_
      refine k_X3_add C i_262 ⟨Nat.le_of_ble_eq_true rfl, Nat.le_of_ble_eq_true rfl⟩ ⟨Nat.zero_le _, Nat.zero_le _⟩ (Nat.le_of_ble_eq_true rfl) hw dX7_loseWaiting_20 rfl (fun u7 hw => ?_)
      refine x_iinc C (k := 2) (v := x2 + 1) (lv' := [(2, .int (x2 + 1)), (0, .ref (L 0)), (1, .ref (L (15 + 2 * x1)))]) dX7_loseWaiting_23 rfl rfl rfl (by decide) rfl ?_
      refine x_goto C (tgt := 2) dX7_loseWaiting_26 rfl (by decide) ?_
      refine x_lv [1, 2, 0] rfl ?_
      exact ih x1 (x2 + 1) u7 hw
def wp_X7_loseWaiting (cap : Nat) (a1 : Nat) (u : XS) (Post : XS → Prop) : Prop :=
  ∃ f9 : Nat, lp_X7_loseWaiting_2 cap Post f9 a1 (0 : Int32) u
set_option maxHeartbeats 4000000 in
set_option maxRecDepth 20000 in
theorem c_X7_loseWaiting {a1 : Nat} {u : XS} {Post : XS → Prop} (hw : wp_X7_loseWaiting cap a1 u Post) : xMet l yX7_loseWaiting cX7_loseWaiting 3 none 3 64 0 0 G K [.ref (L 0), .ref (L (15 + 2 * a1))] (xw L K cap u T) (fun v ws' => ∃ u' : XS, v = none ∧ ws' = (xw L K cap u' T) ∧ Post u') := by
  refine xMet.intro (lv := [(0, .ref (L 0)), (1, .ref (L (15 + 2 * a1)))]) (by decide) rfl (Nat.le_of_ble_eq_true rfl) rfl (fun p e s m args below meth c A C => ?_)
  unfold wp_X7_loseWaiting at hw
  refine x_iconst C (v := (0 : Int32)) dX7_loseWaiting_0 rfl (by decide) ?_
  refine x_istore_n C (lv' := [(2, .int (0 : Int32)), (0, .ref (L 0)), (1, .ref (L (15 + 2 * a1)))]) dX7_loseWaiting_1 rfl rfl (by decide) rfl ?_
  refine x_lv [1, 2, 0] rfl ?_
  obtain ⟨f9, hw⟩ := hw
  exact t_X7_loseWaiting_2 C f9 a1 (0 : Int32) u hw
set_option maxRecDepth 20000 in
theorem k_X7_loseWaiting (C : xCx p s m args meth c G K A nL cc own ret) {a1 : Nat} {u : XS} (hj_a1 : a1 < cap) {idx : Nat} {rest : List Value} {Post : XS → Prop} (hlink : Cond.methodLink own idx yX7_loseWaiting ∈ gw_tbl) (hR : 3 + 1 ≤ R.frames ∧ 8 + (3 + 11) + 64 ≤ R.locals) (hf : cells ≤ R.cells ∧ slots ≤ R.slots) (hW : (rest.map fun v => v.category).sum ≤ 8) (hw : wp_X7_loseWaiting cap a1 u Post) (hdg : decode cc n = .ok (.invokevirtual idx, 3)) (hp : pc = n) (kk : ∀ u' : XS, Post u' → xV p l e R s m args below meth c G A nL Q cells slots (xw L K cap u' T) (n + 3) lv rest) : xV p l e R s m args below meth c G A nL Q cells slots (xw L K cap u T) pc lv (.ref (L (15 + 2 * a1)) :: .ref (L 0) :: rest) :=
  x_callV C (As := [.ref (L (15 + 2 * a1))]) (c_X7_loseWaiting hw) ⟨hlink, i_260, i_s5, i_1, i_261⟩ 0 rfl rfl rfl (k := 1) (by decide +kernel) rfl hR hf hW rfl hdg hp (fun v ws' ⟨u', hv, hws, hPo⟩ _ => by subst hv; subst hws; exact kk u' hPo)
def lb_X7_giveUp_12 (cap : Nat) (Post : XS → Prop) (Ks : Int32 → XS → Prop) (x1 : Int32) (u : XS) : Prop :=
  (((X_size u) ≤ x1 → (∀ (u2 : XS), u2 = Xs_size u (0 : Int32) → Post u2)) ∧ (¬ ((X_size u) ≤ x1) → vp_in x1 cap ∧ ((X_row u (Int32.toNatClampNeg x1)) < cap ∧ (wp_X7_loseWaiting cap (X_row u (Int32.toNatClampNeg x1)) u (fun u7 => Ks (x1 + 1) u7)))))
def lp_X7_giveUp_12 (cap : Nat) (Post : XS → Prop) : Nat → Int32 → XS → Prop
  | 0 => fun _ _ => False
  | f + 1 => fun x1 u => lb_X7_giveUp_12 cap Post (lp_X7_giveUp_12 cap Post f) x1 u
set_option maxHeartbeats 4000000 in
set_option maxRecDepth 20000 in
theorem t_X7_giveUp_12 (C : xCx p s m args meth c G K A 2 cX7_giveUp RX7 none) {u0 : XS} {Post : XS → Prop} : ∀ (f : Nat) (x1 : Int32) (u : XS) , lp_X7_giveUp_12 cap  Post f x1 u → xV p l e (xRm 4 86 0 0) s m args below meth c G A 2 (xQ G A (xw L K cap u0 T) (fun v ws' => ∃ u' : XS, v = none ∧ ws' = (xw L K cap u' T) ∧ Post u') below args s 0 0) 0 0 (xw L K cap u T) 12 [(0, .ref (L 0)), (1, .int x1)] [] := by
  intro f
  induction f with
  | zero => intro x1 u hw; exact hw.elim
  | succ f ih =>
    intro x1 u hw
    have hw : lb_X7_giveUp_12 cap  Post (lp_X7_giveUp_12 cap  Post f) x1 u := hw
    unfold lb_X7_giveUp_12 at hw
    refine x_iload_n C dX7_giveUp_12 rfl rfl 1 rfl ?_
    refine x_aload_n C dX7_giveUp_13 rfl rfl 0 rfl ?_
    refine gX0_cache C i_163 dX7_giveUp_14 rfl ?_
    refine gX1_size C i_155 dX7_giveUp_17 rfl ?_
    refine x_icmp_ge C 42 dX7_giveUp_20 rfl (by decide) (fun c1 => ?_) (fun c1 => ?_)
    · have hw := hw.1 c1
      refine x_aload_n C dX7_giveUp_42 rfl rfl 0 rfl ?_
      refine gX0_cache C i_163 dX7_giveUp_43 rfl ?_
      refine x_iconst C (v := (0 : Int32)) dX7_giveUp_46 rfl (by decide) ?_
      refine pX1_size C i_155 dX7_giveUp_47 rfl (fun u2 e3 => ?_)
      have hw := hw u2 e3
      exact x_vret C dX7_giveUp_50 rfl (xw_same _ _) ⟨_, rfl, rfl, hw⟩
    · have hw := hw.2 c1
      refine x_aload_n C dX7_giveUp_23 rfl rfl 0 rfl ?_
      refine x_aload_n C dX7_giveUp_24 rfl rfl 0 rfl ?_
      refine gX0_cache C i_163 dX7_giveUp_25 rfl ?_
      refine gX1_row C i_153 dX7_giveUp_28 rfl ?_
      refine x_iload_n C dX7_giveUp_31 rfl rfl 1 rfl ?_
      obtain ⟨h4, hw⟩ := hw
      refine gX2_at C h4 dX7_giveUp_32 rfl ?_
      obtain ⟨h5, hw⟩ := hw
      refine k_X7_loseWaiting C h5 i_258 ⟨Nat.le_of_ble_eq_true rfl, Nat.le_of_ble_eq_true rfl⟩ ⟨Nat.zero_le _, Nat.zero_le _⟩ (Nat.le_of_ble_eq_true rfl) hw dX7_giveUp_33 rfl (fun u7 hw => ?_)
      refine x_iinc C (k := 1) (v := x1 + 1) (lv' := [(1, .int (x1 + 1)), (0, .ref (L 0))]) dX7_giveUp_36 rfl rfl rfl (by decide) rfl ?_
      refine x_goto C (tgt := 12) dX7_giveUp_39 rfl (by decide) ?_
      refine x_lv [1, 0] rfl ?_
      exact ih (x1 + 1) u7 hw
def wp_X7_giveUp (cap : Nat) (u : XS) (Post : XS → Prop) : Prop :=
  (∀ (u1 : XS), u1 = Xs_phase u (0 : Int32) → (∀ (u3 : XS), u3 = Xs_own u1 (0 : Int32) → ∃ f9 : Nat, lp_X7_giveUp_12 cap Post f9 (0 : Int32) u3))
set_option maxHeartbeats 4000000 in
set_option maxRecDepth 20000 in
theorem c_X7_giveUp {u : XS} {Post : XS → Prop} (hw : wp_X7_giveUp cap  u Post) : xMet l yX7_giveUp cX7_giveUp 2 none 4 86 0 0 G K [.ref (L 0)] (xw L K cap u T) (fun v ws' => ∃ u' : XS, v = none ∧ ws' = (xw L K cap u' T) ∧ Post u') := by
  refine xMet.intro (lv := [(0, .ref (L 0))]) (by decide) rfl (Nat.le_of_ble_eq_true rfl) rfl (fun p e s m args below meth c A C => ?_)
  unfold wp_X7_giveUp at hw
  refine x_aload_n C dX7_giveUp_0 rfl rfl 0 rfl ?_
  refine x_iconst C (v := (0 : Int32)) dX7_giveUp_1 rfl (by decide) ?_
  refine pX0_phase C i_169 dX7_giveUp_2 rfl (fun u1 e2 => ?_)
  have hw := hw u1 e2
  refine x_aload_n C dX7_giveUp_5 rfl rfl 0 rfl ?_
  refine x_iconst C (v := (0 : Int32)) dX7_giveUp_6 rfl (by decide) ?_
  refine pX0_own C i_170 dX7_giveUp_7 rfl (fun u3 e4 => ?_)
  have hw := hw u3 e4
  refine x_iconst C (v := (0 : Int32)) dX7_giveUp_10 rfl (by decide) ?_
  refine x_istore_n C (lv' := [(1, .int (0 : Int32)), (0, .ref (L 0))]) dX7_giveUp_11 rfl rfl (by decide) rfl ?_
  refine x_lv [1, 0] rfl ?_
  obtain ⟨f9, hw⟩ := hw
  exact t_X7_giveUp_12 C f9 (0 : Int32) u3 hw
set_option maxRecDepth 20000 in
theorem k_X7_giveUp (C : xCx p s m args meth c G K A nL cc own ret) {u : XS} {idx : Nat} {rest : List Value} {Post : XS → Prop} (hlink : Cond.methodLink own idx yX7_giveUp ∈ gw_tbl) (hR : 4 + 1 ≤ R.frames ∧ 8 + (2 + 11) + 86 ≤ R.locals) (hf : cells ≤ R.cells ∧ slots ≤ R.slots) (hW : (rest.map fun v => v.category).sum ≤ 8) (hw : wp_X7_giveUp cap  u Post) (hdg : decode cc n = .ok (.invokevirtual idx, 3)) (hp : pc = n) (kk : ∀ u' : XS, Post u' → xV p l e R s m args below meth c G A nL Q cells slots (xw L K cap u' T) (n + 3) lv rest) : xV p l e R s m args below meth c G A nL Q cells slots (xw L K cap u T) pc lv (.ref (L 0) :: rest) :=
  x_callV C (As := []) (c_X7_giveUp hw) ⟨hlink, i_256, i_s4, i_1, i_257⟩ 0 rfl rfl rfl (k := 0) (by decide +kernel) rfl hR hf hW rfl hdg hp (fun v ws' ⟨u', hv, hws, hPo⟩ _ => by subst hv; subst hws; exact kk u' hPo)
def wp_X7_putInLine (cap : Nat) (a1 : Nat) (a2 : Int32) (u : XS) (Post : Int32 → XS → Prop) : Prop :=
  a1 < cap ∧ ((((e_waiting (X_E u a1)) < (4 : Int32) → vp_in (e_waiting (X_E u a1)) 4 ∧ ((∀ (u4 : XS), u4 = Xs_Q u (va_up (X_Q u) a1 (upd (X_Q u a1) (Int32.toNatClampNeg (e_waiting (X_E u a1))) a2)) → (∀ (u6 : XS), u6 = Xs_E u4 (va_up (X_E u4) a1 (es_waiting (X_E u4 a1) ((e_waiting (X_E u4 a1)) + (1 : Int32)))) → Post (1 : Int32) u6)))) ∧ (¬ ((e_waiting (X_E u a1)) < (4 : Int32)) → wp_X3_add cap a2 u (fun u9 => Post (2 : Int32) u9))))
set_option maxHeartbeats 4000000 in
set_option maxRecDepth 20000 in
theorem c_X7_putInLine {a1 : Nat} {a2 : Int32} {u : XS} {Post : Int32 → XS → Prop} (hw : wp_X7_putInLine cap a1 a2 u Post) : xMet l yX7_putInLine cX7_putInLine 3 (some .int) 3 64 0 0 G K [.ref (L 0), .ref (L (15 + 2 * a1)), .int a2] (xw L K cap u T) (fun v ws' => ∃ (r : Int32) (u' : XS), v = some (.int r) ∧ ws' = (xw L K cap u' T) ∧ Post r u') := by
  refine xMet.intro (lv := [(0, .ref (L 0)), (1, .ref (L (15 + 2 * a1))), (2, .int a2)]) (by decide) rfl (Nat.le_of_ble_eq_true rfl) rfl (fun p e s m args below meth c A C => ?_)
  unfold wp_X7_putInLine at hw
  refine x_aload_n C dX7_putInLine_0 rfl rfl 1 rfl ?_
  obtain ⟨h1, hw⟩ := hw
  refine gE_waiting C h1 i_122 dX7_putInLine_1 rfl ?_
  refine x_iconst C (v := (4 : Int32)) dX7_putInLine_4 rfl (by decide) ?_
  refine x_icmp_lt C 18 dX7_putInLine_5 rfl (by decide) (fun c2 => ?_) (fun c2 => ?_)
  · have hw := hw.1 c2
    refine x_aload_n C dX7_putInLine_18 rfl rfl 1 rfl ?_
    refine gE_queue C h1 i_119 dX7_putInLine_19 rfl ?_
    refine x_aload_n C dX7_putInLine_22 rfl rfl 1 rfl ?_
    refine gE_waiting C h1 i_122 dX7_putInLine_23 rfl ?_
    refine x_iload_n C dX7_putInLine_26 rfl rfl 2 rfl ?_
    obtain ⟨h3, hw⟩ := hw
    refine pQ_at C h1 h3 dX7_putInLine_27 rfl (fun u4 e5 => ?_)
    have hw := hw u4 e5
    refine x_aload_n C dX7_putInLine_28 rfl rfl 1 rfl ?_
    refine x_dup C dX7_putInLine_29 rfl rfl ?_
    refine gE_waiting C h1 i_122 dX7_putInLine_30 rfl ?_
    refine x_iconst C (v := (1 : Int32)) dX7_putInLine_33 rfl (by decide) ?_
    refine x_iadd C dX7_putInLine_34 rfl ?_
    refine pE_waiting C h1 i_122 dX7_putInLine_35 rfl (fun u6 e7 => ?_)
    have hw := hw u6 e7
    refine x_iconst C (v := (1 : Int32)) dX7_putInLine_38 rfl (by decide) ?_
    exact x_iret C dX7_putInLine_39 rfl (xw_same _ _) ⟨_, _, rfl, rfl, hw⟩
  · have hw := hw.2 c2
    refine x_aload_n C dX7_putInLine_8 rfl rfl 0 rfl ?_
    refine gX0_losses C i_166 dX7_putInLine_9 rfl ?_
    refine x_iload_n C dX7_putInLine_12 rfl rfl 2 rfl ?_
    refine k_X3_add C i_262 ⟨Nat.le_of_ble_eq_true rfl, Nat.le_of_ble_eq_true rfl⟩ ⟨Nat.zero_le _, Nat.zero_le _⟩ (Nat.le_of_ble_eq_true rfl) hw dX7_putInLine_13 rfl (fun u9 hw => ?_)
    refine x_iconst C (v := (2 : Int32)) dX7_putInLine_16 rfl (by decide) ?_
    exact x_iret C dX7_putInLine_17 rfl (xw_same _ _) ⟨_, _, rfl, rfl, hw⟩
set_option maxRecDepth 20000 in
theorem k_X7_putInLine (C : xCx p s m args meth c G K A nL cc own ret) {a1 : Nat} {a2 : Int32} {u : XS} (hj_a1 : a1 < cap) {idx : Nat} {rest : List Value} {Post : Int32 → XS → Prop} (hlink : Cond.methodLink own idx yX7_putInLine ∈ gw_tbl) (hR : 3 + 1 ≤ R.frames ∧ 8 + (3 + 11) + 64 ≤ R.locals) (hf : cells ≤ R.cells ∧ slots ≤ R.slots) (hW : (rest.map fun v => v.category).sum ≤ 8) (hw : wp_X7_putInLine cap a1 a2 u Post) (hdg : decode cc n = .ok (.invokevirtual idx, 3)) (hp : pc = n) (kk : ∀ (r : Int32) (u' : XS), Post r u' → xV p l e R s m args below meth c G A nL Q cells slots (xw L K cap u' T) (n + 3) lv (.int r :: rest)) : xV p l e R s m args below meth c G A nL Q cells slots (xw L K cap u T) pc lv (.int a2 :: .ref (L (15 + 2 * a1)) :: .ref (L 0) :: rest) :=
  x_callV C (As := [.ref (L (15 + 2 * a1)), .int a2]) (c_X7_putInLine hw) ⟨hlink, i_462, i_s14, i_1, i_463⟩ 0 rfl rfl rfl (k := 2) (by decide +kernel) rfl hR hf hW rfl hdg hp (fun v ws' ⟨r, u', hv, hws, hPo⟩ _ => by subst hv; subst hws; exact kk r u' hPo)
def wp_X7_sendTo (cap : Nat) (a1 : Nat) (a2 : Int32) (u : XS) (Post : Int32 → XS → Prop) : Prop :=
  a1 < cap ∧ (((¬ ((e_kind (X_E u a1)) = (1 : Int32)) → wp_X2_addData cap (e_number (X_E u a1)) a2 u (fun u4 => ((¬ ((e_kind (X_E u4 a1)) = (3 : Int32)) → Post (0 : Int32) u4) ∧ ((e_kind (X_E u4 a1)) = (3 : Int32) → wp_X7_request cap (e_number (X_E u4 a1)) (X_own u4) (e_address (X_E u4 a1)) u4 (fun u7 => wp_X1_become cap a1 (4 : Int32) (X_time u7) u7 (fun u9 => Post (0 : Int32) u9)))))) ∧ ((e_kind (X_E u a1)) = (1 : Int32) → wp_X7_putInLine cap a1 a2 u (fun r10 u11 => Post r10 u11))))
set_option maxHeartbeats 4000000 in
set_option maxRecDepth 20000 in
theorem c_X7_sendTo {a1 : Nat} {a2 : Int32} {u : XS} {Post : Int32 → XS → Prop} (hw : wp_X7_sendTo cap a1 a2 u Post) : xMet l yX7_sendTo cX7_sendTo 3 (some .int) 4 109 0 0 G K [.ref (L 0), .ref (L (15 + 2 * a1)), .int a2] (xw L K cap u T) (fun v ws' => ∃ (r : Int32) (u' : XS), v = some (.int r) ∧ ws' = (xw L K cap u' T) ∧ Post r u') := by
  refine xMet.intro (lv := [(0, .ref (L 0)), (1, .ref (L (15 + 2 * a1))), (2, .int a2)]) (by decide) rfl (Nat.le_of_ble_eq_true rfl) rfl (fun p e s m args below meth c A C => ?_)
  unfold wp_X7_sendTo at hw
  refine x_aload_n C dX7_sendTo_0 rfl rfl 1 rfl ?_
  obtain ⟨h1, hw⟩ := hw
  refine gE_kind C h1 i_131 dX7_sendTo_1 rfl ?_
  refine x_iconst C (v := (1 : Int32)) dX7_sendTo_4 rfl (by decide) ?_
  refine x_icmp_ne C 15 dX7_sendTo_5 rfl (by decide) (fun c2 => ?_) (fun c2 => ?_)
  · have hw := hw.1 c2
    refine x_aload_n C dX7_sendTo_15 rfl rfl 0 rfl ?_
    refine gX0_frames C i_165 dX7_sendTo_16 rfl ?_
    refine x_aload_n C dX7_sendTo_19 rfl rfl 1 rfl ?_
    refine gE_number C h1 i_128 dX7_sendTo_20 rfl ?_
    refine x_iload_n C dX7_sendTo_23 rfl rfl 2 rfl ?_
    refine k_X2_addData C i_299 ⟨Nat.le_of_ble_eq_true rfl, Nat.le_of_ble_eq_true rfl⟩ ⟨Nat.zero_le _, Nat.zero_le _⟩ (Nat.le_of_ble_eq_true rfl) hw dX7_sendTo_24 rfl (fun u4 hw => ?_)
    refine x_aload_n C dX7_sendTo_27 rfl rfl 1 rfl ?_
    refine gE_kind C h1 i_131 dX7_sendTo_28 rfl ?_
    refine x_iconst C (v := (3 : Int32)) dX7_sendTo_31 rfl (by decide) ?_
    refine x_icmp_ne C 60 dX7_sendTo_32 rfl (by decide) (fun c5 => ?_) (fun c5 => ?_)
    · have hw := hw.1 c5
      refine x_iconst C (v := (0 : Int32)) dX7_sendTo_60 rfl (by decide) ?_
      exact x_iret C dX7_sendTo_61 rfl (xw_same _ _) ⟨_, _, rfl, rfl, hw⟩
    · have hw := hw.2 c5
      refine x_aload_n C dX7_sendTo_35 rfl rfl 0 rfl ?_
      refine x_aload_n C dX7_sendTo_36 rfl rfl 1 rfl ?_
      refine gE_number C h1 i_128 dX7_sendTo_37 rfl ?_
      refine x_aload_n C dX7_sendTo_40 rfl rfl 0 rfl ?_
      refine gX0_own C i_170 dX7_sendTo_41 rfl ?_
      refine x_aload_n C dX7_sendTo_44 rfl rfl 1 rfl ?_
      refine gE_address C h1 i_125 dX7_sendTo_45 rfl ?_
      refine k_X7_request C i_277 ⟨Nat.le_of_ble_eq_true rfl, Nat.le_of_ble_eq_true rfl⟩ ⟨Nat.zero_le _, Nat.zero_le _⟩ (Nat.le_of_ble_eq_true rfl) hw dX7_sendTo_48 rfl (fun u7 hw => ?_)
      refine x_aload_n C dX7_sendTo_51 rfl rfl 1 rfl ?_
      refine x_iconst C (v := (4 : Int32)) dX7_sendTo_52 rfl (by decide) ?_
      refine x_aload_n C dX7_sendTo_53 rfl rfl 0 rfl ?_
      refine gX0_time C i_168 dX7_sendTo_54 rfl ?_
      refine k_X1_become C h1 i_295 ⟨Nat.le_of_ble_eq_true rfl, Nat.le_of_ble_eq_true rfl⟩ ⟨Nat.zero_le _, Nat.zero_le _⟩ (Nat.le_of_ble_eq_true rfl) hw dX7_sendTo_57 rfl (fun u9 hw => ?_)
      refine x_iconst C (v := (0 : Int32)) dX7_sendTo_60 rfl (by decide) ?_
      exact x_iret C dX7_sendTo_61 rfl (xw_same _ _) ⟨_, _, rfl, rfl, hw⟩
  · have hw := hw.2 c2
    refine x_aload_n C dX7_sendTo_8 rfl rfl 0 rfl ?_
    refine x_aload_n C dX7_sendTo_9 rfl rfl 1 rfl ?_
    refine x_iload_n C dX7_sendTo_10 rfl rfl 2 rfl ?_
    refine k_X7_putInLine C h1 i_460 ⟨Nat.le_of_ble_eq_true rfl, Nat.le_of_ble_eq_true rfl⟩ ⟨Nat.zero_le _, Nat.zero_le _⟩ (Nat.le_of_ble_eq_true rfl) hw dX7_sendTo_11 rfl (fun r10 u11 hw => ?_)
    exact x_iret C dX7_sendTo_14 rfl (xw_same _ _) ⟨_, _, rfl, rfl, hw⟩
set_option maxRecDepth 20000 in
theorem k_X7_sendTo (C : xCx p s m args meth c G K A nL cc own ret) {a1 : Nat} {a2 : Int32} {u : XS} (hj_a1 : a1 < cap) {idx : Nat} {rest : List Value} {Post : Int32 → XS → Prop} (hlink : Cond.methodLink own idx yX7_sendTo ∈ gw_tbl) (hR : 4 + 1 ≤ R.frames ∧ 8 + (3 + 11) + 109 ≤ R.locals) (hf : cells ≤ R.cells ∧ slots ≤ R.slots) (hW : (rest.map fun v => v.category).sum ≤ 8) (hw : wp_X7_sendTo cap a1 a2 u Post) (hdg : decode cc n = .ok (.invokevirtual idx, 3)) (hp : pc = n) (kk : ∀ (r : Int32) (u' : XS), Post r u' → xV p l e R s m args below meth c G A nL Q cells slots (xw L K cap u' T) (n + 3) lv (.int r :: rest)) : xV p l e R s m args below meth c G A nL Q cells slots (xw L K cap u T) pc lv (.int a2 :: .ref (L (15 + 2 * a1)) :: .ref (L 0) :: rest) :=
  x_callV C (As := [.ref (L (15 + 2 * a1)), .int a2]) (c_X7_sendTo hw) ⟨hlink, i_470, i_s15, i_1, i_471⟩ 0 rfl rfl rfl (k := 2) (by decide +kernel) rfl hR hf hW rfl hdg hp (fun v ws' ⟨r, u', hv, hws, hPo⟩ _ => by subst hv; subst hws; exact kk r u' hPo)
def wp_X7_sendToStranger (cap : Nat) (a1 : Int32) (a2 : Int32) (u : XS) (Post : Int32 → XS → Prop) : Prop :=
  wp_X0_makeRoom cap u (fun r1 u2 => ((¬ (r1 = 0) → wp_X0_add cap a1 (0 : Int64) (1 : Int32) (X_time u2) u2 (fun r4 u5 => wp_X7_request cap (281474976710655 : Int64) (X_own u5) a1 u5 (fun u7 => r4 < cap ∧ (wp_X7_putInLine cap r4 a2 u7 (fun r9 u10 => Post r9 u10))))) ∧ (r1 = 0 → wp_X3_add cap a2 u2 (fun u12 => Post (2 : Int32) u12))))
set_option maxHeartbeats 4000000 in
set_option maxRecDepth 20000 in
theorem c_X7_sendToStranger {a1 : Int32} {a2 : Int32} {u : XS} {Post : Int32 → XS → Prop} (hw : wp_X7_sendToStranger cap a1 a2 u Post) : xMet l yX7_sendToStranger cX7_sendToStranger 4 (some .int) 4 109 0 0 G K [.ref (L 0), .int a1, .int a2] (xw L K cap u T) (fun v ws' => ∃ (r : Int32) (u' : XS), v = some (.int r) ∧ ws' = (xw L K cap u' T) ∧ Post r u') := by
  refine xMet.intro (lv := [(0, .ref (L 0)), (1, .int a1), (2, .int a2)]) (by decide) rfl (Nat.le_of_ble_eq_true rfl) rfl (fun p e s m args below meth c A C => ?_)
  unfold wp_X7_sendToStranger at hw
  refine x_aload_n C dX7_sendToStranger_0 rfl rfl 0 rfl ?_
  refine gX0_cache C i_163 dX7_sendToStranger_1 rfl ?_
  refine k_X0_makeRoom C i_307 ⟨Nat.le_of_ble_eq_true rfl, Nat.le_of_ble_eq_true rfl⟩ ⟨Nat.zero_le _, Nat.zero_le _⟩ (Nat.le_of_ble_eq_true rfl) hw dX7_sendToStranger_4 rfl (fun r1 u2 hw => ?_)
  refine x_if_ne C 20 dX7_sendToStranger_7 rfl (by decide) (fun c3 => ?_) (fun c3 => ?_)
  · have hw := hw.1 c3
    refine x_aload_n C dX7_sendToStranger_20 rfl rfl 0 rfl ?_
    refine gX0_cache C i_163 dX7_sendToStranger_21 rfl ?_
    refine x_iload_n C dX7_sendToStranger_24 rfl rfl 1 rfl ?_
    refine x_lconst C (v := (0 : Int64)) dX7_sendToStranger_25 rfl (by decide) ?_
    refine x_iconst C (v := (1 : Int32)) dX7_sendToStranger_26 rfl (by decide) ?_
    refine x_aload_n C dX7_sendToStranger_27 rfl rfl 0 rfl ?_
    refine gX0_time C i_168 dX7_sendToStranger_28 rfl ?_
    refine k_X0_add C i_319 ⟨Nat.le_of_ble_eq_true rfl, Nat.le_of_ble_eq_true rfl⟩ ⟨Nat.zero_le _, Nat.zero_le _⟩ (Nat.le_of_ble_eq_true rfl) hw dX7_sendToStranger_31 rfl (fun r4 u5 hw => ?_)
    refine x_astore_n C (lv' := [(3, .ref (L (15 + 2 * r4))), (0, .ref (L 0)), (1, .int a1), (2, .int a2)]) dX7_sendToStranger_34 rfl rfl (by decide) rfl ?_
    refine x_aload_n C dX7_sendToStranger_35 rfl rfl 1 rfl ?_
    refine x_ldc2 C dX7_sendToStranger_36 rfl i_233 ?_
    refine x_aload_n C dX7_sendToStranger_39 rfl rfl 1 rfl ?_
    refine gX0_own C i_170 dX7_sendToStranger_40 rfl ?_
    refine x_iload_n C dX7_sendToStranger_43 rfl rfl 2 rfl ?_
    refine k_X7_request C i_277 ⟨Nat.le_of_ble_eq_true rfl, Nat.le_of_ble_eq_true rfl⟩ ⟨Nat.zero_le _, Nat.zero_le _⟩ (Nat.le_of_ble_eq_true rfl) hw dX7_sendToStranger_44 rfl (fun u7 hw => ?_)
    refine x_aload_n C dX7_sendToStranger_47 rfl rfl 1 rfl ?_
    refine x_aload_n C dX7_sendToStranger_48 rfl rfl 0 rfl ?_
    refine x_iload_n C dX7_sendToStranger_49 rfl rfl 3 rfl ?_
    obtain ⟨h8, hw⟩ := hw
    refine k_X7_putInLine C h8 i_460 ⟨Nat.le_of_ble_eq_true rfl, Nat.le_of_ble_eq_true rfl⟩ ⟨Nat.zero_le _, Nat.zero_le _⟩ (Nat.le_of_ble_eq_true rfl) hw dX7_sendToStranger_50 rfl (fun r9 u10 hw => ?_)
    exact x_iret C dX7_sendToStranger_53 rfl (xw_same _ _) ⟨_, _, rfl, rfl, hw⟩
  · have hw := hw.2 c3
    refine x_aload_n C dX7_sendToStranger_10 rfl rfl 0 rfl ?_
    refine gX0_losses C i_166 dX7_sendToStranger_11 rfl ?_
    refine x_iload_n C dX7_sendToStranger_14 rfl rfl 2 rfl ?_
    refine k_X3_add C i_262 ⟨Nat.le_of_ble_eq_true rfl, Nat.le_of_ble_eq_true rfl⟩ ⟨Nat.zero_le _, Nat.zero_le _⟩ (Nat.le_of_ble_eq_true rfl) hw dX7_sendToStranger_15 rfl (fun u12 hw => ?_)
    refine x_iconst C (v := (2 : Int32)) dX7_sendToStranger_18 rfl (by decide) ?_
    exact x_iret C dX7_sendToStranger_19 rfl (xw_same _ _) ⟨_, _, rfl, rfl, hw⟩
set_option maxRecDepth 20000 in
theorem k_X7_sendToStranger (C : xCx p s m args meth c G K A nL cc own ret) {a1 : Int32} {a2 : Int32} {u : XS} {idx : Nat} {rest : List Value} {Post : Int32 → XS → Prop} (hlink : Cond.methodLink own idx yX7_sendToStranger ∈ gw_tbl) (hR : 4 + 1 ≤ R.frames ∧ 8 + (4 + 11) + 109 ≤ R.locals) (hf : cells ≤ R.cells ∧ slots ≤ R.slots) (hW : (rest.map fun v => v.category).sum ≤ 8) (hw : wp_X7_sendToStranger cap a1 a2 u Post) (hdg : decode cc n = .ok (.invokevirtual idx, 3)) (hp : pc = n) (kk : ∀ (r : Int32) (u' : XS), Post r u' → xV p l e R s m args below meth c G A nL Q cells slots (xw L K cap u' T) (n + 3) lv (.int r :: rest)) : xV p l e R s m args below meth c G A nL Q cells slots (xw L K cap u T) pc lv (.int a2 :: .int a1 :: .ref (L 0) :: rest) :=
  x_callV C (As := [.int a1, .int a2]) (c_X7_sendToStranger hw) ⟨hlink, i_458, i_s13, i_1, i_459⟩ 0 rfl rfl rfl (k := 2) (by decide +kernel) rfl hR hf hW rfl hdg hp (fun v ws' ⟨r, u', hv, hws, hPo⟩ _ => by subst hv; subst hws; exact kk r u' hPo)
def lb_X7_learn_17 (cap : Nat) (Post : XS → Prop) (Ks : Nat → Int64 → Int32 → XS → Prop) (x1 : Nat) (x2 : Int64) (x4 : Int32) (u : XS) : Prop :=
  x1 < cap ∧ ((((e_waiting (X_E u x1)) ≤ x4 → (∀ (u3 : XS), u3 = Xs_E u (va_up (X_E u) x1 (es_waiting (X_E u x1) (0 : Int32))) → Post u3)) ∧ (¬ ((e_waiting (X_E u x1)) ≤ x4) → vp_in x4 4 ∧ (wp_X2_addData cap x2 (X_Q u x1 (Int32.toNatClampNeg x4)) u (fun u7 => Ks x1 x2 (x4 + 1) u7)))))
def lp_X7_learn_17 (cap : Nat) (Post : XS → Prop) : Nat → Nat → Int64 → Int32 → XS → Prop
  | 0 => fun _ _ _ _ => False
  | f + 1 => fun x1 x2 x4 u => lb_X7_learn_17 cap Post (lp_X7_learn_17 cap Post f) x1 x2 x4 u
set_option maxHeartbeats 4000000 in
set_option maxRecDepth 20000 in
theorem t_X7_learn_17 (C : xCx p s m args meth c G K A 5 cX7_learn RX7 none) {u0 : XS} {Post : XS → Prop} : ∀ (f : Nat) (x1 : Nat) (x2 : Int64) (x4 : Int32) (u : XS) , lp_X7_learn_17 cap  Post f x1 x2 x4 u → xV p l e (xRm 3 67 0 0) s m args below meth c G A 5 (xQ G A (xw L K cap u0 T) (fun v ws' => ∃ u' : XS, v = none ∧ ws' = (xw L K cap u' T) ∧ Post u') below args s 0 0) 0 0 (xw L K cap u T) 17 [(0, .ref (L 0)), (1, .ref (L (15 + 2 * x1))), (2, .long x2), (4, .int x4)] [] := by
  intro f
  induction f with
  | zero => intro x1 x2 x4 u hw; exact hw.elim
  | succ f ih =>
    intro x1 x2 x4 u hw
    have hw : lb_X7_learn_17 cap  Post (lp_X7_learn_17 cap  Post f) x1 x2 x4 u := hw
    unfold lb_X7_learn_17 at hw
    refine x_iload C dX7_learn_17 rfl 3 rfl ?_
    refine x_aload_n C dX7_learn_19 rfl rfl 1 rfl ?_
    obtain ⟨h1, hw⟩ := hw
    refine gE_waiting C h1 i_122 dX7_learn_20 rfl ?_
    refine x_icmp_ge C 47 dX7_learn_23 rfl (by decide) (fun c2 => ?_) (fun c2 => ?_)
    · have hw := hw.1 c2
      refine x_aload_n C dX7_learn_47 rfl rfl 1 rfl ?_
      refine x_iconst C (v := (0 : Int32)) dX7_learn_48 rfl (by decide) ?_
      refine pE_waiting C h1 i_122 dX7_learn_49 rfl (fun u3 e4 => ?_)
      have hw := hw u3 e4
      exact x_vret C dX7_learn_52 rfl (xw_same _ _) ⟨_, rfl, rfl, hw⟩
    · have hw := hw.2 c2
      refine x_aload_n C dX7_learn_26 rfl rfl 0 rfl ?_
      refine gX0_frames C i_165 dX7_learn_27 rfl ?_
      refine x_lload_n C dX7_learn_30 rfl rfl 2 rfl ?_
      refine x_aload_n C dX7_learn_31 rfl rfl 1 rfl ?_
      refine gE_queue C h1 i_119 dX7_learn_32 rfl ?_
      refine x_iload C dX7_learn_35 rfl 3 rfl ?_
      obtain ⟨h5, hw⟩ := hw
      refine gQ_at C h1 h5 dX7_learn_37 rfl ?_
      refine k_X2_addData C i_299 ⟨Nat.le_of_ble_eq_true rfl, Nat.le_of_ble_eq_true rfl⟩ ⟨Nat.zero_le _, Nat.zero_le _⟩ (Nat.le_of_ble_eq_true rfl) hw dX7_learn_38 rfl (fun u7 hw => ?_)
      refine x_iinc C (k := 3) (v := x4 + 1) (lv' := [(4, .int (x4 + 1)), (0, .ref (L 0)), (1, .ref (L (15 + 2 * x1))), (2, .long x2)]) dX7_learn_41 rfl rfl rfl (by decide) rfl ?_
      refine x_goto C (tgt := 17) dX7_learn_44 rfl (by decide) ?_
      refine x_lv [1, 2, 3, 0] rfl ?_
      exact ih x1 x2 (x4 + 1) u7 hw
def wp_X7_learn (cap : Nat) (a1 : Nat) (a2 : Int64) (u : XS) (Post : XS → Prop) : Prop :=
  a1 < cap ∧ ((∀ (u2 : XS), u2 = Xs_E u (va_up (X_E u) a1 (es_number (X_E u a1) a2)) → wp_X1_become cap a1 (2 : Int32) (X_time u2) u2 (fun u5 => ∃ f9 : Nat, lp_X7_learn_17 cap Post f9 a1 a2 (0 : Int32) u5)))
set_option maxHeartbeats 4000000 in
set_option maxRecDepth 20000 in
theorem c_X7_learn {a1 : Nat} {a2 : Int64} {u : XS} {Post : XS → Prop} (hw : wp_X7_learn cap a1 a2 u Post) : xMet l yX7_learn cX7_learn 5 none 3 67 0 0 G K [.ref (L 0), .ref (L (15 + 2 * a1)), .long a2] (xw L K cap u T) (fun v ws' => ∃ u' : XS, v = none ∧ ws' = (xw L K cap u' T) ∧ Post u') := by
  refine xMet.intro (lv := [(0, .ref (L 0)), (1, .ref (L (15 + 2 * a1))), (2, .long a2)]) (by decide) rfl (Nat.le_of_ble_eq_true rfl) rfl (fun p e s m args below meth c A C => ?_)
  unfold wp_X7_learn at hw
  refine x_aload_n C dX7_learn_0 rfl rfl 1 rfl ?_
  refine x_lload_n C dX7_learn_1 rfl rfl 2 rfl ?_
  obtain ⟨h1, hw⟩ := hw
  refine pE_number C h1 i_128 dX7_learn_2 rfl (fun u2 e3 => ?_)
  have hw := hw u2 e3
  refine x_aload_n C dX7_learn_5 rfl rfl 1 rfl ?_
  refine x_iconst C (v := (2 : Int32)) dX7_learn_6 rfl (by decide) ?_
  refine x_aload_n C dX7_learn_7 rfl rfl 0 rfl ?_
  refine gX0_time C i_168 dX7_learn_8 rfl ?_
  refine k_X1_become C h1 i_295 ⟨Nat.le_of_ble_eq_true rfl, Nat.le_of_ble_eq_true rfl⟩ ⟨Nat.zero_le _, Nat.zero_le _⟩ (Nat.le_of_ble_eq_true rfl) hw dX7_learn_11 rfl (fun u5 hw => ?_)
  refine x_iconst C (v := (0 : Int32)) dX7_learn_14 rfl (by decide) ?_
  refine x_istore C (lv' := [(4, .int (0 : Int32)), (0, .ref (L 0)), (1, .ref (L (15 + 2 * a1))), (2, .long a2)]) dX7_learn_15 rfl (by decide) rfl ?_
  refine x_lv [1, 2, 3, 0] rfl ?_
  obtain ⟨f9, hw⟩ := hw
  exact t_X7_learn_17 C f9 a1 a2 (0 : Int32) u5 hw
set_option maxRecDepth 20000 in
theorem k_X7_learn (C : xCx p s m args meth c G K A nL cc own ret) {a1 : Nat} {a2 : Int64} {u : XS} (hj_a1 : a1 < cap) {idx : Nat} {rest : List Value} {Post : XS → Prop} (hlink : Cond.methodLink own idx yX7_learn ∈ gw_tbl) (hR : 3 + 1 ≤ R.frames ∧ 8 + (5 + 11) + 67 ≤ R.locals) (hf : cells ≤ R.cells ∧ slots ≤ R.slots) (hW : (rest.map fun v => v.category).sum ≤ 8) (hw : wp_X7_learn cap a1 a2 u Post) (hdg : decode cc n = .ok (.invokevirtual idx, 3)) (hp : pc = n) (kk : ∀ u' : XS, Post u' → xV p l e R s m args below meth c G A nL Q cells slots (xw L K cap u' T) (n + 3) lv rest) : xV p l e R s m args below meth c G A nL Q cells slots (xw L K cap u T) pc lv (.long a2 :: .ref (L (15 + 2 * a1)) :: .ref (L 0) :: rest) :=
  x_callV C (As := [.ref (L (15 + 2 * a1)), .long a2]) (c_X7_learn hw) ⟨hlink, i_293, i_s8, i_1, i_294⟩ 0 rfl rfl rfl (k := 2) (by decide +kernel) rfl hR hf hW rfl hdg hp (fun v ws' ⟨u', hv, hws, hPo⟩ _ => by subst hv; subst hws; exact kk u' hPo)
def jn_X7_takeInForOwn_54 (cap : Nat) (Post : XS → Prop) (x1 : Int32) (u : XS) : Prop :=
  wp_X5_operation cap u (fun r1 u2 => ((¬ (r1 = (1 : Int32)) → Post u2) ∧ (r1 = (1 : Int32) → wp_X5_sender cap u2 (fun r4 u5 => wp_X5_sender cap u5 (fun r6 u7 => wp_X2_addPacket cap r4 (2 : Int32) (X_here u5) (X_own u5) r6 x1 u7 (fun u9 => Post u9))))))
set_option maxHeartbeats 4000000 in
set_option maxRecDepth 20000 in
theorem t_X7_takeInForOwn_54 (C : xCx p s m args meth c G K A 2 cX7_takeInForOwn RX7 none) {u0 : XS} {Post : XS → Prop} (x1 : Int32) (u : XS) (hw : jn_X7_takeInForOwn_54 cap  Post x1 u) : xV p l e (xRm 3 85 0 0) s m args below meth c G A 2 (xQ G A (xw L K cap u0 T) (fun v ws' => ∃ u' : XS, v = none ∧ ws' = (xw L K cap u' T) ∧ Post u') below args s 0 0) 0 0 (xw L K cap u T) 54 [(0, .ref (L 0)), (1, .int x1)] [] := by
  unfold jn_X7_takeInForOwn_54 at hw
  refine x_aload_n C dX7_takeInForOwn_54 rfl rfl 0 rfl ?_
  refine gX0_tape C i_164 dX7_takeInForOwn_55 rfl ?_
  refine k_X5_operation C i_225 ⟨Nat.le_of_ble_eq_true rfl, Nat.le_of_ble_eq_true rfl⟩ ⟨Nat.zero_le _, Nat.zero_le _⟩ (Nat.le_of_ble_eq_true rfl) hw dX7_takeInForOwn_58 rfl (fun r1 u2 hw => ?_)
  refine x_iconst C (v := (1 : Int32)) dX7_takeInForOwn_61 rfl (by decide) ?_
  refine x_icmp_ne C 96 dX7_takeInForOwn_62 rfl (by decide) (fun c3 => ?_) (fun c3 => ?_)
  · have hw := hw.1 c3
    exact x_vret C dX7_takeInForOwn_96 rfl (xw_same _ _) ⟨_, rfl, rfl, hw⟩
  · have hw := hw.2 c3
    refine x_aload_n C dX7_takeInForOwn_65 rfl rfl 0 rfl ?_
    refine gX0_frames C i_165 dX7_takeInForOwn_66 rfl ?_
    refine x_aload_n C dX7_takeInForOwn_69 rfl rfl 0 rfl ?_
    refine gX0_tape C i_164 dX7_takeInForOwn_70 rfl ?_
    refine k_X5_sender C i_229 ⟨Nat.le_of_ble_eq_true rfl, Nat.le_of_ble_eq_true rfl⟩ ⟨Nat.zero_le _, Nat.zero_le _⟩ (Nat.le_of_ble_eq_true rfl) hw dX7_takeInForOwn_73 rfl (fun r4 u5 hw => ?_)
    refine x_iconst C (v := (2 : Int32)) dX7_takeInForOwn_76 rfl (by decide) ?_
    refine x_aload_n C dX7_takeInForOwn_77 rfl rfl 0 rfl ?_
    refine gX0_hereNumber C i_167 dX7_takeInForOwn_78 rfl ?_
    refine x_aload_n C dX7_takeInForOwn_81 rfl rfl 0 rfl ?_
    refine gX0_own C i_170 dX7_takeInForOwn_82 rfl ?_
    refine x_aload_n C dX7_takeInForOwn_85 rfl rfl 0 rfl ?_
    refine gX0_tape C i_164 dX7_takeInForOwn_86 rfl ?_
    refine k_X5_sender C i_229 ⟨Nat.le_of_ble_eq_true rfl, Nat.le_of_ble_eq_true rfl⟩ ⟨Nat.zero_le _, Nat.zero_le _⟩ (Nat.le_of_ble_eq_true rfl) hw dX7_takeInForOwn_89 rfl (fun r6 u7 hw => ?_)
    refine x_iload_n C dX7_takeInForOwn_92 rfl rfl 1 rfl ?_
    refine k_X2_addPacket C i_281 ⟨Nat.le_of_ble_eq_true rfl, Nat.le_of_ble_eq_true rfl⟩ ⟨Nat.zero_le _, Nat.zero_le _⟩ (Nat.le_of_ble_eq_true rfl) hw dX7_takeInForOwn_93 rfl (fun u9 hw => ?_)
    exact x_vret C dX7_takeInForOwn_96 rfl (xw_same _ _) ⟨_, rfl, rfl, hw⟩
def wp_X7_takeInForOwn (cap : Nat) (u : XS) (Post : XS → Prop) : Prop :=
  wp_X5_senderAddress cap u (fun r1 u2 => ((r1 = 0 → jn_X7_takeInForOwn_54 cap Post r1 u2) ∧ (¬ (r1 = 0) → wp_X0_indexOf cap r1 u2 (fun r4 u5 => ((0 ≤ r4 → jn_X7_takeInForOwn_54 cap Post r1 u5) ∧ (¬ (0 ≤ r4) → wp_X0_makeRoom cap u5 (fun r7 u8 => ((r7 = 0 → jn_X7_takeInForOwn_54 cap Post r1 u8) ∧ (¬ (r7 = 0) → wp_X5_sender cap u8 (fun r10 u11 => wp_X0_add cap r1 r10 (2 : Int32) (X_time u11) u11 (fun r12 u13 => jn_X7_takeInForOwn_54 cap Post r1 u13)))))))))))
set_option maxHeartbeats 4000000 in
set_option maxRecDepth 20000 in
theorem c_X7_takeInForOwn {u : XS} {Post : XS → Prop} (hw : wp_X7_takeInForOwn cap  u Post) : xMet l yX7_takeInForOwn cX7_takeInForOwn 2 none 3 85 0 0 G K [.ref (L 0)] (xw L K cap u T) (fun v ws' => ∃ u' : XS, v = none ∧ ws' = (xw L K cap u' T) ∧ Post u') := by
  refine xMet.intro (lv := [(0, .ref (L 0))]) (by decide) rfl (Nat.le_of_ble_eq_true rfl) rfl (fun p e s m args below meth c A C => ?_)
  unfold wp_X7_takeInForOwn at hw
  refine x_aload_n C dX7_takeInForOwn_0 rfl rfl 0 rfl ?_
  refine gX0_tape C i_164 dX7_takeInForOwn_1 rfl ?_
  refine k_X5_senderAddress C i_242 ⟨Nat.le_of_ble_eq_true rfl, Nat.le_of_ble_eq_true rfl⟩ ⟨Nat.zero_le _, Nat.zero_le _⟩ (Nat.le_of_ble_eq_true rfl) hw dX7_takeInForOwn_4 rfl (fun r1 u2 hw => ?_)
  refine x_istore_n C (lv' := [(1, .int r1), (0, .ref (L 0))]) dX7_takeInForOwn_7 rfl rfl (by decide) rfl ?_
  refine x_iload_n C dX7_takeInForOwn_8 rfl rfl 0 rfl ?_
  refine x_if_eq C 54 dX7_takeInForOwn_9 rfl (by decide) (fun c3 => ?_) (fun c3 => ?_)
  · have hw := hw.1 c3
    refine x_lv [1, 0] rfl ?_
    exact t_X7_takeInForOwn_54 C r1 u2 hw
  · have hw := hw.2 c3
    refine x_aload_n C dX7_takeInForOwn_12 rfl rfl 1 rfl ?_
    refine gX0_cache C i_163 dX7_takeInForOwn_13 rfl ?_
    refine x_iload_n C dX7_takeInForOwn_16 rfl rfl 0 rfl ?_
    refine k_X0_indexOf C i_287 ⟨Nat.le_of_ble_eq_true rfl, Nat.le_of_ble_eq_true rfl⟩ ⟨Nat.zero_le _, Nat.zero_le _⟩ (Nat.le_of_ble_eq_true rfl) hw dX7_takeInForOwn_17 rfl (fun r4 u5 hw => ?_)
    refine x_if_ge C 54 dX7_takeInForOwn_20 rfl (by decide) (fun c6 => ?_) (fun c6 => ?_)
    · have hw := hw.1 c6
      refine x_lv [1, 0] rfl ?_
      exact t_X7_takeInForOwn_54 C r1 u5 hw
    · have hw := hw.2 c6
      refine x_aload_n C dX7_takeInForOwn_23 rfl rfl 1 rfl ?_
      refine gX0_cache C i_163 dX7_takeInForOwn_24 rfl ?_
      refine k_X0_makeRoom C i_307 ⟨Nat.le_of_ble_eq_true rfl, Nat.le_of_ble_eq_true rfl⟩ ⟨Nat.zero_le _, Nat.zero_le _⟩ (Nat.le_of_ble_eq_true rfl) hw dX7_takeInForOwn_27 rfl (fun r7 u8 hw => ?_)
      refine x_if_eq C 54 dX7_takeInForOwn_30 rfl (by decide) (fun c9 => ?_) (fun c9 => ?_)
      · have hw := hw.1 c9
        refine x_lv [1, 0] rfl ?_
        exact t_X7_takeInForOwn_54 C r1 u8 hw
      · have hw := hw.2 c9
        refine x_aload_n C dX7_takeInForOwn_33 rfl rfl 1 rfl ?_
        refine gX0_cache C i_163 dX7_takeInForOwn_34 rfl ?_
        refine x_iload_n C dX7_takeInForOwn_37 rfl rfl 0 rfl ?_
        refine x_aload_n C dX7_takeInForOwn_38 rfl rfl 1 rfl ?_
        refine gX0_tape C i_164 dX7_takeInForOwn_39 rfl ?_
        refine k_X5_sender C i_229 ⟨Nat.le_of_ble_eq_true rfl, Nat.le_of_ble_eq_true rfl⟩ ⟨Nat.zero_le _, Nat.zero_le _⟩ (Nat.le_of_ble_eq_true rfl) hw dX7_takeInForOwn_42 rfl (fun r10 u11 hw => ?_)
        refine x_iconst C (v := (2 : Int32)) dX7_takeInForOwn_45 rfl (by decide) ?_
        refine x_aload_n C dX7_takeInForOwn_46 rfl rfl 1 rfl ?_
        refine gX0_time C i_168 dX7_takeInForOwn_47 rfl ?_
        refine k_X0_add C i_319 ⟨Nat.le_of_ble_eq_true rfl, Nat.le_of_ble_eq_true rfl⟩ ⟨Nat.zero_le _, Nat.zero_le _⟩ (Nat.le_of_ble_eq_true rfl) hw dX7_takeInForOwn_50 rfl (fun r12 u13 hw => ?_)
        refine x_pop C dX7_takeInForOwn_53 rfl rfl ?_
        refine x_lv [1, 0] rfl ?_
        exact t_X7_takeInForOwn_54 C r1 u13 hw
set_option maxRecDepth 20000 in
theorem k_X7_takeInForOwn (C : xCx p s m args meth c G K A nL cc own ret) {u : XS} {idx : Nat} {rest : List Value} {Post : XS → Prop} (hlink : Cond.methodLink own idx yX7_takeInForOwn ∈ gw_tbl) (hR : 3 + 1 ≤ R.frames ∧ 8 + (2 + 11) + 85 ≤ R.locals) (hf : cells ≤ R.cells ∧ slots ≤ R.slots) (hW : (rest.map fun v => v.category).sum ≤ 8) (hw : wp_X7_takeInForOwn cap  u Post) (hdg : decode cc n = .ok (.invokevirtual idx, 3)) (hp : pc = n) (kk : ∀ u' : XS, Post u' → xV p l e R s m args below meth c G A nL Q cells slots (xw L K cap u' T) (n + 3) lv rest) : xV p l e R s m args below meth c G A nL Q cells slots (xw L K cap u T) pc lv (.ref (L 0) :: rest) :=
  x_callV C (As := []) (c_X7_takeInForOwn hw) ⟨hlink, i_305, i_s9, i_1, i_306⟩ 0 rfl rfl rfl (k := 0) (by decide +kernel) rfl hR hf hW rfl hdg hp (fun v ws' ⟨u', hv, hws, hPo⟩ _ => by subst hv; subst hws; exact kk u' hPo)
def jn_X7_meetConflict_27 (cap : Nat) (Post : XS → Prop) (t0 : Int32) (u : XS) : Prop :=
  (((X_phase u) = (1 : Int32) → wp_X7_giveUp cap u (fun u3 => Post u3)) ∧ (¬ ((X_phase u) = (1 : Int32)) → ((¬ (t0 = 0) → wp_X7_announce cap u (fun u6 => (∀ (u7 : XS), u7 = Xs_defended u6 (X_time u6) → Post u7))) ∧ (t0 = 0 → wp_X7_giveUp cap u (fun u10 => Post u10)))))
set_option maxHeartbeats 4000000 in
set_option maxRecDepth 20000 in
theorem t_X7_meetConflict_27 (C : xCx p s m args meth c G K A 2 cX7_meetConflict RX7 none) {u0 : XS} {Post : XS → Prop} (t0 : Int32) (u : XS) (hw : jn_X7_meetConflict_27 cap  Post t0 u) : xV p l e (xRm 5 129 0 0) s m args below meth c G A 2 (xQ G A (xw L K cap u0 T) (fun v ws' => ∃ u' : XS, v = none ∧ ws' = (xw L K cap u' T) ∧ Post u') below args s 0 0) 0 0 (xw L K cap u T) 27 [(0, .ref (L 0))] [.int t0] := by
  unfold jn_X7_meetConflict_27 at hw
  refine x_istore_n C (lv' := [(1, .int t0), (0, .ref (L 0))]) dX7_meetConflict_27 rfl rfl (by decide) rfl ?_
  refine x_aload_n C dX7_meetConflict_28 rfl rfl 1 rfl ?_
  refine gX0_phase C i_169 dX7_meetConflict_29 rfl ?_
  refine x_iconst C (v := (1 : Int32)) dX7_meetConflict_32 rfl (by decide) ?_
  refine x_icmp_eq C 40 dX7_meetConflict_33 rfl (by decide) (fun c1 => ?_) (fun c1 => ?_)
  · have hw := hw.1 c1
    refine x_aload_n C dX7_meetConflict_40 rfl rfl 1 rfl ?_
    refine k_X7_giveUp C i_254 ⟨Nat.le_of_ble_eq_true rfl, Nat.le_of_ble_eq_true rfl⟩ ⟨Nat.zero_le _, Nat.zero_le _⟩ (Nat.le_of_ble_eq_true rfl) hw dX7_meetConflict_41 rfl (fun u3 hw => ?_)
    exact x_vret C dX7_meetConflict_44 rfl (xw_same _ _) ⟨_, rfl, rfl, hw⟩
  · have hw := hw.2 c1
    refine x_iload_n C dX7_meetConflict_36 rfl rfl 0 rfl ?_
    refine x_if_ne C 45 dX7_meetConflict_37 rfl (by decide) (fun c4 => ?_) (fun c4 => ?_)
    · have hw := hw.1 c4
      refine x_aload_n C dX7_meetConflict_45 rfl rfl 1 rfl ?_
      refine k_X7_announce C i_273 ⟨Nat.le_of_ble_eq_true rfl, Nat.le_of_ble_eq_true rfl⟩ ⟨Nat.zero_le _, Nat.zero_le _⟩ (Nat.le_of_ble_eq_true rfl) hw dX7_meetConflict_46 rfl (fun u6 hw => ?_)
      refine x_aload_n C dX7_meetConflict_49 rfl rfl 1 rfl ?_
      refine x_aload_n C dX7_meetConflict_50 rfl rfl 1 rfl ?_
      refine gX0_time C i_168 dX7_meetConflict_51 rfl ?_
      refine pX0_defendedAt C i_172 dX7_meetConflict_54 rfl (fun u7 e8 => ?_)
      have hw := hw u7 e8
      exact x_vret C dX7_meetConflict_57 rfl (xw_same _ _) ⟨_, rfl, rfl, hw⟩
    · have hw := hw.2 c4
      refine x_aload_n C dX7_meetConflict_40 rfl rfl 1 rfl ?_
      refine k_X7_giveUp C i_254 ⟨Nat.le_of_ble_eq_true rfl, Nat.le_of_ble_eq_true rfl⟩ ⟨Nat.zero_le _, Nat.zero_le _⟩ (Nat.le_of_ble_eq_true rfl) hw dX7_meetConflict_41 rfl (fun u10 hw => ?_)
      exact x_vret C dX7_meetConflict_44 rfl (xw_same _ _) ⟨_, rfl, rfl, hw⟩
def jn_X7_meetConflict_22 (cap : Nat) (Post : XS → Prop) (u : XS) : Prop :=
  jn_X7_meetConflict_27 cap Post (1 : Int32) u
set_option maxHeartbeats 4000000 in
set_option maxRecDepth 20000 in
theorem t_X7_meetConflict_22 (C : xCx p s m args meth c G K A 2 cX7_meetConflict RX7 none) {u0 : XS} {Post : XS → Prop} (u : XS) (hw : jn_X7_meetConflict_22 cap  Post  u) : xV p l e (xRm 5 129 0 0) s m args below meth c G A 2 (xQ G A (xw L K cap u0 T) (fun v ws' => ∃ u' : XS, v = none ∧ ws' = (xw L K cap u' T) ∧ Post u') below args s 0 0) 0 0 (xw L K cap u T) 22 [(0, .ref (L 0))] [] := by
  unfold jn_X7_meetConflict_22 at hw
  refine x_iconst C (v := (1 : Int32)) dX7_meetConflict_22 rfl (by decide) ?_
  refine x_goto C (tgt := 27) dX7_meetConflict_23 rfl (by decide) ?_
  refine x_lv [0] rfl ?_
  exact t_X7_meetConflict_27 C (1 : Int32) u hw
def wp_X7_meetConflict (cap : Nat) (u : XS) (Post : XS → Prop) : Prop :=
  (((X_defended u) = (-1 : Int32) → jn_X7_meetConflict_22 cap Post u) ∧ (¬ ((X_defended u) = (-1 : Int32)) → ((((X_time u) - (X_defended u)) < (10 : Int32) → jn_X7_meetConflict_27 cap Post (0 : Int32) u) ∧ (¬ (((X_time u) - (X_defended u)) < (10 : Int32)) → jn_X7_meetConflict_22 cap Post u))))
set_option maxHeartbeats 4000000 in
set_option maxRecDepth 20000 in
theorem c_X7_meetConflict {u : XS} {Post : XS → Prop} (hw : wp_X7_meetConflict cap  u Post) : xMet l yX7_meetConflict cX7_meetConflict 2 none 5 129 0 0 G K [.ref (L 0)] (xw L K cap u T) (fun v ws' => ∃ u' : XS, v = none ∧ ws' = (xw L K cap u' T) ∧ Post u') := by
  refine xMet.intro (lv := [(0, .ref (L 0))]) (by decide) rfl (Nat.le_of_ble_eq_true rfl) rfl (fun p e s m args below meth c A C => ?_)
  unfold wp_X7_meetConflict at hw
  refine x_aload_n C dX7_meetConflict_0 rfl rfl 0 rfl ?_
  refine gX0_defendedAt C i_172 dX7_meetConflict_1 rfl ?_
  refine x_iconst C (v := (-1 : Int32)) dX7_meetConflict_4 rfl (by decide) ?_
  refine x_icmp_eq C 22 dX7_meetConflict_5 rfl (by decide) (fun c1 => ?_) (fun c1 => ?_)
  · have hw := hw.1 c1
    refine x_lv [0] rfl ?_
    exact t_X7_meetConflict_22 C  u hw
  · have hw := hw.2 c1
    refine x_aload_n C dX7_meetConflict_8 rfl rfl 0 rfl ?_
    refine gX0_time C i_168 dX7_meetConflict_9 rfl ?_
    refine x_aload_n C dX7_meetConflict_12 rfl rfl 0 rfl ?_
    refine gX0_defendedAt C i_172 dX7_meetConflict_13 rfl ?_
    refine x_isub C dX7_meetConflict_16 rfl ?_
    refine x_bipush C (v := (10 : Int32)) dX7_meetConflict_17 rfl (by decide) ?_
    refine x_icmp_lt C 26 dX7_meetConflict_19 rfl (by decide) (fun c2 => ?_) (fun c2 => ?_)
    · have hw := hw.1 c2
      refine x_iconst C (v := (0 : Int32)) dX7_meetConflict_26 rfl (by decide) ?_
      refine x_lv [0] rfl ?_
      exact t_X7_meetConflict_27 C (0 : Int32) u hw
    · have hw := hw.2 c2
      refine x_lv [0] rfl ?_
      exact t_X7_meetConflict_22 C  u hw
set_option maxRecDepth 20000 in
theorem k_X7_meetConflict (C : xCx p s m args meth c G K A nL cc own ret) {u : XS} {idx : Nat} {rest : List Value} {Post : XS → Prop} (hlink : Cond.methodLink own idx yX7_meetConflict ∈ gw_tbl) (hR : 5 + 1 ≤ R.frames ∧ 8 + (2 + 11) + 129 ≤ R.locals) (hf : cells ≤ R.cells ∧ slots ≤ R.slots) (hW : (rest.map fun v => v.category).sum ≤ 8) (hw : wp_X7_meetConflict cap  u Post) (hdg : decode cc n = .ok (.invokevirtual idx, 3)) (hp : pc = n) (kk : ∀ u' : XS, Post u' → xV p l e R s m args below meth c G A nL Q cells slots (xw L K cap u' T) (n + 3) lv rest) : xV p l e R s m args below meth c G A nL Q cells slots (xw L K cap u T) pc lv (.ref (L 0) :: rest) :=
  x_callV C (As := []) (c_X7_meetConflict hw) ⟨hlink, i_252, i_s3, i_1, i_253⟩ 0 rfl rfl rfl (k := 0) (by decide +kernel) rfl hR hf hW rfl hdg hp (fun v ws' ⟨u', hv, hws, hPo⟩ _ => by subst hv; subst hws; exact kk u' hPo)
def jn_X7_isConflict_59 (cap : Nat) (Post : Int32 → XS → Prop) (x1 : Int32) (t0 : Int32) (u : XS) : Prop :=
  ((x1 = (X_own u) → Post (1 : Int32) u) ∧ (¬ (x1 = (X_own u)) → ((t0 = 0 → Post (0 : Int32) u) ∧ (¬ (t0 = 0) → Post (1 : Int32) u))))
set_option maxHeartbeats 4000000 in
set_option maxRecDepth 20000 in
theorem t_X7_isConflict_59 (C : xCx p s m args meth c G K A 3 cX7_isConflict RX7 (some .boolean)) {u0 : XS} {Post : Int32 → XS → Prop} (x1 : Int32) (t0 : Int32) (u : XS) (hw : jn_X7_isConflict_59 cap  Post x1 t0 u) : xV p l e (xRm 2 45 0 0) s m args below meth c G A 3 (xQ G A (xw L K cap u0 T) (fun v ws' => ∃ (r : Int32) (u' : XS), v = some (.int r) ∧ ws' = (xw L K cap u' T) ∧ Post r u') below args s 0 0) 0 0 (xw L K cap u T) 59 [(0, .ref (L 0)), (1, .int x1)] [.int t0] := by
  unfold jn_X7_isConflict_59 at hw
  refine x_istore_n C (lv' := [(2, .int t0), (0, .ref (L 0)), (1, .int x1)]) dX7_isConflict_59 rfl rfl (by decide) rfl ?_
  refine x_iload_n C dX7_isConflict_60 rfl rfl 2 rfl ?_
  refine x_aload_n C dX7_isConflict_61 rfl rfl 1 rfl ?_
  refine gX0_own C i_170 dX7_isConflict_62 rfl ?_
  refine x_icmp_eq C 72 dX7_isConflict_65 rfl (by decide) (fun c1 => ?_) (fun c1 => ?_)
  · have hw := hw.1 c1
    refine x_iconst C (v := (1 : Int32)) dX7_isConflict_72 rfl (by decide) ?_
    refine x_goto C (tgt := 77) dX7_isConflict_73 rfl (by decide) ?_
    exact x_zret C dX7_isConflict_77 rfl rfl (xw_same _ _) ⟨_, _, rfl, rfl, hw⟩
  · have hw := hw.2 c1
    refine x_iload_n C dX7_isConflict_68 rfl rfl 0 rfl ?_
    refine x_if_eq C 76 dX7_isConflict_69 rfl (by decide) (fun c2 => ?_) (fun c2 => ?_)
    · have hw := hw.1 c2
      refine x_iconst C (v := (0 : Int32)) dX7_isConflict_76 rfl (by decide) ?_
      exact x_zret C dX7_isConflict_77 rfl rfl (xw_same _ _) ⟨_, _, rfl, rfl, hw⟩
    · have hw := hw.2 c2
      refine x_iconst C (v := (1 : Int32)) dX7_isConflict_72 rfl (by decide) ?_
      refine x_goto C (tgt := 77) dX7_isConflict_73 rfl (by decide) ?_
      exact x_zret C dX7_isConflict_77 rfl rfl (xw_same _ _) ⟨_, _, rfl, rfl, hw⟩
def jn_X7_isConflict_58 (cap : Nat) (Post : Int32 → XS → Prop) (x1 : Int32) (u : XS) : Prop :=
  jn_X7_isConflict_59 cap Post x1 (0 : Int32) u
set_option maxHeartbeats 4000000 in
set_option maxRecDepth 20000 in
theorem t_X7_isConflict_58 (C : xCx p s m args meth c G K A 3 cX7_isConflict RX7 (some .boolean)) {u0 : XS} {Post : Int32 → XS → Prop} (x1 : Int32) (u : XS) (hw : jn_X7_isConflict_58 cap  Post x1 u) : xV p l e (xRm 2 45 0 0) s m args below meth c G A 3 (xQ G A (xw L K cap u0 T) (fun v ws' => ∃ (r : Int32) (u' : XS), v = some (.int r) ∧ ws' = (xw L K cap u' T) ∧ Post r u') below args s 0 0) 0 0 (xw L K cap u T) 58 [(0, .ref (L 0)), (1, .int x1)] [] := by
  unfold jn_X7_isConflict_58 at hw
  refine x_iconst C (v := (0 : Int32)) dX7_isConflict_58 rfl (by decide) ?_
  refine x_lv [0, 1] rfl ?_
  exact t_X7_isConflict_59 C x1 (0 : Int32) u hw
def wp_X7_isConflict (cap : Nat) (u : XS) (Post : Int32 → XS → Prop) : Prop :=
  ((¬ ((X_phase u) = 0) → wp_X5_senderAddress cap u (fun r2 u3 => ((¬ ((X_phase u3) = (1 : Int32)) → jn_X7_isConflict_58 cap Post r2 u3) ∧ ((X_phase u3) = (1 : Int32) → wp_X5_operation cap u3 (fun r5 u6 => ((¬ (r5 = (1 : Int32)) → jn_X7_isConflict_58 cap Post r2 u6) ∧ (r5 = (1 : Int32) → ((¬ (r2 = 0) → jn_X7_isConflict_58 cap Post r2 u6) ∧ (r2 = 0 → wp_X5_targetAddress cap u6 (fun r9 u10 => ((¬ (r9 = (X_own u10)) → jn_X7_isConflict_58 cap Post r2 u10) ∧ (r9 = (X_own u10) → jn_X7_isConflict_59 cap Post r2 (1 : Int32) u10)))))))))))) ∧ ((X_phase u) = 0 → Post (0 : Int32) u))
set_option maxHeartbeats 4000000 in
set_option maxRecDepth 20000 in
theorem c_X7_isConflict {u : XS} {Post : Int32 → XS → Prop} (hw : wp_X7_isConflict cap  u Post) : xMet l yX7_isConflict cX7_isConflict 3 (some .boolean) 2 45 0 0 G K [.ref (L 0)] (xw L K cap u T) (fun v ws' => ∃ (r : Int32) (u' : XS), v = some (.int r) ∧ ws' = (xw L K cap u' T) ∧ Post r u') := by
  refine xMet.intro (lv := [(0, .ref (L 0))]) (by decide) rfl (Nat.le_of_ble_eq_true rfl) rfl (fun p e s m args below meth c A C => ?_)
  unfold wp_X7_isConflict at hw
  refine x_aload_n C dX7_isConflict_0 rfl rfl 0 rfl ?_
  refine gX0_phase C i_169 dX7_isConflict_1 rfl ?_
  refine x_if_ne C 9 dX7_isConflict_4 rfl (by decide) (fun c1 => ?_) (fun c1 => ?_)
  · have hw := hw.1 c1
    refine x_aload_n C dX7_isConflict_9 rfl rfl 0 rfl ?_
    refine gX0_tape C i_164 dX7_isConflict_10 rfl ?_
    refine k_X5_senderAddress C i_242 ⟨Nat.le_of_ble_eq_true rfl, Nat.le_of_ble_eq_true rfl⟩ ⟨Nat.zero_le _, Nat.zero_le _⟩ (Nat.le_of_ble_eq_true rfl) hw dX7_isConflict_13 rfl (fun r2 u3 hw => ?_)
    refine x_istore_n C (lv' := [(1, .int r2), (0, .ref (L 0))]) dX7_isConflict_16 rfl rfl (by decide) rfl ?_
    refine x_aload_n C dX7_isConflict_17 rfl rfl 1 rfl ?_
    refine gX0_phase C i_169 dX7_isConflict_18 rfl ?_
    refine x_iconst C (v := (1 : Int32)) dX7_isConflict_21 rfl (by decide) ?_
    refine x_icmp_ne C 58 dX7_isConflict_22 rfl (by decide) (fun c4 => ?_) (fun c4 => ?_)
    · have hw := hw.1 c4
      refine x_lv [1, 0] rfl ?_
      exact t_X7_isConflict_58 C r2 u3 hw
    · have hw := hw.2 c4
      refine x_aload_n C dX7_isConflict_25 rfl rfl 1 rfl ?_
      refine gX0_tape C i_164 dX7_isConflict_26 rfl ?_
      refine k_X5_operation C i_225 ⟨Nat.le_of_ble_eq_true rfl, Nat.le_of_ble_eq_true rfl⟩ ⟨Nat.zero_le _, Nat.zero_le _⟩ (Nat.le_of_ble_eq_true rfl) hw dX7_isConflict_29 rfl (fun r5 u6 hw => ?_)
      refine x_iconst C (v := (1 : Int32)) dX7_isConflict_32 rfl (by decide) ?_
      refine x_icmp_ne C 58 dX7_isConflict_33 rfl (by decide) (fun c7 => ?_) (fun c7 => ?_)
      · have hw := hw.1 c7
        refine x_lv [1, 0] rfl ?_
        exact t_X7_isConflict_58 C r2 u6 hw
      · have hw := hw.2 c7
        refine x_iload_n C dX7_isConflict_36 rfl rfl 0 rfl ?_
        refine x_if_ne C 58 dX7_isConflict_37 rfl (by decide) (fun c8 => ?_) (fun c8 => ?_)
        · have hw := hw.1 c8
          refine x_lv [1, 0] rfl ?_
          exact t_X7_isConflict_58 C r2 u6 hw
        · have hw := hw.2 c8
          refine x_aload_n C dX7_isConflict_40 rfl rfl 1 rfl ?_
          refine gX0_tape C i_164 dX7_isConflict_41 rfl ?_
          refine k_X5_targetAddress C i_246 ⟨Nat.le_of_ble_eq_true rfl, Nat.le_of_ble_eq_true rfl⟩ ⟨Nat.zero_le _, Nat.zero_le _⟩ (Nat.le_of_ble_eq_true rfl) hw dX7_isConflict_44 rfl (fun r9 u10 hw => ?_)
          refine x_aload_n C dX7_isConflict_47 rfl rfl 1 rfl ?_
          refine gX0_own C i_170 dX7_isConflict_48 rfl ?_
          refine x_icmp_ne C 58 dX7_isConflict_51 rfl (by decide) (fun c11 => ?_) (fun c11 => ?_)
          · have hw := hw.1 c11
            refine x_lv [1, 0] rfl ?_
            exact t_X7_isConflict_58 C r2 u10 hw
          · have hw := hw.2 c11
            refine x_iconst C (v := (1 : Int32)) dX7_isConflict_54 rfl (by decide) ?_
            refine x_goto C (tgt := 59) dX7_isConflict_55 rfl (by decide) ?_
            refine x_lv [1, 0] rfl ?_
            exact t_X7_isConflict_59 C r2 (1 : Int32) u10 hw
  · have hw := hw.2 c1
    refine x_iconst C (v := (0 : Int32)) dX7_isConflict_7 rfl (by decide) ?_
    exact x_zret C dX7_isConflict_8 rfl rfl (xw_same _ _) ⟨_, _, rfl, rfl, hw⟩
set_option maxRecDepth 20000 in
theorem k_X7_isConflict (C : xCx p s m args meth c G K A nL cc own ret) {u : XS} {idx : Nat} {rest : List Value} {Post : Int32 → XS → Prop} (hlink : Cond.methodLink own idx yX7_isConflict ∈ gw_tbl) (hR : 2 + 1 ≤ R.frames ∧ 8 + (3 + 11) + 45 ≤ R.locals) (hf : cells ≤ R.cells ∧ slots ≤ R.slots) (hW : (rest.map fun v => v.category).sum ≤ 8) (hw : wp_X7_isConflict cap  u Post) (hdg : decode cc n = .ok (.invokevirtual idx, 3)) (hp : pc = n) (kk : ∀ (r : Int32) (u' : XS), Post r u' → xV p l e R s m args below meth c G A nL Q cells slots (xw L K cap u' T) (n + 3) lv (.int r :: rest)) : xV p l e R s m args below meth c G A nL Q cells slots (xw L K cap u T) pc lv (.ref (L 0) :: rest) :=
  x_callV C (As := []) (c_X7_isConflict hw) ⟨hlink, i_240, i_s2, i_1, i_241⟩ 0 rfl rfl rfl (k := 0) (by decide +kernel) rfl hR hf hW rfl hdg hp (fun v ws' ⟨r, u', hv, hws, hPo⟩ _ => by subst hv; subst hws; exact kk r u' hPo)
def jn_X7_isBad_48 (cap : Nat) (Post : Int32 → XS → Prop) (u : XS) : Prop :=
  wp_X5_sender cap u (fun r1 u2 => ((r1 = (X_here u2) → Post (1 : Int32) u2) ∧ (¬ (r1 = (X_here u2)) → ((r1 = (0 : Int64) → Post (1 : Int32) u2) ∧ (¬ (r1 = (0 : Int64)) → ((¬ (r1 = (281474976710655 : Int64)) → Post (0 : Int32) u2) ∧ (r1 = (281474976710655 : Int64) → Post (1 : Int32) u2)))))))
set_option maxHeartbeats 4000000 in
set_option maxRecDepth 20000 in
theorem t_X7_isBad_48 (C : xCx p s m args meth c G K A 4 cX7_isBad RX7 (some .boolean)) {u0 : XS} {Post : Int32 → XS → Prop} (u : XS) (hw : jn_X7_isBad_48 cap  Post  u) : xV p l e (xRm 2 45 0 0) s m args below meth c G A 4 (xQ G A (xw L K cap u0 T) (fun v ws' => ∃ (r : Int32) (u' : XS), v = some (.int r) ∧ ws' = (xw L K cap u' T) ∧ Post r u') below args s 0 0) 0 0 (xw L K cap u T) 48 [(0, .ref (L 0))] [] := by
  unfold jn_X7_isBad_48 at hw
  refine x_aload_n C dX7_isBad_48 rfl rfl 0 rfl ?_
  refine gX0_tape C i_164 dX7_isBad_49 rfl ?_
  refine k_X5_sender C i_229 ⟨Nat.le_of_ble_eq_true rfl, Nat.le_of_ble_eq_true rfl⟩ ⟨Nat.zero_le _, Nat.zero_le _⟩ (Nat.le_of_ble_eq_true rfl) hw dX7_isBad_52 rfl (fun r1 u2 hw => ?_)
  refine x_lstore_n C (lv' := [(2, .long r1), (0, .ref (L 0))]) dX7_isBad_55 rfl rfl (by decide) rfl ?_
  refine x_lload_n C dX7_isBad_56 rfl rfl 0 rfl ?_
  refine x_aload_n C dX7_isBad_57 rfl rfl 1 rfl ?_
  refine gX0_hereNumber C i_167 dX7_isBad_58 rfl ?_
  refine x_lc_eq C 79 dX7_isBad_61 dX7_isBad_62 rfl (by decide) (fun c3 => ?_) (fun c3 => ?_)
  · have hw := hw.1 c3
    refine x_iconst C (v := (1 : Int32)) dX7_isBad_79 rfl (by decide) ?_
    refine x_goto C (tgt := 84) dX7_isBad_80 rfl (by decide) ?_
    exact x_zret C dX7_isBad_84 rfl rfl (xw_same _ _) ⟨_, _, rfl, rfl, hw⟩
  · have hw := hw.2 c3
    refine x_lload_n C dX7_isBad_65 rfl rfl 0 rfl ?_
    refine x_lconst C (v := (0 : Int64)) dX7_isBad_66 rfl (by decide) ?_
    refine x_lc_eq C 79 dX7_isBad_67 dX7_isBad_68 rfl (by decide) (fun c4 => ?_) (fun c4 => ?_)
    · have hw := hw.1 c4
      refine x_iconst C (v := (1 : Int32)) dX7_isBad_79 rfl (by decide) ?_
      refine x_goto C (tgt := 84) dX7_isBad_80 rfl (by decide) ?_
      exact x_zret C dX7_isBad_84 rfl rfl (xw_same _ _) ⟨_, _, rfl, rfl, hw⟩
    · have hw := hw.2 c4
      refine x_lload_n C dX7_isBad_71 rfl rfl 0 rfl ?_
      refine x_ldc2 C dX7_isBad_72 rfl i_233 ?_
      refine x_lc_ne C 83 dX7_isBad_75 dX7_isBad_76 rfl (by decide) (fun c5 => ?_) (fun c5 => ?_)
      · have hw := hw.1 c5
        refine x_iconst C (v := (0 : Int32)) dX7_isBad_83 rfl (by decide) ?_
        exact x_zret C dX7_isBad_84 rfl rfl (xw_same _ _) ⟨_, _, rfl, rfl, hw⟩
      · have hw := hw.2 c5
        refine x_iconst C (v := (1 : Int32)) dX7_isBad_79 rfl (by decide) ?_
        refine x_goto C (tgt := 84) dX7_isBad_80 rfl (by decide) ?_
        exact x_zret C dX7_isBad_84 rfl rfl (xw_same _ _) ⟨_, _, rfl, rfl, hw⟩
def wp_X7_isBad (cap : Nat) (u : XS) (Post : Int32 → XS → Prop) : Prop :=
  ((¬ ((X_tl u) = (28 : Int32)) → Post (1 : Int32) u) ∧ ((X_tl u) = (28 : Int32) → wp_X5_head cap u (fun r2 u3 => ((r2 = (4429186564 : Int64) → wp_X5_operation cap u3 (fun r5 u6 => ((r5 = (1 : Int32) → jn_X7_isBad_48 cap Post u6) ∧ (¬ (r5 = (1 : Int32)) → ((r5 = (2 : Int32) → jn_X7_isBad_48 cap Post u6) ∧ (¬ (r5 = (2 : Int32)) → Post (1 : Int32) u6)))))) ∧ (¬ (r2 = (4429186564 : Int64)) → Post (1 : Int32) u3)))))
set_option maxHeartbeats 4000000 in
set_option maxRecDepth 20000 in
theorem c_X7_isBad {u : XS} {Post : Int32 → XS → Prop} (hw : wp_X7_isBad cap  u Post) : xMet l yX7_isBad cX7_isBad 4 (some .boolean) 2 45 0 0 G K [.ref (L 0)] (xw L K cap u T) (fun v ws' => ∃ (r : Int32) (u' : XS), v = some (.int r) ∧ ws' = (xw L K cap u' T) ∧ Post r u') := by
  refine xMet.intro (lv := [(0, .ref (L 0))]) (by decide) rfl (Nat.le_of_ble_eq_true rfl) rfl (fun p e s m args below meth c A C => ?_)
  unfold wp_X7_isBad at hw
  refine x_aload_n C dX7_isBad_0 rfl rfl 0 rfl ?_
  refine gX0_tape C i_164 dX7_isBad_1 rfl ?_
  refine gX3_length C i_35 dX7_isBad_4 rfl ?_
  refine x_bipush C (v := (28 : Int32)) dX7_isBad_7 rfl (by decide) ?_
  refine x_icmp_ne C 26 dX7_isBad_9 rfl (by decide) (fun c1 => ?_) (fun c1 => ?_)
  · have hw := hw.1 c1
    refine x_iconst C (v := (1 : Int32)) dX7_isBad_26 rfl (by decide) ?_
    exact x_zret C dX7_isBad_27 rfl rfl (xw_same _ _) ⟨_, _, rfl, rfl, hw⟩
  · have hw := hw.2 c1
    refine x_aload_n C dX7_isBad_12 rfl rfl 0 rfl ?_
    refine gX0_tape C i_164 dX7_isBad_13 rfl ?_
    refine k_X5_head C i_217 ⟨Nat.le_of_ble_eq_true rfl, Nat.le_of_ble_eq_true rfl⟩ ⟨Nat.zero_le _, Nat.zero_le _⟩ (Nat.le_of_ble_eq_true rfl) hw dX7_isBad_16 rfl (fun r2 u3 hw => ?_)
    refine x_ldc2 C dX7_isBad_19 rfl i_224 ?_
    refine x_lc_eq C 28 dX7_isBad_22 dX7_isBad_23 rfl (by decide) (fun c4 => ?_) (fun c4 => ?_)
    · have hw := hw.1 c4
      refine x_aload_n C dX7_isBad_28 rfl rfl 0 rfl ?_
      refine gX0_tape C i_164 dX7_isBad_29 rfl ?_
      refine k_X5_operation C i_225 ⟨Nat.le_of_ble_eq_true rfl, Nat.le_of_ble_eq_true rfl⟩ ⟨Nat.zero_le _, Nat.zero_le _⟩ (Nat.le_of_ble_eq_true rfl) hw dX7_isBad_32 rfl (fun r5 u6 hw => ?_)
      refine x_istore_n C (lv' := [(1, .int r5), (0, .ref (L 0))]) dX7_isBad_35 rfl rfl (by decide) rfl ?_
      refine x_iload_n C dX7_isBad_36 rfl rfl 0 rfl ?_
      refine x_iconst C (v := (1 : Int32)) dX7_isBad_37 rfl (by decide) ?_
      refine x_icmp_eq C 48 dX7_isBad_38 rfl (by decide) (fun c7 => ?_) (fun c7 => ?_)
      · have hw := hw.1 c7
        refine x_lv [1] rfl ?_
        exact t_X7_isBad_48 C  u6 hw
      · have hw := hw.2 c7
        refine x_iload_n C dX7_isBad_41 rfl rfl 0 rfl ?_
        refine x_iconst C (v := (2 : Int32)) dX7_isBad_42 rfl (by decide) ?_
        refine x_icmp_eq C 48 dX7_isBad_43 rfl (by decide) (fun c8 => ?_) (fun c8 => ?_)
        · have hw := hw.1 c8
          refine x_lv [1] rfl ?_
          exact t_X7_isBad_48 C  u6 hw
        · have hw := hw.2 c8
          refine x_iconst C (v := (1 : Int32)) dX7_isBad_46 rfl (by decide) ?_
          exact x_zret C dX7_isBad_47 rfl rfl (xw_same _ _) ⟨_, _, rfl, rfl, hw⟩
    · have hw := hw.2 c4
      refine x_iconst C (v := (1 : Int32)) dX7_isBad_26 rfl (by decide) ?_
      exact x_zret C dX7_isBad_27 rfl rfl (xw_same _ _) ⟨_, _, rfl, rfl, hw⟩
set_option maxRecDepth 20000 in
theorem k_X7_isBad (C : xCx p s m args meth c G K A nL cc own ret) {u : XS} {idx : Nat} {rest : List Value} {Post : Int32 → XS → Prop} (hlink : Cond.methodLink own idx yX7_isBad ∈ gw_tbl) (hR : 2 + 1 ≤ R.frames ∧ 8 + (4 + 11) + 45 ≤ R.locals) (hf : cells ≤ R.cells ∧ slots ≤ R.slots) (hW : (rest.map fun v => v.category).sum ≤ 8) (hw : wp_X7_isBad cap  u Post) (hdg : decode cc n = .ok (.invokevirtual idx, 3)) (hp : pc = n) (kk : ∀ (r : Int32) (u' : XS), Post r u' → xV p l e R s m args below meth c G A nL Q cells slots (xw L K cap u' T) (n + 3) lv (.int r :: rest)) : xV p l e R s m args below meth c G A nL Q cells slots (xw L K cap u T) pc lv (.ref (L 0) :: rest) :=
  x_callV C (As := []) (c_X7_isBad hw) ⟨hlink, i_215, i_s0, i_1, i_216⟩ 0 rfl rfl rfl (k := 0) (by decide +kernel) rfl hR hf hW rfl hdg hp (fun v ws' ⟨r, u', hv, hws, hPo⟩ _ => by subst hv; subst hws; exact kk r u' hPo)
def jn_X7_takeIn_52 (cap : Nat) (Post : Int32 → XS → Prop) (u : XS) : Prop :=
  (((X_phase u) < (2 : Int32) → Post (0 : Int32) u) ∧ (¬ ((X_phase u) < (2 : Int32)) → wp_X5_targetAddress cap u (fun r2 u3 => ((¬ (r2 = (X_own u3)) → Post (0 : Int32) u3) ∧ (r2 = (X_own u3) → wp_X7_takeInForOwn cap u3 (fun u6 => Post (0 : Int32) u6))))))
set_option maxHeartbeats 4000000 in
set_option maxRecDepth 20000 in
theorem t_X7_takeIn_52 (C : xCx p s m args meth c G K A 2 cX7_takeIn RX7 (some .int)) {u0 : XS} {Post : Int32 → XS → Prop} (u : XS) (hw : jn_X7_takeIn_52 cap  Post  u) : xV p l e (xRm 6 150 0 0) s m args below meth c G A 2 (xQ G A (xw L K cap u0 T) (fun v ws' => ∃ (r : Int32) (u' : XS), v = some (.int r) ∧ ws' = (xw L K cap u' T) ∧ Post r u') below args s 0 0) 0 0 (xw L K cap u T) 52 [(0, .ref (L 0))] [] := by
  unfold jn_X7_takeIn_52 at hw
  refine x_aload_n C dX7_takeIn_52 rfl rfl 0 rfl ?_
  refine gX0_phase C i_169 dX7_takeIn_53 rfl ?_
  refine x_iconst C (v := (2 : Int32)) dX7_takeIn_56 rfl (by decide) ?_
  refine x_icmp_lt C 78 dX7_takeIn_57 rfl (by decide) (fun c1 => ?_) (fun c1 => ?_)
  · have hw := hw.1 c1
    refine x_iconst C (v := (0 : Int32)) dX7_takeIn_78 rfl (by decide) ?_
    exact x_iret C dX7_takeIn_79 rfl (xw_same _ _) ⟨_, _, rfl, rfl, hw⟩
  · have hw := hw.2 c1
    refine x_aload_n C dX7_takeIn_60 rfl rfl 0 rfl ?_
    refine gX0_tape C i_164 dX7_takeIn_61 rfl ?_
    refine k_X5_targetAddress C i_246 ⟨Nat.le_of_ble_eq_true rfl, Nat.le_of_ble_eq_true rfl⟩ ⟨Nat.zero_le _, Nat.zero_le _⟩ (Nat.le_of_ble_eq_true rfl) hw dX7_takeIn_64 rfl (fun r2 u3 hw => ?_)
    refine x_aload_n C dX7_takeIn_67 rfl rfl 0 rfl ?_
    refine gX0_own C i_170 dX7_takeIn_68 rfl ?_
    refine x_icmp_ne C 78 dX7_takeIn_71 rfl (by decide) (fun c4 => ?_) (fun c4 => ?_)
    · have hw := hw.1 c4
      refine x_iconst C (v := (0 : Int32)) dX7_takeIn_78 rfl (by decide) ?_
      exact x_iret C dX7_takeIn_79 rfl (xw_same _ _) ⟨_, _, rfl, rfl, hw⟩
    · have hw := hw.2 c4
      refine x_aload_n C dX7_takeIn_74 rfl rfl 0 rfl ?_
      refine k_X7_takeInForOwn C i_303 ⟨Nat.le_of_ble_eq_true rfl, Nat.le_of_ble_eq_true rfl⟩ ⟨Nat.zero_le _, Nat.zero_le _⟩ (Nat.le_of_ble_eq_true rfl) hw dX7_takeIn_75 rfl (fun u6 hw => ?_)
      refine x_iconst C (v := (0 : Int32)) dX7_takeIn_78 rfl (by decide) ?_
      exact x_iret C dX7_takeIn_79 rfl (xw_same _ _) ⟨_, _, rfl, rfl, hw⟩
def wp_X7_takeIn (cap : Nat) (u : XS) (Post : Int32 → XS → Prop) : Prop :=
  wp_X7_isConflict cap u (fun r1 u2 => ((r1 = 0 → wp_X5_senderAddress cap u2 (fun r4 u5 => wp_X0_indexOf cap r4 u5 (fun r6 u7 => ((r6 < 0 → jn_X7_takeIn_52 cap Post u7) ∧ (¬ (r6 < 0) → vp_in r6 cap ∧ (wp_X5_sender cap u7 (fun r10 u11 => (X_row u7 (Int32.toNatClampNeg r6)) < cap ∧ (wp_X7_learn cap (X_row u7 (Int32.toNatClampNeg r6)) r10 u11 (fun u14 => jn_X7_takeIn_52 cap Post u14))))))))) ∧ (¬ (r1 = 0) → wp_X7_meetConflict cap u2 (fun u16 => Post (2 : Int32) u16))))
set_option maxHeartbeats 4000000 in
set_option maxRecDepth 20000 in
theorem c_X7_takeIn {u : XS} {Post : Int32 → XS → Prop} (hw : wp_X7_takeIn cap  u Post) : xMet l yX7_takeIn cX7_takeIn 2 (some .int) 6 150 0 0 G K [.ref (L 0)] (xw L K cap u T) (fun v ws' => ∃ (r : Int32) (u' : XS), v = some (.int r) ∧ ws' = (xw L K cap u' T) ∧ Post r u') := by
  refine xMet.intro (lv := [(0, .ref (L 0))]) (by decide) rfl (Nat.le_of_ble_eq_true rfl) rfl (fun p e s m args below meth c A C => ?_)
  unfold wp_X7_takeIn at hw
  refine x_aload_n C dX7_takeIn_0 rfl rfl 0 rfl ?_
  refine k_X7_isConflict C i_238 ⟨Nat.le_of_ble_eq_true rfl, Nat.le_of_ble_eq_true rfl⟩ ⟨Nat.zero_le _, Nat.zero_le _⟩ (Nat.le_of_ble_eq_true rfl) hw dX7_takeIn_1 rfl (fun r1 u2 hw => ?_)
  refine x_if_eq C 13 dX7_takeIn_4 rfl (by decide) (fun c3 => ?_) (fun c3 => ?_)
  · have hw := hw.1 c3
    refine x_aload_n C dX7_takeIn_13 rfl rfl 0 rfl ?_
    refine gX0_cache C i_163 dX7_takeIn_14 rfl ?_
    refine x_aload_n C dX7_takeIn_17 rfl rfl 0 rfl ?_
    refine gX0_tape C i_164 dX7_takeIn_18 rfl ?_
    refine k_X5_senderAddress C i_242 ⟨Nat.le_of_ble_eq_true rfl, Nat.le_of_ble_eq_true rfl⟩ ⟨Nat.zero_le _, Nat.zero_le _⟩ (Nat.le_of_ble_eq_true rfl) hw dX7_takeIn_21 rfl (fun r4 u5 hw => ?_)
    refine k_X0_indexOf C i_287 ⟨Nat.le_of_ble_eq_true rfl, Nat.le_of_ble_eq_true rfl⟩ ⟨Nat.zero_le _, Nat.zero_le _⟩ (Nat.le_of_ble_eq_true rfl) hw dX7_takeIn_24 rfl (fun r6 u7 hw => ?_)
    refine x_istore_n C (lv' := [(1, .int r6), (0, .ref (L 0))]) dX7_takeIn_27 rfl rfl (by decide) rfl ?_
    refine x_iload_n C dX7_takeIn_28 rfl rfl 0 rfl ?_
    refine x_if_lt C 52 dX7_takeIn_29 rfl (by decide) (fun c8 => ?_) (fun c8 => ?_)
    · have hw := hw.1 c8
      refine x_lv [1] rfl ?_
      exact t_X7_takeIn_52 C  u7 hw
    · have hw := hw.2 c8
      refine x_aload_n C dX7_takeIn_32 rfl rfl 1 rfl ?_
      refine x_aload_n C dX7_takeIn_33 rfl rfl 1 rfl ?_
      refine gX0_cache C i_163 dX7_takeIn_34 rfl ?_
      refine gX1_row C i_153 dX7_takeIn_37 rfl ?_
      refine x_iload_n C dX7_takeIn_40 rfl rfl 0 rfl ?_
      obtain ⟨h9, hw⟩ := hw
      refine gX2_at C h9 dX7_takeIn_41 rfl ?_
      refine x_aload_n C dX7_takeIn_42 rfl rfl 1 rfl ?_
      refine gX0_tape C i_164 dX7_takeIn_43 rfl ?_
      refine k_X5_sender C i_229 ⟨Nat.le_of_ble_eq_true rfl, Nat.le_of_ble_eq_true rfl⟩ ⟨Nat.zero_le _, Nat.zero_le _⟩ (Nat.le_of_ble_eq_true rfl) hw dX7_takeIn_46 rfl (fun r10 u11 hw => ?_)
      obtain ⟨h12, hw⟩ := hw
      refine k_X7_learn C h12 i_291 ⟨Nat.le_of_ble_eq_true rfl, Nat.le_of_ble_eq_true rfl⟩ ⟨Nat.zero_le _, Nat.zero_le _⟩ (Nat.le_of_ble_eq_true rfl) hw dX7_takeIn_49 rfl (fun u14 hw => ?_)
      refine x_lv [1] rfl ?_
      exact t_X7_takeIn_52 C  u14 hw
  · have hw := hw.2 c3
    refine x_aload_n C dX7_takeIn_7 rfl rfl 0 rfl ?_
    refine k_X7_meetConflict C i_250 ⟨Nat.le_of_ble_eq_true rfl, Nat.le_of_ble_eq_true rfl⟩ ⟨Nat.zero_le _, Nat.zero_le _⟩ (Nat.le_of_ble_eq_true rfl) hw dX7_takeIn_8 rfl (fun u16 hw => ?_)
    refine x_iconst C (v := (2 : Int32)) dX7_takeIn_11 rfl (by decide) ?_
    exact x_iret C dX7_takeIn_12 rfl (xw_same _ _) ⟨_, _, rfl, rfl, hw⟩
set_option maxRecDepth 20000 in
theorem k_X7_takeIn (C : xCx p s m args meth c G K A nL cc own ret) {u : XS} {idx : Nat} {rest : List Value} {Post : Int32 → XS → Prop} (hlink : Cond.methodLink own idx yX7_takeIn ∈ gw_tbl) (hR : 6 + 1 ≤ R.frames ∧ 8 + (2 + 11) + 150 ≤ R.locals) (hf : cells ≤ R.cells ∧ slots ≤ R.slots) (hW : (rest.map fun v => v.category).sum ≤ 8) (hw : wp_X7_takeIn cap  u Post) (hdg : decode cc n = .ok (.invokevirtual idx, 3)) (hp : pc = n) (kk : ∀ (r : Int32) (u' : XS), Post r u' → xV p l e R s m args below meth c G A nL Q cells slots (xw L K cap u' T) (n + 3) lv (.int r :: rest)) : xV p l e R s m args below meth c G A nL Q cells slots (xw L K cap u T) pc lv (.ref (L 0) :: rest) :=
  x_callV C (As := []) (c_X7_takeIn hw) ⟨hlink, i_236, i_s1, i_1, i_237⟩ 0 rfl rfl rfl (k := 0) (by decide +kernel) rfl hR hf hW rfl hdg hp (fun v ws' ⟨r, u', hv, hws, hPo⟩ _ => by subst hv; subst hws; exact kk r u' hPo)
def jn_X7_tickOwn_61 (cap : Nat) (Post : XS → Prop) (x1 : Int32) (u : XS) : Prop :=
  ((¬ ((X_phase u) = (2 : Int32)) → Post u) ∧ ((X_phase u) = (2 : Int32) → ((¬ (x1 = (8 : Int32)) → Post u) ∧ (x1 = (8 : Int32) → wp_X7_announce cap u (fun u4 => (∀ (u5 : XS), u5 = Xs_phase u4 (3 : Int32) → Post u5))))))
set_option maxHeartbeats 4000000 in
set_option maxRecDepth 20000 in
theorem t_X7_tickOwn_61 (C : xCx p s m args meth c G K A 2 cX7_tickOwn RX7 none) {u0 : XS} {Post : XS → Prop} (x1 : Int32) (u : XS) (hw : jn_X7_tickOwn_61 cap  Post x1 u) : xV p l e (xRm 5 129 0 0) s m args below meth c G A 2 (xQ G A (xw L K cap u0 T) (fun v ws' => ∃ u' : XS, v = none ∧ ws' = (xw L K cap u' T) ∧ Post u') below args s 0 0) 0 0 (xw L K cap u T) 61 [(0, .ref (L 0)), (1, .int x1)] [] := by
  unfold jn_X7_tickOwn_61 at hw
  refine x_aload_n C dX7_tickOwn_61 rfl rfl 0 rfl ?_
  refine gX0_phase C i_169 dX7_tickOwn_62 rfl ?_
  refine x_iconst C (v := (2 : Int32)) dX7_tickOwn_65 rfl (by decide) ?_
  refine x_icmp_ne C 84 dX7_tickOwn_66 rfl (by decide) (fun c1 => ?_) (fun c1 => ?_)
  · have hw := hw.1 c1
    exact x_vret C dX7_tickOwn_84 rfl (xw_same _ _) ⟨_, rfl, rfl, hw⟩
  · have hw := hw.2 c1
    refine x_iload_n C dX7_tickOwn_69 rfl rfl 1 rfl ?_
    refine x_bipush C (v := (8 : Int32)) dX7_tickOwn_70 rfl (by decide) ?_
    refine x_icmp_ne C 84 dX7_tickOwn_72 rfl (by decide) (fun c2 => ?_) (fun c2 => ?_)
    · have hw := hw.1 c2
      exact x_vret C dX7_tickOwn_84 rfl (xw_same _ _) ⟨_, rfl, rfl, hw⟩
    · have hw := hw.2 c2
      refine x_aload_n C dX7_tickOwn_75 rfl rfl 0 rfl ?_
      refine k_X7_announce C i_273 ⟨Nat.le_of_ble_eq_true rfl, Nat.le_of_ble_eq_true rfl⟩ ⟨Nat.zero_le _, Nat.zero_le _⟩ (Nat.le_of_ble_eq_true rfl) hw dX7_tickOwn_76 rfl (fun u4 hw => ?_)
      refine x_aload_n C dX7_tickOwn_79 rfl rfl 0 rfl ?_
      refine x_iconst C (v := (3 : Int32)) dX7_tickOwn_80 rfl (by decide) ?_
      refine pX0_phase C i_169 dX7_tickOwn_81 rfl (fun u5 e6 => ?_)
      have hw := hw u5 e6
      exact x_vret C dX7_tickOwn_84 rfl (xw_same _ _) ⟨_, rfl, rfl, hw⟩
def jn_X7_tickOwn_35 (cap : Nat) (Post : XS → Prop) (x1 : Int32) (u : XS) : Prop :=
  ((¬ ((X_phase u) = (1 : Int32)) → jn_X7_tickOwn_61 cap Post x1 u) ∧ ((X_phase u) = (1 : Int32) → ((¬ (x1 = (6 : Int32)) → jn_X7_tickOwn_61 cap Post x1 u) ∧ (x1 = (6 : Int32) → wp_X7_announce cap u (fun u4 => (∀ (u5 : XS), u5 = Xs_phase u4 (2 : Int32) → Post u5))))))
set_option maxHeartbeats 4000000 in
set_option maxRecDepth 20000 in
theorem t_X7_tickOwn_35 (C : xCx p s m args meth c G K A 2 cX7_tickOwn RX7 none) {u0 : XS} {Post : XS → Prop} (x1 : Int32) (u : XS) (hw : jn_X7_tickOwn_35 cap  Post x1 u) : xV p l e (xRm 5 129 0 0) s m args below meth c G A 2 (xQ G A (xw L K cap u0 T) (fun v ws' => ∃ u' : XS, v = none ∧ ws' = (xw L K cap u' T) ∧ Post u') below args s 0 0) 0 0 (xw L K cap u T) 35 [(0, .ref (L 0)), (1, .int x1)] [] := by
  unfold jn_X7_tickOwn_35 at hw
  refine x_aload_n C dX7_tickOwn_35 rfl rfl 0 rfl ?_
  refine gX0_phase C i_169 dX7_tickOwn_36 rfl ?_
  refine x_iconst C (v := (1 : Int32)) dX7_tickOwn_39 rfl (by decide) ?_
  refine x_icmp_ne C 61 dX7_tickOwn_40 rfl (by decide) (fun c1 => ?_) (fun c1 => ?_)
  · have hw := hw.1 c1
    refine x_lv [0, 1] rfl ?_
    exact t_X7_tickOwn_61 C x1 u hw
  · have hw := hw.2 c1
    refine x_iload_n C dX7_tickOwn_43 rfl rfl 1 rfl ?_
    refine x_bipush C (v := (6 : Int32)) dX7_tickOwn_44 rfl (by decide) ?_
    refine x_icmp_ne C 61 dX7_tickOwn_46 rfl (by decide) (fun c2 => ?_) (fun c2 => ?_)
    · have hw := hw.1 c2
      refine x_lv [0, 1] rfl ?_
      exact t_X7_tickOwn_61 C x1 u hw
    · have hw := hw.2 c2
      refine x_aload_n C dX7_tickOwn_49 rfl rfl 0 rfl ?_
      refine k_X7_announce C i_273 ⟨Nat.le_of_ble_eq_true rfl, Nat.le_of_ble_eq_true rfl⟩ ⟨Nat.zero_le _, Nat.zero_le _⟩ (Nat.le_of_ble_eq_true rfl) hw dX7_tickOwn_50 rfl (fun u4 hw => ?_)
      refine x_aload_n C dX7_tickOwn_53 rfl rfl 0 rfl ?_
      refine x_iconst C (v := (2 : Int32)) dX7_tickOwn_54 rfl (by decide) ?_
      refine pX0_phase C i_169 dX7_tickOwn_55 rfl (fun u5 e6 => ?_)
      have hw := hw u5 e6
      refine x_goto C (tgt := 84) dX7_tickOwn_58 rfl (by decide) ?_
      exact x_vret C dX7_tickOwn_84 rfl (xw_same _ _) ⟨_, rfl, rfl, hw⟩
def wp_X7_tickOwn (cap : Nat) (u : XS) (Post : XS → Prop) : Prop :=
  ((¬ ((X_phase u) = (1 : Int32)) → jn_X7_tickOwn_35 cap Post ((X_time u) - (X_claimed u)) u) ∧ ((X_phase u) = (1 : Int32) → ((((X_time u) - (X_claimed u)) = (2 : Int32) → wp_X7_probe cap u (fun u4 => Post u4)) ∧ (¬ (((X_time u) - (X_claimed u)) = (2 : Int32)) → ((¬ (((X_time u) - (X_claimed u)) = (4 : Int32)) → jn_X7_tickOwn_35 cap Post ((X_time u) - (X_claimed u)) u) ∧ (((X_time u) - (X_claimed u)) = (4 : Int32) → wp_X7_probe cap u (fun u7 => Post u7)))))))
set_option maxHeartbeats 4000000 in
set_option maxRecDepth 20000 in
theorem c_X7_tickOwn {u : XS} {Post : XS → Prop} (hw : wp_X7_tickOwn cap  u Post) : xMet l yX7_tickOwn cX7_tickOwn 2 none 5 129 0 0 G K [.ref (L 0)] (xw L K cap u T) (fun v ws' => ∃ u' : XS, v = none ∧ ws' = (xw L K cap u' T) ∧ Post u') := by
  refine xMet.intro (lv := [(0, .ref (L 0))]) (by decide) rfl (Nat.le_of_ble_eq_true rfl) rfl (fun p e s m args below meth c A C => ?_)
  unfold wp_X7_tickOwn at hw
  refine x_aload_n C dX7_tickOwn_0 rfl rfl 0 rfl ?_
  refine gX0_time C i_168 dX7_tickOwn_1 rfl ?_
  refine x_aload_n C dX7_tickOwn_4 rfl rfl 0 rfl ?_
  refine gX0_claimedAt C i_171 dX7_tickOwn_5 rfl ?_
  refine x_isub C dX7_tickOwn_8 rfl ?_
  refine x_istore_n C (lv' := [(1, .int ((X_time u) - (X_claimed u))), (0, .ref (L 0))]) dX7_tickOwn_9 rfl rfl (by decide) rfl ?_
  refine x_aload_n C dX7_tickOwn_10 rfl rfl 1 rfl ?_
  refine gX0_phase C i_169 dX7_tickOwn_11 rfl ?_
  refine x_iconst C (v := (1 : Int32)) dX7_tickOwn_14 rfl (by decide) ?_
  refine x_icmp_ne C 35 dX7_tickOwn_15 rfl (by decide) (fun c1 => ?_) (fun c1 => ?_)
  · have hw := hw.1 c1
    refine x_lv [1, 0] rfl ?_
    exact t_X7_tickOwn_35 C ((X_time u) - (X_claimed u)) u hw
  · have hw := hw.2 c1
    refine x_iload_n C dX7_tickOwn_18 rfl rfl 0 rfl ?_
    refine x_iconst C (v := (2 : Int32)) dX7_tickOwn_19 rfl (by decide) ?_
    refine x_icmp_eq C 28 dX7_tickOwn_20 rfl (by decide) (fun c2 => ?_) (fun c2 => ?_)
    · have hw := hw.1 c2
      refine x_aload_n C dX7_tickOwn_28 rfl rfl 1 rfl ?_
      refine k_X7_probe C i_445 ⟨Nat.le_of_ble_eq_true rfl, Nat.le_of_ble_eq_true rfl⟩ ⟨Nat.zero_le _, Nat.zero_le _⟩ (Nat.le_of_ble_eq_true rfl) hw dX7_tickOwn_29 rfl (fun u4 hw => ?_)
      refine x_goto C (tgt := 84) dX7_tickOwn_32 rfl (by decide) ?_
      exact x_vret C dX7_tickOwn_84 rfl (xw_same _ _) ⟨_, rfl, rfl, hw⟩
    · have hw := hw.2 c2
      refine x_iload_n C dX7_tickOwn_23 rfl rfl 0 rfl ?_
      refine x_iconst C (v := (4 : Int32)) dX7_tickOwn_24 rfl (by decide) ?_
      refine x_icmp_ne C 35 dX7_tickOwn_25 rfl (by decide) (fun c5 => ?_) (fun c5 => ?_)
      · have hw := hw.1 c5
        refine x_lv [1, 0] rfl ?_
        exact t_X7_tickOwn_35 C ((X_time u) - (X_claimed u)) u hw
      · have hw := hw.2 c5
        refine x_aload_n C dX7_tickOwn_28 rfl rfl 1 rfl ?_
        refine k_X7_probe C i_445 ⟨Nat.le_of_ble_eq_true rfl, Nat.le_of_ble_eq_true rfl⟩ ⟨Nat.zero_le _, Nat.zero_le _⟩ (Nat.le_of_ble_eq_true rfl) hw dX7_tickOwn_29 rfl (fun u7 hw => ?_)
        refine x_goto C (tgt := 84) dX7_tickOwn_32 rfl (by decide) ?_
        exact x_vret C dX7_tickOwn_84 rfl (xw_same _ _) ⟨_, rfl, rfl, hw⟩
set_option maxRecDepth 20000 in
theorem k_X7_tickOwn (C : xCx p s m args meth c G K A nL cc own ret) {u : XS} {idx : Nat} {rest : List Value} {Post : XS → Prop} (hlink : Cond.methodLink own idx yX7_tickOwn ∈ gw_tbl) (hR : 5 + 1 ≤ R.frames ∧ 8 + (2 + 11) + 129 ≤ R.locals) (hf : cells ≤ R.cells ∧ slots ≤ R.slots) (hW : (rest.map fun v => v.category).sum ≤ 8) (hw : wp_X7_tickOwn cap  u Post) (hdg : decode cc n = .ok (.invokevirtual idx, 3)) (hp : pc = n) (kk : ∀ u' : XS, Post u' → xV p l e R s m args below meth c G A nL Q cells slots (xw L K cap u' T) (n + 3) lv rest) : xV p l e R s m args below meth c G A nL Q cells slots (xw L K cap u T) pc lv (.ref (L 0) :: rest) :=
  x_callV C (As := []) (c_X7_tickOwn hw) ⟨hlink, i_481, i_s16, i_1, i_482⟩ 0 rfl rfl rfl (k := 0) (by decide +kernel) rfl hR hf hW rfl hdg hp (fun v ws' ⟨u', hv, hws, hPo⟩ _ => by subst hv; subst hws; exact kk u' hPo)
def wp_X7_isOver (cap : Nat) (a1 : Nat) (u : XS) (Post : Int32 → XS → Prop) : Prop :=
  a1 < cap ∧ ((((e_kind (X_E u a1)) = 1 → ((((X_time u) - (e_since (X_E u a1))) < (6 : Int32) → Post (0 : Int32) u) ∧ (¬ (((X_time u) - (e_since (X_E u a1))) < (6 : Int32)) → Post (1 : Int32) u))) ∧ ((e_kind (X_E u a1)) = 2 → Post (0 : Int32) u) ∧ ((e_kind (X_E u a1)) = 3 → ((((X_time u) - (e_used (X_E u a1))) < (X_age u) → Post (0 : Int32) u) ∧ (¬ (((X_time u) - (e_used (X_E u a1))) < (X_age u)) → Post (1 : Int32) u))) ∧ ((e_kind (X_E u a1)) = 4 → ((((X_time u) - (e_since (X_E u a1))) < (3 : Int32) → Post (0 : Int32) u) ∧ (¬ (((X_time u) - (e_since (X_E u a1))) < (3 : Int32)) → Post (1 : Int32) u))) ∧ (¬ (e_kind (X_E u a1)) = 1 ∧ ¬ (e_kind (X_E u a1)) = 2 ∧ ¬ (e_kind (X_E u a1)) = 3 ∧ ¬ (e_kind (X_E u a1)) = 4 → Post (0 : Int32) u)))
set_option maxHeartbeats 4000000 in
set_option maxRecDepth 20000 in
theorem c_X7_isOver {a1 : Nat} {u : XS} {Post : Int32 → XS → Prop} (hw : wp_X7_isOver cap a1 u Post) : xMet l yX7_isOver cX7_isOver 3 (some .boolean) 0 0 0 0 G K [.ref (L 0), .ref (L (15 + 2 * a1))] (xw L K cap u T) (fun v ws' => ∃ (r : Int32) (u' : XS), v = some (.int r) ∧ ws' = (xw L K cap u' T) ∧ Post r u') := by
  refine xMet.intro (lv := [(0, .ref (L 0)), (1, .ref (L (15 + 2 * a1)))]) (by decide) rfl (Nat.le_of_ble_eq_true rfl) rfl (fun p e s m args below meth c A C => ?_)
  unfold wp_X7_isOver at hw
  refine x_aload_n C dX7_isOver_0 rfl rfl 0 rfl ?_
  refine gX0_time C i_168 dX7_isOver_1 rfl ?_
  refine x_aload_n C dX7_isOver_4 rfl rfl 1 rfl ?_
  obtain ⟨h1, hw⟩ := hw
  refine gE_since C h1 i_133 dX7_isOver_5 rfl ?_
  refine x_isub C dX7_isOver_8 rfl ?_
  refine x_istore_n C (lv' := [(2, .int ((X_time u) - (e_since (X_E u a1)))), (0, .ref (L 0)), (1, .ref (L (15 + 2 * a1)))]) dX7_isOver_9 rfl rfl (by decide) rfl ?_
  refine x_aload_n C dX7_isOver_10 rfl rfl 2 rfl ?_
  refine gE_kind C h1 i_131 dX7_isOver_11 rfl ?_
  by_cases c2 : (e_kind (X_E u a1)) = 1
  · have hw := hw.1 c2
    refine x_tableIn C 44 dX7_isOver_14 rfl (by rw [c2]; decide) (by rw [c2]; decide) (by rw [c2]; rfl) (by decide) ?_
    refine x_iload_n C dX7_isOver_44 rfl rfl 0 rfl ?_
    refine x_bipush C (v := (6 : Int32)) dX7_isOver_45 rfl (by decide) ?_
    refine x_icmp_lt C 54 dX7_isOver_47 rfl (by decide) (fun c3 => ?_) (fun c3 => ?_)
    · have hw := hw.1 c3
      refine x_iconst C (v := (0 : Int32)) dX7_isOver_54 rfl (by decide) ?_
      exact x_zret C dX7_isOver_55 rfl rfl (xw_same _ _) ⟨_, _, rfl, rfl, hw⟩
    · have hw := hw.2 c3
      refine x_iconst C (v := (1 : Int32)) dX7_isOver_50 rfl (by decide) ?_
      refine x_goto C (tgt := 55) dX7_isOver_51 rfl (by decide) ?_
      exact x_zret C dX7_isOver_55 rfl rfl (xw_same _ _) ⟨_, _, rfl, rfl, hw⟩
  by_cases c4 : (e_kind (X_E u a1)) = 2
  · have hw := hw.2.1 c4
    refine x_tableIn C 89 dX7_isOver_14 rfl (by rw [c4]; decide) (by rw [c4]; decide) (by rw [c4]; rfl) (by decide) ?_
    refine x_iconst C (v := (0 : Int32)) dX7_isOver_89 rfl (by decide) ?_
    exact x_zret C dX7_isOver_90 rfl rfl (xw_same _ _) ⟨_, _, rfl, rfl, hw⟩
  by_cases c5 : (e_kind (X_E u a1)) = 3
  · have hw := hw.2.2.1 c5
    refine x_tableIn C 67 dX7_isOver_14 rfl (by rw [c5]; decide) (by rw [c5]; decide) (by rw [c5]; rfl) (by decide) ?_
    refine x_aload_n C dX7_isOver_67 rfl rfl 1 rfl ?_
    refine gX0_time C i_168 dX7_isOver_68 rfl ?_
    refine x_aload_n C dX7_isOver_71 rfl rfl 2 rfl ?_
    refine gE_used C h1 i_136 dX7_isOver_72 rfl ?_
    refine x_isub C dX7_isOver_75 rfl ?_
    refine x_aload_n C dX7_isOver_76 rfl rfl 1 rfl ?_
    refine gX0_age C i_162 dX7_isOver_77 rfl ?_
    refine x_icmp_lt C 87 dX7_isOver_80 rfl (by decide) (fun c6 => ?_) (fun c6 => ?_)
    · have hw := hw.1 c6
      refine x_iconst C (v := (0 : Int32)) dX7_isOver_87 rfl (by decide) ?_
      exact x_zret C dX7_isOver_88 rfl rfl (xw_same _ _) ⟨_, _, rfl, rfl, hw⟩
    · have hw := hw.2 c6
      refine x_iconst C (v := (1 : Int32)) dX7_isOver_83 rfl (by decide) ?_
      refine x_goto C (tgt := 88) dX7_isOver_84 rfl (by decide) ?_
      exact x_zret C dX7_isOver_88 rfl rfl (xw_same _ _) ⟨_, _, rfl, rfl, hw⟩
  by_cases c7 : (e_kind (X_E u a1)) = 4
  · have hw := hw.2.2.2.1 c7
    refine x_tableIn C 56 dX7_isOver_14 rfl (by rw [c7]; decide) (by rw [c7]; decide) (by rw [c7]; rfl) (by decide) ?_
    refine x_iload_n C dX7_isOver_56 rfl rfl 0 rfl ?_
    refine x_iconst C (v := (3 : Int32)) dX7_isOver_57 rfl (by decide) ?_
    refine x_icmp_lt C 65 dX7_isOver_58 rfl (by decide) (fun c8 => ?_) (fun c8 => ?_)
    · have hw := hw.1 c8
      refine x_iconst C (v := (0 : Int32)) dX7_isOver_65 rfl (by decide) ?_
      exact x_zret C dX7_isOver_66 rfl rfl (xw_same _ _) ⟨_, _, rfl, rfl, hw⟩
    · have hw := hw.2 c8
      refine x_iconst C (v := (1 : Int32)) dX7_isOver_61 rfl (by decide) ?_
      refine x_goto C (tgt := 66) dX7_isOver_62 rfl (by decide) ?_
      exact x_zret C dX7_isOver_66 rfl rfl (xw_same _ _) ⟨_, _, rfl, rfl, hw⟩
  have hw := hw.2.2.2.2 ⟨c2, c4, c5, c7⟩
  refine x_tableOut C 89 dX7_isOver_14 rfl (x_out1_4 c2 c4 c5 c7) (by decide) ?_
  refine x_iconst C (v := (0 : Int32)) dX7_isOver_89 rfl (by decide) ?_
  exact x_zret C dX7_isOver_90 rfl rfl (xw_same _ _) ⟨_, _, rfl, rfl, hw⟩
set_option maxRecDepth 20000 in
theorem k_X7_isOver (C : xCx p s m args meth c G K A nL cc own ret) {a1 : Nat} {u : XS} (hj_a1 : a1 < cap) {idx : Nat} {rest : List Value} {Post : Int32 → XS → Prop} (hlink : Cond.methodLink own idx yX7_isOver ∈ gw_tbl) (hR : 0 + 1 ≤ R.frames ∧ 8 + (3 + 11) + 0 ≤ R.locals) (hf : cells ≤ R.cells ∧ slots ≤ R.slots) (hW : (rest.map fun v => v.category).sum ≤ 8) (hw : wp_X7_isOver cap a1 u Post) (hdg : decode cc n = .ok (.invokevirtual idx, 3)) (hp : pc = n) (kk : ∀ (r : Int32) (u' : XS), Post r u' → xV p l e R s m args below meth c G A nL Q cells slots (xw L K cap u' T) (n + 3) lv (.int r :: rest)) : xV p l e R s m args below meth c G A nL Q cells slots (xw L K cap u T) pc lv (.ref (L (15 + 2 * a1)) :: .ref (L 0) :: rest) :=
  x_callV C (As := [.ref (L (15 + 2 * a1))]) (c_X7_isOver hw) ⟨hlink, i_489, i_s18, i_1, i_490⟩ 0 rfl rfl rfl (k := 1) (by decide +kernel) rfl hR hf hW rfl hdg hp (fun v ws' ⟨r, u', hv, hws, hPo⟩ _ => by subst hv; subst hws; exact kk r u' hPo)
def jn_X7_tickEntry_46 (cap : Nat) (Post : XS → Prop) (x1 : Nat) (x2 : Int32) (u : XS) : Prop :=
  x1 < cap ∧ (((¬ ((e_kind (X_E u x1)) = (4 : Int32)) → ((¬ ((e_kind (X_E u x1)) = (2 : Int32)) → Post u) ∧ ((e_kind (X_E u x1)) = (2 : Int32) → ((x2 < (X_reach u) → Post u) ∧ (¬ (x2 < (X_reach u)) → wp_X1_become cap x1 (3 : Int32) (X_time u) u (fun u6 => Post u6)))))) ∧ ((e_kind (X_E u x1)) = (4 : Int32) → wp_X7_request cap (e_number (X_E u x1)) (X_own u) (e_address (X_E u x1)) u (fun u8 => Post u8))))
set_option maxHeartbeats 4000000 in
set_option maxRecDepth 20000 in
theorem t_X7_tickEntry_46 (C : xCx p s m args meth c G K A 3 cX7_tickEntry RX7 none) {u0 : XS} {Post : XS → Prop} (x1 : Nat) (x2 : Int32) (u : XS) (hw : jn_X7_tickEntry_46 cap  Post x1 x2 u) : xV p l e (xRm 4 109 0 0) s m args below meth c G A 3 (xQ G A (xw L K cap u0 T) (fun v ws' => ∃ u' : XS, v = none ∧ ws' = (xw L K cap u' T) ∧ Post u') below args s 0 0) 0 0 (xw L K cap u T) 46 [(0, .ref (L 0)), (1, .ref (L (15 + 2 * x1))), (2, .int x2)] [] := by
  unfold jn_X7_tickEntry_46 at hw
  refine x_aload_n C dX7_tickEntry_46 rfl rfl 1 rfl ?_
  obtain ⟨h1, hw⟩ := hw
  refine gE_kind C h1 i_131 dX7_tickEntry_47 rfl ?_
  refine x_iconst C (v := (4 : Int32)) dX7_tickEntry_50 rfl (by decide) ?_
  refine x_icmp_ne C 73 dX7_tickEntry_51 rfl (by decide) (fun c2 => ?_) (fun c2 => ?_)
  · have hw := hw.1 c2
    refine x_aload_n C dX7_tickEntry_73 rfl rfl 1 rfl ?_
    refine gE_kind C h1 i_131 dX7_tickEntry_74 rfl ?_
    refine x_iconst C (v := (2 : Int32)) dX7_tickEntry_77 rfl (by decide) ?_
    refine x_icmp_ne C 98 dX7_tickEntry_78 rfl (by decide) (fun c3 => ?_) (fun c3 => ?_)
    · have hw := hw.1 c3
      exact x_vret C dX7_tickEntry_98 rfl (xw_same _ _) ⟨_, rfl, rfl, hw⟩
    · have hw := hw.2 c3
      refine x_iload_n C dX7_tickEntry_81 rfl rfl 2 rfl ?_
      refine x_aload_n C dX7_tickEntry_82 rfl rfl 0 rfl ?_
      refine gX0_reach C i_161 dX7_tickEntry_83 rfl ?_
      refine x_icmp_lt C 98 dX7_tickEntry_86 rfl (by decide) (fun c4 => ?_) (fun c4 => ?_)
      · have hw := hw.1 c4
        exact x_vret C dX7_tickEntry_98 rfl (xw_same _ _) ⟨_, rfl, rfl, hw⟩
      · have hw := hw.2 c4
        refine x_aload_n C dX7_tickEntry_89 rfl rfl 1 rfl ?_
        refine x_iconst C (v := (3 : Int32)) dX7_tickEntry_90 rfl (by decide) ?_
        refine x_aload_n C dX7_tickEntry_91 rfl rfl 0 rfl ?_
        refine gX0_time C i_168 dX7_tickEntry_92 rfl ?_
        refine k_X1_become C h1 i_295 ⟨Nat.le_of_ble_eq_true rfl, Nat.le_of_ble_eq_true rfl⟩ ⟨Nat.zero_le _, Nat.zero_le _⟩ (Nat.le_of_ble_eq_true rfl) hw dX7_tickEntry_95 rfl (fun u6 hw => ?_)
        exact x_vret C dX7_tickEntry_98 rfl (xw_same _ _) ⟨_, rfl, rfl, hw⟩
  · have hw := hw.2 c2
    refine x_aload_n C dX7_tickEntry_54 rfl rfl 0 rfl ?_
    refine x_aload_n C dX7_tickEntry_55 rfl rfl 1 rfl ?_
    refine gE_number C h1 i_128 dX7_tickEntry_56 rfl ?_
    refine x_aload_n C dX7_tickEntry_59 rfl rfl 0 rfl ?_
    refine gX0_own C i_170 dX7_tickEntry_60 rfl ?_
    refine x_aload_n C dX7_tickEntry_63 rfl rfl 1 rfl ?_
    refine gE_address C h1 i_125 dX7_tickEntry_64 rfl ?_
    refine k_X7_request C i_277 ⟨Nat.le_of_ble_eq_true rfl, Nat.le_of_ble_eq_true rfl⟩ ⟨Nat.zero_le _, Nat.zero_le _⟩ (Nat.le_of_ble_eq_true rfl) hw dX7_tickEntry_67 rfl (fun u8 hw => ?_)
    refine x_goto C (tgt := 98) dX7_tickEntry_70 rfl (by decide) ?_
    exact x_vret C dX7_tickEntry_98 rfl (xw_same _ _) ⟨_, rfl, rfl, hw⟩
def wp_X7_tickEntry (cap : Nat) (a1 : Nat) (u : XS) (Post : XS → Prop) : Prop :=
  a1 < cap ∧ (((¬ ((e_kind (X_E u a1)) = (1 : Int32)) → jn_X7_tickEntry_46 cap Post a1 ((X_time u) - (e_since (X_E u a1))) u) ∧ ((e_kind (X_E u a1)) = (1 : Int32) → ((((X_time u) - (e_since (X_E u a1))) = (2 : Int32) → wp_X7_request cap (281474976710655 : Int64) (X_own u) (e_address (X_E u a1)) u (fun u5 => Post u5)) ∧ (¬ (((X_time u) - (e_since (X_E u a1))) = (2 : Int32)) → ((¬ (((X_time u) - (e_since (X_E u a1))) = (4 : Int32)) → jn_X7_tickEntry_46 cap Post a1 ((X_time u) - (e_since (X_E u a1))) u) ∧ (((X_time u) - (e_since (X_E u a1))) = (4 : Int32) → wp_X7_request cap (281474976710655 : Int64) (X_own u) (e_address (X_E u a1)) u (fun u8 => Post u8))))))))
set_option maxHeartbeats 4000000 in
set_option maxRecDepth 20000 in
theorem c_X7_tickEntry {a1 : Nat} {u : XS} {Post : XS → Prop} (hw : wp_X7_tickEntry cap a1 u Post) : xMet l yX7_tickEntry cX7_tickEntry 3 none 4 109 0 0 G K [.ref (L 0), .ref (L (15 + 2 * a1))] (xw L K cap u T) (fun v ws' => ∃ u' : XS, v = none ∧ ws' = (xw L K cap u' T) ∧ Post u') := by
  refine xMet.intro (lv := [(0, .ref (L 0)), (1, .ref (L (15 + 2 * a1)))]) (by decide) rfl (Nat.le_of_ble_eq_true rfl) rfl (fun p e s m args below meth c A C => ?_)
  unfold wp_X7_tickEntry at hw
  refine x_aload_n C dX7_tickEntry_0 rfl rfl 0 rfl ?_
  refine gX0_time C i_168 dX7_tickEntry_1 rfl ?_
  refine x_aload_n C dX7_tickEntry_4 rfl rfl 1 rfl ?_
  obtain ⟨h1, hw⟩ := hw
  refine gE_since C h1 i_133 dX7_tickEntry_5 rfl ?_
  refine x_isub C dX7_tickEntry_8 rfl ?_
  refine x_istore_n C (lv' := [(2, .int ((X_time u) - (e_since (X_E u a1)))), (0, .ref (L 0)), (1, .ref (L (15 + 2 * a1)))]) dX7_tickEntry_9 rfl rfl (by decide) rfl ?_
  refine x_aload_n C dX7_tickEntry_10 rfl rfl 2 rfl ?_
  refine gE_kind C h1 i_131 dX7_tickEntry_11 rfl ?_
  refine x_iconst C (v := (1 : Int32)) dX7_tickEntry_14 rfl (by decide) ?_
  refine x_icmp_ne C 46 dX7_tickEntry_15 rfl (by decide) (fun c2 => ?_) (fun c2 => ?_)
  · have hw := hw.1 c2
    refine x_lv [1, 2, 0] rfl ?_
    exact t_X7_tickEntry_46 C a1 ((X_time u) - (e_since (X_E u a1))) u hw
  · have hw := hw.2 c2
    refine x_iload_n C dX7_tickEntry_18 rfl rfl 0 rfl ?_
    refine x_iconst C (v := (2 : Int32)) dX7_tickEntry_19 rfl (by decide) ?_
    refine x_icmp_eq C 28 dX7_tickEntry_20 rfl (by decide) (fun c3 => ?_) (fun c3 => ?_)
    · have hw := hw.1 c3
      refine x_aload_n C dX7_tickEntry_28 rfl rfl 1 rfl ?_
      refine x_ldc2 C dX7_tickEntry_29 rfl i_233 ?_
      refine x_aload_n C dX7_tickEntry_32 rfl rfl 1 rfl ?_
      refine gX0_own C i_170 dX7_tickEntry_33 rfl ?_
      refine x_aload_n C dX7_tickEntry_36 rfl rfl 2 rfl ?_
      refine gE_address C h1 i_125 dX7_tickEntry_37 rfl ?_
      refine k_X7_request C i_277 ⟨Nat.le_of_ble_eq_true rfl, Nat.le_of_ble_eq_true rfl⟩ ⟨Nat.zero_le _, Nat.zero_le _⟩ (Nat.le_of_ble_eq_true rfl) hw dX7_tickEntry_40 rfl (fun u5 hw => ?_)
      refine x_goto C (tgt := 98) dX7_tickEntry_43 rfl (by decide) ?_
      exact x_vret C dX7_tickEntry_98 rfl (xw_same _ _) ⟨_, rfl, rfl, hw⟩
    · have hw := hw.2 c3
      refine x_iload_n C dX7_tickEntry_23 rfl rfl 0 rfl ?_
      refine x_iconst C (v := (4 : Int32)) dX7_tickEntry_24 rfl (by decide) ?_
      refine x_icmp_ne C 46 dX7_tickEntry_25 rfl (by decide) (fun c6 => ?_) (fun c6 => ?_)
      · have hw := hw.1 c6
        refine x_lv [1, 2, 0] rfl ?_
        exact t_X7_tickEntry_46 C a1 ((X_time u) - (e_since (X_E u a1))) u hw
      · have hw := hw.2 c6
        refine x_aload_n C dX7_tickEntry_28 rfl rfl 1 rfl ?_
        refine x_ldc2 C dX7_tickEntry_29 rfl i_233 ?_
        refine x_aload_n C dX7_tickEntry_32 rfl rfl 1 rfl ?_
        refine gX0_own C i_170 dX7_tickEntry_33 rfl ?_
        refine x_aload_n C dX7_tickEntry_36 rfl rfl 2 rfl ?_
        refine gE_address C h1 i_125 dX7_tickEntry_37 rfl ?_
        refine k_X7_request C i_277 ⟨Nat.le_of_ble_eq_true rfl, Nat.le_of_ble_eq_true rfl⟩ ⟨Nat.zero_le _, Nat.zero_le _⟩ (Nat.le_of_ble_eq_true rfl) hw dX7_tickEntry_40 rfl (fun u8 hw => ?_)
        refine x_goto C (tgt := 98) dX7_tickEntry_43 rfl (by decide) ?_
        exact x_vret C dX7_tickEntry_98 rfl (xw_same _ _) ⟨_, rfl, rfl, hw⟩
set_option maxRecDepth 20000 in
theorem k_X7_tickEntry (C : xCx p s m args meth c G K A nL cc own ret) {a1 : Nat} {u : XS} (hj_a1 : a1 < cap) {idx : Nat} {rest : List Value} {Post : XS → Prop} (hlink : Cond.methodLink own idx yX7_tickEntry ∈ gw_tbl) (hR : 4 + 1 ≤ R.frames ∧ 8 + (3 + 11) + 109 ≤ R.locals) (hf : cells ≤ R.cells ∧ slots ≤ R.slots) (hW : (rest.map fun v => v.category).sum ≤ 8) (hw : wp_X7_tickEntry cap a1 u Post) (hdg : decode cc n = .ok (.invokevirtual idx, 3)) (hp : pc = n) (kk : ∀ u' : XS, Post u' → xV p l e R s m args below meth c G A nL Q cells slots (xw L K cap u' T) (n + 3) lv rest) : xV p l e R s m args below meth c G A nL Q cells slots (xw L K cap u T) pc lv (.ref (L (15 + 2 * a1)) :: .ref (L 0) :: rest) :=
  x_callV C (As := [.ref (L (15 + 2 * a1))]) (c_X7_tickEntry hw) ⟨hlink, i_494, i_s19, i_1, i_495⟩ 0 rfl rfl rfl (k := 1) (by decide +kernel) rfl hR hf hW rfl hdg hp (fun v ws' ⟨u', hv, hws, hPo⟩ _ => by subst hv; subst hws; exact kk u' hPo)
def lb_X7_tickEntries_10 (cap : Nat) (Post : XS → Prop) (Ks : Int32 → Int32 → XS → Prop) (x1 : Int32) (x2 : Int32) (u : XS) : Prop :=
  ((x2 ≤ 0 → Post u) ∧ (¬ (x2 ≤ 0) → vp_in x1 cap ∧ ((X_row u (Int32.toNatClampNeg x1)) < cap ∧ (wp_X7_isOver cap (X_row u (Int32.toNatClampNeg x1)) u (fun r4 u5 => ((r4 = 0 → wp_X7_tickEntry cap (X_row u (Int32.toNatClampNeg x1)) u5 (fun u8 => Ks (x1 + 1) (x2 + (-1)) u8)) ∧ (¬ (r4 = 0) → wp_X7_loseWaiting cap (X_row u (Int32.toNatClampNeg x1)) u5 (fun u10 => wp_X0_remove cap x1 u10 (fun u12 => Ks x1 (x2 + (-1)) u12)))))))))
def lp_X7_tickEntries_10 (cap : Nat) (Post : XS → Prop) : Nat → Int32 → Int32 → XS → Prop
  | 0 => fun _ _ _ => False
  | f + 1 => fun x1 x2 u => lb_X7_tickEntries_10 cap Post (lp_X7_tickEntries_10 cap Post f) x1 x2 u
set_option maxHeartbeats 4000000 in
set_option maxRecDepth 20000 in
theorem t_X7_tickEntries_10 (C : xCx p s m args meth c G K A 4 cX7_tickEntries RX7 none) {u0 : XS} {Post : XS → Prop} : ∀ (f : Nat) (x1 : Int32) (x2 : Int32) (u : XS) , lp_X7_tickEntries_10 cap  Post f x1 x2 u → xV p l e (xRm 5 131 0 0) s m args below meth c G A 4 (xQ G A (xw L K cap u0 T) (fun v ws' => ∃ u' : XS, v = none ∧ ws' = (xw L K cap u' T) ∧ Post u') below args s 0 0) 0 0 (xw L K cap u T) 10 [(0, .ref (L 0)), (1, .int x1), (2, .int x2)] [] := by
  intro f
  induction f with
  | zero => intro x1 x2 u hw; exact hw.elim
  | succ f ih =>
    intro x1 x2 u hw
    have hw : lb_X7_tickEntries_10 cap  Post (lp_X7_tickEntries_10 cap  Post f) x1 x2 u := hw
    unfold lb_X7_tickEntries_10 at hw
    refine x_iload_n C dX7_tickEntries_10 rfl rfl 2 rfl ?_
    refine x_if_le C 62 dX7_tickEntries_11 rfl (by decide) (fun c1 => ?_) (fun c1 => ?_)
    · have hw := hw.1 c1
      exact x_vret C dX7_tickEntries_62 rfl (xw_same _ _) ⟨_, rfl, rfl, hw⟩
    · have hw := hw.2 c1
      refine x_aload_n C dX7_tickEntries_14 rfl rfl 0 rfl ?_
      refine gX0_cache C i_163 dX7_tickEntries_15 rfl ?_
      refine gX1_row C i_153 dX7_tickEntries_18 rfl ?_
      refine x_iload_n C dX7_tickEntries_21 rfl rfl 1 rfl ?_
      obtain ⟨h2, hw⟩ := hw
      refine gX2_at C h2 dX7_tickEntries_22 rfl ?_
      refine x_astore_n C (lv' := [(3, .ref (L (15 + 2 * (X_row u (Int32.toNatClampNeg x1))))), (0, .ref (L 0)), (1, .int x1), (2, .int x2)]) dX7_tickEntries_23 rfl rfl (by decide) rfl ?_
      refine x_aload_n C dX7_tickEntries_24 rfl rfl 1 rfl ?_
      refine x_aload_n C dX7_tickEntries_25 rfl rfl 0 rfl ?_
      obtain ⟨h3, hw⟩ := hw
      refine k_X7_isOver C h3 i_487 ⟨Nat.le_of_ble_eq_true rfl, Nat.le_of_ble_eq_true rfl⟩ ⟨Nat.zero_le _, Nat.zero_le _⟩ (Nat.le_of_ble_eq_true rfl) hw dX7_tickEntries_26 rfl (fun r4 u5 hw => ?_)
      refine x_if_eq C 48 dX7_tickEntries_29 rfl (by decide) (fun c6 => ?_) (fun c6 => ?_)
      · have hw := hw.1 c6
        refine x_aload_n C dX7_tickEntries_48 rfl rfl 1 rfl ?_
        refine x_aload_n C dX7_tickEntries_49 rfl rfl 0 rfl ?_
        refine k_X7_tickEntry C h3 i_492 ⟨Nat.le_of_ble_eq_true rfl, Nat.le_of_ble_eq_true rfl⟩ ⟨Nat.zero_le _, Nat.zero_le _⟩ (Nat.le_of_ble_eq_true rfl) hw dX7_tickEntries_50 rfl (fun u8 hw => ?_)
        refine x_iinc C (k := 2) (v := x1 + 1) (lv' := [(1, .int (x1 + 1)), (3, .ref (L (15 + 2 * (X_row u (Int32.toNatClampNeg x1))))), (0, .ref (L 0)), (2, .int x2)]) dX7_tickEntries_53 rfl rfl rfl (by decide) rfl ?_
        refine x_iinc C (k := 3) (v := x2 + (-1)) (lv' := [(2, .int (x2 + (-1))), (1, .int (x1 + 1)), (3, .ref (L (15 + 2 * (X_row u (Int32.toNatClampNeg x1))))), (0, .ref (L 0))]) dX7_tickEntries_56 rfl rfl rfl (by decide) rfl ?_
        refine x_goto C (tgt := 10) dX7_tickEntries_59 rfl (by decide) ?_
        refine x_lv [3, 1, 0] rfl ?_
        exact ih (x1 + 1) (x2 + (-1)) u8 hw
      · have hw := hw.2 c6
        refine x_aload_n C dX7_tickEntries_32 rfl rfl 1 rfl ?_
        refine x_aload_n C dX7_tickEntries_33 rfl rfl 0 rfl ?_
        refine k_X7_loseWaiting C h3 i_258 ⟨Nat.le_of_ble_eq_true rfl, Nat.le_of_ble_eq_true rfl⟩ ⟨Nat.zero_le _, Nat.zero_le _⟩ (Nat.le_of_ble_eq_true rfl) hw dX7_tickEntries_34 rfl (fun u10 hw => ?_)
        refine x_aload_n C dX7_tickEntries_37 rfl rfl 1 rfl ?_
        refine gX0_cache C i_163 dX7_tickEntries_38 rfl ?_
        refine x_iload_n C dX7_tickEntries_41 rfl rfl 2 rfl ?_
        refine k_X0_remove C i_491 ⟨Nat.le_of_ble_eq_true rfl, Nat.le_of_ble_eq_true rfl⟩ ⟨Nat.zero_le _, Nat.zero_le _⟩ (Nat.le_of_ble_eq_true rfl) hw dX7_tickEntries_42 rfl (fun u12 hw => ?_)
        refine x_goto C (tgt := 56) dX7_tickEntries_45 rfl (by decide) ?_
        refine x_iinc C (k := 3) (v := x2 + (-1)) (lv' := [(2, .int (x2 + (-1))), (3, .ref (L (15 + 2 * (X_row u (Int32.toNatClampNeg x1))))), (0, .ref (L 0)), (1, .int x1)]) dX7_tickEntries_56 rfl rfl rfl (by decide) rfl ?_
        refine x_goto C (tgt := 10) dX7_tickEntries_59 rfl (by decide) ?_
        refine x_lv [2, 3, 0] rfl ?_
        exact ih x1 (x2 + (-1)) u12 hw
def wp_X7_tickEntries (cap : Nat) (u : XS) (Post : XS → Prop) : Prop :=
  ∃ f9 : Nat, lp_X7_tickEntries_10 cap Post f9 (0 : Int32) (X_size u) u
set_option maxHeartbeats 4000000 in
set_option maxRecDepth 20000 in
theorem c_X7_tickEntries {u : XS} {Post : XS → Prop} (hw : wp_X7_tickEntries cap  u Post) : xMet l yX7_tickEntries cX7_tickEntries 4 none 5 131 0 0 G K [.ref (L 0)] (xw L K cap u T) (fun v ws' => ∃ u' : XS, v = none ∧ ws' = (xw L K cap u' T) ∧ Post u') := by
  refine xMet.intro (lv := [(0, .ref (L 0))]) (by decide) rfl (Nat.le_of_ble_eq_true rfl) rfl (fun p e s m args below meth c A C => ?_)
  unfold wp_X7_tickEntries at hw
  refine x_iconst C (v := (0 : Int32)) dX7_tickEntries_0 rfl (by decide) ?_
  refine x_istore_n C (lv' := [(1, .int (0 : Int32)), (0, .ref (L 0))]) dX7_tickEntries_1 rfl rfl (by decide) rfl ?_
  refine x_aload_n C dX7_tickEntries_2 rfl rfl 1 rfl ?_
  refine gX0_cache C i_163 dX7_tickEntries_3 rfl ?_
  refine gX1_size C i_155 dX7_tickEntries_6 rfl ?_
  refine x_istore_n C (lv' := [(2, .int (X_size u)), (1, .int (0 : Int32)), (0, .ref (L 0))]) dX7_tickEntries_9 rfl rfl (by decide) rfl ?_
  refine x_lv [2, 1, 0] rfl ?_
  obtain ⟨f9, hw⟩ := hw
  exact t_X7_tickEntries_10 C f9 (0 : Int32) (X_size u) u hw
set_option maxRecDepth 20000 in
theorem k_X7_tickEntries (C : xCx p s m args meth c G K A nL cc own ret) {u : XS} {idx : Nat} {rest : List Value} {Post : XS → Prop} (hlink : Cond.methodLink own idx yX7_tickEntries ∈ gw_tbl) (hR : 5 + 1 ≤ R.frames ∧ 8 + (4 + 11) + 131 ≤ R.locals) (hf : cells ≤ R.cells ∧ slots ≤ R.slots) (hW : (rest.map fun v => v.category).sum ≤ 8) (hw : wp_X7_tickEntries cap  u Post) (hdg : decode cc n = .ok (.invokevirtual idx, 3)) (hp : pc = n) (kk : ∀ u' : XS, Post u' → xV p l e R s m args below meth c G A nL Q cells slots (xw L K cap u' T) (n + 3) lv rest) : xV p l e R s m args below meth c G A nL Q cells slots (xw L K cap u T) pc lv (.ref (L 0) :: rest) :=
  x_callV C (As := []) (c_X7_tickEntries hw) ⟨hlink, i_485, i_s17, i_1, i_486⟩ 0 rfl rfl rfl (k := 0) (by decide +kernel) rfl hR hf hW rfl hdg hp (fun v ws' ⟨u', hv, hws, hPo⟩ _ => by subst hv; subst hws; exact kk u' hPo)
def wp_X7_pack (cap : Nat) (a1 : Int32) (a2 : Int64) (a4 : Int32) (a5 : Int64) (a7 : Int32) (u : XS) (Post : XS → Prop) : Prop :=
  wp_X6_writePacket_t cap (0 : Int32) a1 a2 a4 a5 a7 u (fun u2 => (∀ (u3 : XS), u3 = Xs_tl u2 (28 : Int32) → Post u3))
set_option maxHeartbeats 4000000 in
set_option maxRecDepth 20000 in
theorem c_X7_pack {a1 : Int32} {a2 : Int64} {a4 : Int32} {a5 : Int64} {a7 : Int32} {u : XS} {Post : XS → Prop} (hw : wp_X7_pack cap a1 a2 a4 a5 a7 u Post) : xMet l yX7_pack cX7_pack 8 none 2 55 0 0 G K [.ref (L 0), .int a1, .long a2, .int a4, .long a5, .int a7] (xw L K cap u T) (fun v ws' => ∃ u' : XS, v = none ∧ ws' = (xw L K cap u' T) ∧ Post u') := by
  refine xMet.intro (lv := [(0, .ref (L 0)), (1, .int a1), (2, .long a2), (4, .int a4), (5, .long a5), (7, .int a7)]) (by decide) rfl (Nat.le_of_ble_eq_true rfl) rfl (fun p e s m args below meth c A C => ?_)
  unfold wp_X7_pack at hw
  refine x_aload_n C dX7_pack_0 rfl rfl 0 rfl ?_
  refine gX0_tape C i_164 dX7_pack_1 rfl ?_
  refine gX3_bytes C i_33 dX7_pack_4 rfl ?_
  refine x_iconst C (v := (0 : Int32)) dX7_pack_7 rfl (by decide) ?_
  refine x_iload_n C dX7_pack_8 rfl rfl 1 rfl ?_
  refine x_lload_n C dX7_pack_9 rfl rfl 2 rfl ?_
  refine x_iload C dX7_pack_10 rfl 3 rfl ?_
  refine x_lload C dX7_pack_12 rfl 4 rfl ?_
  refine x_iload C dX7_pack_14 rfl 5 rfl ?_
  refine k_X6_writePacket_t C i_202 ⟨Nat.le_of_ble_eq_true rfl, Nat.le_of_ble_eq_true rfl⟩ ⟨Nat.zero_le _, Nat.zero_le _⟩ (Nat.le_of_ble_eq_true rfl) hw dX7_pack_16 rfl (fun u2 hw => ?_)
  refine x_aload_n C dX7_pack_19 rfl rfl 0 rfl ?_
  refine gX0_tape C i_164 dX7_pack_20 rfl ?_
  refine x_bipush C (v := (28 : Int32)) dX7_pack_23 rfl (by decide) ?_
  refine pX3_length C i_35 dX7_pack_25 rfl (fun u3 e4 => ?_)
  have hw := hw u3 e4
  exact x_vret C dX7_pack_28 rfl (xw_same _ _) ⟨_, rfl, rfl, hw⟩
set_option maxRecDepth 20000 in
theorem k_X7_pack (C : xCx p s m args meth c G K A nL cc own ret) {a1 : Int32} {a2 : Int64} {a4 : Int32} {a5 : Int64} {a7 : Int32} {u : XS} {idx : Nat} {rest : List Value} {Post : XS → Prop} (hlink : Cond.methodLink own idx yX7_pack ∈ gw_tbl) (hR : 2 + 1 ≤ R.frames ∧ 8 + (8 + 11) + 55 ≤ R.locals) (hf : cells ≤ R.cells ∧ slots ≤ R.slots) (hW : (rest.map fun v => v.category).sum ≤ 8) (hw : wp_X7_pack cap a1 a2 a4 a5 a7 u Post) (hdg : decode cc n = .ok (.invokevirtual idx, 3)) (hp : pc = n) (kk : ∀ u' : XS, Post u' → xV p l e R s m args below meth c G A nL Q cells slots (xw L K cap u' T) (n + 3) lv rest) : xV p l e R s m args below meth c G A nL Q cells slots (xw L K cap u T) pc lv (.int a7 :: .long a5 :: .int a4 :: .long a2 :: .int a1 :: .ref (L 0) :: rest) :=
  x_callV C (As := [.int a1, .long a2, .int a4, .long a5, .int a7]) (c_X7_pack hw) ⟨hlink, i_199, i_200, i_1, i_201⟩ 0 rfl rfl rfl (k := 5) (by decide +kernel) rfl hR hf hW rfl hdg hp (fun v ws' ⟨u', hv, hws, hPo⟩ _ => by subst hv; subst hws; exact kk u' hPo)
def wp_X7_hear (cap : Nat) (u : XS) (Post : Int32 → XS → Prop) : Prop :=
  wp_X7_isBad cap u (fun r1 u2 => ((r1 = 0 → wp_X7_takeIn cap u2 (fun r4 u5 => (∀ (u6 : XS), u6 = Xs_tl u5 (0 : Int32) → Post r4 u6))) ∧ (¬ (r1 = 0) → (∀ (u8 : XS), u8 = Xs_tl u2 (0 : Int32) → Post (1 : Int32) u8))))
set_option maxHeartbeats 4000000 in
set_option maxRecDepth 20000 in
theorem c_X7_hear {u : XS} {Post : Int32 → XS → Prop} (hw : wp_X7_hear cap  u Post) : xMet l yX7_hear cX7_hear 2 (some .int) 7 171 0 0 G K [.ref (L 0)] (xw L K cap u T) (fun v ws' => ∃ (r : Int32) (u' : XS), v = some (.int r) ∧ ws' = (xw L K cap u' T) ∧ Post r u') := by
  refine xMet.intro (lv := [(0, .ref (L 0))]) (by decide) rfl (Nat.le_of_ble_eq_true rfl) rfl (fun p e s m args below meth c A C => ?_)
  unfold wp_X7_hear at hw
  refine x_aload_n C dX7_hear_0 rfl rfl 0 rfl ?_
  refine k_X7_isBad C i_213 ⟨Nat.le_of_ble_eq_true rfl, Nat.le_of_ble_eq_true rfl⟩ ⟨Nat.zero_le _, Nat.zero_le _⟩ (Nat.le_of_ble_eq_true rfl) hw dX7_hear_1 rfl (fun r1 u2 hw => ?_)
  refine x_if_eq C 11 dX7_hear_4 rfl (by decide) (fun c3 => ?_) (fun c3 => ?_)
  · have hw := hw.1 c3
    refine x_aload_n C dX7_hear_11 rfl rfl 0 rfl ?_
    refine k_X7_takeIn C i_234 ⟨Nat.le_of_ble_eq_true rfl, Nat.le_of_ble_eq_true rfl⟩ ⟨Nat.zero_le _, Nat.zero_le _⟩ (Nat.le_of_ble_eq_true rfl) hw dX7_hear_12 rfl (fun r4 u5 hw => ?_)
    refine x_istore_n C (lv' := [(1, .int r4), (0, .ref (L 0))]) dX7_hear_15 rfl rfl (by decide) rfl ?_
    refine x_aload_n C dX7_hear_16 rfl rfl 1 rfl ?_
    refine gX0_tape C i_164 dX7_hear_17 rfl ?_
    refine x_iconst C (v := (0 : Int32)) dX7_hear_20 rfl (by decide) ?_
    refine pX3_length C i_35 dX7_hear_21 rfl (fun u6 e7 => ?_)
    have hw := hw u6 e7
    refine x_iload_n C dX7_hear_24 rfl rfl 0 rfl ?_
    exact x_iret C dX7_hear_25 rfl (xw_same _ _) ⟨_, _, rfl, rfl, hw⟩
  · have hw := hw.2 c3
    refine x_iconst C (v := (1 : Int32)) dX7_hear_7 rfl (by decide) ?_
    refine x_goto C (tgt := 15) dX7_hear_8 rfl (by decide) ?_
    refine x_istore_n C (lv' := [(1, .int (1 : Int32)), (0, .ref (L 0))]) dX7_hear_15 rfl rfl (by decide) rfl ?_
    refine x_aload_n C dX7_hear_16 rfl rfl 1 rfl ?_
    refine gX0_tape C i_164 dX7_hear_17 rfl ?_
    refine x_iconst C (v := (0 : Int32)) dX7_hear_20 rfl (by decide) ?_
    refine pX3_length C i_35 dX7_hear_21 rfl (fun u8 e9 => ?_)
    have hw := hw u8 e9
    refine x_iload_n C dX7_hear_24 rfl rfl 0 rfl ?_
    exact x_iret C dX7_hear_25 rfl (xw_same _ _) ⟨_, _, rfl, rfl, hw⟩
set_option maxRecDepth 20000 in
theorem k_X7_hear (C : xCx p s m args meth c G K A nL cc own ret) {u : XS} {idx : Nat} {rest : List Value} {Post : Int32 → XS → Prop} (hlink : Cond.methodLink own idx yX7_hear ∈ gw_tbl) (hR : 7 + 1 ≤ R.frames ∧ 8 + (2 + 11) + 171 ≤ R.locals) (hf : cells ≤ R.cells ∧ slots ≤ R.slots) (hW : (rest.map fun v => v.category).sum ≤ 8) (hw : wp_X7_hear cap  u Post) (hdg : decode cc n = .ok (.invokevirtual idx, 3)) (hp : pc = n) (kk : ∀ (r : Int32) (u' : XS), Post r u' → xV p l e R s m args below meth c G A nL Q cells slots (xw L K cap u' T) (n + 3) lv (.int r :: rest)) : xV p l e R s m args below meth c G A nL Q cells slots (xw L K cap u T) pc lv (.ref (L 0) :: rest) :=
  x_callV C (As := []) (c_X7_hear hw) ⟨hlink, i_210, i_211, i_1, i_212⟩ 0 rfl rfl rfl (k := 0) (by decide +kernel) rfl hR hf hW rfl hdg hp (fun v ws' ⟨r, u', hv, hws, hPo⟩ _ => by subst hv; subst hws; exact kk r u' hPo)
def wp_X7_release (cap : Nat) (u : XS) (Post : Int32 → XS → Prop) : Prop :=
  (((X_phase u) = 0 → wp_X7_giveUp cap u (fun u3 => Post (0 : Int32) u3)) ∧ (¬ ((X_phase u) = 0) → wp_X7_giveUp cap u (fun u5 => Post (1 : Int32) u5)))
set_option maxHeartbeats 4000000 in
set_option maxRecDepth 20000 in
theorem c_X7_release {u : XS} {Post : Int32 → XS → Prop} (hw : wp_X7_release cap  u Post) : xMet l yX7_release cX7_release 2 (some .boolean) 5 107 0 0 G K [.ref (L 0)] (xw L K cap u T) (fun v ws' => ∃ (r : Int32) (u' : XS), v = some (.int r) ∧ ws' = (xw L K cap u' T) ∧ Post r u') := by
  refine xMet.intro (lv := [(0, .ref (L 0))]) (by decide) rfl (Nat.le_of_ble_eq_true rfl) rfl (fun p e s m args below meth c A C => ?_)
  unfold wp_X7_release at hw
  refine x_aload_n C dX7_release_0 rfl rfl 0 rfl ?_
  refine gX0_phase C i_169 dX7_release_1 rfl ?_
  refine x_if_eq C 11 dX7_release_4 rfl (by decide) (fun c1 => ?_) (fun c1 => ?_)
  · have hw := hw.1 c1
    refine x_iconst C (v := (0 : Int32)) dX7_release_11 rfl (by decide) ?_
    refine x_istore_n C (lv' := [(1, .int (0 : Int32)), (0, .ref (L 0))]) dX7_release_12 rfl rfl (by decide) rfl ?_
    refine x_aload_n C dX7_release_13 rfl rfl 1 rfl ?_
    refine k_X7_giveUp C i_254 ⟨Nat.le_of_ble_eq_true rfl, Nat.le_of_ble_eq_true rfl⟩ ⟨Nat.zero_le _, Nat.zero_le _⟩ (Nat.le_of_ble_eq_true rfl) hw dX7_release_14 rfl (fun u3 hw => ?_)
    refine x_iload_n C dX7_release_17 rfl rfl 0 rfl ?_
    exact x_zret C dX7_release_18 rfl rfl (xw_same _ _) ⟨_, _, rfl, rfl, hw⟩
  · have hw := hw.2 c1
    refine x_iconst C (v := (1 : Int32)) dX7_release_7 rfl (by decide) ?_
    refine x_goto C (tgt := 12) dX7_release_8 rfl (by decide) ?_
    refine x_istore_n C (lv' := [(1, .int (1 : Int32)), (0, .ref (L 0))]) dX7_release_12 rfl rfl (by decide) rfl ?_
    refine x_aload_n C dX7_release_13 rfl rfl 1 rfl ?_
    refine k_X7_giveUp C i_254 ⟨Nat.le_of_ble_eq_true rfl, Nat.le_of_ble_eq_true rfl⟩ ⟨Nat.zero_le _, Nat.zero_le _⟩ (Nat.le_of_ble_eq_true rfl) hw dX7_release_14 rfl (fun u5 hw => ?_)
    refine x_iload_n C dX7_release_17 rfl rfl 0 rfl ?_
    exact x_zret C dX7_release_18 rfl rfl (xw_same _ _) ⟨_, _, rfl, rfl, hw⟩
set_option maxRecDepth 20000 in
theorem k_X7_release (C : xCx p s m args meth c G K A nL cc own ret) {u : XS} {idx : Nat} {rest : List Value} {Post : Int32 → XS → Prop} (hlink : Cond.methodLink own idx yX7_release ∈ gw_tbl) (hR : 5 + 1 ≤ R.frames ∧ 8 + (2 + 11) + 107 ≤ R.locals) (hf : cells ≤ R.cells ∧ slots ≤ R.slots) (hW : (rest.map fun v => v.category).sum ≤ 8) (hw : wp_X7_release cap  u Post) (hdg : decode cc n = .ok (.invokevirtual idx, 3)) (hp : pc = n) (kk : ∀ (r : Int32) (u' : XS), Post r u' → xV p l e R s m args below meth c G A nL Q cells slots (xw L K cap u' T) (n + 3) lv (.int r :: rest)) : xV p l e R s m args below meth c G A nL Q cells slots (xw L K cap u T) pc lv (.ref (L 0) :: rest) :=
  x_callV C (As := []) (c_X7_release hw) ⟨hlink, i_325, i_326, i_1, i_327⟩ 0 rfl rfl rfl (k := 0) (by decide +kernel) rfl hR hf hW rfl hdg hp (fun v ws' ⟨r, u', hv, hws, hPo⟩ _ => by subst hv; subst hws; exact kk r u' hPo)
def wp_X7_knows (cap : Nat) (a1 : Int32) (u : XS) (Post : Int32 → XS → Prop) : Prop :=
  wp_X0_indexOf cap a1 u (fun r1 u2 => ((r1 < 0 → Post (0 : Int32) u2) ∧ (¬ (r1 < 0) → vp_in r1 cap ∧ ((X_row u2 (Int32.toNatClampNeg r1)) < cap ∧ ((((e_kind (X_E u2 (X_row u2 (Int32.toNatClampNeg r1)))) = (1 : Int32) → Post (0 : Int32) u2) ∧ (¬ ((e_kind (X_E u2 (X_row u2 (Int32.toNatClampNeg r1)))) = (1 : Int32)) → Post (1 : Int32) u2)))))))
set_option maxHeartbeats 4000000 in
set_option maxRecDepth 20000 in
theorem c_X7_knows {a1 : Int32} {u : XS} {Post : Int32 → XS → Prop} (hw : wp_X7_knows cap a1 u Post) : xMet l yX7_knows cX7_knows 3 (some .boolean) 1 22 0 0 G K [.ref (L 0), .int a1] (xw L K cap u T) (fun v ws' => ∃ (r : Int32) (u' : XS), v = some (.int r) ∧ ws' = (xw L K cap u' T) ∧ Post r u') := by
  refine xMet.intro (lv := [(0, .ref (L 0)), (1, .int a1)]) (by decide) rfl (Nat.le_of_ble_eq_true rfl) rfl (fun p e s m args below meth c A C => ?_)
  unfold wp_X7_knows at hw
  refine x_aload_n C dX7_knows_0 rfl rfl 0 rfl ?_
  refine gX0_cache C i_163 dX7_knows_1 rfl ?_
  refine x_iload_n C dX7_knows_4 rfl rfl 1 rfl ?_
  refine k_X0_indexOf C i_287 ⟨Nat.le_of_ble_eq_true rfl, Nat.le_of_ble_eq_true rfl⟩ ⟨Nat.zero_le _, Nat.zero_le _⟩ (Nat.le_of_ble_eq_true rfl) hw dX7_knows_5 rfl (fun r1 u2 hw => ?_)
  refine x_istore_n C (lv' := [(2, .int r1), (0, .ref (L 0)), (1, .int a1)]) dX7_knows_8 rfl rfl (by decide) rfl ?_
  refine x_iload_n C dX7_knows_9 rfl rfl 0 rfl ?_
  refine x_if_lt C 33 dX7_knows_10 rfl (by decide) (fun c3 => ?_) (fun c3 => ?_)
  · have hw := hw.1 c3
    refine x_iconst C (v := (0 : Int32)) dX7_knows_33 rfl (by decide) ?_
    exact x_zret C dX7_knows_34 rfl rfl (xw_same _ _) ⟨_, _, rfl, rfl, hw⟩
  · have hw := hw.2 c3
    refine x_aload_n C dX7_knows_13 rfl rfl 1 rfl ?_
    refine gX0_cache C i_163 dX7_knows_14 rfl ?_
    refine gX1_row C i_153 dX7_knows_17 rfl ?_
    refine x_iload_n C dX7_knows_20 rfl rfl 0 rfl ?_
    obtain ⟨h4, hw⟩ := hw
    refine gX2_at C h4 dX7_knows_21 rfl ?_
    obtain ⟨h5, hw⟩ := hw
    refine gE_kind C h5 i_131 dX7_knows_22 rfl ?_
    refine x_iconst C (v := (1 : Int32)) dX7_knows_25 rfl (by decide) ?_
    refine x_icmp_eq C 33 dX7_knows_26 rfl (by decide) (fun c6 => ?_) (fun c6 => ?_)
    · have hw := hw.1 c6
      refine x_iconst C (v := (0 : Int32)) dX7_knows_33 rfl (by decide) ?_
      exact x_zret C dX7_knows_34 rfl rfl (xw_same _ _) ⟨_, _, rfl, rfl, hw⟩
    · have hw := hw.2 c6
      refine x_iconst C (v := (1 : Int32)) dX7_knows_29 rfl (by decide) ?_
      refine x_goto C (tgt := 34) dX7_knows_30 rfl (by decide) ?_
      exact x_zret C dX7_knows_34 rfl rfl (xw_same _ _) ⟨_, _, rfl, rfl, hw⟩
set_option maxRecDepth 20000 in
theorem k_X7_knows (C : xCx p s m args meth c G K A nL cc own ret) {a1 : Int32} {u : XS} {idx : Nat} {rest : List Value} {Post : Int32 → XS → Prop} (hlink : Cond.methodLink own idx yX7_knows ∈ gw_tbl) (hR : 1 + 1 ≤ R.frames ∧ 8 + (3 + 11) + 22 ≤ R.locals) (hf : cells ≤ R.cells ∧ slots ≤ R.slots) (hW : (rest.map fun v => v.category).sum ≤ 8) (hw : wp_X7_knows cap a1 u Post) (hdg : decode cc n = .ok (.invokevirtual idx, 3)) (hp : pc = n) (kk : ∀ (r : Int32) (u' : XS), Post r u' → xV p l e R s m args below meth c G A nL Q cells slots (xw L K cap u' T) (n + 3) lv (.int r :: rest)) : xV p l e R s m args below meth c G A nL Q cells slots (xw L K cap u T) pc lv (.int a1 :: .ref (L 0) :: rest) :=
  x_callV C (As := [.int a1]) (c_X7_knows hw) ⟨hlink, i_329, i_330, i_1, i_331⟩ 0 rfl rfl rfl (k := 1) (by decide +kernel) rfl hR hf hW rfl hdg hp (fun v ws' ⟨r, u', hv, hws, hPo⟩ _ => by subst hv; subst hws; exact kk r u' hPo)
end XWK
