/-! walks: the methods of the class that throw -/
section XWK
variable {p : Program} {l : Launch} {e : Env} {R : Room} {s : State} {m : MethodId} {args : Array Value} {below : List Frame} {meth : Method} {c : Code} {G : va_G} {A : Nat → Prop} {nL : Nat} {Q : State → Prop} {cells slots : Nat} {K : Nat → ClassId} {cc : ByteArray} {own : String} {ret : Option FieldType} {pc n : Nat} {lv : List (Nat × Value)} {st : List Value} {L : Nat → Nat} {cap : Nat} {T ws : va_W}
theorem x_out0_2 {x : Int32} (h0 : ¬ x = 0) (h1 : ¬ x = 1) (h2 : ¬ x = 2) : x.toInt < 0 ∨ 2 < x.toInt := by
  have g0 : x.toInt ≠ 0 := fun q => h0 (Int32.toInt_inj.mp (by rw [q]; rfl))
  have g1 : x.toInt ≠ 1 := fun q => h1 (Int32.toInt_inj.mp (by rw [q]; rfl))
  have g2 : x.toInt ≠ 2 := fun q => h2 (Int32.toInt_inj.mp (by rw [q]; rfl))
  omega
theorem x_out0_7 {x : Int32} (h0 : ¬ x = 0) (h1 : ¬ x = 1) (h2 : ¬ x = 2) (h3 : ¬ x = 3) (h4 : ¬ x = 4) (h5 : ¬ x = 5) (h6 : ¬ x = 6) (h7 : ¬ x = 7) : x.toInt < 0 ∨ 7 < x.toInt := by
  have g0 : x.toInt ≠ 0 := fun q => h0 (Int32.toInt_inj.mp (by rw [q]; rfl))
  have g1 : x.toInt ≠ 1 := fun q => h1 (Int32.toInt_inj.mp (by rw [q]; rfl))
  have g2 : x.toInt ≠ 2 := fun q => h2 (Int32.toInt_inj.mp (by rw [q]; rfl))
  have g3 : x.toInt ≠ 3 := fun q => h3 (Int32.toInt_inj.mp (by rw [q]; rfl))
  have g4 : x.toInt ≠ 4 := fun q => h4 (Int32.toInt_inj.mp (by rw [q]; rfl))
  have g5 : x.toInt ≠ 5 := fun q => h5 (Int32.toInt_inj.mp (by rw [q]; rfl))
  have g6 : x.toInt ≠ 6 := fun q => h6 (Int32.toInt_inj.mp (by rw [q]; rfl))
  have g7 : x.toInt ≠ 7 := fun q => h7 (Int32.toInt_inj.mp (by rw [q]; rfl))
  omega
def wp_X7_here (cap : Nat) (a1 : Int64) (u : XS) (Post : XS → Prop) (PX : String → XS → Prop) : Prop :=
  ((a1 < (1 : Int64) → PX "java/lang/IllegalArgumentException" u) ∧ (¬ (a1 < (1 : Int64)) → ((a1 < (281474976710655 : Int64) → (((X_phase u) = 0 → (∀ (u4 : XS), u4 = Xs_here u a1 → Post u4)) ∧ (¬ ((X_phase u) = 0) → PX "java/lang/IllegalStateException" u))) ∧ (¬ (a1 < (281474976710655 : Int64)) → PX "java/lang/IllegalArgumentException" u))))
set_option maxHeartbeats 4000000 in
set_option maxRecDepth 20000 in
theorem c_X7_here (hl : l.stackTraces = false) {a1 : Int64} {u : XS} {Post : XS → Prop} {PX : String → XS → Prop} (hw : wp_X7_here cap a1 u Post PX) : xxMet l yX7_here cX7_here 3 none 8 150 1 6 G K [.ref (L 0), .long a1] (xw L K cap u T) (fun v ws' => ∃ u' : XS, v = none ∧ ws' = (xw L K cap u' T) ∧ Post u') (fun E ws' => ∃ u' : XS, ws' = (xw L K cap u' T) ∧ PX E u') := by
  refine xxMet.intro hl (lv := [(0, .ref (L 0)), (1, .long a1)]) (by decide) rfl (Nat.le_of_ble_eq_true rfl) rfl (fun p e s m args below meth c A C F => ?_)
  unfold wp_X7_here at hw
  refine x_lload_n C dX7_here_0 rfl rfl 1 rfl ?_
  refine x_lconst C (v := (1 : Int64)) dX7_here_1 rfl (by decide) ?_
  refine x_lc_lt C 14 dX7_here_2 dX7_here_3 rfl (by decide) (fun c1 => ?_) (fun c1 => ?_)
  · have hw := hw.1 c1
    exact xt_IA C F dX7_here_14 dX7_here_17 dX7_here_18 dX7_here_21 rfl (Nat.le_of_ble_eq_true rfl) (Nat.le_of_ble_eq_true rfl) ⟨Nat.le_of_ble_eq_true rfl, Nat.le_of_ble_eq_true rfl⟩ ⟨Nat.le_of_ble_eq_true rfl, Nat.le_of_ble_eq_true rfl⟩ (xw_same _ _) ⟨_, rfl, hw⟩
  · have hw := hw.2 c1
    refine x_lload_n C dX7_here_6 rfl rfl 1 rfl ?_
    refine x_ldc2 C dX7_here_7 rfl i_233 ?_
    refine x_lc_lt C 22 dX7_here_10 dX7_here_11 rfl (by decide) (fun c2 => ?_) (fun c2 => ?_)
    · have hw := hw.1 c2
      refine x_aload_n C dX7_here_22 rfl rfl 0 rfl ?_
      refine gX0_phase C i_169 dX7_here_23 rfl ?_
      refine x_if_eq C 37 dX7_here_26 rfl (by decide) (fun c3 => ?_) (fun c3 => ?_)
      · have hw := hw.1 c3
        refine x_aload_n C dX7_here_37 rfl rfl 0 rfl ?_
        refine x_lload_n C dX7_here_38 rfl rfl 1 rfl ?_
        refine pX0_hereNumber C i_167 dX7_here_39 rfl (fun u4 e5 => ?_)
        have hw := hw u4 e5
        exact xx_vret C dX7_here_42 rfl (xw_same _ _) ⟨_, rfl, rfl, hw⟩
      · have hw := hw.2 c3
        exact xt_IS C F dX7_here_29 dX7_here_32 dX7_here_33 dX7_here_36 rfl (Nat.le_of_ble_eq_true rfl) (Nat.le_of_ble_eq_true rfl) ⟨Nat.le_of_ble_eq_true rfl, Nat.le_of_ble_eq_true rfl⟩ ⟨Nat.le_of_ble_eq_true rfl, Nat.le_of_ble_eq_true rfl⟩ (xw_same _ _) ⟨_, rfl, hw⟩
    · have hw := hw.2 c2
      exact xt_IA C F dX7_here_14 dX7_here_17 dX7_here_18 dX7_here_21 rfl (Nat.le_of_ble_eq_true rfl) (Nat.le_of_ble_eq_true rfl) ⟨Nat.le_of_ble_eq_true rfl, Nat.le_of_ble_eq_true rfl⟩ ⟨Nat.le_of_ble_eq_true rfl, Nat.le_of_ble_eq_true rfl⟩ (xw_same _ _) ⟨_, rfl, hw⟩
def wp_X7_type (cap : Nat) (a1 : Int64) (a3 : Int32) (u : XS) (Post : Int32 → XS → Prop) (PX : String → XS → Prop) : Prop :=
  ((a3 < (1 : Int32) → PX "java/lang/IllegalArgumentException" u) ∧ (¬ (a3 < (1 : Int32)) → ((a3 ≤ (8 : Int32) → wp_X5_hasRoomFor cap a3 u (fun r3 u4 => ((¬ (r3 = 0) → wp_X5_append cap a1 a3 u4 (fun u7 => Post (X_tl u7) u7)) ∧ (r3 = 0 → PX "java/lang/IllegalStateException" u4)))) ∧ (¬ (a3 ≤ (8 : Int32)) → PX "java/lang/IllegalArgumentException" u))))
set_option maxHeartbeats 4000000 in
set_option maxRecDepth 20000 in
theorem c_X7_type (hl : l.stackTraces = false) {a1 : Int64} {a3 : Int32} {u : XS} {Post : Int32 → XS → Prop} {PX : String → XS → Prop} (hw : wp_X7_type cap a1 a3 u Post PX) : xxMet l yX7_type cX7_type 4 (some .int) 8 150 1 6 G K [.ref (L 0), .long a1, .int a3] (xw L K cap u T) (fun v ws' => ∃ (r : Int32) (u' : XS), v = some (.int r) ∧ ws' = (xw L K cap u' T) ∧ Post r u') (fun E ws' => ∃ u' : XS, ws' = (xw L K cap u' T) ∧ PX E u') := by
  refine xxMet.intro hl (lv := [(0, .ref (L 0)), (1, .long a1), (3, .int a3)]) (by decide) rfl (Nat.le_of_ble_eq_true rfl) rfl (fun p e s m args below meth c A C F => ?_)
  unfold wp_X7_type at hw
  refine x_iload_n C dX7_type_0 rfl rfl 2 rfl ?_
  refine x_iconst C (v := (1 : Int32)) dX7_type_1 rfl (by decide) ?_
  refine x_icmp_lt C 11 dX7_type_2 rfl (by decide) (fun c1 => ?_) (fun c1 => ?_)
  · have hw := hw.1 c1
    exact xt_IA C F dX7_type_11 dX7_type_14 dX7_type_15 dX7_type_18 rfl (Nat.le_of_ble_eq_true rfl) (Nat.le_of_ble_eq_true rfl) ⟨Nat.le_of_ble_eq_true rfl, Nat.le_of_ble_eq_true rfl⟩ ⟨Nat.le_of_ble_eq_true rfl, Nat.le_of_ble_eq_true rfl⟩ (xw_same _ _) ⟨_, rfl, hw⟩
  · have hw := hw.2 c1
    refine x_iload_n C dX7_type_5 rfl rfl 2 rfl ?_
    refine x_bipush C (v := (8 : Int32)) dX7_type_6 rfl (by decide) ?_
    refine x_icmp_le C 19 dX7_type_8 rfl (by decide) (fun c2 => ?_) (fun c2 => ?_)
    · have hw := hw.1 c2
      refine x_aload_n C dX7_type_19 rfl rfl 0 rfl ?_
      refine gX0_tape C i_164 dX7_type_20 rfl ?_
      refine x_iload_n C dX7_type_23 rfl rfl 2 rfl ?_
      refine k_X5_hasRoomFor C i_430 ⟨Nat.le_of_ble_eq_true rfl, Nat.le_of_ble_eq_true rfl⟩ ⟨Nat.zero_le _, Nat.zero_le _⟩ (Nat.le_of_ble_eq_true rfl) hw dX7_type_24 rfl (fun r3 u4 hw => ?_)
      refine x_if_ne C 38 dX7_type_27 rfl (by decide) (fun c5 => ?_) (fun c5 => ?_)
      · have hw := hw.1 c5
        refine x_aload_n C dX7_type_38 rfl rfl 0 rfl ?_
        refine gX0_tape C i_164 dX7_type_39 rfl ?_
        refine x_lload_n C dX7_type_42 rfl rfl 1 rfl ?_
        refine x_iload_n C dX7_type_43 rfl rfl 2 rfl ?_
        refine k_X5_append C i_434 ⟨Nat.le_of_ble_eq_true rfl, Nat.le_of_ble_eq_true rfl⟩ ⟨Nat.zero_le _, Nat.zero_le _⟩ (Nat.le_of_ble_eq_true rfl) hw dX7_type_44 rfl (fun u7 hw => ?_)
        refine x_aload_n C dX7_type_47 rfl rfl 0 rfl ?_
        refine gX0_tape C i_164 dX7_type_48 rfl ?_
        refine gX3_length C i_35 dX7_type_51 rfl ?_
        exact xx_iret C dX7_type_54 rfl (xw_same _ _) ⟨_, _, rfl, rfl, hw⟩
      · have hw := hw.2 c5
        exact xt_IS C F dX7_type_30 dX7_type_33 dX7_type_34 dX7_type_37 rfl (Nat.le_of_ble_eq_true rfl) (Nat.le_of_ble_eq_true rfl) ⟨Nat.le_of_ble_eq_true rfl, Nat.le_of_ble_eq_true rfl⟩ ⟨Nat.le_of_ble_eq_true rfl, Nat.le_of_ble_eq_true rfl⟩ (xw_same _ _) ⟨_, rfl, hw⟩
    · have hw := hw.2 c2
      exact xt_IA C F dX7_type_11 dX7_type_14 dX7_type_15 dX7_type_18 rfl (Nat.le_of_ble_eq_true rfl) (Nat.le_of_ble_eq_true rfl) ⟨Nat.le_of_ble_eq_true rfl, Nat.le_of_ble_eq_true rfl⟩ ⟨Nat.le_of_ble_eq_true rfl, Nat.le_of_ble_eq_true rfl⟩ (xw_same _ _) ⟨_, rfl, hw⟩
def wp_X7_claim (cap : Nat) (a1 : Int32) (u : XS) (Post : XS → Prop) (PX : String → XS → Prop) : Prop :=
  ((a1 = 0 → PX "java/lang/IllegalArgumentException" u) ∧ (¬ (a1 = 0) → ((¬ (a1 = (-1 : Int32)) → (((X_phase u) = 0 → (∀ (u4 : XS), u4 = Xs_own u a1 → (∀ (u6 : XS), u6 = Xs_phase u4 (1 : Int32) → (∀ (u8 : XS), u8 = Xs_claimed u6 (X_time u6) → (∀ (u10 : XS), u10 = Xs_defended u8 (-1 : Int32) → wp_X7_probe cap u10 (fun u13 => Post u13)))))) ∧ (¬ ((X_phase u) = 0) → PX "java/lang/IllegalStateException" u))) ∧ (a1 = (-1 : Int32) → PX "java/lang/IllegalArgumentException" u))))
set_option maxHeartbeats 4000000 in
set_option maxRecDepth 20000 in
theorem c_X7_claim (hl : l.stackTraces = false) {a1 : Int32} {u : XS} {Post : XS → Prop} {PX : String → XS → Prop} (hw : wp_X7_claim cap a1 u Post PX) : xxMet l yX7_claim cX7_claim 2 none 8 150 1 6 G K [.ref (L 0), .int a1] (xw L K cap u T) (fun v ws' => ∃ u' : XS, v = none ∧ ws' = (xw L K cap u' T) ∧ Post u') (fun E ws' => ∃ u' : XS, ws' = (xw L K cap u' T) ∧ PX E u') := by
  refine xxMet.intro hl (lv := [(0, .ref (L 0)), (1, .int a1)]) (by decide) rfl (Nat.le_of_ble_eq_true rfl) rfl (fun p e s m args below meth c A C F => ?_)
  unfold wp_X7_claim at hw
  refine x_iload_n C dX7_claim_0 rfl rfl 1 rfl ?_
  refine x_if_eq C 9 dX7_claim_1 rfl (by decide) (fun c1 => ?_) (fun c1 => ?_)
  · have hw := hw.1 c1
    exact xt_IA C F dX7_claim_9 dX7_claim_12 dX7_claim_13 dX7_claim_16 rfl (Nat.le_of_ble_eq_true rfl) (Nat.le_of_ble_eq_true rfl) ⟨Nat.le_of_ble_eq_true rfl, Nat.le_of_ble_eq_true rfl⟩ ⟨Nat.le_of_ble_eq_true rfl, Nat.le_of_ble_eq_true rfl⟩ (xw_same _ _) ⟨_, rfl, hw⟩
  · have hw := hw.2 c1
    refine x_iload_n C dX7_claim_4 rfl rfl 1 rfl ?_
    refine x_iconst C (v := (-1 : Int32)) dX7_claim_5 rfl (by decide) ?_
    refine x_icmp_ne C 17 dX7_claim_6 rfl (by decide) (fun c2 => ?_) (fun c2 => ?_)
    · have hw := hw.1 c2
      refine x_aload_n C dX7_claim_17 rfl rfl 0 rfl ?_
      refine gX0_phase C i_169 dX7_claim_18 rfl ?_
      refine x_if_eq C 32 dX7_claim_21 rfl (by decide) (fun c3 => ?_) (fun c3 => ?_)
      · have hw := hw.1 c3
        refine x_aload_n C dX7_claim_32 rfl rfl 0 rfl ?_
        refine x_iload_n C dX7_claim_33 rfl rfl 1 rfl ?_
        refine pX0_own C i_170 dX7_claim_34 rfl (fun u4 e5 => ?_)
        have hw := hw u4 e5
        refine x_aload_n C dX7_claim_37 rfl rfl 0 rfl ?_
        refine x_iconst C (v := (1 : Int32)) dX7_claim_38 rfl (by decide) ?_
        refine pX0_phase C i_169 dX7_claim_39 rfl (fun u6 e7 => ?_)
        have hw := hw u6 e7
        refine x_aload_n C dX7_claim_42 rfl rfl 0 rfl ?_
        refine x_aload_n C dX7_claim_43 rfl rfl 0 rfl ?_
        refine gX0_time C i_168 dX7_claim_44 rfl ?_
        refine pX0_claimedAt C i_171 dX7_claim_47 rfl (fun u8 e9 => ?_)
        have hw := hw u8 e9
        refine x_aload_n C dX7_claim_50 rfl rfl 0 rfl ?_
        refine x_iconst C (v := (-1 : Int32)) dX7_claim_51 rfl (by decide) ?_
        refine pX0_defendedAt C i_172 dX7_claim_52 rfl (fun u10 e11 => ?_)
        have hw := hw u10 e11
        refine x_aload_n C dX7_claim_55 rfl rfl 0 rfl ?_
        refine k_X7_probe C i_445 ⟨Nat.le_of_ble_eq_true rfl, Nat.le_of_ble_eq_true rfl⟩ ⟨Nat.zero_le _, Nat.zero_le _⟩ (Nat.le_of_ble_eq_true rfl) hw dX7_claim_56 rfl (fun u13 hw => ?_)
        exact xx_vret C dX7_claim_59 rfl (xw_same _ _) ⟨_, rfl, rfl, hw⟩
      · have hw := hw.2 c3
        exact xt_IS C F dX7_claim_24 dX7_claim_27 dX7_claim_28 dX7_claim_31 rfl (Nat.le_of_ble_eq_true rfl) (Nat.le_of_ble_eq_true rfl) ⟨Nat.le_of_ble_eq_true rfl, Nat.le_of_ble_eq_true rfl⟩ ⟨Nat.le_of_ble_eq_true rfl, Nat.le_of_ble_eq_true rfl⟩ (xw_same _ _) ⟨_, rfl, hw⟩
    · have hw := hw.2 c2
      exact xt_IA C F dX7_claim_9 dX7_claim_12 dX7_claim_13 dX7_claim_16 rfl (Nat.le_of_ble_eq_true rfl) (Nat.le_of_ble_eq_true rfl) ⟨Nat.le_of_ble_eq_true rfl, Nat.le_of_ble_eq_true rfl⟩ ⟨Nat.le_of_ble_eq_true rfl, Nat.le_of_ble_eq_true rfl⟩ (xw_same _ _) ⟨_, rfl, hw⟩
def wp_X7_send (cap : Nat) (a1 : Int32) (a2 : Int32) (u : XS) (Post : Int32 → XS → Prop) (PX : String → XS → Prop) : Prop :=
  ((a1 = 0 → PX "java/lang/IllegalArgumentException" u) ∧ (¬ (a1 = 0) → ((a1 = (-1 : Int32) → PX "java/lang/IllegalArgumentException" u) ∧ (¬ (a1 = (-1 : Int32)) → ((¬ (a1 = (X_own u)) → (((2 : Int32) ≤ (X_phase u) → wp_X0_indexOf cap a1 u (fun r5 u6 => ((0 ≤ r5 → wp_X0_use cap r5 (X_time u6) u6 (fun r8 u9 => r8 < cap ∧ (wp_X7_sendTo cap r8 a2 u9 (fun r11 u12 => Post r11 u12)))) ∧ (¬ (0 ≤ r5) → wp_X7_sendToStranger cap a1 a2 u6 (fun r13 u14 => Post r13 u14))))) ∧ (¬ ((2 : Int32) ≤ (X_phase u)) → PX "java/lang/IllegalStateException" u))) ∧ (a1 = (X_own u) → PX "java/lang/IllegalArgumentException" u))))))
set_option maxHeartbeats 4000000 in
set_option maxRecDepth 20000 in
theorem c_X7_send (hl : l.stackTraces = false) {a1 : Int32} {a2 : Int32} {u : XS} {Post : Int32 → XS → Prop} {PX : String → XS → Prop} (hw : wp_X7_send cap a1 a2 u Post PX) : xxMet l yX7_send cX7_send 4 (some .int) 8 150 1 6 G K [.ref (L 0), .int a1, .int a2] (xw L K cap u T) (fun v ws' => ∃ (r : Int32) (u' : XS), v = some (.int r) ∧ ws' = (xw L K cap u' T) ∧ Post r u') (fun E ws' => ∃ u' : XS, ws' = (xw L K cap u' T) ∧ PX E u') := by
  refine xxMet.intro hl (lv := [(0, .ref (L 0)), (1, .int a1), (2, .int a2)]) (by decide) rfl (Nat.le_of_ble_eq_true rfl) rfl (fun p e s m args below meth c A C F => ?_)
  unfold wp_X7_send at hw
  refine x_iload_n C dX7_send_0 rfl rfl 1 rfl ?_
  refine x_if_eq C 17 dX7_send_1 rfl (by decide) (fun c1 => ?_) (fun c1 => ?_)
  · have hw := hw.1 c1
    exact xt_IA C F dX7_send_17 dX7_send_20 dX7_send_21 dX7_send_24 rfl (Nat.le_of_ble_eq_true rfl) (Nat.le_of_ble_eq_true rfl) ⟨Nat.le_of_ble_eq_true rfl, Nat.le_of_ble_eq_true rfl⟩ ⟨Nat.le_of_ble_eq_true rfl, Nat.le_of_ble_eq_true rfl⟩ (xw_same _ _) ⟨_, rfl, hw⟩
  · have hw := hw.2 c1
    refine x_iload_n C dX7_send_4 rfl rfl 1 rfl ?_
    refine x_iconst C (v := (-1 : Int32)) dX7_send_5 rfl (by decide) ?_
    refine x_icmp_eq C 17 dX7_send_6 rfl (by decide) (fun c2 => ?_) (fun c2 => ?_)
    · have hw := hw.1 c2
      exact xt_IA C F dX7_send_17 dX7_send_20 dX7_send_21 dX7_send_24 rfl (Nat.le_of_ble_eq_true rfl) (Nat.le_of_ble_eq_true rfl) ⟨Nat.le_of_ble_eq_true rfl, Nat.le_of_ble_eq_true rfl⟩ ⟨Nat.le_of_ble_eq_true rfl, Nat.le_of_ble_eq_true rfl⟩ (xw_same _ _) ⟨_, rfl, hw⟩
    · have hw := hw.2 c2
      refine x_iload_n C dX7_send_9 rfl rfl 1 rfl ?_
      refine x_aload_n C dX7_send_10 rfl rfl 0 rfl ?_
      refine gX0_own C i_170 dX7_send_11 rfl ?_
      refine x_icmp_ne C 25 dX7_send_14 rfl (by decide) (fun c3 => ?_) (fun c3 => ?_)
      · have hw := hw.1 c3
        refine x_aload_n C dX7_send_25 rfl rfl 0 rfl ?_
        refine gX0_phase C i_169 dX7_send_26 rfl ?_
        refine x_iconst C (v := (2 : Int32)) dX7_send_29 rfl (by decide) ?_
        refine x_icmp_ge C 41 dX7_send_30 rfl (by decide) (fun c4 => ?_) (fun c4 => ?_)
        · have hw := hw.1 c4
          refine x_aload_n C dX7_send_41 rfl rfl 0 rfl ?_
          refine gX0_cache C i_163 dX7_send_42 rfl ?_
          refine x_iload_n C dX7_send_45 rfl rfl 1 rfl ?_
          refine k_X0_indexOf C i_287 ⟨Nat.le_of_ble_eq_true rfl, Nat.le_of_ble_eq_true rfl⟩ ⟨Nat.zero_le _, Nat.zero_le _⟩ (Nat.le_of_ble_eq_true rfl) hw dX7_send_46 rfl (fun r5 u6 hw => ?_)
          refine x_istore_n C (lv' := [(3, .int r5), (0, .ref (L 0)), (1, .int a1), (2, .int a2)]) dX7_send_49 rfl rfl (by decide) rfl ?_
          refine x_iload_n C dX7_send_50 rfl rfl 0 rfl ?_
          refine x_if_ge C 63 dX7_send_51 rfl (by decide) (fun c7 => ?_) (fun c7 => ?_)
          · have hw := hw.1 c7
            refine x_aload_n C dX7_send_63 rfl rfl 1 rfl ?_
            refine x_aload_n C dX7_send_64 rfl rfl 1 rfl ?_
            refine gX0_cache C i_163 dX7_send_65 rfl ?_
            refine x_iload_n C dX7_send_68 rfl rfl 0 rfl ?_
            refine x_aload_n C dX7_send_69 rfl rfl 1 rfl ?_
            refine gX0_time C i_168 dX7_send_70 rfl ?_
            refine k_X0_use C i_464 ⟨Nat.le_of_ble_eq_true rfl, Nat.le_of_ble_eq_true rfl⟩ ⟨Nat.zero_le _, Nat.zero_le _⟩ (Nat.le_of_ble_eq_true rfl) hw dX7_send_73 rfl (fun r8 u9 hw => ?_)
            refine x_iload_n C dX7_send_76 rfl rfl 3 rfl ?_
            obtain ⟨h10, hw⟩ := hw
            refine k_X7_sendTo C h10 i_468 ⟨Nat.le_of_ble_eq_true rfl, Nat.le_of_ble_eq_true rfl⟩ ⟨Nat.zero_le _, Nat.zero_le _⟩ (Nat.le_of_ble_eq_true rfl) hw dX7_send_77 rfl (fun r11 u12 hw => ?_)
            exact xx_iret C dX7_send_80 rfl (xw_same _ _) ⟨_, _, rfl, rfl, hw⟩
          · have hw := hw.2 c7
            refine x_aload_n C dX7_send_54 rfl rfl 1 rfl ?_
            refine x_iload_n C dX7_send_55 rfl rfl 2 rfl ?_
            refine x_iload_n C dX7_send_56 rfl rfl 3 rfl ?_
            refine k_X7_sendToStranger C i_456 ⟨Nat.le_of_ble_eq_true rfl, Nat.le_of_ble_eq_true rfl⟩ ⟨Nat.zero_le _, Nat.zero_le _⟩ (Nat.le_of_ble_eq_true rfl) hw dX7_send_57 rfl (fun r13 u14 hw => ?_)
            refine x_goto C (tgt := 80) dX7_send_60 rfl (by decide) ?_
            exact xx_iret C dX7_send_80 rfl (xw_same _ _) ⟨_, _, rfl, rfl, hw⟩
        · have hw := hw.2 c4
          exact xt_IS C F dX7_send_33 dX7_send_36 dX7_send_37 dX7_send_40 rfl (Nat.le_of_ble_eq_true rfl) (Nat.le_of_ble_eq_true rfl) ⟨Nat.le_of_ble_eq_true rfl, Nat.le_of_ble_eq_true rfl⟩ ⟨Nat.le_of_ble_eq_true rfl, Nat.le_of_ble_eq_true rfl⟩ (xw_same _ _) ⟨_, rfl, hw⟩
      · have hw := hw.2 c3
        exact xt_IA C F dX7_send_17 dX7_send_20 dX7_send_21 dX7_send_24 rfl (Nat.le_of_ble_eq_true rfl) (Nat.le_of_ble_eq_true rfl) ⟨Nat.le_of_ble_eq_true rfl, Nat.le_of_ble_eq_true rfl⟩ ⟨Nat.le_of_ble_eq_true rfl, Nat.le_of_ble_eq_true rfl⟩ (xw_same _ _) ⟨_, rfl, hw⟩
def lb_X7_tick_20 (cap : Nat) (Post : Int32 → XS → Prop) (PX : String → XS → Prop) (Ks : Int32 → Int32 → XS → Prop) (x1 : Int32) (x2 : Int32) (u : XS) : Prop :=
  ((x1 ≤ x2 → Post (X_time u) u) ∧ (¬ (x1 ≤ x2) → (∀ (u2 : XS), u2 = Xs_time u ((X_time u) + (1 : Int32)) → wp_X7_tickOwn cap u2 (fun u5 => wp_X7_tickEntries cap u5 (fun u7 => Ks x1 (x2 + 1) u7)))))
def lp_X7_tick_20 (cap : Nat) (Post : Int32 → XS → Prop) (PX : String → XS → Prop) : Nat → Int32 → Int32 → XS → Prop
  | 0 => fun _ _ _ => False
  | f + 1 => fun x1 x2 u => lb_X7_tick_20 cap Post PX (lp_X7_tick_20 cap Post PX f) x1 x2 u
set_option maxHeartbeats 4000000 in
set_option maxRecDepth 20000 in
theorem t_X7_tick_20 (C : xCx p s m args meth c G K A 3 cX7_tick RX7 (some .int)) (F : xFx l s c A) {u0 : XS} {Post : Int32 → XS → Prop} {PX : String → XS → Prop} : ∀ (f : Nat) (x1 : Int32) (x2 : Int32) (u : XS) , lp_X7_tick_20 cap  Post PX f x1 x2 u → xV p l e (xRm 8 154 1 6) s m args below meth c G A 3 (xxQ G A (xw L K cap u0 T) (fun v ws' => ∃ (r : Int32) (u' : XS), v = some (.int r) ∧ ws' = (xw L K cap u' T) ∧ Post r u') (fun E ws' => ∃ u' : XS, ws' = (xw L K cap u' T) ∧ PX E u') below args s 1 6) 0 0 (xw L K cap u T) 20 [(0, .ref (L 0)), (1, .int x1), (2, .int x2)] [] := by
  intro f
  induction f with
  | zero => intro x1 x2 u hw; exact hw.elim
  | succ f ih =>
    intro x1 x2 u hw
    have hw : lb_X7_tick_20 cap  Post PX (lp_X7_tick_20 cap  Post PX f) x1 x2 u := hw
    unfold lb_X7_tick_20 at hw
    refine x_iload_n C dX7_tick_20 rfl rfl 2 rfl ?_
    refine x_iload_n C dX7_tick_21 rfl rfl 1 rfl ?_
    refine x_icmp_ge C 49 dX7_tick_22 rfl (by decide) (fun c1 => ?_) (fun c1 => ?_)
    · have hw := hw.1 c1
      refine x_aload_n C dX7_tick_49 rfl rfl 0 rfl ?_
      refine gX0_time C i_168 dX7_tick_50 rfl ?_
      exact xx_iret C dX7_tick_53 rfl (xw_same _ _) ⟨_, _, rfl, rfl, hw⟩
    · have hw := hw.2 c1
      refine x_aload_n C dX7_tick_25 rfl rfl 0 rfl ?_
      refine x_dup C dX7_tick_26 rfl rfl ?_
      refine gX0_time C i_168 dX7_tick_27 rfl ?_
      refine x_iconst C (v := (1 : Int32)) dX7_tick_30 rfl (by decide) ?_
      refine x_iadd C dX7_tick_31 rfl ?_
      refine pX0_time C i_168 dX7_tick_32 rfl (fun u2 e3 => ?_)
      have hw := hw u2 e3
      refine x_aload_n C dX7_tick_35 rfl rfl 0 rfl ?_
      refine k_X7_tickOwn C i_479 ⟨Nat.le_of_ble_eq_true rfl, Nat.le_of_ble_eq_true rfl⟩ ⟨Nat.zero_le _, Nat.zero_le _⟩ (Nat.le_of_ble_eq_true rfl) hw dX7_tick_36 rfl (fun u5 hw => ?_)
      refine x_aload_n C dX7_tick_39 rfl rfl 0 rfl ?_
      refine k_X7_tickEntries C i_483 ⟨Nat.le_of_ble_eq_true rfl, Nat.le_of_ble_eq_true rfl⟩ ⟨Nat.zero_le _, Nat.zero_le _⟩ (Nat.le_of_ble_eq_true rfl) hw dX7_tick_40 rfl (fun u7 hw => ?_)
      refine x_iinc C (k := 2) (v := x2 + 1) (lv' := [(2, .int (x2 + 1)), (0, .ref (L 0)), (1, .int x1)]) dX7_tick_43 rfl rfl rfl (by decide) rfl ?_
      refine x_goto C (tgt := 20) dX7_tick_46 rfl (by decide) ?_
      refine x_lv [1, 2, 0] rfl ?_
      exact ih x1 (x2 + 1) u7 hw
def wp_X7_tick (cap : Nat) (a1 : Int32) (u : XS) (Post : Int32 → XS → Prop) (PX : String → XS → Prop) : Prop :=
  ((a1 < 0 → PX "java/lang/IllegalArgumentException" u) ∧ (¬ (a1 < 0) → ((a1 ≤ (40 : Int32) → ∃ f9 : Nat, lp_X7_tick_20 cap Post PX f9 a1 (0 : Int32) u) ∧ (¬ (a1 ≤ (40 : Int32)) → PX "java/lang/IllegalArgumentException" u))))
set_option maxHeartbeats 4000000 in
set_option maxRecDepth 20000 in
theorem c_X7_tick (hl : l.stackTraces = false) {a1 : Int32} {u : XS} {Post : Int32 → XS → Prop} {PX : String → XS → Prop} (hw : wp_X7_tick cap a1 u Post PX) : xxMet l yX7_tick cX7_tick 3 (some .int) 8 154 1 6 G K [.ref (L 0), .int a1] (xw L K cap u T) (fun v ws' => ∃ (r : Int32) (u' : XS), v = some (.int r) ∧ ws' = (xw L K cap u' T) ∧ Post r u') (fun E ws' => ∃ u' : XS, ws' = (xw L K cap u' T) ∧ PX E u') := by
  refine xxMet.intro hl (lv := [(0, .ref (L 0)), (1, .int a1)]) (by decide) rfl (Nat.le_of_ble_eq_true rfl) rfl (fun p e s m args below meth c A C F => ?_)
  unfold wp_X7_tick at hw
  refine x_iload_n C dX7_tick_0 rfl rfl 1 rfl ?_
  refine x_if_lt C 10 dX7_tick_1 rfl (by decide) (fun c1 => ?_) (fun c1 => ?_)
  · have hw := hw.1 c1
    exact xt_IA C F dX7_tick_10 dX7_tick_13 dX7_tick_14 dX7_tick_17 rfl (Nat.le_of_ble_eq_true rfl) (Nat.le_of_ble_eq_true rfl) ⟨Nat.le_of_ble_eq_true rfl, Nat.le_of_ble_eq_true rfl⟩ ⟨Nat.le_of_ble_eq_true rfl, Nat.le_of_ble_eq_true rfl⟩ (xw_same _ _) ⟨_, rfl, hw⟩
  · have hw := hw.2 c1
    refine x_iload_n C dX7_tick_4 rfl rfl 1 rfl ?_
    refine x_bipush C (v := (40 : Int32)) dX7_tick_5 rfl (by decide) ?_
    refine x_icmp_le C 18 dX7_tick_7 rfl (by decide) (fun c2 => ?_) (fun c2 => ?_)
    · have hw := hw.1 c2
      refine x_iconst C (v := (0 : Int32)) dX7_tick_18 rfl (by decide) ?_
      refine x_istore_n C (lv' := [(2, .int (0 : Int32)), (0, .ref (L 0)), (1, .int a1)]) dX7_tick_19 rfl rfl (by decide) rfl ?_
      refine x_lv [1, 2, 0] rfl ?_
      obtain ⟨f9, hw⟩ := hw
      exact t_X7_tick_20 C F f9 a1 (0 : Int32) u hw
    · have hw := hw.2 c2
      exact xt_IA C F dX7_tick_10 dX7_tick_13 dX7_tick_14 dX7_tick_17 rfl (Nat.le_of_ble_eq_true rfl) (Nat.le_of_ble_eq_true rfl) ⟨Nat.le_of_ble_eq_true rfl, Nat.le_of_ble_eq_true rfl⟩ ⟨Nat.le_of_ble_eq_true rfl, Nat.le_of_ble_eq_true rfl⟩ (xw_same _ _) ⟨_, rfl, hw⟩
def wp_X7_count (cap : Nat) (a1 : Int32) (u : XS) (Post : Int32 → XS → Prop) (PX : String → XS → Prop) : Prop :=
  ((a1 = 0 → Post (X_phase u) u) ∧ (a1 = 1 → Post (X_own u) u) ∧ (a1 = 2 → Post (X_time u) u) ∧ (a1 = 3 → Post (X_size u) u) ∧ (a1 = 4 → Post (X_ft u) u) ∧ (a1 = 5 → Post (X_lt u) u) ∧ (a1 = 6 → wp_X0_countWaiting cap u (fun r8 u9 => Post r8 u9)) ∧ (a1 = 7 → Post (X_defended u) u) ∧ (¬ a1 = 0 ∧ ¬ a1 = 1 ∧ ¬ a1 = 2 ∧ ¬ a1 = 3 ∧ ¬ a1 = 4 ∧ ¬ a1 = 5 ∧ ¬ a1 = 6 ∧ ¬ a1 = 7 → PX "java/lang/IllegalArgumentException" u))
set_option maxHeartbeats 4000000 in
set_option maxRecDepth 20000 in
theorem c_X7_count (hl : l.stackTraces = false) {a1 : Int32} {u : XS} {Post : Int32 → XS → Prop} {PX : String → XS → Prop} (hw : wp_X7_count cap a1 u Post PX) : xxMet l yX7_count cX7_count 2 (some .int) 8 150 1 6 G K [.ref (L 0), .int a1] (xw L K cap u T) (fun v ws' => ∃ (r : Int32) (u' : XS), v = some (.int r) ∧ ws' = (xw L K cap u' T) ∧ Post r u') (fun E ws' => ∃ u' : XS, ws' = (xw L K cap u' T) ∧ PX E u') := by
  refine xxMet.intro hl (lv := [(0, .ref (L 0)), (1, .int a1)]) (by decide) rfl (Nat.le_of_ble_eq_true rfl) rfl (fun p e s m args below meth c A C F => ?_)
  unfold wp_X7_count at hw
  refine x_iload_n C dX7_count_0 rfl rfl 1 rfl ?_
  by_cases c1 : a1 = 0
  · have hw := hw.1 c1
    refine x_tableIn C 48 dX7_count_1 rfl (by rw [c1]; decide) (by rw [c1]; decide) (by rw [c1]; rfl) (by decide) ?_
    refine x_aload_n C dX7_count_48 rfl rfl 0 rfl ?_
    refine gX0_phase C i_169 dX7_count_49 rfl ?_
    exact xx_iret C dX7_count_52 rfl (xw_same _ _) ⟨_, _, rfl, rfl, hw⟩
  by_cases c2 : a1 = 1
  · have hw := hw.2.1 c2
    refine x_tableIn C 53 dX7_count_1 rfl (by rw [c2]; decide) (by rw [c2]; decide) (by rw [c2]; rfl) (by decide) ?_
    refine x_aload_n C dX7_count_53 rfl rfl 0 rfl ?_
    refine gX0_own C i_170 dX7_count_54 rfl ?_
    exact xx_iret C dX7_count_57 rfl (xw_same _ _) ⟨_, _, rfl, rfl, hw⟩
  by_cases c3 : a1 = 2
  · have hw := hw.2.2.1 c3
    refine x_tableIn C 58 dX7_count_1 rfl (by rw [c3]; decide) (by rw [c3]; decide) (by rw [c3]; rfl) (by decide) ?_
    refine x_aload_n C dX7_count_58 rfl rfl 0 rfl ?_
    refine gX0_time C i_168 dX7_count_59 rfl ?_
    exact xx_iret C dX7_count_62 rfl (xw_same _ _) ⟨_, _, rfl, rfl, hw⟩
  by_cases c4 : a1 = 3
  · have hw := hw.2.2.2.1 c4
    refine x_tableIn C 63 dX7_count_1 rfl (by rw [c4]; decide) (by rw [c4]; decide) (by rw [c4]; rfl) (by decide) ?_
    refine x_aload_n C dX7_count_63 rfl rfl 0 rfl ?_
    refine gX0_cache C i_163 dX7_count_64 rfl ?_
    refine gX1_size C i_155 dX7_count_67 rfl ?_
    exact xx_iret C dX7_count_70 rfl (xw_same _ _) ⟨_, _, rfl, rfl, hw⟩
  by_cases c5 : a1 = 4
  · have hw := hw.2.2.2.2.1 c5
    refine x_tableIn C 71 dX7_count_1 rfl (by rw [c5]; decide) (by rw [c5]; decide) (by rw [c5]; rfl) (by decide) ?_
    refine x_aload_n C dX7_count_71 rfl rfl 0 rfl ?_
    refine gX0_frames C i_165 dX7_count_72 rfl ?_
    refine gX5_ring C i_60 dX7_count_75 rfl ?_
    refine gX6_total C i_55 dX7_count_78 rfl ?_
    exact xx_iret C dX7_count_81 rfl (xw_same _ _) ⟨_, _, rfl, rfl, hw⟩
  by_cases c6 : a1 = 5
  · have hw := hw.2.2.2.2.2.1 c6
    refine x_tableIn C 82 dX7_count_1 rfl (by rw [c6]; decide) (by rw [c6]; decide) (by rw [c6]; rfl) (by decide) ?_
    refine x_aload_n C dX7_count_82 rfl rfl 0 rfl ?_
    refine gX0_losses C i_166 dX7_count_83 rfl ?_
    refine gX11_ring C i_90 dX7_count_86 rfl ?_
    refine gX12_total C i_55 dX7_count_89 rfl ?_
    exact xx_iret C dX7_count_92 rfl (xw_same _ _) ⟨_, _, rfl, rfl, hw⟩
  by_cases c7 : a1 = 6
  · have hw := hw.2.2.2.2.2.2.1 c7
    refine x_tableIn C 93 dX7_count_1 rfl (by rw [c7]; decide) (by rw [c7]; decide) (by rw [c7]; rfl) (by decide) ?_
    refine x_aload_n C dX7_count_93 rfl rfl 0 rfl ?_
    refine gX0_cache C i_163 dX7_count_94 rfl ?_
    refine k_X0_countWaiting C i_503 ⟨Nat.le_of_ble_eq_true rfl, Nat.le_of_ble_eq_true rfl⟩ ⟨Nat.zero_le _, Nat.zero_le _⟩ (Nat.le_of_ble_eq_true rfl) hw dX7_count_97 rfl (fun r8 u9 hw => ?_)
    exact xx_iret C dX7_count_100 rfl (xw_same _ _) ⟨_, _, rfl, rfl, hw⟩
  by_cases c10 : a1 = 7
  · have hw := hw.2.2.2.2.2.2.2.1 c10
    refine x_tableIn C 101 dX7_count_1 rfl (by rw [c10]; decide) (by rw [c10]; decide) (by rw [c10]; rfl) (by decide) ?_
    refine x_aload_n C dX7_count_101 rfl rfl 0 rfl ?_
    refine gX0_defendedAt C i_172 dX7_count_102 rfl ?_
    exact xx_iret C dX7_count_105 rfl (xw_same _ _) ⟨_, _, rfl, rfl, hw⟩
  have hw := hw.2.2.2.2.2.2.2.2 ⟨c1, c2, c3, c4, c5, c6, c7, c10⟩
  refine x_tableOut C 106 dX7_count_1 rfl (x_out0_7 c1 c2 c3 c4 c5 c6 c7 c10) (by decide) ?_
  exact xt_IA C F dX7_count_106 dX7_count_109 dX7_count_110 dX7_count_113 rfl (Nat.le_of_ble_eq_true rfl) (Nat.le_of_ble_eq_true rfl) ⟨Nat.le_of_ble_eq_true rfl, Nat.le_of_ble_eq_true rfl⟩ ⟨Nat.le_of_ble_eq_true rfl, Nat.le_of_ble_eq_true rfl⟩ (xw_same _ _) ⟨_, rfl, hw⟩
def wp_X7_entry (cap : Nat) (a1 : Int32) (u : XS) (Post : Int32 → XS → Prop) (PX : String → XS → Prop) : Prop :=
  ((a1 < 0 → PX "java/lang/IndexOutOfBoundsException" u) ∧ (¬ (a1 < 0) → ((a1 < (X_size u) → vp_in a1 cap ∧ ((X_row u (Int32.toNatClampNeg a1)) < cap ∧ (Post (e_address (X_E u (X_row u (Int32.toNatClampNeg a1)))) u))) ∧ (¬ (a1 < (X_size u)) → PX "java/lang/IndexOutOfBoundsException" u))))
set_option maxHeartbeats 4000000 in
set_option maxRecDepth 20000 in
theorem c_X7_entry (hl : l.stackTraces = false) {a1 : Int32} {u : XS} {Post : Int32 → XS → Prop} {PX : String → XS → Prop} (hw : wp_X7_entry cap a1 u Post PX) : xxMet l yX7_entry cX7_entry 2 (some .int) 8 150 1 6 G K [.ref (L 0), .int a1] (xw L K cap u T) (fun v ws' => ∃ (r : Int32) (u' : XS), v = some (.int r) ∧ ws' = (xw L K cap u' T) ∧ Post r u') (fun E ws' => ∃ u' : XS, ws' = (xw L K cap u' T) ∧ PX E u') := by
  refine xxMet.intro hl (lv := [(0, .ref (L 0)), (1, .int a1)]) (by decide) rfl (Nat.le_of_ble_eq_true rfl) rfl (fun p e s m args below meth c A C F => ?_)
  unfold wp_X7_entry at hw
  refine x_iload_n C dX7_entry_0 rfl rfl 1 rfl ?_
  refine x_if_lt C 15 dX7_entry_1 rfl (by decide) (fun c1 => ?_) (fun c1 => ?_)
  · have hw := hw.1 c1
    exact xt_IO C F dX7_entry_15 dX7_entry_18 dX7_entry_19 dX7_entry_22 rfl (Nat.le_of_ble_eq_true rfl) (Nat.le_of_ble_eq_true rfl) ⟨Nat.le_of_ble_eq_true rfl, Nat.le_of_ble_eq_true rfl⟩ ⟨Nat.le_of_ble_eq_true rfl, Nat.le_of_ble_eq_true rfl⟩ (xw_same _ _) ⟨_, rfl, hw⟩
  · have hw := hw.2 c1
    refine x_iload_n C dX7_entry_4 rfl rfl 1 rfl ?_
    refine x_aload_n C dX7_entry_5 rfl rfl 0 rfl ?_
    refine gX0_cache C i_163 dX7_entry_6 rfl ?_
    refine gX1_size C i_155 dX7_entry_9 rfl ?_
    refine x_icmp_lt C 23 dX7_entry_12 rfl (by decide) (fun c2 => ?_) (fun c2 => ?_)
    · have hw := hw.1 c2
      refine x_aload_n C dX7_entry_23 rfl rfl 0 rfl ?_
      refine gX0_cache C i_163 dX7_entry_24 rfl ?_
      refine gX1_row C i_153 dX7_entry_27 rfl ?_
      refine x_iload_n C dX7_entry_30 rfl rfl 1 rfl ?_
      obtain ⟨h3, hw⟩ := hw
      refine gX2_at C h3 dX7_entry_31 rfl ?_
      obtain ⟨h4, hw⟩ := hw
      refine gE_address C h4 i_125 dX7_entry_32 rfl ?_
      exact xx_iret C dX7_entry_35 rfl (xw_same _ _) ⟨_, _, rfl, rfl, hw⟩
    · have hw := hw.2 c2
      exact xt_IO C F dX7_entry_15 dX7_entry_18 dX7_entry_19 dX7_entry_22 rfl (Nat.le_of_ble_eq_true rfl) (Nat.le_of_ble_eq_true rfl) ⟨Nat.le_of_ble_eq_true rfl, Nat.le_of_ble_eq_true rfl⟩ ⟨Nat.le_of_ble_eq_true rfl, Nat.le_of_ble_eq_true rfl⟩ (xw_same _ _) ⟨_, rfl, hw⟩
def wp_X7_about (cap : Nat) (a1 : Int32) (a2 : Int32) (u : XS) (Post : Int32 → XS → Prop) (PX : String → XS → Prop) : Prop :=
  ((a2 < 0 → PX "java/lang/IllegalArgumentException" u) ∧ (¬ (a2 < 0) → ((a2 ≤ (3 : Int32) → wp_X0_indexOf cap a1 u (fun r3 u4 => ((0 ≤ r3 → vp_in r3 cap ∧ (((a2 = 0 → (X_row u4 (Int32.toNatClampNeg r3)) < cap ∧ (Post (e_kind (X_E u4 (X_row u4 (Int32.toNatClampNeg r3)))) u4)) ∧ (a2 = 1 → (X_row u4 (Int32.toNatClampNeg r3)) < cap ∧ (Post (e_waiting (X_E u4 (X_row u4 (Int32.toNatClampNeg r3)))) u4)) ∧ (a2 = 2 → (X_row u4 (Int32.toNatClampNeg r3)) < cap ∧ (Post (e_since (X_E u4 (X_row u4 (Int32.toNatClampNeg r3)))) u4)) ∧ (¬ a2 = 0 ∧ ¬ a2 = 1 ∧ ¬ a2 = 2 → (X_row u4 (Int32.toNatClampNeg r3)) < cap ∧ (Post (e_used (X_E u4 (X_row u4 (Int32.toNatClampNeg r3)))) u4))))) ∧ (¬ (0 ≤ r3) → PX "java/util/NoSuchElementException" u4)))) ∧ (¬ (a2 ≤ (3 : Int32)) → PX "java/lang/IllegalArgumentException" u))))
set_option maxHeartbeats 4000000 in
set_option maxRecDepth 20000 in
theorem c_X7_about (hl : l.stackTraces = false) {a1 : Int32} {a2 : Int32} {u : XS} {Post : Int32 → XS → Prop} {PX : String → XS → Prop} (hw : wp_X7_about cap a1 a2 u Post PX) : xxMet l yX7_about cX7_about 5 (some .int) 8 150 1 6 G K [.ref (L 0), .int a1, .int a2] (xw L K cap u T) (fun v ws' => ∃ (r : Int32) (u' : XS), v = some (.int r) ∧ ws' = (xw L K cap u' T) ∧ Post r u') (fun E ws' => ∃ u' : XS, ws' = (xw L K cap u' T) ∧ PX E u') := by
  refine xxMet.intro hl (lv := [(0, .ref (L 0)), (1, .int a1), (2, .int a2)]) (by decide) rfl (Nat.le_of_ble_eq_true rfl) rfl (fun p e s m args below meth c A C F => ?_)
  unfold wp_X7_about at hw
  refine x_iload_n C dX7_about_0 rfl rfl 2 rfl ?_
  refine x_if_lt C 9 dX7_about_1 rfl (by decide) (fun c1 => ?_) (fun c1 => ?_)
  · have hw := hw.1 c1
    exact xt_IA C F dX7_about_9 dX7_about_12 dX7_about_13 dX7_about_16 rfl (Nat.le_of_ble_eq_true rfl) (Nat.le_of_ble_eq_true rfl) ⟨Nat.le_of_ble_eq_true rfl, Nat.le_of_ble_eq_true rfl⟩ ⟨Nat.le_of_ble_eq_true rfl, Nat.le_of_ble_eq_true rfl⟩ (xw_same _ _) ⟨_, rfl, hw⟩
  · have hw := hw.2 c1
    refine x_iload_n C dX7_about_4 rfl rfl 2 rfl ?_
    refine x_iconst C (v := (3 : Int32)) dX7_about_5 rfl (by decide) ?_
    refine x_icmp_le C 17 dX7_about_6 rfl (by decide) (fun c2 => ?_) (fun c2 => ?_)
    · have hw := hw.1 c2
      refine x_aload_n C dX7_about_17 rfl rfl 0 rfl ?_
      refine gX0_cache C i_163 dX7_about_18 rfl ?_
      refine x_iload_n C dX7_about_21 rfl rfl 1 rfl ?_
      refine k_X0_indexOf C i_287 ⟨Nat.le_of_ble_eq_true rfl, Nat.le_of_ble_eq_true rfl⟩ ⟨Nat.zero_le _, Nat.zero_le _⟩ (Nat.le_of_ble_eq_true rfl) hw dX7_about_22 rfl (fun r3 u4 hw => ?_)
      refine x_istore_n C (lv' := [(3, .int r3), (0, .ref (L 0)), (1, .int a1), (2, .int a2)]) dX7_about_25 rfl rfl (by decide) rfl ?_
      refine x_iload_n C dX7_about_26 rfl rfl 0 rfl ?_
      refine x_if_ge C 38 dX7_about_27 rfl (by decide) (fun c5 => ?_) (fun c5 => ?_)
      · have hw := hw.1 c5
        refine x_aload_n C dX7_about_38 rfl rfl 1 rfl ?_
        refine gX0_cache C i_163 dX7_about_39 rfl ?_
        refine gX1_row C i_153 dX7_about_42 rfl ?_
        refine x_iload_n C dX7_about_45 rfl rfl 0 rfl ?_
        obtain ⟨h6, hw⟩ := hw
        refine gX2_at C h6 dX7_about_46 rfl ?_
        refine x_astore C (lv' := [(4, .ref (L (15 + 2 * (X_row u4 (Int32.toNatClampNeg r3))))), (3, .int r3), (0, .ref (L 0)), (1, .int a1), (2, .int a2)]) dX7_about_47 rfl (by decide) rfl ?_
        refine x_iload_n C dX7_about_49 rfl rfl 4 rfl ?_
        by_cases c7 : a2 = 0
        · have hw := hw.1 c7
          refine x_tableIn C 76 dX7_about_50 rfl (by rw [c7]; decide) (by rw [c7]; decide) (by rw [c7]; rfl) (by decide) ?_
          refine x_aload C dX7_about_76 rfl 0 rfl ?_
          obtain ⟨h8, hw⟩ := hw
          refine gE_kind C h8 i_131 dX7_about_78 rfl ?_
          exact xx_iret C dX7_about_81 rfl (xw_same _ _) ⟨_, _, rfl, rfl, hw⟩
        by_cases c9 : a2 = 1
        · have hw := hw.2.1 c9
          refine x_tableIn C 82 dX7_about_50 rfl (by rw [c9]; decide) (by rw [c9]; decide) (by rw [c9]; rfl) (by decide) ?_
          refine x_aload C dX7_about_82 rfl 0 rfl ?_
          obtain ⟨h10, hw⟩ := hw
          refine gE_waiting C h10 i_122 dX7_about_84 rfl ?_
          exact xx_iret C dX7_about_87 rfl (xw_same _ _) ⟨_, _, rfl, rfl, hw⟩
        by_cases c11 : a2 = 2
        · have hw := hw.2.2.1 c11
          refine x_tableIn C 88 dX7_about_50 rfl (by rw [c11]; decide) (by rw [c11]; decide) (by rw [c11]; rfl) (by decide) ?_
          refine x_aload C dX7_about_88 rfl 0 rfl ?_
          obtain ⟨h12, hw⟩ := hw
          refine gE_since C h12 i_133 dX7_about_90 rfl ?_
          exact xx_iret C dX7_about_93 rfl (xw_same _ _) ⟨_, _, rfl, rfl, hw⟩
        have hw := hw.2.2.2 ⟨c7, c9, c11⟩
        refine x_tableOut C 94 dX7_about_50 rfl (x_out0_2 c7 c9 c11) (by decide) ?_
        refine x_aload C dX7_about_94 rfl 0 rfl ?_
        obtain ⟨h13, hw⟩ := hw
        refine gE_used C h13 i_136 dX7_about_96 rfl ?_
        exact xx_iret C dX7_about_99 rfl (xw_same _ _) ⟨_, _, rfl, rfl, hw⟩
      · have hw := hw.2 c5
        exact xt_NS C F dX7_about_30 dX7_about_33 dX7_about_34 dX7_about_37 rfl (Nat.le_of_ble_eq_true rfl) (Nat.le_of_ble_eq_true rfl) ⟨Nat.le_of_ble_eq_true rfl, Nat.le_of_ble_eq_true rfl⟩ ⟨Nat.le_of_ble_eq_true rfl, Nat.le_of_ble_eq_true rfl⟩ (xw_same _ _) ⟨_, rfl, hw⟩
    · have hw := hw.2 c2
      exact xt_IA C F dX7_about_9 dX7_about_12 dX7_about_13 dX7_about_16 rfl (Nat.le_of_ble_eq_true rfl) (Nat.le_of_ble_eq_true rfl) ⟨Nat.le_of_ble_eq_true rfl, Nat.le_of_ble_eq_true rfl⟩ ⟨Nat.le_of_ble_eq_true rfl, Nat.le_of_ble_eq_true rfl⟩ (xw_same _ _) ⟨_, rfl, hw⟩
def wp_X7_hardware (cap : Nat) (a1 : Int32) (u : XS) (Post : Int64 → XS → Prop) (PX : String → XS → Prop) : Prop :=
  wp_X0_indexOf cap a1 u (fun r1 u2 => ((0 ≤ r1 → vp_in r1 cap ∧ ((X_row u2 (Int32.toNatClampNeg r1)) < cap ∧ (Post (e_number (X_E u2 (X_row u2 (Int32.toNatClampNeg r1)))) u2))) ∧ (¬ (0 ≤ r1) → PX "java/util/NoSuchElementException" u2)))
set_option maxHeartbeats 4000000 in
set_option maxRecDepth 20000 in
theorem c_X7_hardware (hl : l.stackTraces = false) {a1 : Int32} {u : XS} {Post : Int64 → XS → Prop} {PX : String → XS → Prop} (hw : wp_X7_hardware cap a1 u Post PX) : xxMet l yX7_hardware cX7_hardware 3 (some .long) 8 150 1 6 G K [.ref (L 0), .int a1] (xw L K cap u T) (fun v ws' => ∃ (r : Int64) (u' : XS), v = some (.long r) ∧ ws' = (xw L K cap u' T) ∧ Post r u') (fun E ws' => ∃ u' : XS, ws' = (xw L K cap u' T) ∧ PX E u') := by
  refine xxMet.intro hl (lv := [(0, .ref (L 0)), (1, .int a1)]) (by decide) rfl (Nat.le_of_ble_eq_true rfl) rfl (fun p e s m args below meth c A C F => ?_)
  unfold wp_X7_hardware at hw
  refine x_aload_n C dX7_hardware_0 rfl rfl 0 rfl ?_
  refine gX0_cache C i_163 dX7_hardware_1 rfl ?_
  refine x_iload_n C dX7_hardware_4 rfl rfl 1 rfl ?_
  refine k_X0_indexOf C i_287 ⟨Nat.le_of_ble_eq_true rfl, Nat.le_of_ble_eq_true rfl⟩ ⟨Nat.zero_le _, Nat.zero_le _⟩ (Nat.le_of_ble_eq_true rfl) hw dX7_hardware_5 rfl (fun r1 u2 hw => ?_)
  refine x_istore_n C (lv' := [(2, .int r1), (0, .ref (L 0)), (1, .int a1)]) dX7_hardware_8 rfl rfl (by decide) rfl ?_
  refine x_iload_n C dX7_hardware_9 rfl rfl 0 rfl ?_
  refine x_if_ge C 21 dX7_hardware_10 rfl (by decide) (fun c3 => ?_) (fun c3 => ?_)
  · have hw := hw.1 c3
    refine x_aload_n C dX7_hardware_21 rfl rfl 1 rfl ?_
    refine gX0_cache C i_163 dX7_hardware_22 rfl ?_
    refine gX1_row C i_153 dX7_hardware_25 rfl ?_
    refine x_iload_n C dX7_hardware_28 rfl rfl 0 rfl ?_
    obtain ⟨h4, hw⟩ := hw
    refine gX2_at C h4 dX7_hardware_29 rfl ?_
    obtain ⟨h5, hw⟩ := hw
    refine gE_number C h5 i_128 dX7_hardware_30 rfl ?_
    exact xx_lret C dX7_hardware_33 rfl (xw_same _ _) ⟨_, _, rfl, rfl, hw⟩
  · have hw := hw.2 c3
    exact xt_NS C F dX7_hardware_13 dX7_hardware_16 dX7_hardware_17 dX7_hardware_20 rfl (Nat.le_of_ble_eq_true rfl) (Nat.le_of_ble_eq_true rfl) ⟨Nat.le_of_ble_eq_true rfl, Nat.le_of_ble_eq_true rfl⟩ ⟨Nat.le_of_ble_eq_true rfl, Nat.le_of_ble_eq_true rfl⟩ (xw_same _ _) ⟨_, rfl, hw⟩
def wp_X7_waits (cap : Nat) (a1 : Int32) (a2 : Int32) (u : XS) (Post : Int32 → XS → Prop) (PX : String → XS → Prop) : Prop :=
  wp_X0_indexOf cap a1 u (fun r1 u2 => ((0 ≤ r1 → vp_in r1 cap ∧ (((a2 < 0 → PX "java/lang/IndexOutOfBoundsException" u2) ∧ (¬ (a2 < 0) → (X_row u2 (Int32.toNatClampNeg r1)) < cap ∧ (((a2 < (e_waiting (X_E u2 (X_row u2 (Int32.toNatClampNeg r1)))) → vp_in a2 4 ∧ (Post (X_Q u2 (X_row u2 (Int32.toNatClampNeg r1)) (Int32.toNatClampNeg a2)) u2)) ∧ (¬ (a2 < (e_waiting (X_E u2 (X_row u2 (Int32.toNatClampNeg r1))))) → PX "java/lang/IndexOutOfBoundsException" u2))))))) ∧ (¬ (0 ≤ r1) → PX "java/util/NoSuchElementException" u2)))
set_option maxHeartbeats 4000000 in
set_option maxRecDepth 20000 in
theorem c_X7_waits (hl : l.stackTraces = false) {a1 : Int32} {a2 : Int32} {u : XS} {Post : Int32 → XS → Prop} {PX : String → XS → Prop} (hw : wp_X7_waits cap a1 a2 u Post PX) : xxMet l yX7_waits cX7_waits 5 (some .int) 8 150 1 6 G K [.ref (L 0), .int a1, .int a2] (xw L K cap u T) (fun v ws' => ∃ (r : Int32) (u' : XS), v = some (.int r) ∧ ws' = (xw L K cap u' T) ∧ Post r u') (fun E ws' => ∃ u' : XS, ws' = (xw L K cap u' T) ∧ PX E u') := by
  refine xxMet.intro hl (lv := [(0, .ref (L 0)), (1, .int a1), (2, .int a2)]) (by decide) rfl (Nat.le_of_ble_eq_true rfl) rfl (fun p e s m args below meth c A C F => ?_)
  unfold wp_X7_waits at hw
  refine x_aload_n C dX7_waits_0 rfl rfl 0 rfl ?_
  refine gX0_cache C i_163 dX7_waits_1 rfl ?_
  refine x_iload_n C dX7_waits_4 rfl rfl 1 rfl ?_
  refine k_X0_indexOf C i_287 ⟨Nat.le_of_ble_eq_true rfl, Nat.le_of_ble_eq_true rfl⟩ ⟨Nat.zero_le _, Nat.zero_le _⟩ (Nat.le_of_ble_eq_true rfl) hw dX7_waits_5 rfl (fun r1 u2 hw => ?_)
  refine x_istore_n C (lv' := [(3, .int r1), (0, .ref (L 0)), (1, .int a1), (2, .int a2)]) dX7_waits_8 rfl rfl (by decide) rfl ?_
  refine x_iload_n C dX7_waits_9 rfl rfl 0 rfl ?_
  refine x_if_ge C 21 dX7_waits_10 rfl (by decide) (fun c3 => ?_) (fun c3 => ?_)
  · have hw := hw.1 c3
    refine x_aload_n C dX7_waits_21 rfl rfl 1 rfl ?_
    refine gX0_cache C i_163 dX7_waits_22 rfl ?_
    refine gX1_row C i_153 dX7_waits_25 rfl ?_
    refine x_iload_n C dX7_waits_28 rfl rfl 0 rfl ?_
    obtain ⟨h4, hw⟩ := hw
    refine gX2_at C h4 dX7_waits_29 rfl ?_
    refine x_astore C (lv' := [(4, .ref (L (15 + 2 * (X_row u2 (Int32.toNatClampNeg r1))))), (3, .int r1), (0, .ref (L 0)), (1, .int a1), (2, .int a2)]) dX7_waits_30 rfl (by decide) rfl ?_
    refine x_iload_n C dX7_waits_32 rfl rfl 4 rfl ?_
    refine x_if_lt C 45 dX7_waits_33 rfl (by decide) (fun c5 => ?_) (fun c5 => ?_)
    · have hw := hw.1 c5
      exact xt_IO C F dX7_waits_45 dX7_waits_48 dX7_waits_49 dX7_waits_52 rfl (Nat.le_of_ble_eq_true rfl) (Nat.le_of_ble_eq_true rfl) ⟨Nat.le_of_ble_eq_true rfl, Nat.le_of_ble_eq_true rfl⟩ ⟨Nat.le_of_ble_eq_true rfl, Nat.le_of_ble_eq_true rfl⟩ (xw_same _ _) ⟨_, rfl, hw⟩
    · have hw := hw.2 c5
      refine x_iload_n C dX7_waits_36 rfl rfl 4 rfl ?_
      refine x_aload C dX7_waits_37 rfl 0 rfl ?_
      obtain ⟨h6, hw⟩ := hw
      refine gE_waiting C h6 i_122 dX7_waits_39 rfl ?_
      refine x_icmp_lt C 53 dX7_waits_42 rfl (by decide) (fun c7 => ?_) (fun c7 => ?_)
      · have hw := hw.1 c7
        refine x_aload C dX7_waits_53 rfl 0 rfl ?_
        refine gE_queue C h6 i_119 dX7_waits_55 rfl ?_
        refine x_iload_n C dX7_waits_58 rfl rfl 4 rfl ?_
        obtain ⟨h8, hw⟩ := hw
        refine gQ_at C h6 h8 dX7_waits_59 rfl ?_
        exact xx_iret C dX7_waits_60 rfl (xw_same _ _) ⟨_, _, rfl, rfl, hw⟩
      · have hw := hw.2 c7
        exact xt_IO C F dX7_waits_45 dX7_waits_48 dX7_waits_49 dX7_waits_52 rfl (Nat.le_of_ble_eq_true rfl) (Nat.le_of_ble_eq_true rfl) ⟨Nat.le_of_ble_eq_true rfl, Nat.le_of_ble_eq_true rfl⟩ ⟨Nat.le_of_ble_eq_true rfl, Nat.le_of_ble_eq_true rfl⟩ (xw_same _ _) ⟨_, rfl, hw⟩
  · have hw := hw.2 c3
    exact xt_NS C F dX7_waits_13 dX7_waits_16 dX7_waits_17 dX7_waits_20 rfl (Nat.le_of_ble_eq_true rfl) (Nat.le_of_ble_eq_true rfl) ⟨Nat.le_of_ble_eq_true rfl, Nat.le_of_ble_eq_true rfl⟩ ⟨Nat.le_of_ble_eq_true rfl, Nat.le_of_ble_eq_true rfl⟩ (xw_same _ _) ⟨_, rfl, hw⟩
def wp_X7_to (cap : Nat) (a1 : Int32) (u : XS) (Post : Int64 → XS → Prop) (PX : String → XS → Prop) : Prop :=
  wp_X4_holds_f cap a1 u (fun r1 u2 => ((¬ (r1 = 0) → wp_X4_slotOf_f cap a1 u2 (fun r4 u5 => vp_in r4 100 ∧ (Post (X_fg u5 (Int32.toNatClampNeg r4)) u5))) ∧ (r1 = 0 → PX "java/lang/IndexOutOfBoundsException" u2)))
set_option maxHeartbeats 4000000 in
set_option maxRecDepth 20000 in
theorem c_X7_to (hl : l.stackTraces = false) {a1 : Int32} {u : XS} {Post : Int64 → XS → Prop} {PX : String → XS → Prop} (hw : wp_X7_to cap a1 u Post PX) : xxMet l yX7_to cX7_to 2 (some .long) 8 150 1 6 G K [.ref (L 0), .int a1] (xw L K cap u T) (fun v ws' => ∃ (r : Int64) (u' : XS), v = some (.long r) ∧ ws' = (xw L K cap u' T) ∧ Post r u') (fun E ws' => ∃ u' : XS, ws' = (xw L K cap u' T) ∧ PX E u') := by
  refine xxMet.intro hl (lv := [(0, .ref (L 0)), (1, .int a1)]) (by decide) rfl (Nat.le_of_ble_eq_true rfl) rfl (fun p e s m args below meth c A C F => ?_)
  unfold wp_X7_to at hw
  refine x_aload_n C dX7_to_0 rfl rfl 0 rfl ?_
  refine gX0_frames C i_165 dX7_to_1 rfl ?_
  refine gX5_ring C i_60 dX7_to_4 rfl ?_
  refine x_iload_n C dX7_to_7 rfl rfl 1 rfl ?_
  refine k_X4_holds_f C i_574 ⟨Nat.le_of_ble_eq_true rfl, Nat.le_of_ble_eq_true rfl⟩ ⟨Nat.zero_le _, Nat.zero_le _⟩ (Nat.le_of_ble_eq_true rfl) hw dX7_to_8 rfl (fun r1 u2 hw => ?_)
  refine x_if_ne C 22 dX7_to_11 rfl (by decide) (fun c3 => ?_) (fun c3 => ?_)
  · have hw := hw.1 c3
    refine x_aload_n C dX7_to_22 rfl rfl 0 rfl ?_
    refine gX0_frames C i_165 dX7_to_23 rfl ?_
    refine gX5_goals C i_62 dX7_to_26 rfl ?_
    refine x_aload_n C dX7_to_29 rfl rfl 0 rfl ?_
    refine gX0_frames C i_165 dX7_to_30 rfl ?_
    refine gX5_ring C i_60 dX7_to_33 rfl ?_
    refine x_iload_n C dX7_to_36 rfl rfl 1 rfl ?_
    refine k_X4_slotOf_f C i_578 ⟨Nat.le_of_ble_eq_true rfl, Nat.le_of_ble_eq_true rfl⟩ ⟨Nat.zero_le _, Nat.zero_le _⟩ (Nat.le_of_ble_eq_true rfl) hw dX7_to_37 rfl (fun r4 u5 hw => ?_)
    obtain ⟨h6, hw⟩ := hw
    refine gX7_at C h6 dX7_to_40 rfl ?_
    exact xx_lret C dX7_to_41 rfl (xw_same _ _) ⟨_, _, rfl, rfl, hw⟩
  · have hw := hw.2 c3
    exact xt_IO C F dX7_to_14 dX7_to_17 dX7_to_18 dX7_to_21 rfl (Nat.le_of_ble_eq_true rfl) (Nat.le_of_ble_eq_true rfl) ⟨Nat.le_of_ble_eq_true rfl, Nat.le_of_ble_eq_true rfl⟩ ⟨Nat.le_of_ble_eq_true rfl, Nat.le_of_ble_eq_true rfl⟩ (xw_same _ _) ⟨_, rfl, hw⟩
def wp_X7_data (cap : Nat) (a1 : Int32) (u : XS) (Post : Int32 → XS → Prop) (PX : String → XS → Prop) : Prop :=
  wp_X4_holds_f cap a1 u (fun r1 u2 => ((¬ (r1 = 0) → wp_X4_slotOf_f cap a1 u2 (fun r4 u5 => vp_in r4 100 ∧ (Post (X_fn u5 (Int32.toNatClampNeg r4)) u5))) ∧ (r1 = 0 → PX "java/lang/IndexOutOfBoundsException" u2)))
set_option maxHeartbeats 4000000 in
set_option maxRecDepth 20000 in
theorem c_X7_data (hl : l.stackTraces = false) {a1 : Int32} {u : XS} {Post : Int32 → XS → Prop} {PX : String → XS → Prop} (hw : wp_X7_data cap a1 u Post PX) : xxMet l yX7_data cX7_data 2 (some .int) 8 150 1 6 G K [.ref (L 0), .int a1] (xw L K cap u T) (fun v ws' => ∃ (r : Int32) (u' : XS), v = some (.int r) ∧ ws' = (xw L K cap u' T) ∧ Post r u') (fun E ws' => ∃ u' : XS, ws' = (xw L K cap u' T) ∧ PX E u') := by
  refine xxMet.intro hl (lv := [(0, .ref (L 0)), (1, .int a1)]) (by decide) rfl (Nat.le_of_ble_eq_true rfl) rfl (fun p e s m args below meth c A C F => ?_)
  unfold wp_X7_data at hw
  refine x_aload_n C dX7_data_0 rfl rfl 0 rfl ?_
  refine gX0_frames C i_165 dX7_data_1 rfl ?_
  refine gX5_ring C i_60 dX7_data_4 rfl ?_
  refine x_iload_n C dX7_data_7 rfl rfl 1 rfl ?_
  refine k_X4_holds_f C i_574 ⟨Nat.le_of_ble_eq_true rfl, Nat.le_of_ble_eq_true rfl⟩ ⟨Nat.zero_le _, Nat.zero_le _⟩ (Nat.le_of_ble_eq_true rfl) hw dX7_data_8 rfl (fun r1 u2 hw => ?_)
  refine x_if_ne C 22 dX7_data_11 rfl (by decide) (fun c3 => ?_) (fun c3 => ?_)
  · have hw := hw.1 c3
    refine x_aload_n C dX7_data_22 rfl rfl 0 rfl ?_
    refine gX0_frames C i_165 dX7_data_23 rfl ?_
    refine gX5_numbers C i_64 dX7_data_26 rfl ?_
    refine x_aload_n C dX7_data_29 rfl rfl 0 rfl ?_
    refine gX0_frames C i_165 dX7_data_30 rfl ?_
    refine gX5_ring C i_60 dX7_data_33 rfl ?_
    refine x_iload_n C dX7_data_36 rfl rfl 1 rfl ?_
    refine k_X4_slotOf_f C i_578 ⟨Nat.le_of_ble_eq_true rfl, Nat.le_of_ble_eq_true rfl⟩ ⟨Nat.zero_le _, Nat.zero_le _⟩ (Nat.le_of_ble_eq_true rfl) hw dX7_data_37 rfl (fun r4 u5 hw => ?_)
    obtain ⟨h6, hw⟩ := hw
    refine gX8_at C h6 dX7_data_40 rfl ?_
    exact xx_iret C dX7_data_41 rfl (xw_same _ _) ⟨_, _, rfl, rfl, hw⟩
  · have hw := hw.2 c3
    exact xt_IO C F dX7_data_14 dX7_data_17 dX7_data_18 dX7_data_21 rfl (Nat.le_of_ble_eq_true rfl) (Nat.le_of_ble_eq_true rfl) ⟨Nat.le_of_ble_eq_true rfl, Nat.le_of_ble_eq_true rfl⟩ ⟨Nat.le_of_ble_eq_true rfl, Nat.le_of_ble_eq_true rfl⟩ (xw_same _ _) ⟨_, rfl, hw⟩
def wp_X7_out (cap : Nat) (a1 : Int32) (a2 : Int32) (u : XS) (Post : Int32 → XS → Prop) (PX : String → XS → Prop) : Prop :=
  wp_X4_holds_f cap a1 u (fun r1 u2 => ((r1 = 0 → PX "java/lang/IndexOutOfBoundsException" u2) ∧ (¬ (r1 = 0) → wp_X2_isPacket cap a1 u2 (fun r4 u5 => ((r4 = 0 → PX "java/lang/IndexOutOfBoundsException" u5) ∧ (¬ (r4 = 0) → ((a2 < 0 → PX "java/lang/IndexOutOfBoundsException" u5) ∧ (¬ (a2 < 0) → ((a2 < (28 : Int32) → wp_X2_byteOf cap a1 a2 u5 (fun r9 u10 => Post r9 u10)) ∧ (¬ (a2 < (28 : Int32)) → PX "java/lang/IndexOutOfBoundsException" u5))))))))))
set_option maxHeartbeats 4000000 in
set_option maxRecDepth 20000 in
theorem c_X7_out (hl : l.stackTraces = false) {a1 : Int32} {a2 : Int32} {u : XS} {Post : Int32 → XS → Prop} {PX : String → XS → Prop} (hw : wp_X7_out cap a1 a2 u Post PX) : xxMet l yX7_out cX7_out 3 (some .int) 8 150 1 6 G K [.ref (L 0), .int a1, .int a2] (xw L K cap u T) (fun v ws' => ∃ (r : Int32) (u' : XS), v = some (.int r) ∧ ws' = (xw L K cap u' T) ∧ Post r u') (fun E ws' => ∃ u' : XS, ws' = (xw L K cap u' T) ∧ PX E u') := by
  refine xxMet.intro hl (lv := [(0, .ref (L 0)), (1, .int a1), (2, .int a2)]) (by decide) rfl (Nat.le_of_ble_eq_true rfl) rfl (fun p e s m args below meth c A C F => ?_)
  unfold wp_X7_out at hw
  refine x_aload_n C dX7_out_0 rfl rfl 0 rfl ?_
  refine gX0_frames C i_165 dX7_out_1 rfl ?_
  refine gX5_ring C i_60 dX7_out_4 rfl ?_
  refine x_iload_n C dX7_out_7 rfl rfl 1 rfl ?_
  refine k_X4_holds_f C i_574 ⟨Nat.le_of_ble_eq_true rfl, Nat.le_of_ble_eq_true rfl⟩ ⟨Nat.zero_le _, Nat.zero_le _⟩ (Nat.le_of_ble_eq_true rfl) hw dX7_out_8 rfl (fun r1 u2 hw => ?_)
  refine x_if_eq C 35 dX7_out_11 rfl (by decide) (fun c3 => ?_) (fun c3 => ?_)
  · have hw := hw.1 c3
    exact xt_IO C F dX7_out_35 dX7_out_38 dX7_out_39 dX7_out_42 rfl (Nat.le_of_ble_eq_true rfl) (Nat.le_of_ble_eq_true rfl) ⟨Nat.le_of_ble_eq_true rfl, Nat.le_of_ble_eq_true rfl⟩ ⟨Nat.le_of_ble_eq_true rfl, Nat.le_of_ble_eq_true rfl⟩ (xw_same _ _) ⟨_, rfl, hw⟩
  · have hw := hw.2 c3
    refine x_aload_n C dX7_out_14 rfl rfl 0 rfl ?_
    refine gX0_frames C i_165 dX7_out_15 rfl ?_
    refine x_iload_n C dX7_out_18 rfl rfl 1 rfl ?_
    refine k_X2_isPacket C i_597 ⟨Nat.le_of_ble_eq_true rfl, Nat.le_of_ble_eq_true rfl⟩ ⟨Nat.zero_le _, Nat.zero_le _⟩ (Nat.le_of_ble_eq_true rfl) hw dX7_out_19 rfl (fun r4 u5 hw => ?_)
    refine x_if_eq C 35 dX7_out_22 rfl (by decide) (fun c6 => ?_) (fun c6 => ?_)
    · have hw := hw.1 c6
      exact xt_IO C F dX7_out_35 dX7_out_38 dX7_out_39 dX7_out_42 rfl (Nat.le_of_ble_eq_true rfl) (Nat.le_of_ble_eq_true rfl) ⟨Nat.le_of_ble_eq_true rfl, Nat.le_of_ble_eq_true rfl⟩ ⟨Nat.le_of_ble_eq_true rfl, Nat.le_of_ble_eq_true rfl⟩ (xw_same _ _) ⟨_, rfl, hw⟩
    · have hw := hw.2 c6
      refine x_iload_n C dX7_out_25 rfl rfl 2 rfl ?_
      refine x_if_lt C 35 dX7_out_26 rfl (by decide) (fun c7 => ?_) (fun c7 => ?_)
      · have hw := hw.1 c7
        exact xt_IO C F dX7_out_35 dX7_out_38 dX7_out_39 dX7_out_42 rfl (Nat.le_of_ble_eq_true rfl) (Nat.le_of_ble_eq_true rfl) ⟨Nat.le_of_ble_eq_true rfl, Nat.le_of_ble_eq_true rfl⟩ ⟨Nat.le_of_ble_eq_true rfl, Nat.le_of_ble_eq_true rfl⟩ (xw_same _ _) ⟨_, rfl, hw⟩
      · have hw := hw.2 c7
        refine x_iload_n C dX7_out_29 rfl rfl 2 rfl ?_
        refine x_bipush C (v := (28 : Int32)) dX7_out_30 rfl (by decide) ?_
        refine x_icmp_lt C 43 dX7_out_32 rfl (by decide) (fun c8 => ?_) (fun c8 => ?_)
        · have hw := hw.1 c8
          refine x_aload_n C dX7_out_43 rfl rfl 0 rfl ?_
          refine gX0_frames C i_165 dX7_out_44 rfl ?_
          refine x_iload_n C dX7_out_47 rfl rfl 1 rfl ?_
          refine x_iload_n C dX7_out_48 rfl rfl 2 rfl ?_
          refine k_X2_byteOf C i_602 ⟨Nat.le_of_ble_eq_true rfl, Nat.le_of_ble_eq_true rfl⟩ ⟨Nat.zero_le _, Nat.zero_le _⟩ (Nat.le_of_ble_eq_true rfl) hw dX7_out_49 rfl (fun r9 u10 hw => ?_)
          exact xx_iret C dX7_out_52 rfl (xw_same _ _) ⟨_, _, rfl, rfl, hw⟩
        · have hw := hw.2 c8
          exact xt_IO C F dX7_out_35 dX7_out_38 dX7_out_39 dX7_out_42 rfl (Nat.le_of_ble_eq_true rfl) (Nat.le_of_ble_eq_true rfl) ⟨Nat.le_of_ble_eq_true rfl, Nat.le_of_ble_eq_true rfl⟩ ⟨Nat.le_of_ble_eq_true rfl, Nat.le_of_ble_eq_true rfl⟩ (xw_same _ _) ⟨_, rfl, hw⟩
def wp_X7_lost (cap : Nat) (a1 : Int32) (u : XS) (Post : Int32 → XS → Prop) (PX : String → XS → Prop) : Prop :=
  wp_X4_holds_l cap a1 u (fun r1 u2 => ((¬ (r1 = 0) → wp_X4_slotOf_l cap a1 u2 (fun r4 u5 => vp_in r4 100 ∧ (Post (X_ln u5 (Int32.toNatClampNeg r4)) u5))) ∧ (r1 = 0 → PX "java/lang/IndexOutOfBoundsException" u2)))
set_option maxHeartbeats 4000000 in
set_option maxRecDepth 20000 in
theorem c_X7_lost (hl : l.stackTraces = false) {a1 : Int32} {u : XS} {Post : Int32 → XS → Prop} {PX : String → XS → Prop} (hw : wp_X7_lost cap a1 u Post PX) : xxMet l yX7_lost cX7_lost 2 (some .int) 8 150 1 6 G K [.ref (L 0), .int a1] (xw L K cap u T) (fun v ws' => ∃ (r : Int32) (u' : XS), v = some (.int r) ∧ ws' = (xw L K cap u' T) ∧ Post r u') (fun E ws' => ∃ u' : XS, ws' = (xw L K cap u' T) ∧ PX E u') := by
  refine xxMet.intro hl (lv := [(0, .ref (L 0)), (1, .int a1)]) (by decide) rfl (Nat.le_of_ble_eq_true rfl) rfl (fun p e s m args below meth c A C F => ?_)
  unfold wp_X7_lost at hw
  refine x_aload_n C dX7_lost_0 rfl rfl 0 rfl ?_
  refine gX0_losses C i_166 dX7_lost_1 rfl ?_
  refine gX11_ring C i_90 dX7_lost_4 rfl ?_
  refine x_iload_n C dX7_lost_7 rfl rfl 1 rfl ?_
  refine k_X4_holds_l C i_574 ⟨Nat.le_of_ble_eq_true rfl, Nat.le_of_ble_eq_true rfl⟩ ⟨Nat.zero_le _, Nat.zero_le _⟩ (Nat.le_of_ble_eq_true rfl) hw dX7_lost_8 rfl (fun r1 u2 hw => ?_)
  refine x_if_ne C 22 dX7_lost_11 rfl (by decide) (fun c3 => ?_) (fun c3 => ?_)
  · have hw := hw.1 c3
    refine x_aload_n C dX7_lost_22 rfl rfl 0 rfl ?_
    refine gX0_losses C i_166 dX7_lost_23 rfl ?_
    refine gX11_numbers C i_92 dX7_lost_26 rfl ?_
    refine x_aload_n C dX7_lost_29 rfl rfl 0 rfl ?_
    refine gX0_losses C i_166 dX7_lost_30 rfl ?_
    refine gX11_ring C i_90 dX7_lost_33 rfl ?_
    refine x_iload_n C dX7_lost_36 rfl rfl 1 rfl ?_
    refine k_X4_slotOf_l C i_578 ⟨Nat.le_of_ble_eq_true rfl, Nat.le_of_ble_eq_true rfl⟩ ⟨Nat.zero_le _, Nat.zero_le _⟩ (Nat.le_of_ble_eq_true rfl) hw dX7_lost_37 rfl (fun r4 u5 hw => ?_)
    obtain ⟨h6, hw⟩ := hw
    refine gX13_at C h6 dX7_lost_40 rfl ?_
    exact xx_iret C dX7_lost_41 rfl (xw_same _ _) ⟨_, _, rfl, rfl, hw⟩
  · have hw := hw.2 c3
    exact xt_IO C F dX7_lost_14 dX7_lost_17 dX7_lost_18 dX7_lost_21 rfl (Nat.le_of_ble_eq_true rfl) (Nat.le_of_ble_eq_true rfl) ⟨Nat.le_of_ble_eq_true rfl, Nat.le_of_ble_eq_true rfl⟩ ⟨Nat.le_of_ble_eq_true rfl, Nat.le_of_ble_eq_true rfl⟩ (xw_same _ _) ⟨_, rfl, hw⟩
end XWK
