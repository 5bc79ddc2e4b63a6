/-! walks: the reference -/
section XWK
variable {p : Program} {l : Launch} {e : Env} {R : Room} {s : State} {m : MethodId} {args : Array Value} {below : List Frame} {meth : Method} {c : Code} {G : va_G} {A : Nat → Prop} {nL : Nat} {Q : State → Prop} {cells slots : Nat} {K : Nat → ClassId} {cc : ByteArray} {own : String} {ret : Option FieldType} {pc n : Nat} {lv : List (Nat × Value)} {st : List Value} {L : Nat → Nat} {cap : Nat} {T ws : va_W}
def wp_X8_thrown (u : MS) (Post : Int32 → MS → Prop) : Prop :=
  Post (M_thrown u) u
set_option maxHeartbeats 4000000 in
set_option maxRecDepth 20000 in
theorem c_X8_thrown {u : MS} {Post : Int32 → MS → Prop} (hw : wp_X8_thrown  u Post) : xMet l yX8_thrown cX8_thrown 1 (some .int) 0 0 0 0 G K [.ref (L 0)] (mw L K u T) (fun v ws' => ∃ (r : Int32) (u' : MS), v = some (.int r) ∧ ws' = (mw L K u' T) ∧ Post r u') := by
  refine xMet.intro (lv := [(0, .ref (L 0))]) (by decide) rfl (Nat.le_of_ble_eq_true rfl) rfl (fun p e s m args below meth c A C => ?_)
  unfold wp_X8_thrown at hw
  refine x_aload_n C dX8_thrown_0 rfl rfl 0 rfl ?_
  refine gM0_thrown C i_620 dX8_thrown_1 rfl ?_
  exact x_iret C dX8_thrown_4 rfl (mw_same _ _) ⟨_, _, rfl, rfl, hw⟩
set_option maxRecDepth 20000 in
theorem k_X8_thrown (C : xCx p s m args meth c G K A nL cc own ret) {u : MS} {idx : Nat} {rest : List Value} {Post : Int32 → MS → Prop} (hlink : Cond.methodLink own idx yX8_thrown ∈ gw_tbl) (hR : 0 + 1 ≤ R.frames ∧ 8 + (1 + 11) + 0 ≤ R.locals) (hf : cells ≤ R.cells ∧ slots ≤ R.slots) (hW : (rest.map fun v => v.category).sum ≤ 8) (hw : wp_X8_thrown  u Post) (hdg : decode cc n = .ok (.invokevirtual idx, 3)) (hp : pc = n) (kk : ∀ (r : Int32) (u' : MS), Post r u' → xV p l e R s m args below meth c G A nL Q cells slots (mw L K u' T) (n + 3) lv (.int r :: rest)) : xV p l e R s m args below meth c G A nL Q cells slots (mw L K u T) pc lv (.ref (L 0) :: rest) :=
  x_callV C (As := []) (c_X8_thrown hw) ⟨hlink, i_703, i_704, i_9, i_705⟩ 0 rfl rfl rfl (k := 0) (by decide +kernel) rfl hR hf hW rfl hdg hp (fun v ws' ⟨r, u', hv, hws, hPo⟩ _ => by subst hv; subst hws; exact kk r u' hPo)
def jn_X8_here_31 (Post : MS → Prop) (x1 : Int64) (t0 : Int32) (u : MS) : Prop :=
  (∀ (u1 : MS), u1 = Ms_thrown u t0 → (((M_thrown u1) ≤ 0 → (∀ (u4 : MS), u4 = Ms_here u1 x1 → Post u4)) ∧ (¬ ((M_thrown u1) ≤ 0) → (∀ (u6 : MS), u6 = Ms_here u1 (M_here u1) → Post u6))))
set_option maxHeartbeats 4000000 in
set_option maxRecDepth 20000 in
theorem t_X8_here_31 (C : xCx p s m args meth c G K A 3 cX8_here RX8 none) {u0 : MS} {Post : MS → Prop} (x1 : Int64) (t0 : Int32) (u : MS) (hw : jn_X8_here_31  Post x1 t0 u) : xV p l e (xRm 0 0 0 0) s m args below meth c G A 3 (xQ G A (mw L K u0 T) (fun v ws' => ∃ u' : MS, v = none ∧ ws' = (mw L K u' T) ∧ Post u') below args s 0 0) 0 0 (mw L K u T) 31 [(0, .ref (L 0)), (1, .long x1)] [.int t0, .ref (L 0)] := by
  unfold jn_X8_here_31 at hw
  refine pM0_thrown C i_620 dX8_here_31 rfl (fun u1 e2 => ?_)
  have hw := hw u1 e2
  refine x_aload_n C dX8_here_34 rfl rfl 0 rfl ?_
  refine x_aload_n C dX8_here_35 rfl rfl 0 rfl ?_
  refine gM0_thrown C i_620 dX8_here_36 rfl ?_
  refine x_if_le C 49 dX8_here_39 rfl (by decide) (fun c3 => ?_) (fun c3 => ?_)
  · have hw := hw.1 c3
    refine x_lload_n C dX8_here_49 rfl rfl 1 rfl ?_
    refine pM0_here C i_624 dX8_here_50 rfl (fun u4 e5 => ?_)
    have hw := hw u4 e5
    exact x_vret C dX8_here_53 rfl (mw_same _ _) ⟨_, rfl, rfl, hw⟩
  · have hw := hw.2 c3
    refine x_aload_n C dX8_here_42 rfl rfl 0 rfl ?_
    refine gM0_here C i_624 dX8_here_43 rfl ?_
    refine x_goto C (tgt := 50) dX8_here_46 rfl (by decide) ?_
    refine pM0_here C i_624 dX8_here_50 rfl (fun u6 e7 => ?_)
    have hw := hw u6 e7
    exact x_vret C dX8_here_53 rfl (mw_same _ _) ⟨_, rfl, rfl, hw⟩
def jn_X8_here_15 (Post : MS → Prop) (x1 : Int64) (u : MS) : Prop :=
  jn_X8_here_31 Post x1 (1 : Int32) u
set_option maxHeartbeats 4000000 in
set_option maxRecDepth 20000 in
theorem t_X8_here_15 (C : xCx p s m args meth c G K A 3 cX8_here RX8 none) {u0 : MS} {Post : MS → Prop} (x1 : Int64) (u : MS) (hw : jn_X8_here_15  Post x1 u) : xV p l e (xRm 0 0 0 0) s m args below meth c G A 3 (xQ G A (mw L K u0 T) (fun v ws' => ∃ u' : MS, v = none ∧ ws' = (mw L K u' T) ∧ Post u') below args s 0 0) 0 0 (mw L K u T) 15 [(0, .ref (L 0)), (1, .long x1)] [.ref (L 0)] := by
  unfold jn_X8_here_15 at hw
  refine x_iconst C (v := (1 : Int32)) dX8_here_15 rfl (by decide) ?_
  refine x_goto C (tgt := 31) dX8_here_16 rfl (by decide) ?_
  refine x_lv [0, 1] rfl ?_
  exact t_X8_here_31 C x1 (1 : Int32) u hw
def wp_X8_here (a1 : Int64) (u : MS) (Post : MS → Prop) : Prop :=
  ((a1 < (1 : Int64) → jn_X8_here_15 Post a1 u) ∧ (¬ (a1 < (1 : Int64)) → ((a1 ≤ (281474976710654 : Int64) → (((M_phase u) = 0 → jn_X8_here_31 Post a1 (0 : Int32) u) ∧ (¬ ((M_phase u) = 0) → jn_X8_here_31 Post a1 (2 : Int32) u))) ∧ (¬ (a1 ≤ (281474976710654 : Int64)) → jn_X8_here_15 Post a1 u))))
set_option maxHeartbeats 4000000 in
set_option maxRecDepth 20000 in
theorem c_X8_here {a1 : Int64} {u : MS} {Post : MS → Prop} (hw : wp_X8_here a1 u Post) : xMet l yX8_here cX8_here 3 none 0 0 0 0 G K [.ref (L 0), .long a1] (mw L K u T) (fun v ws' => ∃ u' : MS, v = none ∧ ws' = (mw L K u' T) ∧ Post u') := by
  refine xMet.intro (lv := [(0, .ref (L 0)), (1, .long a1)]) (by decide) rfl (Nat.le_of_ble_eq_true rfl) rfl (fun p e s m args below meth c A C => ?_)
  unfold wp_X8_here at hw
  refine x_aload_n C dX8_here_0 rfl rfl 0 rfl ?_
  refine x_lload_n C dX8_here_1 rfl rfl 1 rfl ?_
  refine x_lconst C (v := (1 : Int64)) dX8_here_2 rfl (by decide) ?_
  refine x_lc_lt C 15 dX8_here_3 dX8_here_4 rfl (by decide) (fun c1 => ?_) (fun c1 => ?_)
  · have hw := hw.1 c1
    refine x_lv [0, 1] rfl ?_
    exact t_X8_here_15 C a1 u hw
  · have hw := hw.2 c1
    refine x_lload_n C dX8_here_7 rfl rfl 1 rfl ?_
    refine x_ldc2 C dX8_here_8 rfl i_710 ?_
    refine x_lc_le C 19 dX8_here_11 dX8_here_12 rfl (by decide) (fun c2 => ?_) (fun c2 => ?_)
    · have hw := hw.1 c2
      refine x_aload_n C dX8_here_19 rfl rfl 0 rfl ?_
      refine gM0_phase C i_627 dX8_here_20 rfl ?_
      refine x_if_eq C 30 dX8_here_23 rfl (by decide) (fun c3 => ?_) (fun c3 => ?_)
      · have hw := hw.1 c3
        refine x_iconst C (v := (0 : Int32)) dX8_here_30 rfl (by decide) ?_
        refine x_lv [0, 1] rfl ?_
        exact t_X8_here_31 C a1 (0 : Int32) u hw
      · have hw := hw.2 c3
        refine x_iconst C (v := (2 : Int32)) dX8_here_26 rfl (by decide) ?_
        refine x_goto C (tgt := 31) dX8_here_27 rfl (by decide) ?_
        refine x_lv [0, 1] rfl ?_
        exact t_X8_here_31 C a1 (2 : Int32) u hw
    · have hw := hw.2 c2
      refine x_lv [0, 1] rfl ?_
      exact t_X8_here_15 C a1 u hw
set_option maxRecDepth 20000 in
theorem k_X8_here (C : xCx p s m args meth c G K A nL cc own ret) {a1 : Int64} {u : MS} {idx : Nat} {rest : List Value} {Post : MS → Prop} (hlink : Cond.methodLink own idx yX8_here ∈ gw_tbl) (hR : 0 + 1 ≤ R.frames ∧ 8 + (3 + 11) + 0 ≤ R.locals) (hf : cells ≤ R.cells ∧ slots ≤ R.slots) (hW : (rest.map fun v => v.category).sum ≤ 8) (hw : wp_X8_here a1 u Post) (hdg : decode cc n = .ok (.invokevirtual idx, 3)) (hp : pc = n) (kk : ∀ u' : MS, Post u' → xV p l e R s m args below meth c G A nL Q cells slots (mw L K u' T) (n + 3) lv rest) : xV p l e R s m args below meth c G A nL Q cells slots (mw L K u T) pc lv (.long a1 :: .ref (L 0) :: rest) :=
  x_callV C (As := [.long a1]) (c_X8_here hw) ⟨hlink, i_707, i_708, i_9, i_709⟩ 0 rfl rfl rfl (k := 1) (by decide +kernel) rfl hR hf hW rfl hdg hp (fun v ws' ⟨u', hv, hws, hPo⟩ _ => by subst hv; subst hws; exact kk u' hPo)
def wp_X8_byteOf (a0 : Int32) (a1 : Int32) (a2 : Int64) (a4 : Int32) (a5 : Int64) (a7 : Int32) (Post : Int32 → Prop) : Prop :=
  (((6 : Int32) ≤ a0 → (((8 : Int32) ≤ a0 → (((14 : Int32) ≤ a0 → (((18 : Int32) ≤ a0 → (((24 : Int32) ≤ a0 → Post ((a7 >>> (((8 : Int32) * ((27 : Int32) - a0)) &&& 31)) &&& (255 : Int32))) ∧ (¬ ((24 : Int32) ≤ a0) → Post ((Int64.toInt32 (a5 >>> (Int32.toInt64 ((8 : Int32) * ((23 : Int32) - a0)) &&& 63))) &&& (255 : Int32))))) ∧ (¬ ((18 : Int32) ≤ a0) → Post ((a4 >>> (((8 : Int32) * ((17 : Int32) - a0)) &&& 31)) &&& (255 : Int32))))) ∧ (¬ ((14 : Int32) ≤ a0) → Post ((Int64.toInt32 (a2 >>> (Int32.toInt64 ((8 : Int32) * ((13 : Int32) - a0)) &&& 63))) &&& (255 : Int32))))) ∧ (¬ ((8 : Int32) ≤ a0) → Post ((a1 >>> (((8 : Int32) * ((7 : Int32) - a0)) &&& 31)) &&& (255 : Int32))))) ∧ (¬ ((6 : Int32) ≤ a0) → ((¬ (a0 = (1 : Int32)) → ((¬ (a0 = (2 : Int32)) → ((¬ (a0 = (4 : Int32)) → ((¬ (a0 = (5 : Int32)) → Post (0 : Int32)) ∧ (a0 = (5 : Int32) → Post (4 : Int32)))) ∧ (a0 = (4 : Int32) → Post (6 : Int32)))) ∧ (a0 = (2 : Int32) → Post (8 : Int32)))) ∧ (a0 = (1 : Int32) → Post (1 : Int32)))))
set_option maxHeartbeats 4000000 in
set_option maxRecDepth 20000 in
theorem c_X8_byteOf {a0 : Int32} {a1 : Int32} {a2 : Int64} {a4 : Int32} {a5 : Int64} {a7 : Int32} {Post : Int32 → Prop} (hw : wp_X8_byteOf a0 a1 a2 a4 a5 a7 Post) : xMet l yX8_byteOf cX8_byteOf 8 (some .int) 0 0 0 0 G K [.int a0, .int a1, .long a2, .int a4, .long a5, .int a7] ws (fun v ws' => ∃ r : Int32, v = some (.int r) ∧ ws' = ws ∧ Post r) := by
  refine xMet.intro (lv := [(0, .int a0), (1, .int a1), (2, .long a2), (4, .int a4), (5, .long a5), (7, .int a7)]) (by decide) rfl (Nat.le_of_ble_eq_true rfl) rfl (fun p e s m args below meth c A C => ?_)
  unfold wp_X8_byteOf at hw
  refine x_iload_n C dX8_byteOf_0 rfl rfl 0 rfl ?_
  refine x_bipush C (v := (6 : Int32)) dX8_byteOf_1 rfl (by decide) ?_
  refine x_icmp_ge C 46 dX8_byteOf_3 rfl (by decide) (fun c1 => ?_) (fun c1 => ?_)
  · have hw := hw.1 c1
    refine x_iload_n C dX8_byteOf_46 rfl rfl 0 rfl ?_
    refine x_bipush C (v := (8 : Int32)) dX8_byteOf_47 rfl (by decide) ?_
    refine x_icmp_ge C 66 dX8_byteOf_49 rfl (by decide) (fun c2 => ?_) (fun c2 => ?_)
    · have hw := hw.1 c2
      refine x_iload_n C dX8_byteOf_66 rfl rfl 0 rfl ?_
      refine x_bipush C (v := (14 : Int32)) dX8_byteOf_67 rfl (by decide) ?_
      refine x_icmp_ge C 87 dX8_byteOf_69 rfl (by decide) (fun c3 => ?_) (fun c3 => ?_)
      · have hw := hw.1 c3
        refine x_iload_n C dX8_byteOf_87 rfl rfl 0 rfl ?_
        refine x_bipush C (v := (18 : Int32)) dX8_byteOf_88 rfl (by decide) ?_
        refine x_icmp_ge C 108 dX8_byteOf_90 rfl (by decide) (fun c4 => ?_) (fun c4 => ?_)
        · have hw := hw.1 c4
          refine x_iload_n C dX8_byteOf_108 rfl rfl 0 rfl ?_
          refine x_bipush C (v := (24 : Int32)) dX8_byteOf_109 rfl (by decide) ?_
          refine x_icmp_ge C 132 dX8_byteOf_111 rfl (by decide) (fun c5 => ?_) (fun c5 => ?_)
          · have hw := hw.1 c5
            refine x_iload C dX8_byteOf_132 rfl 5 rfl ?_
            refine x_bipush C (v := (8 : Int32)) dX8_byteOf_134 rfl (by decide) ?_
            refine x_bipush C (v := (27 : Int32)) dX8_byteOf_136 rfl (by decide) ?_
            refine x_iload_n C dX8_byteOf_138 rfl rfl 0 rfl ?_
            refine x_isub C dX8_byteOf_139 rfl ?_
            refine x_imul C dX8_byteOf_140 rfl ?_
            refine x_ishr C dX8_byteOf_141 rfl ?_
            refine x_sipush C (v := (255 : Int32)) dX8_byteOf_142 rfl (by decide) ?_
            refine x_iand C dX8_byteOf_145 rfl ?_
            exact x_iret C dX8_byteOf_146 rfl rfl ⟨_, rfl, rfl, hw⟩
          · have hw := hw.2 c5
            refine x_lload C dX8_byteOf_114 rfl 4 rfl ?_
            refine x_bipush C (v := (8 : Int32)) dX8_byteOf_116 rfl (by decide) ?_
            refine x_bipush C (v := (23 : Int32)) dX8_byteOf_118 rfl (by decide) ?_
            refine x_iload_n C dX8_byteOf_120 rfl rfl 0 rfl ?_
            refine x_isub C dX8_byteOf_121 rfl ?_
            refine x_imul C dX8_byteOf_122 rfl ?_
            refine x_lshr C dX8_byteOf_123 rfl ?_
            refine x_l2i C dX8_byteOf_124 rfl ?_
            refine x_sipush C (v := (255 : Int32)) dX8_byteOf_125 rfl (by decide) ?_
            refine x_iand C dX8_byteOf_128 rfl ?_
            refine x_goto C (tgt := 146) dX8_byteOf_129 rfl (by decide) ?_
            exact x_iret C dX8_byteOf_146 rfl rfl ⟨_, rfl, rfl, hw⟩
        · have hw := hw.2 c4
          refine x_iload C dX8_byteOf_93 rfl 3 rfl ?_
          refine x_bipush C (v := (8 : Int32)) dX8_byteOf_95 rfl (by decide) ?_
          refine x_bipush C (v := (17 : Int32)) dX8_byteOf_97 rfl (by decide) ?_
          refine x_iload_n C dX8_byteOf_99 rfl rfl 0 rfl ?_
          refine x_isub C dX8_byteOf_100 rfl ?_
          refine x_imul C dX8_byteOf_101 rfl ?_
          refine x_ishr C dX8_byteOf_102 rfl ?_
          refine x_sipush C (v := (255 : Int32)) dX8_byteOf_103 rfl (by decide) ?_
          refine x_iand C dX8_byteOf_106 rfl ?_
          exact x_iret C dX8_byteOf_107 rfl rfl ⟨_, rfl, rfl, hw⟩
      · have hw := hw.2 c3
        refine x_lload_n C dX8_byteOf_72 rfl rfl 2 rfl ?_
        refine x_bipush C (v := (8 : Int32)) dX8_byteOf_73 rfl (by decide) ?_
        refine x_bipush C (v := (13 : Int32)) dX8_byteOf_75 rfl (by decide) ?_
        refine x_iload_n C dX8_byteOf_77 rfl rfl 0 rfl ?_
        refine x_isub C dX8_byteOf_78 rfl ?_
        refine x_imul C dX8_byteOf_79 rfl ?_
        refine x_lshr C dX8_byteOf_80 rfl ?_
        refine x_l2i C dX8_byteOf_81 rfl ?_
        refine x_sipush C (v := (255 : Int32)) dX8_byteOf_82 rfl (by decide) ?_
        refine x_iand C dX8_byteOf_85 rfl ?_
        exact x_iret C dX8_byteOf_86 rfl rfl ⟨_, rfl, rfl, hw⟩
    · have hw := hw.2 c2
      refine x_iload_n C dX8_byteOf_52 rfl rfl 1 rfl ?_
      refine x_bipush C (v := (8 : Int32)) dX8_byteOf_53 rfl (by decide) ?_
      refine x_bipush C (v := (7 : Int32)) dX8_byteOf_55 rfl (by decide) ?_
      refine x_iload_n C dX8_byteOf_57 rfl rfl 0 rfl ?_
      refine x_isub C dX8_byteOf_58 rfl ?_
      refine x_imul C dX8_byteOf_59 rfl ?_
      refine x_ishr C dX8_byteOf_60 rfl ?_
      refine x_sipush C (v := (255 : Int32)) dX8_byteOf_61 rfl (by decide) ?_
      refine x_iand C dX8_byteOf_64 rfl ?_
      exact x_iret C dX8_byteOf_65 rfl rfl ⟨_, rfl, rfl, hw⟩
  · have hw := hw.2 c1
    refine x_iload_n C dX8_byteOf_6 rfl rfl 0 rfl ?_
    refine x_iconst C (v := (1 : Int32)) dX8_byteOf_7 rfl (by decide) ?_
    refine x_icmp_ne C 15 dX8_byteOf_8 rfl (by decide) (fun c6 => ?_) (fun c6 => ?_)
    · have hw := hw.1 c6
      refine x_iload_n C dX8_byteOf_15 rfl rfl 0 rfl ?_
      refine x_iconst C (v := (2 : Int32)) dX8_byteOf_16 rfl (by decide) ?_
      refine x_icmp_ne C 25 dX8_byteOf_17 rfl (by decide) (fun c7 => ?_) (fun c7 => ?_)
      · have hw := hw.1 c7
        refine x_iload_n C dX8_byteOf_25 rfl rfl 0 rfl ?_
        refine x_iconst C (v := (4 : Int32)) dX8_byteOf_26 rfl (by decide) ?_
        refine x_icmp_ne C 35 dX8_byteOf_27 rfl (by decide) (fun c8 => ?_) (fun c8 => ?_)
        · have hw := hw.1 c8
          refine x_iload_n C dX8_byteOf_35 rfl rfl 0 rfl ?_
          refine x_iconst C (v := (5 : Int32)) dX8_byteOf_36 rfl (by decide) ?_
          refine x_icmp_ne C 44 dX8_byteOf_37 rfl (by decide) (fun c9 => ?_) (fun c9 => ?_)
          · have hw := hw.1 c9
            refine x_iconst C (v := (0 : Int32)) dX8_byteOf_44 rfl (by decide) ?_
            exact x_iret C dX8_byteOf_45 rfl rfl ⟨_, rfl, rfl, hw⟩
          · have hw := hw.2 c9
            refine x_iconst C (v := (4 : Int32)) dX8_byteOf_40 rfl (by decide) ?_
            refine x_goto C (tgt := 45) dX8_byteOf_41 rfl (by decide) ?_
            exact x_iret C dX8_byteOf_45 rfl rfl ⟨_, rfl, rfl, hw⟩
        · have hw := hw.2 c8
          refine x_bipush C (v := (6 : Int32)) dX8_byteOf_30 rfl (by decide) ?_
          refine x_goto C (tgt := 45) dX8_byteOf_32 rfl (by decide) ?_
          exact x_iret C dX8_byteOf_45 rfl rfl ⟨_, rfl, rfl, hw⟩
      · have hw := hw.2 c7
        refine x_bipush C (v := (8 : Int32)) dX8_byteOf_20 rfl (by decide) ?_
        refine x_goto C (tgt := 45) dX8_byteOf_22 rfl (by decide) ?_
        exact x_iret C dX8_byteOf_45 rfl rfl ⟨_, rfl, rfl, hw⟩
    · have hw := hw.2 c6
      refine x_iconst C (v := (1 : Int32)) dX8_byteOf_11 rfl (by decide) ?_
      refine x_goto C (tgt := 45) dX8_byteOf_12 rfl (by decide) ?_
      exact x_iret C dX8_byteOf_45 rfl rfl ⟨_, rfl, rfl, hw⟩
set_option maxRecDepth 20000 in
theorem k_X8_byteOf (C : xCx p s m args meth c G K A nL cc own ret) {a0 : Int32} {a1 : Int32} {a2 : Int64} {a4 : Int32} {a5 : Int64} {a7 : Int32} {idx : Nat} {rest : List Value} {Post : Int32 → Prop} (hlink : Cond.methodLink own idx yX8_byteOf ∈ gw_tbl) (hR : 0 + 1 ≤ R.frames ∧ 8 + (8 + 11) + 0 ≤ R.locals) (hf : cells ≤ R.cells ∧ slots ≤ R.slots) (hW : (rest.map fun v => v.category).sum ≤ 8) (hw : wp_X8_byteOf a0 a1 a2 a4 a5 a7 Post) (hdg : decode cc n = .ok (.invokestatic idx, 3)) (hp : pc = n) (kk : ∀ r : Int32, Post r → xV p l e R s m args below meth c G A nL Q cells slots ws (n + 3) lv (.int r :: rest)) : xV p l e R s m args below meth c G A nL Q cells slots ws pc lv (.int a7 :: .long a5 :: .int a4 :: .long a2 :: .int a1 :: .int a0 :: rest) :=
  x_callS C (As := [.int a0, .int a1, .long a2, .int a4, .long a5, .int a7]) (c_X8_byteOf hw) ⟨hlink, i_720, i_9, i_721⟩ (k := 6) (by decide +kernel) rfl hR hf hW rfl hdg hp (fun v ws' ⟨r, hv, hws, hPo⟩ _ => by subst hv; subst hws; exact kk r hPo)
def lb_X8_type_47 (Post : Int32 → MS → Prop) (Ks : Int64 → Int32 → Int32 → MS → Prop) (x1 : Int64) (x3 : Int32) (x4 : Int32) (u : MS) : Prop :=
  ((x3 ≤ x4 → Post (M_taped u) u) ∧ (¬ (x3 ≤ x4) → vp_in (M_taped u) 40 ∧ ((∀ (u3 : MS), u3 = Ms_tape u (upd (M_tape u) (Int32.toNatClampNeg (M_taped u)) ((Int64.toInt32 (x1 >>> (Int32.toInt64 ((8 : Int32) * x4) &&& 63))) &&& (255 : Int32))) → (∀ (u5 : MS), u5 = Ms_taped u3 ((M_taped u3) + (1 : Int32)) → Ks x1 x3 (x4 + 1) u5)))))
def lp_X8_type_47 (Post : Int32 → MS → Prop) : Nat → Int64 → Int32 → Int32 → MS → Prop
  | 0 => fun _ _ _ _ => False
  | f + 1 => fun x1 x3 x4 u => lb_X8_type_47 Post (lp_X8_type_47 Post f) x1 x3 x4 u
set_option maxHeartbeats 4000000 in
set_option maxRecDepth 20000 in
theorem t_X8_type_47 (C : xCx p s m args meth c G K A 5 cX8_type RX8 (some .int)) {u0 : MS} {Post : Int32 → MS → Prop} : ∀ (f : Nat) (x1 : Int64) (x3 : Int32) (x4 : Int32) (u : MS) , lp_X8_type_47  Post f x1 x3 x4 u → xV p l e (xRm 0 0 0 0) s m args below meth c G A 5 (xQ G A (mw L K u0 T) (fun v ws' => ∃ (r : Int32) (u' : MS), v = some (.int r) ∧ ws' = (mw L K u' T) ∧ Post r u') below args s 0 0) 0 0 (mw L K u T) 47 [(0, .ref (L 0)), (1, .long x1), (3, .int x3), (4, .int x4)] [] := by
  intro f
  induction f with
  | zero => intro x1 x3 x4 u hw; exact hw.elim
  | succ f ih =>
    intro x1 x3 x4 u hw
    have hw : lb_X8_type_47  Post (lp_X8_type_47  Post f) x1 x3 x4 u := hw
    unfold lb_X8_type_47 at hw
    refine x_iload C dX8_type_47 rfl 3 rfl ?_
    refine x_iload_n C dX8_type_49 rfl rfl 2 rfl ?_
    refine x_icmp_ge C 90 dX8_type_50 rfl (by decide) (fun c1 => ?_) (fun c1 => ?_)
    · have hw := hw.1 c1
      refine x_aload_n C dX8_type_90 rfl rfl 0 rfl ?_
      refine gM0_taped C i_631 dX8_type_91 rfl ?_
      exact x_iret C dX8_type_94 rfl (mw_same _ _) ⟨_, _, rfl, rfl, hw⟩
    · have hw := hw.2 c1
      refine x_aload_n C dX8_type_53 rfl rfl 0 rfl ?_
      refine gM0_tape C i_630 dX8_type_54 rfl ?_
      refine x_aload_n C dX8_type_57 rfl rfl 0 rfl ?_
      refine gM0_taped C i_631 dX8_type_58 rfl ?_
      refine x_lload_n C dX8_type_61 rfl rfl 1 rfl ?_
      refine x_bipush C (v := (8 : Int32)) dX8_type_62 rfl (by decide) ?_
      refine x_iload C dX8_type_64 rfl 3 rfl ?_
      refine x_imul C dX8_type_66 rfl ?_
      refine x_lshr C dX8_type_67 rfl ?_
      refine x_l2i C dX8_type_68 rfl ?_
      refine x_sipush C (v := (255 : Int32)) dX8_type_69 rfl (by decide) ?_
      refine x_iand C dX8_type_72 rfl ?_
      obtain ⟨h2, hw⟩ := hw
      refine pM1_at C h2 dX8_type_73 rfl (fun u3 e4 => ?_)
      have hw := hw u3 e4
      refine x_aload_n C dX8_type_74 rfl rfl 0 rfl ?_
      refine x_dup C dX8_type_75 rfl rfl ?_
      refine gM0_taped C i_631 dX8_type_76 rfl ?_
      refine x_iconst C (v := (1 : Int32)) dX8_type_79 rfl (by decide) ?_
      refine x_iadd C dX8_type_80 rfl ?_
      refine pM0_taped C i_631 dX8_type_81 rfl (fun u5 e6 => ?_)
      have hw := hw u5 e6
      refine x_iinc C (k := 3) (v := x4 + 1) (lv' := [(4, .int (x4 + 1)), (0, .ref (L 0)), (1, .long x1), (3, .int x3)]) dX8_type_84 rfl rfl rfl (by decide) rfl ?_
      refine x_goto C (tgt := 47) dX8_type_87 rfl (by decide) ?_
      refine x_lv [1, 2, 3, 0] rfl ?_
      exact ih x1 x3 (x4 + 1) u5 hw
def wp_X8_type (a1 : Int64) (a3 : Int32) (u : MS) (Post : Int32 → MS → Prop) : Prop :=
  ((a3 < (1 : Int32) → (∀ (u2 : MS), u2 = Ms_thrown u (1 : Int32) → (((M_thrown u2) ≤ 0 → ∃ f9 : Nat, lp_X8_type_47 Post f9 a1 a3 (0 : Int32) u2) ∧ (¬ ((M_thrown u2) ≤ 0) → Post (0 : Int32) u2)))) ∧ (¬ (a3 < (1 : Int32)) → ((a3 ≤ (8 : Int32) → ((((M_taped u) + a3) ≤ (40 : Int32) → (∀ (u7 : MS), u7 = Ms_thrown u (0 : Int32) → (((M_thrown u7) ≤ 0 → ∃ f9 : Nat, lp_X8_type_47 Post f9 a1 a3 (0 : Int32) u7) ∧ (¬ ((M_thrown u7) ≤ 0) → Post (0 : Int32) u7)))) ∧ (¬ (((M_taped u) + a3) ≤ (40 : Int32)) → (∀ (u10 : MS), u10 = Ms_thrown u (2 : Int32) → (((M_thrown u10) ≤ 0 → ∃ f9 : Nat, lp_X8_type_47 Post f9 a1 a3 (0 : Int32) u10) ∧ (¬ ((M_thrown u10) ≤ 0) → Post (0 : Int32) u10)))))) ∧ (¬ (a3 ≤ (8 : Int32)) → (∀ (u13 : MS), u13 = Ms_thrown u (1 : Int32) → (((M_thrown u13) ≤ 0 → ∃ f9 : Nat, lp_X8_type_47 Post f9 a1 a3 (0 : Int32) u13) ∧ (¬ ((M_thrown u13) ≤ 0) → Post (0 : Int32) u13)))))))
set_option maxHeartbeats 4000000 in
set_option maxRecDepth 20000 in
theorem c_X8_type {a1 : Int64} {a3 : Int32} {u : MS} {Post : Int32 → MS → Prop} (hw : wp_X8_type a1 a3 u Post) : xMet l yX8_type cX8_type 5 (some .int) 0 0 0 0 G K [.ref (L 0), .long a1, .int a3] (mw L K u T) (fun v ws' => ∃ (r : Int32) (u' : MS), v = some (.int r) ∧ ws' = (mw L K u' T) ∧ Post r u') := by
  refine xMet.intro (lv := [(0, .ref (L 0)), (1, .long a1), (3, .int a3)]) (by decide) rfl (Nat.le_of_ble_eq_true rfl) rfl (fun p e s m args below meth c A C => ?_)
  unfold wp_X8_type at hw
  refine x_aload_n C dX8_type_0 rfl rfl 0 rfl ?_
  refine x_iload_n C dX8_type_1 rfl rfl 2 rfl ?_
  refine x_iconst C (v := (1 : Int32)) dX8_type_2 rfl (by decide) ?_
  refine x_icmp_lt C 12 dX8_type_3 rfl (by decide) (fun c1 => ?_) (fun c1 => ?_)
  · have hw := hw.1 c1
    refine x_iconst C (v := (1 : Int32)) dX8_type_12 rfl (by decide) ?_
    refine x_goto C (tgt := 32) dX8_type_13 rfl (by decide) ?_
    refine pM0_thrown C i_620 dX8_type_32 rfl (fun u2 e3 => ?_)
    have hw := hw u2 e3
    refine x_aload_n C dX8_type_35 rfl rfl 0 rfl ?_
    refine gM0_thrown C i_620 dX8_type_36 rfl ?_
    refine x_if_le C 44 dX8_type_39 rfl (by decide) (fun c4 => ?_) (fun c4 => ?_)
    · have hw := hw.1 c4
      refine x_iconst C (v := (0 : Int32)) dX8_type_44 rfl (by decide) ?_
      refine x_istore C (lv' := [(4, .int (0 : Int32)), (0, .ref (L 0)), (1, .long a1), (3, .int a3)]) dX8_type_45 rfl (by decide) rfl ?_
      refine x_lv [1, 2, 3, 0] rfl ?_
      obtain ⟨f9, hw⟩ := hw
      exact t_X8_type_47 C f9 a1 a3 (0 : Int32) u2 hw
    · have hw := hw.2 c4
      refine x_iconst C (v := (0 : Int32)) dX8_type_42 rfl (by decide) ?_
      exact x_iret C dX8_type_43 rfl (mw_same _ _) ⟨_, _, rfl, rfl, hw⟩
  · have hw := hw.2 c1
    refine x_iload_n C dX8_type_6 rfl rfl 2 rfl ?_
    refine x_bipush C (v := (8 : Int32)) dX8_type_7 rfl (by decide) ?_
    refine x_icmp_le C 16 dX8_type_9 rfl (by decide) (fun c5 => ?_) (fun c5 => ?_)
    · have hw := hw.1 c5
      refine x_aload_n C dX8_type_16 rfl rfl 0 rfl ?_
      refine gM0_taped C i_631 dX8_type_17 rfl ?_
      refine x_iload_n C dX8_type_20 rfl rfl 2 rfl ?_
      refine x_iadd C dX8_type_21 rfl ?_
      refine x_bipush C (v := (40 : Int32)) dX8_type_22 rfl (by decide) ?_
      refine x_icmp_le C 31 dX8_type_24 rfl (by decide) (fun c6 => ?_) (fun c6 => ?_)
      · have hw := hw.1 c6
        refine x_iconst C (v := (0 : Int32)) dX8_type_31 rfl (by decide) ?_
        refine pM0_thrown C i_620 dX8_type_32 rfl (fun u7 e8 => ?_)
        have hw := hw u7 e8
        refine x_aload_n C dX8_type_35 rfl rfl 0 rfl ?_
        refine gM0_thrown C i_620 dX8_type_36 rfl ?_
        refine x_if_le C 44 dX8_type_39 rfl (by decide) (fun c9 => ?_) (fun c9 => ?_)
        · have hw := hw.1 c9
          refine x_iconst C (v := (0 : Int32)) dX8_type_44 rfl (by decide) ?_
          refine x_istore C (lv' := [(4, .int (0 : Int32)), (0, .ref (L 0)), (1, .long a1), (3, .int a3)]) dX8_type_45 rfl (by decide) rfl ?_
          refine x_lv [1, 2, 3, 0] rfl ?_
          obtain ⟨f9, hw⟩ := hw
          exact t_X8_type_47 C f9 a1 a3 (0 : Int32) u7 hw
        · have hw := hw.2 c9
          refine x_iconst C (v := (0 : Int32)) dX8_type_42 rfl (by decide) ?_
          exact x_iret C dX8_type_43 rfl (mw_same _ _) ⟨_, _, rfl, rfl, hw⟩
      · have hw := hw.2 c6
        refine x_iconst C (v := (2 : Int32)) dX8_type_27 rfl (by decide) ?_
        refine x_goto C (tgt := 32) dX8_type_28 rfl (by decide) ?_
        refine pM0_thrown C i_620 dX8_type_32 rfl (fun u10 e11 => ?_)
        have hw := hw u10 e11
        refine x_aload_n C dX8_type_35 rfl rfl 0 rfl ?_
        refine gM0_thrown C i_620 dX8_type_36 rfl ?_
        refine x_if_le C 44 dX8_type_39 rfl (by decide) (fun c12 => ?_) (fun c12 => ?_)
        · have hw := hw.1 c12
          refine x_iconst C (v := (0 : Int32)) dX8_type_44 rfl (by decide) ?_
          refine x_istore C (lv' := [(4, .int (0 : Int32)), (0, .ref (L 0)), (1, .long a1), (3, .int a3)]) dX8_type_45 rfl (by decide) rfl ?_
          refine x_lv [1, 2, 3, 0] rfl ?_
          obtain ⟨f9, hw⟩ := hw
          exact t_X8_type_47 C f9 a1 a3 (0 : Int32) u10 hw
        · have hw := hw.2 c12
          refine x_iconst C (v := (0 : Int32)) dX8_type_42 rfl (by decide) ?_
          exact x_iret C dX8_type_43 rfl (mw_same _ _) ⟨_, _, rfl, rfl, hw⟩
    · have hw := hw.2 c5
      refine x_iconst C (v := (1 : Int32)) dX8_type_12 rfl (by decide) ?_
      refine x_goto C (tgt := 32) dX8_type_13 rfl (by decide) ?_
      refine pM0_thrown C i_620 dX8_type_32 rfl (fun u13 e14 => ?_)
      have hw := hw u13 e14
      refine x_aload_n C dX8_type_35 rfl rfl 0 rfl ?_
      refine gM0_thrown C i_620 dX8_type_36 rfl ?_
      refine x_if_le C 44 dX8_type_39 rfl (by decide) (fun c15 => ?_) (fun c15 => ?_)
      · have hw := hw.1 c15
        refine x_iconst C (v := (0 : Int32)) dX8_type_44 rfl (by decide) ?_
        refine x_istore C (lv' := [(4, .int (0 : Int32)), (0, .ref (L 0)), (1, .long a1), (3, .int a3)]) dX8_type_45 rfl (by decide) rfl ?_
        refine x_lv [1, 2, 3, 0] rfl ?_
        obtain ⟨f9, hw⟩ := hw
        exact t_X8_type_47 C f9 a1 a3 (0 : Int32) u13 hw
      · have hw := hw.2 c15
        refine x_iconst C (v := (0 : Int32)) dX8_type_42 rfl (by decide) ?_
        exact x_iret C dX8_type_43 rfl (mw_same _ _) ⟨_, _, rfl, rfl, hw⟩
set_option maxRecDepth 20000 in
theorem k_X8_type (C : xCx p s m args meth c G K A nL cc own ret) {a1 : Int64} {a3 : Int32} {u : MS} {idx : Nat} {rest : List Value} {Post : Int32 → MS → Prop} (hlink : Cond.methodLink own idx yX8_type ∈ gw_tbl) (hR : 0 + 1 ≤ R.frames ∧ 8 + (5 + 11) + 0 ≤ R.locals) (hf : cells ≤ R.cells ∧ slots ≤ R.slots) (hW : (rest.map fun v => v.category).sum ≤ 8) (hw : wp_X8_type a1 a3 u Post) (hdg : decode cc n = .ok (.invokevirtual idx, 3)) (hp : pc = n) (kk : ∀ (r : Int32) (u' : MS), Post r u' → xV p l e R s m args below meth c G A nL Q cells slots (mw L K u' T) (n + 3) lv (.int r :: rest)) : xV p l e R s m args below meth c G A nL Q cells slots (mw L K u T) pc lv (.int a3 :: .long a1 :: .ref (L 0) :: rest) :=
  x_callV C (As := [.long a1, .int a3]) (c_X8_type hw) ⟨hlink, i_712, i_713, i_9, i_714⟩ 0 rfl rfl rfl (k := 2) (by decide +kernel) rfl hR hf hW rfl hdg hp (fun v ws' ⟨r, u', hv, hws, hPo⟩ _ => by subst hv; subst hws; exact kk r u' hPo)
def lb_X8_pack_14 (Post : MS → Prop) (Ks : Int32 → Int64 → Int32 → Int64 → Int32 → Int32 → MS → Prop) (x1 : Int32) (x2 : Int64) (x4 : Int32) (x5 : Int64) (x7 : Int32) (x8 : Int32) (u : MS) : Prop :=
  (((28 : Int32) ≤ x8 → Post u) ∧ (¬ ((28 : Int32) ≤ x8) → wp_X8_byteOf x8 x1 x2 x4 x5 x7 (fun r2 => vp_in x8 40 ∧ ((∀ (u5 : MS), u5 = Ms_tape u (upd (M_tape u) (Int32.toNatClampNeg x8) r2) → Ks x1 x2 x4 x5 x7 (x8 + 1) u5)))))
def lp_X8_pack_14 (Post : MS → Prop) : Nat → Int32 → Int64 → Int32 → Int64 → Int32 → Int32 → MS → Prop
  | 0 => fun _ _ _ _ _ _ _ => False
  | f + 1 => fun x1 x2 x4 x5 x7 x8 u => lb_X8_pack_14 Post (lp_X8_pack_14 Post f) x1 x2 x4 x5 x7 x8 u
set_option maxHeartbeats 4000000 in
set_option maxRecDepth 20000 in
theorem t_X8_pack_14 (C : xCx p s m args meth c G K A 9 cX8_pack RX8 none) {u0 : MS} {Post : MS → Prop} : ∀ (f : Nat) (x1 : Int32) (x2 : Int64) (x4 : Int32) (x5 : Int64) (x7 : Int32) (x8 : Int32) (u : MS) , lp_X8_pack_14  Post f x1 x2 x4 x5 x7 x8 u → xV p l e (xRm 1 27 0 0) s m args below meth c G A 9 (xQ G A (mw L K u0 T) (fun v ws' => ∃ u' : MS, v = none ∧ ws' = (mw L K u' T) ∧ Post u') below args s 0 0) 0 0 (mw L K u T) 14 [(0, .ref (L 0)), (1, .int x1), (2, .long x2), (4, .int x4), (5, .long x5), (7, .int x7), (8, .int x8)] [] := by
  intro f
  induction f with
  | zero => intro x1 x2 x4 x5 x7 x8 u hw; exact hw.elim
  | succ f ih =>
    intro x1 x2 x4 x5 x7 x8 u hw
    have hw : lb_X8_pack_14  Post (lp_X8_pack_14  Post f) x1 x2 x4 x5 x7 x8 u := hw
    unfold lb_X8_pack_14 at hw
    refine x_iload C dX8_pack_14 rfl 6 rfl ?_
    refine x_bipush C (v := (28 : Int32)) dX8_pack_16 rfl (by decide) ?_
    refine x_icmp_ge C 47 dX8_pack_18 rfl (by decide) (fun c1 => ?_) (fun c1 => ?_)
    · have hw := hw.1 c1
      exact x_vret C dX8_pack_47 rfl (mw_same _ _) ⟨_, rfl, rfl, hw⟩
    · have hw := hw.2 c1
      refine x_aload_n C dX8_pack_21 rfl rfl 0 rfl ?_
      refine gM0_tape C i_630 dX8_pack_22 rfl ?_
      refine x_iload C dX8_pack_25 rfl 6 rfl ?_
      refine x_iload C dX8_pack_27 rfl 6 rfl ?_
      refine x_iload_n C dX8_pack_29 rfl rfl 1 rfl ?_
      refine x_lload_n C dX8_pack_30 rfl rfl 2 rfl ?_
      refine x_iload C dX8_pack_31 rfl 3 rfl ?_
      refine x_lload C dX8_pack_33 rfl 4 rfl ?_
      refine x_iload C dX8_pack_35 rfl 5 rfl ?_
      refine k_X8_byteOf C i_719 ⟨Nat.le_of_ble_eq_true rfl, Nat.le_of_ble_eq_true rfl⟩ ⟨Nat.zero_le _, Nat.zero_le _⟩ (Nat.le_of_ble_eq_true rfl) hw dX8_pack_37 rfl (fun r2 hw => ?_)
      obtain ⟨h4, hw⟩ := hw
      refine pM1_at C h4 dX8_pack_40 rfl (fun u5 e6 => ?_)
      have hw := hw u5 e6
      refine x_iinc C (k := 6) (v := x8 + 1) (lv' := [(8, .int (x8 + 1)), (0, .ref (L 0)), (1, .int x1), (2, .long x2), (4, .int x4), (5, .long x5), (7, .int x7)]) dX8_pack_41 rfl rfl rfl (by decide) rfl ?_
      refine x_goto C (tgt := 14) dX8_pack_44 rfl (by decide) ?_
      refine x_lv [1, 2, 3, 4, 5, 6, 0] rfl ?_
      exact ih x1 x2 x4 x5 x7 (x8 + 1) u5 hw
def wp_X8_pack (a1 : Int32) (a2 : Int64) (a4 : Int32) (a5 : Int64) (a7 : Int32) (u : MS) (Post : MS → Prop) : Prop :=
  (∀ (u1 : MS), u1 = Ms_thrown u (0 : Int32) → (∀ (u3 : MS), u3 = Ms_taped u1 (28 : Int32) → ∃ f9 : Nat, lp_X8_pack_14 Post f9 a1 a2 a4 a5 a7 (0 : Int32) u3))
set_option maxHeartbeats 4000000 in
set_option maxRecDepth 20000 in
theorem c_X8_pack {a1 : Int32} {a2 : Int64} {a4 : Int32} {a5 : Int64} {a7 : Int32} {u : MS} {Post : MS → Prop} (hw : wp_X8_pack a1 a2 a4 a5 a7 u Post) : xMet l yX8_pack cX8_pack 9 none 1 27 0 0 G K [.ref (L 0), .int a1, .long a2, .int a4, .long a5, .int a7] (mw L K u T) (fun v ws' => ∃ u' : MS, v = none ∧ ws' = (mw L K u' T) ∧ Post u') := by
  refine xMet.intro (lv := [(0, .ref (L 0)), (1, .int a1), (2, .long a2), (4, .int a4), (5, .long a5), (7, .int a7)]) (by decide) rfl (Nat.le_of_ble_eq_true rfl) rfl (fun p e s m args below meth c A C => ?_)
  unfold wp_X8_pack at hw
  refine x_aload_n C dX8_pack_0 rfl rfl 0 rfl ?_
  refine x_iconst C (v := (0 : Int32)) dX8_pack_1 rfl (by decide) ?_
  refine pM0_thrown C i_620 dX8_pack_2 rfl (fun u1 e2 => ?_)
  have hw := hw u1 e2
  refine x_aload_n C dX8_pack_5 rfl rfl 0 rfl ?_
  refine x_bipush C (v := (28 : Int32)) dX8_pack_6 rfl (by decide) ?_
  refine pM0_taped C i_631 dX8_pack_8 rfl (fun u3 e4 => ?_)
  have hw := hw u3 e4
  refine x_iconst C (v := (0 : Int32)) dX8_pack_11 rfl (by decide) ?_
  refine x_istore C (lv' := [(8, .int (0 : Int32)), (0, .ref (L 0)), (1, .int a1), (2, .long a2), (4, .int a4), (5, .long a5), (7, .int a7)]) dX8_pack_12 rfl (by decide) rfl ?_
  refine x_lv [1, 2, 3, 4, 5, 6, 0] rfl ?_
  obtain ⟨f9, hw⟩ := hw
  exact t_X8_pack_14 C f9 a1 a2 a4 a5 a7 (0 : Int32) u3 hw
set_option maxRecDepth 20000 in
theorem k_X8_pack (C : xCx p s m args meth c G K A nL cc own ret) {a1 : Int32} {a2 : Int64} {a4 : Int32} {a5 : Int64} {a7 : Int32} {u : MS} {idx : Nat} {rest : List Value} {Post : MS → Prop} (hlink : Cond.methodLink own idx yX8_pack ∈ gw_tbl) (hR : 1 + 1 ≤ R.frames ∧ 8 + (9 + 11) + 27 ≤ R.locals) (hf : cells ≤ R.cells ∧ slots ≤ R.slots) (hW : (rest.map fun v => v.category).sum ≤ 8) (hw : wp_X8_pack a1 a2 a4 a5 a7 u Post) (hdg : decode cc n = .ok (.invokevirtual idx, 3)) (hp : pc = n) (kk : ∀ u' : MS, Post u' → xV p l e R s m args below meth c G A nL Q cells slots (mw L K u' T) (n + 3) lv rest) : xV p l e R s m args below meth c G A nL Q cells slots (mw L K u T) pc lv (.int a7 :: .long a5 :: .int a4 :: .long a2 :: .int a1 :: .ref (L 0) :: rest) :=
  x_callV C (As := [.int a1, .long a2, .int a4, .long a5, .int a7]) (c_X8_pack hw) ⟨hlink, i_716, i_717, i_9, i_718⟩ 0 rfl rfl rfl (k := 5) (by decide +kernel) rfl hR hf hW rfl hdg hp (fun v ws' ⟨u', hv, hws, hPo⟩ _ => by subst hv; subst hws; exact kk u' hPo)
def lb_X8_number_5 (Post : Int64 → MS → Prop) (Ks : Int32 → Int32 → Int64 → Int32 → MS → Prop) (x1 : Int32) (x2 : Int32) (x3 : Int64) (x5 : Int32) (u : MS) : Prop :=
  ((x2 ≤ x5 → Post x3 u) ∧ (¬ (x2 ≤ x5) → vp_in (x1 + x5) 40 ∧ (Ks x1 x2 ((x3 <<< (Int32.toInt64 (8 : Int32) &&& 63)) ||| (Int32.toInt64 (M_tape u (Int32.toNatClampNeg (x1 + x5))))) (x5 + 1) u)))
def lp_X8_number_5 (Post : Int64 → MS → Prop) : Nat → Int32 → Int32 → Int64 → Int32 → MS → Prop
  | 0 => fun _ _ _ _ _ => False
  | f + 1 => fun x1 x2 x3 x5 u => lb_X8_number_5 Post (lp_X8_number_5 Post f) x1 x2 x3 x5 u
set_option maxHeartbeats 4000000 in
set_option maxRecDepth 20000 in
theorem t_X8_number_5 (C : xCx p s m args meth c G K A 6 cX8_number RX8 (some .long)) {u0 : MS} {Post : Int64 → MS → Prop} : ∀ (f : Nat) (x1 : Int32) (x2 : Int32) (x3 : Int64) (x5 : Int32) (u : MS) , lp_X8_number_5  Post f x1 x2 x3 x5 u → xV p l e (xRm 0 0 0 0) s m args below meth c G A 6 (xQ G A (mw L K u0 T) (fun v ws' => ∃ (r : Int64) (u' : MS), v = some (.long r) ∧ ws' = (mw L K u' T) ∧ Post r u') below args s 0 0) 0 0 (mw L K u T) 5 [(0, .ref (L 0)), (1, .int x1), (2, .int x2), (3, .long x3), (5, .int x5)] [] := by
  intro f
  induction f with
  | zero => intro x1 x2 x3 x5 u hw; exact hw.elim
  | succ f ih =>
    intro x1 x2 x3 x5 u hw
    have hw : lb_X8_number_5  Post (lp_X8_number_5  Post f) x1 x2 x3 x5 u := hw
    unfold lb_X8_number_5 at hw
    refine x_iload C dX8_number_5 rfl 4 rfl ?_
    refine x_iload_n C dX8_number_7 rfl rfl 2 rfl ?_
    refine x_icmp_ge C 33 dX8_number_8 rfl (by decide) (fun c1 => ?_) (fun c1 => ?_)
    · have hw := hw.1 c1
      refine x_lload_n C dX8_number_33 rfl rfl 3 rfl ?_
      exact x_lret C dX8_number_34 rfl (mw_same _ _) ⟨_, _, rfl, rfl, hw⟩
    · have hw := hw.2 c1
      refine x_lload_n C dX8_number_11 rfl rfl 3 rfl ?_
      refine x_bipush C (v := (8 : Int32)) dX8_number_12 rfl (by decide) ?_
      refine x_lshl C dX8_number_14 rfl ?_
      refine x_aload_n C dX8_number_15 rfl rfl 0 rfl ?_
      refine gM0_tape C i_630 dX8_number_16 rfl ?_
      refine x_iload_n C dX8_number_19 rfl rfl 1 rfl ?_
      refine x_iload C dX8_number_20 rfl 4 rfl ?_
      refine x_iadd C dX8_number_22 rfl ?_
      obtain ⟨h2, hw⟩ := hw
      refine gM1_at C h2 dX8_number_23 rfl ?_
      refine x_i2l C dX8_number_24 rfl ?_
      refine x_lor C dX8_number_25 rfl ?_
      refine x_lstore_n C (lv' := [(3, .long ((x3 <<< (Int32.toInt64 (8 : Int32) &&& 63)) ||| (Int32.toInt64 (M_tape u (Int32.toNatClampNeg (x1 + x5)))))), (0, .ref (L 0)), (1, .int x1), (2, .int x2), (5, .int x5)]) dX8_number_26 rfl rfl (by decide) rfl ?_
      refine x_iinc C (k := 4) (v := x5 + 1) (lv' := [(5, .int (x5 + 1)), (3, .long ((x3 <<< (Int32.toInt64 (8 : Int32) &&& 63)) ||| (Int32.toInt64 (M_tape u (Int32.toNatClampNeg (x1 + x5)))))), (0, .ref (L 0)), (1, .int x1), (2, .int x2)]) dX8_number_27 rfl rfl rfl (by decide) rfl ?_
      refine x_goto C (tgt := 5) dX8_number_30 rfl (by decide) ?_
      refine x_lv [2, 3, 4, 1, 0] rfl ?_
      exact ih x1 x2 ((x3 <<< (Int32.toInt64 (8 : Int32) &&& 63)) ||| (Int32.toInt64 (M_tape u (Int32.toNatClampNeg (x1 + x5))))) (x5 + 1) u hw
def wp_X8_number (a1 : Int32) (a2 : Int32) (u : MS) (Post : Int64 → MS → Prop) : Prop :=
  ∃ f9 : Nat, lp_X8_number_5 Post f9 a1 a2 (0 : Int64) (0 : Int32) u
set_option maxHeartbeats 4000000 in
set_option maxRecDepth 20000 in
theorem c_X8_number {a1 : Int32} {a2 : Int32} {u : MS} {Post : Int64 → MS → Prop} (hw : wp_X8_number a1 a2 u Post) : xMet l yX8_number cX8_number 6 (some .long) 0 0 0 0 G K [.ref (L 0), .int a1, .int a2] (mw L K u T) (fun v ws' => ∃ (r : Int64) (u' : MS), v = some (.long r) ∧ ws' = (mw L K u' T) ∧ Post r u') := by
  refine xMet.intro (lv := [(0, .ref (L 0)), (1, .int a1), (2, .int a2)]) (by decide) rfl (Nat.le_of_ble_eq_true rfl) rfl (fun p e s m args below meth c A C => ?_)
  unfold wp_X8_number at hw
  refine x_lconst C (v := (0 : Int64)) dX8_number_0 rfl (by decide) ?_
  refine x_lstore_n C (lv' := [(3, .long (0 : Int64)), (0, .ref (L 0)), (1, .int a1), (2, .int a2)]) dX8_number_1 rfl rfl (by decide) rfl ?_
  refine x_iconst C (v := (0 : Int32)) dX8_number_2 rfl (by decide) ?_
  refine x_istore C (lv' := [(5, .int (0 : Int32)), (3, .long (0 : Int64)), (0, .ref (L 0)), (1, .int a1), (2, .int a2)]) dX8_number_3 rfl (by decide) rfl ?_
  refine x_lv [2, 3, 4, 1, 0] rfl ?_
  obtain ⟨f9, hw⟩ := hw
  exact t_X8_number_5 C f9 a1 a2 (0 : Int64) (0 : Int32) u hw
set_option maxRecDepth 20000 in
theorem k_X8_number (C : xCx p s m args meth c G K A nL cc own ret) {a1 : Int32} {a2 : Int32} {u : MS} {idx : Nat} {rest : List Value} {Post : Int64 → MS → Prop} (hlink : Cond.methodLink own idx yX8_number ∈ gw_tbl) (hR : 0 + 1 ≤ R.frames ∧ 8 + (6 + 11) + 0 ≤ R.locals) (hf : cells ≤ R.cells ∧ slots ≤ R.slots) (hW : (rest.map fun v => v.category).sum ≤ 8) (hw : wp_X8_number a1 a2 u Post) (hdg : decode cc n = .ok (.invokevirtual idx, 3)) (hp : pc = n) (kk : ∀ (r : Int64) (u' : MS), Post r u' → xV p l e R s m args below meth c G A nL Q cells slots (mw L K u' T) (n + 3) lv (.long r :: rest)) : xV p l e R s m args below meth c G A nL Q cells slots (mw L K u T) pc lv (.int a2 :: .int a1 :: .ref (L 0) :: rest) :=
  x_callV C (As := [.int a1, .int a2]) (c_X8_number hw) ⟨hlink, i_736, i_s22, i_9, i_737⟩ 0 rfl rfl rfl (k := 2) (by decide +kernel) rfl hR hf hW rfl hdg hp (fun v ws' ⟨r, u', hv, hws, hPo⟩ _ => by subst hv; subst hws; exact kk r u' hPo)
def wp_X8_address (a1 : Int32) (u : MS) (Post : Int32 → MS → Prop) : Prop :=
  wp_X8_number a1 (4 : Int32) u (fun r1 u2 => Post (Int64.toInt32 r1) u2)
set_option maxHeartbeats 4000000 in
set_option maxRecDepth 20000 in
theorem c_X8_address {a1 : Int32} {u : MS} {Post : Int32 → MS → Prop} (hw : wp_X8_address a1 u Post) : xMet l yX8_address cX8_address 2 (some .int) 1 25 0 0 G K [.ref (L 0), .int a1] (mw L K u T) (fun v ws' => ∃ (r : Int32) (u' : MS), v = some (.int r) ∧ ws' = (mw L K u' T) ∧ Post r u') := by
  refine xMet.intro (lv := [(0, .ref (L 0)), (1, .int a1)]) (by decide) rfl (Nat.le_of_ble_eq_true rfl) rfl (fun p e s m args below meth c A C => ?_)
  unfold wp_X8_address at hw
  refine x_aload_n C dX8_address_0 rfl rfl 0 rfl ?_
  refine x_iload_n C dX8_address_1 rfl rfl 1 rfl ?_
  refine x_iconst C (v := (4 : Int32)) dX8_address_2 rfl (by decide) ?_
  refine k_X8_number C i_734 ⟨Nat.le_of_ble_eq_true rfl, Nat.le_of_ble_eq_true rfl⟩ ⟨Nat.zero_le _, Nat.zero_le _⟩ (Nat.le_of_ble_eq_true rfl) hw dX8_address_3 rfl (fun r1 u2 hw => ?_)
  refine x_l2i C dX8_address_6 rfl ?_
  exact x_iret C dX8_address_7 rfl (mw_same _ _) ⟨_, _, rfl, rfl, hw⟩
set_option maxRecDepth 20000 in
theorem k_X8_address (C : xCx p s m args meth c G K A nL cc own ret) {a1 : Int32} {u : MS} {idx : Nat} {rest : List Value} {Post : Int32 → MS → Prop} (hlink : Cond.methodLink own idx yX8_address ∈ gw_tbl) (hR : 1 + 1 ≤ R.frames ∧ 8 + (2 + 11) + 25 ≤ R.locals) (hf : cells ≤ R.cells ∧ slots ≤ R.slots) (hW : (rest.map fun v => v.category).sum ≤ 8) (hw : wp_X8_address a1 u Post) (hdg : decode cc n = .ok (.invokevirtual idx, 3)) (hp : pc = n) (kk : ∀ (r : Int32) (u' : MS), Post r u' → xV p l e R s m args below meth c G A nL Q cells slots (mw L K u' T) (n + 3) lv (.int r :: rest)) : xV p l e R s m args below meth c G A nL Q cells slots (mw L K u T) pc lv (.int a1 :: .ref (L 0) :: rest) :=
  x_callV C (As := [.int a1]) (c_X8_address hw) ⟨hlink, i_741, i_s23, i_9, i_742⟩ 0 rfl rfl rfl (k := 1) (by decide +kernel) rfl hR hf hW rfl hdg hp (fun v ws' ⟨r, u', hv, hws, hPo⟩ _ => by subst hv; subst hws; exact kk r u' hPo)
def lb_X8_sendPacket_28 (Post : MS → Prop) (Ks : Int32 → Int32 → Int64 → Int32 → Int32 → Int32 → MS → Prop) (x3 : Int32) (x4 : Int32) (x5 : Int64) (x7 : Int32) (x8 : Int32) (x9 : Int32) (u : MS) : Prop :=
  (((28 : Int32) ≤ x9 → (∀ (u2 : MS), u2 = Ms_frames u ((M_frames u) + (1 : Int32)) → Post u2)) ∧ (¬ ((28 : Int32) ≤ x9) → wp_X8_byteOf x9 x3 (M_here u) x4 x5 x7 (fun r4 => vp_in (((28 : Int32) * x8) + x9) 2800 ∧ ((∀ (u7 : MS), u7 = Ms_frameBytes u (upd (M_frameBytes u) (Int32.toNatClampNeg (((28 : Int32) * x8) + x9)) r4) → Ks x3 x4 x5 x7 x8 (x9 + 1) u7)))))
def lp_X8_sendPacket_28 (Post : MS → Prop) : Nat → Int32 → Int32 → Int64 → Int32 → Int32 → Int32 → MS → Prop
  | 0 => fun _ _ _ _ _ _ _ => False
  | f + 1 => fun x3 x4 x5 x7 x8 x9 u => lb_X8_sendPacket_28 Post (lp_X8_sendPacket_28 Post f) x3 x4 x5 x7 x8 x9 u
set_option maxHeartbeats 4000000 in
set_option maxRecDepth 20000 in
theorem t_X8_sendPacket_28 (C : xCx p s m args meth c G K A 10 cX8_sendPacket RX8 none) {u0 : MS} {Post : MS → Prop} : ∀ (f : Nat) (x3 : Int32) (x4 : Int32) (x5 : Int64) (x7 : Int32) (x8 : Int32) (x9 : Int32) (u : MS) , lp_X8_sendPacket_28  Post f x3 x4 x5 x7 x8 x9 u → xV p l e (xRm 1 27 0 0) s m args below meth c G A 10 (xQ G A (mw L K u0 T) (fun v ws' => ∃ u' : MS, v = none ∧ ws' = (mw L K u' T) ∧ Post u') below args s 0 0) 0 0 (mw L K u T) 28 [(0, .ref (L 0)), (3, .int x3), (4, .int x4), (5, .long x5), (7, .int x7), (8, .int x8), (9, .int x9)] [] := by
  intro f
  induction f with
  | zero => intro x3 x4 x5 x7 x8 x9 u hw; exact hw.elim
  | succ f ih =>
    intro x3 x4 x5 x7 x8 x9 u hw
    have hw : lb_X8_sendPacket_28  Post (lp_X8_sendPacket_28  Post f) x3 x4 x5 x7 x8 x9 u := hw
    unfold lb_X8_sendPacket_28 at hw
    refine x_iload C dX8_sendPacket_28 rfl 6 rfl ?_
    refine x_bipush C (v := (28 : Int32)) dX8_sendPacket_30 rfl (by decide) ?_
    refine x_icmp_ge C 70 dX8_sendPacket_32 rfl (by decide) (fun c1 => ?_) (fun c1 => ?_)
    · have hw := hw.1 c1
      refine x_aload_n C dX8_sendPacket_70 rfl rfl 0 rfl ?_
      refine x_dup C dX8_sendPacket_71 rfl rfl ?_
      refine gM0_frames C i_640 dX8_sendPacket_72 rfl ?_
      refine x_iconst C (v := (1 : Int32)) dX8_sendPacket_75 rfl (by decide) ?_
      refine x_iadd C dX8_sendPacket_76 rfl ?_
      refine pM0_frames C i_640 dX8_sendPacket_77 rfl (fun u2 e3 => ?_)
      have hw := hw u2 e3
      exact x_vret C dX8_sendPacket_80 rfl (mw_same _ _) ⟨_, rfl, rfl, hw⟩
    · have hw := hw.2 c1
      refine x_aload_n C dX8_sendPacket_35 rfl rfl 0 rfl ?_
      refine gM0_frameBytes C i_644 dX8_sendPacket_36 rfl ?_
      refine x_bipush C (v := (28 : Int32)) dX8_sendPacket_39 rfl (by decide) ?_
      refine x_iload C dX8_sendPacket_41 rfl 5 rfl ?_
      refine x_imul C dX8_sendPacket_43 rfl ?_
      refine x_iload C dX8_sendPacket_44 rfl 6 rfl ?_
      refine x_iadd C dX8_sendPacket_46 rfl ?_
      refine x_iload C dX8_sendPacket_47 rfl 6 rfl ?_
      refine x_iload_n C dX8_sendPacket_49 rfl rfl 1 rfl ?_
      refine x_aload_n C dX8_sendPacket_50 rfl rfl 0 rfl ?_
      refine gM0_here C i_624 dX8_sendPacket_51 rfl ?_
      refine x_iload C dX8_sendPacket_54 rfl 2 rfl ?_
      refine x_lload C dX8_sendPacket_56 rfl 3 rfl ?_
      refine x_iload C dX8_sendPacket_58 rfl 4 rfl ?_
      refine k_X8_byteOf C i_719 ⟨Nat.le_of_ble_eq_true rfl, Nat.le_of_ble_eq_true rfl⟩ ⟨Nat.zero_le _, Nat.zero_le _⟩ (Nat.le_of_ble_eq_true rfl) hw dX8_sendPacket_60 rfl (fun r4 hw => ?_)
      obtain ⟨h6, hw⟩ := hw
      refine pM12_at C h6 dX8_sendPacket_63 rfl (fun u7 e8 => ?_)
      have hw := hw u7 e8
      refine x_iinc C (k := 6) (v := x9 + 1) (lv' := [(9, .int (x9 + 1)), (0, .ref (L 0)), (3, .int x3), (4, .int x4), (5, .long x5), (7, .int x7), (8, .int x8)]) dX8_sendPacket_64 rfl rfl rfl (by decide) rfl ?_
      refine x_goto C (tgt := 28) dX8_sendPacket_67 rfl (by decide) ?_
      refine x_lv [1, 2, 3, 4, 5, 6, 0] rfl ?_
      exact ih x3 x4 x5 x7 x8 (x9 + 1) u7 hw
def wp_X8_sendPacket (a1 : Int64) (a3 : Int32) (a4 : Int32) (a5 : Int64) (a7 : Int32) (u : MS) (Post : MS → Prop) : Prop :=
  vp_in ((M_frames u) - (M_frames u) / (100 : Int32) * (100 : Int32)) 100 ∧ ((∀ (u2 : MS), u2 = Ms_frameTo u (vp_updL (M_frameTo u) (Int32.toNatClampNeg ((M_frames u) - (M_frames u) / (100 : Int32) * (100 : Int32))) a1) → (∀ (u4 : MS), u4 = Ms_framePacket u2 (upd (M_framePacket u2) (Int32.toNatClampNeg ((M_frames u) - (M_frames u) / (100 : Int32) * (100 : Int32))) (vp_nar .boolean (1 : Int32))) → ∃ f9 : Nat, lp_X8_sendPacket_28 Post f9 a3 a4 a5 a7 ((M_frames u) - (M_frames u) / (100 : Int32) * (100 : Int32)) (0 : Int32) u4)))
set_option maxHeartbeats 4000000 in
set_option maxRecDepth 20000 in
theorem c_X8_sendPacket {a1 : Int64} {a3 : Int32} {a4 : Int32} {a5 : Int64} {a7 : Int32} {u : MS} {Post : MS → Prop} (hw : wp_X8_sendPacket a1 a3 a4 a5 a7 u Post) : xMet l yX8_sendPacket cX8_sendPacket 10 none 1 27 0 0 G K [.ref (L 0), .long a1, .int a3, .int a4, .long a5, .int a7] (mw L K u T) (fun v ws' => ∃ u' : MS, v = none ∧ ws' = (mw L K u' T) ∧ Post u') := by
  refine xMet.intro (lv := [(0, .ref (L 0)), (1, .long a1), (3, .int a3), (4, .int a4), (5, .long a5), (7, .int a7)]) (by decide) rfl (Nat.le_of_ble_eq_true rfl) rfl (fun p e s m args below meth c A C => ?_)
  unfold wp_X8_sendPacket at hw
  refine x_aload_n C dX8_sendPacket_0 rfl rfl 0 rfl ?_
  refine gM0_frames C i_640 dX8_sendPacket_1 rfl ?_
  refine x_bipush C (v := (100 : Int32)) dX8_sendPacket_4 rfl (by decide) ?_
  refine x_irem C dX8_sendPacket_6 rfl (by decide) ?_
  refine x_istore C (lv' := [(8, .int ((M_frames u) - (M_frames u) / (100 : Int32) * (100 : Int32))), (0, .ref (L 0)), (1, .long a1), (3, .int a3), (4, .int a4), (5, .long a5), (7, .int a7)]) dX8_sendPacket_7 rfl (by decide) rfl ?_
  refine x_aload_n C dX8_sendPacket_9 rfl rfl 1 rfl ?_
  refine gM0_frameTo C i_641 dX8_sendPacket_10 rfl ?_
  refine x_iload C dX8_sendPacket_13 rfl 0 rfl ?_
  refine x_lload_n C dX8_sendPacket_15 rfl rfl 2 rfl ?_
  obtain ⟨h1, hw⟩ := hw
  refine pM9_at C h1 dX8_sendPacket_16 rfl (fun u2 e3 => ?_)
  have hw := hw u2 e3
  refine x_aload_n C dX8_sendPacket_17 rfl rfl 1 rfl ?_
  refine gM0_framePacket C i_643 dX8_sendPacket_18 rfl ?_
  refine x_iload C dX8_sendPacket_21 rfl 0 rfl ?_
  refine x_iconst C (v := (1 : Int32)) dX8_sendPacket_23 rfl (by decide) ?_
  refine pM11_at C h1 dX8_sendPacket_24 rfl (fun u4 e5 => ?_)
  have hw := hw u4 e5
  refine x_iconst C (v := (0 : Int32)) dX8_sendPacket_25 rfl (by decide) ?_
  refine x_istore C (lv' := [(9, .int (0 : Int32)), (8, .int ((M_frames u) - (M_frames u) / (100 : Int32) * (100 : Int32))), (0, .ref (L 0)), (1, .long a1), (3, .int a3), (4, .int a4), (5, .long a5), (7, .int a7)]) dX8_sendPacket_26 rfl (by decide) rfl ?_
  refine x_lv [2, 4, 5, 6, 7, 1, 0] rfl ?_
  obtain ⟨f9, hw⟩ := hw
  exact t_X8_sendPacket_28 C f9 a3 a4 a5 a7 ((M_frames u) - (M_frames u) / (100 : Int32) * (100 : Int32)) (0 : Int32) u4 hw
set_option maxRecDepth 20000 in
theorem k_X8_sendPacket (C : xCx p s m args meth c G K A nL cc own ret) {a1 : Int64} {a3 : Int32} {a4 : Int32} {a5 : Int64} {a7 : Int32} {u : MS} {idx : Nat} {rest : List Value} {Post : MS → Prop} (hlink : Cond.methodLink own idx yX8_sendPacket ∈ gw_tbl) (hR : 1 + 1 ≤ R.frames ∧ 8 + (10 + 11) + 27 ≤ R.locals) (hf : cells ≤ R.cells ∧ slots ≤ R.slots) (hW : (rest.map fun v => v.category).sum ≤ 8) (hw : wp_X8_sendPacket a1 a3 a4 a5 a7 u Post) (hdg : decode cc n = .ok (.invokevirtual idx, 3)) (hp : pc = n) (kk : ∀ u' : MS, Post u' → xV p l e R s m args below meth c G A nL Q cells slots (mw L K u' T) (n + 3) lv rest) : xV p l e R s m args below meth c G A nL Q cells slots (mw L K u T) pc lv (.int a7 :: .long a5 :: .int a4 :: .int a3 :: .long a1 :: .ref (L 0) :: rest) :=
  x_callV C (As := [.long a1, .int a3, .int a4, .long a5, .int a7]) (c_X8_sendPacket hw) ⟨hlink, i_753, i_s26, i_9, i_754⟩ 0 rfl rfl rfl (k := 5) (by decide +kernel) rfl hR hf hW rfl hdg hp (fun v ws' ⟨u', hv, hws, hPo⟩ _ => by subst hv; subst hws; exact kk u' hPo)
def wp_X8_sendData (a1 : Int64) (a3 : Int32) (u : MS) (Post : MS → Prop) : Prop :=
  vp_in ((M_frames u) - (M_frames u) / (100 : Int32) * (100 : Int32)) 100 ∧ ((∀ (u2 : MS), u2 = Ms_frameTo u (vp_updL (M_frameTo u) (Int32.toNatClampNeg ((M_frames u) - (M_frames u) / (100 : Int32) * (100 : Int32))) a1) → (∀ (u4 : MS), u4 = Ms_framePacket u2 (upd (M_framePacket u2) (Int32.toNatClampNeg ((M_frames u) - (M_frames u) / (100 : Int32) * (100 : Int32))) (vp_nar .boolean (0 : Int32))) → (∀ (u6 : MS), u6 = Ms_frameData u4 (upd (M_frameData u4) (Int32.toNatClampNeg ((M_frames u) - (M_frames u) / (100 : Int32) * (100 : Int32))) a3) → (∀ (u8 : MS), u8 = Ms_frames u6 ((M_frames u6) + (1 : Int32)) → Post u8)))))
set_option maxHeartbeats 4000000 in
set_option maxRecDepth 20000 in
theorem c_X8_sendData {a1 : Int64} {a3 : Int32} {u : MS} {Post : MS → Prop} (hw : wp_X8_sendData a1 a3 u Post) : xMet l yX8_sendData cX8_sendData 5 none 0 0 0 0 G K [.ref (L 0), .long a1, .int a3] (mw L K u T) (fun v ws' => ∃ u' : MS, v = none ∧ ws' = (mw L K u' T) ∧ Post u') := by
  refine xMet.intro (lv := [(0, .ref (L 0)), (1, .long a1), (3, .int a3)]) (by decide) rfl (Nat.le_of_ble_eq_true rfl) rfl (fun p e s m args below meth c A C => ?_)
  unfold wp_X8_sendData at hw
  refine x_aload_n C dX8_sendData_0 rfl rfl 0 rfl ?_
  refine gM0_frames C i_640 dX8_sendData_1 rfl ?_
  refine x_bipush C (v := (100 : Int32)) dX8_sendData_4 rfl (by decide) ?_
  refine x_irem C dX8_sendData_6 rfl (by decide) ?_
  refine x_istore C (lv' := [(4, .int ((M_frames u) - (M_frames u) / (100 : Int32) * (100 : Int32))), (0, .ref (L 0)), (1, .long a1), (3, .int a3)]) dX8_sendData_7 rfl (by decide) rfl ?_
  refine x_aload_n C dX8_sendData_9 rfl rfl 1 rfl ?_
  refine gM0_frameTo C i_641 dX8_sendData_10 rfl ?_
  refine x_iload C dX8_sendData_13 rfl 0 rfl ?_
  refine x_lload_n C dX8_sendData_15 rfl rfl 2 rfl ?_
  obtain ⟨h1, hw⟩ := hw
  refine pM9_at C h1 dX8_sendData_16 rfl (fun u2 e3 => ?_)
  have hw := hw u2 e3
  refine x_aload_n C dX8_sendData_17 rfl rfl 1 rfl ?_
  refine gM0_framePacket C i_643 dX8_sendData_18 rfl ?_
  refine x_iload C dX8_sendData_21 rfl 0 rfl ?_
  refine x_iconst C (v := (0 : Int32)) dX8_sendData_23 rfl (by decide) ?_
  refine pM11_at C h1 dX8_sendData_24 rfl (fun u4 e5 => ?_)
  have hw := hw u4 e5
  refine x_aload_n C dX8_sendData_25 rfl rfl 1 rfl ?_
  refine gM0_frameData C i_642 dX8_sendData_26 rfl ?_
  refine x_iload C dX8_sendData_29 rfl 0 rfl ?_
  refine x_iload_n C dX8_sendData_31 rfl rfl 3 rfl ?_
  refine pM10_at C h1 dX8_sendData_32 rfl (fun u6 e7 => ?_)
  have hw := hw u6 e7
  refine x_aload_n C dX8_sendData_33 rfl rfl 1 rfl ?_
  refine x_dup C dX8_sendData_34 rfl rfl ?_
  refine gM0_frames C i_640 dX8_sendData_35 rfl ?_
  refine x_iconst C (v := (1 : Int32)) dX8_sendData_38 rfl (by decide) ?_
  refine x_iadd C dX8_sendData_39 rfl ?_
  refine pM0_frames C i_640 dX8_sendData_40 rfl (fun u8 e9 => ?_)
  have hw := hw u8 e9
  exact x_vret C dX8_sendData_43 rfl (mw_same _ _) ⟨_, rfl, rfl, hw⟩
set_option maxRecDepth 20000 in
theorem k_X8_sendData (C : xCx p s m args meth c G K A nL cc own ret) {a1 : Int64} {a3 : Int32} {u : MS} {idx : Nat} {rest : List Value} {Post : MS → Prop} (hlink : Cond.methodLink own idx yX8_sendData ∈ gw_tbl) (hR : 0 + 1 ≤ R.frames ∧ 8 + (5 + 11) + 0 ≤ R.locals) (hf : cells ≤ R.cells ∧ slots ≤ R.slots) (hW : (rest.map fun v => v.category).sum ≤ 8) (hw : wp_X8_sendData a1 a3 u Post) (hdg : decode cc n = .ok (.invokevirtual idx, 3)) (hp : pc = n) (kk : ∀ u' : MS, Post u' → xV p l e R s m args below meth c G A nL Q cells slots (mw L K u' T) (n + 3) lv rest) : xV p l e R s m args below meth c G A nL Q cells slots (mw L K u T) pc lv (.int a3 :: .long a1 :: .ref (L 0) :: rest) :=
  x_callV C (As := [.long a1, .int a3]) (c_X8_sendData hw) ⟨hlink, i_785, i_s34, i_9, i_786⟩ 0 rfl rfl rfl (k := 2) (by decide +kernel) rfl hR hf hW rfl hdg hp (fun v ws' ⟨u', hv, hws, hPo⟩ _ => by subst hv; subst hws; exact kk u' hPo)
def wp_X8_request (a1 : Int64) (a3 : Int32) (u : MS) (Post : MS → Prop) : Prop :=
  wp_X8_sendPacket a1 (1 : Int32) (M_own u) (0 : Int64) a3 u (fun u2 => Post u2)
set_option maxHeartbeats 4000000 in
set_option maxRecDepth 20000 in
theorem c_X8_request {a1 : Int64} {a3 : Int32} {u : MS} {Post : MS → Prop} (hw : wp_X8_request a1 a3 u Post) : xMet l yX8_request cX8_request 4 none 2 56 0 0 G K [.ref (L 0), .long a1, .int a3] (mw L K u T) (fun v ws' => ∃ u' : MS, v = none ∧ ws' = (mw L K u' T) ∧ Post u') := by
  refine xMet.intro (lv := [(0, .ref (L 0)), (1, .long a1), (3, .int a3)]) (by decide) rfl (Nat.le_of_ble_eq_true rfl) rfl (fun p e s m args below meth c A C => ?_)
  unfold wp_X8_request at hw
  refine x_aload_n C dX8_request_0 rfl rfl 0 rfl ?_
  refine x_lload_n C dX8_request_1 rfl rfl 1 rfl ?_
  refine x_iconst C (v := (1 : Int32)) dX8_request_2 rfl (by decide) ?_
  refine x_aload_n C dX8_request_3 rfl rfl 0 rfl ?_
  refine gM0_own C i_626 dX8_request_4 rfl ?_
  refine x_lconst C (v := (0 : Int64)) dX8_request_7 rfl (by decide) ?_
  refine x_iload_n C dX8_request_8 rfl rfl 2 rfl ?_
  refine k_X8_sendPacket C i_751 ⟨Nat.le_of_ble_eq_true rfl, Nat.le_of_ble_eq_true rfl⟩ ⟨Nat.zero_le _, Nat.zero_le _⟩ (Nat.le_of_ble_eq_true rfl) hw dX8_request_9 rfl (fun u2 hw => ?_)
  exact x_vret C dX8_request_12 rfl (mw_same _ _) ⟨_, rfl, rfl, hw⟩
set_option maxRecDepth 20000 in
theorem k_X8_request (C : xCx p s m args meth c G K A nL cc own ret) {a1 : Int64} {a3 : Int32} {u : MS} {idx : Nat} {rest : List Value} {Post : MS → Prop} (hlink : Cond.methodLink own idx yX8_request ∈ gw_tbl) (hR : 2 + 1 ≤ R.frames ∧ 8 + (4 + 11) + 56 ≤ R.locals) (hf : cells ≤ R.cells ∧ slots ≤ R.slots) (hW : (rest.map fun v => v.category).sum ≤ 8) (hw : wp_X8_request a1 a3 u Post) (hdg : decode cc n = .ok (.invokevirtual idx, 3)) (hp : pc = n) (kk : ∀ u' : MS, Post u' → xV p l e R s m args below meth c G A nL Q cells slots (mw L K u' T) (n + 3) lv rest) : xV p l e R s m args below meth c G A nL Q cells slots (mw L K u T) pc lv (.int a3 :: .long a1 :: .ref (L 0) :: rest) :=
  x_callV C (As := [.long a1, .int a3]) (c_X8_request hw) ⟨hlink, i_749, i_s25, i_9, i_750⟩ 0 rfl rfl rfl (k := 2) (by decide +kernel) rfl hR hf hW rfl hdg hp (fun v ws' ⟨u', hv, hws, hPo⟩ _ => by subst hv; subst hws; exact kk u' hPo)
def wp_X8_probe (u : MS) (Post : MS → Prop) : Prop :=
  wp_X8_sendPacket (281474976710655 : Int64) (1 : Int32) (0 : Int32) (0 : Int64) (M_own u) u (fun u2 => Post u2)
set_option maxHeartbeats 4000000 in
set_option maxRecDepth 20000 in
theorem c_X8_probe {u : MS} {Post : MS → Prop} (hw : wp_X8_probe  u Post) : xMet l yX8_probe cX8_probe 1 none 2 56 0 0 G K [.ref (L 0)] (mw L K u T) (fun v ws' => ∃ u' : MS, v = none ∧ ws' = (mw L K u' T) ∧ Post u') := by
  refine xMet.intro (lv := [(0, .ref (L 0))]) (by decide) rfl (Nat.le_of_ble_eq_true rfl) rfl (fun p e s m args below meth c A C => ?_)
  unfold wp_X8_probe at hw
  refine x_aload_n C dX8_probe_0 rfl rfl 0 rfl ?_
  refine x_ldc2 C dX8_probe_1 rfl i_738 ?_
  refine x_iconst C (v := (1 : Int32)) dX8_probe_4 rfl (by decide) ?_
  refine x_iconst C (v := (0 : Int32)) dX8_probe_5 rfl (by decide) ?_
  refine x_lconst C (v := (0 : Int64)) dX8_probe_6 rfl (by decide) ?_
  refine x_aload_n C dX8_probe_7 rfl rfl 0 rfl ?_
  refine gM0_own C i_626 dX8_probe_8 rfl ?_
  refine k_X8_sendPacket C i_751 ⟨Nat.le_of_ble_eq_true rfl, Nat.le_of_ble_eq_true rfl⟩ ⟨Nat.zero_le _, Nat.zero_le _⟩ (Nat.le_of_ble_eq_true rfl) hw dX8_probe_11 rfl (fun u2 hw => ?_)
  exact x_vret C dX8_probe_14 rfl (mw_same _ _) ⟨_, rfl, rfl, hw⟩
set_option maxRecDepth 20000 in
theorem k_X8_probe (C : xCx p s m args meth c G K A nL cc own ret) {u : MS} {idx : Nat} {rest : List Value} {Post : MS → Prop} (hlink : Cond.methodLink own idx yX8_probe ∈ gw_tbl) (hR : 2 + 1 ≤ R.frames ∧ 8 + (1 + 11) + 56 ≤ R.locals) (hf : cells ≤ R.cells ∧ slots ≤ R.slots) (hW : (rest.map fun v => v.category).sum ≤ 8) (hw : wp_X8_probe  u Post) (hdg : decode cc n = .ok (.invokevirtual idx, 3)) (hp : pc = n) (kk : ∀ u' : MS, Post u' → xV p l e R s m args below meth c G A nL Q cells slots (mw L K u' T) (n + 3) lv rest) : xV p l e R s m args below meth c G A nL Q cells slots (mw L K u T) pc lv (.ref (L 0) :: rest) :=
  x_callV C (As := []) (c_X8_probe hw) ⟨hlink, i_801, i_s37, i_9, i_802⟩ 0 rfl rfl rfl (k := 0) (by decide +kernel) rfl hR hf hW rfl hdg hp (fun v ws' ⟨u', hv, hws, hPo⟩ _ => by subst hv; subst hws; exact kk u' hPo)
def wp_X8_lose (a1 : Int32) (u : MS) (Post : MS → Prop) : Prop :=
  vp_in ((M_lost u) - (M_lost u) / (100 : Int32) * (100 : Int32)) 100 ∧ ((∀ (u2 : MS), u2 = Ms_lostNumbers u (upd (M_lostNumbers u) (Int32.toNatClampNeg ((M_lost u) - (M_lost u) / (100 : Int32) * (100 : Int32))) a1) → (∀ (u4 : MS), u4 = Ms_lost u2 ((M_lost u2) + (1 : Int32)) → Post u4)))
set_option maxHeartbeats 4000000 in
set_option maxRecDepth 20000 in
theorem c_X8_lose {a1 : Int32} {u : MS} {Post : MS → Prop} (hw : wp_X8_lose a1 u Post) : xMet l yX8_lose cX8_lose 2 none 0 0 0 0 G K [.ref (L 0), .int a1] (mw L K u T) (fun v ws' => ∃ u' : MS, v = none ∧ ws' = (mw L K u' T) ∧ Post u') := by
  refine xMet.intro (lv := [(0, .ref (L 0)), (1, .int a1)]) (by decide) rfl (Nat.le_of_ble_eq_true rfl) rfl (fun p e s m args below meth c A C => ?_)
  unfold wp_X8_lose at hw
  refine x_aload_n C dX8_lose_0 rfl rfl 0 rfl ?_
  refine gM0_lostNumbers C i_646 dX8_lose_1 rfl ?_
  refine x_aload_n C dX8_lose_4 rfl rfl 0 rfl ?_
  refine gM0_lost C i_645 dX8_lose_5 rfl ?_
  refine x_bipush C (v := (100 : Int32)) dX8_lose_8 rfl (by decide) ?_
  refine x_irem C dX8_lose_10 rfl (by decide) ?_
  refine x_iload_n C dX8_lose_11 rfl rfl 1 rfl ?_
  obtain ⟨h1, hw⟩ := hw
  refine pM13_at C h1 dX8_lose_12 rfl (fun u2 e3 => ?_)
  have hw := hw u2 e3
  refine x_aload_n C dX8_lose_13 rfl rfl 0 rfl ?_
  refine x_dup C dX8_lose_14 rfl rfl ?_
  refine gM0_lost C i_645 dX8_lose_15 rfl ?_
  refine x_iconst C (v := (1 : Int32)) dX8_lose_18 rfl (by decide) ?_
  refine x_iadd C dX8_lose_19 rfl ?_
  refine pM0_lost C i_645 dX8_lose_20 rfl (fun u4 e5 => ?_)
  have hw := hw u4 e5
  exact x_vret C dX8_lose_23 rfl (mw_same _ _) ⟨_, rfl, rfl, hw⟩
set_option maxRecDepth 20000 in
theorem k_X8_lose (C : xCx p s m args meth c G K A nL cc own ret) {a1 : Int32} {u : MS} {idx : Nat} {rest : List Value} {Post : MS → Prop} (hlink : Cond.methodLink own idx yX8_lose ∈ gw_tbl) (hR : 0 + 1 ≤ R.frames ∧ 8 + (2 + 11) + 0 ≤ R.locals) (hf : cells ≤ R.cells ∧ slots ≤ R.slots) (hW : (rest.map fun v => v.category).sum ≤ 8) (hw : wp_X8_lose a1 u Post) (hdg : decode cc n = .ok (.invokevirtual idx, 3)) (hp : pc = n) (kk : ∀ u' : MS, Post u' → xV p l e R s m args below meth c G A nL Q cells slots (mw L K u' T) (n + 3) lv rest) : xV p l e R s m args below meth c G A nL Q cells slots (mw L K u T) pc lv (.int a1 :: .ref (L 0) :: rest) :=
  x_callV C (As := [.int a1]) (c_X8_lose hw) ⟨hlink, i_765, i_s29, i_9, i_766⟩ 0 rfl rfl rfl (k := 1) (by decide +kernel) rfl hR hf hW rfl hdg hp (fun v ws' ⟨u', hv, hws, hPo⟩ _ => by subst hv; subst hws; exact kk u' hPo)
def lb_X8_find_4 (Post : Int32 → MS → Prop) (Ks : Int32 → Int32 → Int32 → MS → Prop) (x1 : Int32) (x2 : Int32) (x3 : Int32) (u : MS) : Prop :=
  (((M_entries u) ≤ x3 → Post x2 u) ∧ (¬ ((M_entries u) ≤ x3) → vp_in x3 33 ∧ (((¬ ((M_addresses u (Int32.toNatClampNeg x3)) = x1) → Ks x1 x2 (x3 + 1) u) ∧ ((M_addresses u (Int32.toNatClampNeg x3)) = x1 → Ks x1 x3 (x3 + 1) u)))))
def lp_X8_find_4 (Post : Int32 → MS → Prop) : Nat → Int32 → Int32 → Int32 → MS → Prop
  | 0 => fun _ _ _ _ => False
  | f + 1 => fun x1 x2 x3 u => lb_X8_find_4 Post (lp_X8_find_4 Post f) x1 x2 x3 u
set_option maxHeartbeats 4000000 in
set_option maxRecDepth 20000 in
theorem t_X8_find_4 (C : xCx p s m args meth c G K A 4 cX8_find RX8 (some .int)) {u0 : MS} {Post : Int32 → MS → Prop} : ∀ (f : Nat) (x1 : Int32) (x2 : Int32) (x3 : Int32) (u : MS) , lp_X8_find_4  Post f x1 x2 x3 u → xV p l e (xRm 0 0 0 0) s m args below meth c G A 4 (xQ G A (mw L K u0 T) (fun v ws' => ∃ (r : Int32) (u' : MS), v = some (.int r) ∧ ws' = (mw L K u' T) ∧ Post r u') below args s 0 0) 0 0 (mw L K u T) 4 [(0, .ref (L 0)), (1, .int x1), (2, .int x2), (3, .int x3)] [] := by
  intro f
  induction f with
  | zero => intro x1 x2 x3 u hw; exact hw.elim
  | succ f ih =>
    intro x1 x2 x3 u hw
    have hw : lb_X8_find_4  Post (lp_X8_find_4  Post f) x1 x2 x3 u := hw
    unfold lb_X8_find_4 at hw
    refine x_iload_n C dX8_find_4 rfl rfl 3 rfl ?_
    refine x_aload_n C dX8_find_5 rfl rfl 0 rfl ?_
    refine gM0_entries C i_632 dX8_find_6 rfl ?_
    refine x_icmp_ge C 34 dX8_find_9 rfl (by decide) (fun c1 => ?_) (fun c1 => ?_)
    · have hw := hw.1 c1
      refine x_iload_n C dX8_find_34 rfl rfl 2 rfl ?_
      exact x_iret C dX8_find_35 rfl (mw_same _ _) ⟨_, _, rfl, rfl, hw⟩
    · have hw := hw.2 c1
      refine x_aload_n C dX8_find_12 rfl rfl 0 rfl ?_
      refine gM0_addresses C i_633 dX8_find_13 rfl ?_
      refine x_iload_n C dX8_find_16 rfl rfl 3 rfl ?_
      obtain ⟨h2, hw⟩ := hw
      refine gM2_at C h2 dX8_find_17 rfl ?_
      refine x_iload_n C dX8_find_18 rfl rfl 1 rfl ?_
      refine x_icmp_ne C 26 dX8_find_19 rfl (by decide) (fun c3 => ?_) (fun c3 => ?_)
      · have hw := hw.1 c3
        refine x_iload_n C dX8_find_26 rfl rfl 2 rfl ?_
        refine x_istore_n C (lv' := [(2, .int x2), (0, .ref (L 0)), (1, .int x1), (3, .int x3)]) dX8_find_27 rfl rfl (by decide) rfl ?_
        refine x_iinc C (k := 3) (v := x3 + 1) (lv' := [(3, .int (x3 + 1)), (2, .int x2), (0, .ref (L 0)), (1, .int x1)]) dX8_find_28 rfl rfl rfl (by decide) rfl ?_
        refine x_goto C (tgt := 4) dX8_find_31 rfl (by decide) ?_
        refine x_lv [2, 3, 1, 0] rfl ?_
        exact ih x1 x2 (x3 + 1) u hw
      · have hw := hw.2 c3
        refine x_iload_n C dX8_find_22 rfl rfl 3 rfl ?_
        refine x_goto C (tgt := 27) dX8_find_23 rfl (by decide) ?_
        refine x_istore_n C (lv' := [(2, .int x3), (0, .ref (L 0)), (1, .int x1), (3, .int x3)]) dX8_find_27 rfl rfl (by decide) rfl ?_
        refine x_iinc C (k := 3) (v := x3 + 1) (lv' := [(3, .int (x3 + 1)), (2, .int x3), (0, .ref (L 0)), (1, .int x1)]) dX8_find_28 rfl rfl rfl (by decide) rfl ?_
        refine x_goto C (tgt := 4) dX8_find_31 rfl (by decide) ?_
        refine x_lv [2, 3, 1, 0] rfl ?_
        exact ih x1 x3 (x3 + 1) u hw
def wp_X8_find (a1 : Int32) (u : MS) (Post : Int32 → MS → Prop) : Prop :=
  ∃ f9 : Nat, lp_X8_find_4 Post f9 a1 (-1 : Int32) (0 : Int32) u
set_option maxHeartbeats 4000000 in
set_option maxRecDepth 20000 in
theorem c_X8_find {a1 : Int32} {u : MS} {Post : Int32 → MS → Prop} (hw : wp_X8_find a1 u Post) : xMet l yX8_find cX8_find 4 (some .int) 0 0 0 0 G K [.ref (L 0), .int a1] (mw L K u T) (fun v ws' => ∃ (r : Int32) (u' : MS), v = some (.int r) ∧ ws' = (mw L K u' T) ∧ Post r u') := by
  refine xMet.intro (lv := [(0, .ref (L 0)), (1, .int a1)]) (by decide) rfl (Nat.le_of_ble_eq_true rfl) rfl (fun p e s m args below meth c A C => ?_)
  unfold wp_X8_find at hw
  refine x_iconst C (v := (-1 : Int32)) dX8_find_0 rfl (by decide) ?_
  refine x_istore_n C (lv' := [(2, .int (-1 : Int32)), (0, .ref (L 0)), (1, .int a1)]) dX8_find_1 rfl rfl (by decide) rfl ?_
  refine x_iconst C (v := (0 : Int32)) dX8_find_2 rfl (by decide) ?_
  refine x_istore_n C (lv' := [(3, .int (0 : Int32)), (2, .int (-1 : Int32)), (0, .ref (L 0)), (1, .int a1)]) dX8_find_3 rfl rfl (by decide) rfl ?_
  refine x_lv [2, 3, 1, 0] rfl ?_
  obtain ⟨f9, hw⟩ := hw
  exact t_X8_find_4 C f9 a1 (-1 : Int32) (0 : Int32) u hw
set_option maxRecDepth 20000 in
theorem k_X8_find (C : xCx p s m args meth c G K A nL cc own ret) {a1 : Int32} {u : MS} {idx : Nat} {rest : List Value} {Post : Int32 → MS → Prop} (hlink : Cond.methodLink own idx yX8_find ∈ gw_tbl) (hR : 0 + 1 ≤ R.frames ∧ 8 + (4 + 11) + 0 ≤ R.locals) (hf : cells ≤ R.cells ∧ slots ≤ R.slots) (hW : (rest.map fun v => v.category).sum ≤ 8) (hw : wp_X8_find a1 u Post) (hdg : decode cc n = .ok (.invokevirtual idx, 3)) (hp : pc = n) (kk : ∀ (r : Int32) (u' : MS), Post r u' → xV p l e R s m args below meth c G A nL Q cells slots (mw L K u' T) (n + 3) lv (.int r :: rest)) : xV p l e R s m args below meth c G A nL Q cells slots (mw L K u T) pc lv (.int a1 :: .ref (L 0) :: rest) :=
  x_callV C (As := [.int a1]) (c_X8_find hw) ⟨hlink, i_777, i_s32, i_9, i_778⟩ 0 rfl rfl rfl (k := 1) (by decide +kernel) rfl hR hf hW rfl hdg hp (fun v ws' ⟨r, u', hv, hws, hPo⟩ _ => by subst hv; subst hws; exact kk r u' hPo)
def lb_X8_move_74 (Post : MS → Prop) (Ks : Int32 → Int32 → Int32 → MS → Prop) (x1 : Int32) (x2 : Int32) (x3 : Int32) (u : MS) : Prop :=
  (((4 : Int32) ≤ x3 → Post u) ∧ (¬ ((4 : Int32) ≤ x3) → vp_in (((4 : Int32) * x1) + x3) 132 ∧ (vp_in (((4 : Int32) * x2) + x3) 132 ∧ ((∀ (u4 : MS), u4 = Ms_waits u (upd (M_waits u) (Int32.toNatClampNeg (((4 : Int32) * x2) + x3)) (M_waits u (Int32.toNatClampNeg (((4 : Int32) * x1) + x3)))) → Ks x1 x2 (x3 + 1) u4)))))
def lp_X8_move_74 (Post : MS → Prop) : Nat → Int32 → Int32 → Int32 → MS → Prop
  | 0 => fun _ _ _ _ => False
  | f + 1 => fun x1 x2 x3 u => lb_X8_move_74 Post (lp_X8_move_74 Post f) x1 x2 x3 u
set_option maxHeartbeats 4000000 in
set_option maxRecDepth 20000 in
theorem t_X8_move_74 (C : xCx p s m args meth c G K A 4 cX8_move RX8 none) {u0 : MS} {Post : MS → Prop} : ∀ (f : Nat) (x1 : Int32) (x2 : Int32) (x3 : Int32) (u : MS) , lp_X8_move_74  Post f x1 x2 x3 u → xV p l e (xRm 0 0 0 0) s m args below meth c G A 4 (xQ G A (mw L K u0 T) (fun v ws' => ∃ u' : MS, v = none ∧ ws' = (mw L K u' T) ∧ Post u') below args s 0 0) 0 0 (mw L K u T) 74 [(0, .ref (L 0)), (1, .int x1), (2, .int x2), (3, .int x3)] [] := by
  intro f
  induction f with
  | zero => intro x1 x2 x3 u hw; exact hw.elim
  | succ f ih =>
    intro x1 x2 x3 u hw
    have hw : lb_X8_move_74  Post (lp_X8_move_74  Post f) x1 x2 x3 u := hw
    unfold lb_X8_move_74 at hw
    refine x_iload_n C dX8_move_74 rfl rfl 3 rfl ?_
    refine x_iconst C (v := (4 : Int32)) dX8_move_75 rfl (by decide) ?_
    refine x_icmp_ge C 105 dX8_move_76 rfl (by decide) (fun c1 => ?_) (fun c1 => ?_)
    · have hw := hw.1 c1
      exact x_vret C dX8_move_105 rfl (mw_same _ _) ⟨_, rfl, rfl, hw⟩
    · have hw := hw.2 c1
      refine x_aload_n C dX8_move_79 rfl rfl 0 rfl ?_
      refine gM0_waits C i_639 dX8_move_80 rfl ?_
      refine x_iconst C (v := (4 : Int32)) dX8_move_83 rfl (by decide) ?_
      refine x_iload_n C dX8_move_84 rfl rfl 2 rfl ?_
      refine x_imul C dX8_move_85 rfl ?_
      refine x_iload_n C dX8_move_86 rfl rfl 3 rfl ?_
      refine x_iadd C dX8_move_87 rfl ?_
      refine x_aload_n C dX8_move_88 rfl rfl 0 rfl ?_
      refine gM0_waits C i_639 dX8_move_89 rfl ?_
      refine x_iconst C (v := (4 : Int32)) dX8_move_92 rfl (by decide) ?_
      refine x_iload_n C dX8_move_93 rfl rfl 1 rfl ?_
      refine x_imul C dX8_move_94 rfl ?_
      refine x_iload_n C dX8_move_95 rfl rfl 3 rfl ?_
      refine x_iadd C dX8_move_96 rfl ?_
      obtain ⟨h2, hw⟩ := hw
      refine gM8_at C h2 dX8_move_97 rfl ?_
      obtain ⟨h3, hw⟩ := hw
      refine pM8_at C h3 dX8_move_98 rfl (fun u4 e5 => ?_)
      have hw := hw u4 e5
      refine x_iinc C (k := 3) (v := x3 + 1) (lv' := [(3, .int (x3 + 1)), (0, .ref (L 0)), (1, .int x1), (2, .int x2)]) dX8_move_99 rfl rfl rfl (by decide) rfl ?_
      refine x_goto C (tgt := 74) dX8_move_102 rfl (by decide) ?_
      refine x_lv [1, 2, 3, 0] rfl ?_
      exact ih x1 x2 (x3 + 1) u4 hw
def wp_X8_move (a1 : Int32) (a2 : Int32) (u : MS) (Post : MS → Prop) : Prop :=
  vp_in a1 33 ∧ (vp_in a2 33 ∧ ((∀ (u3 : MS), u3 = Ms_addresses u (upd (M_addresses u) (Int32.toNatClampNeg a2) (M_addresses u (Int32.toNatClampNeg a1))) → (∀ (u5 : MS), u5 = Ms_kinds u3 (upd (M_kinds u3) (Int32.toNatClampNeg a2) (M_kinds u3 (Int32.toNatClampNeg a1))) → (∀ (u7 : MS), u7 = Ms_hardware u5 (vp_updL (M_hardware u5) (Int32.toNatClampNeg a2) (M_hardware u5 (Int32.toNatClampNeg a1))) → (∀ (u9 : MS), u9 = Ms_since u7 (upd (M_since u7) (Int32.toNatClampNeg a2) (M_since u7 (Int32.toNatClampNeg a1))) → (∀ (u11 : MS), u11 = Ms_used u9 (upd (M_used u9) (Int32.toNatClampNeg a2) (M_used u9 (Int32.toNatClampNeg a1))) → (∀ (u13 : MS), u13 = Ms_waiting u11 (upd (M_waiting u11) (Int32.toNatClampNeg a2) (M_waiting u11 (Int32.toNatClampNeg a1))) → ∃ f9 : Nat, lp_X8_move_74 Post f9 a1 a2 (0 : Int32) u13))))))))
set_option maxHeartbeats 4000000 in
set_option maxRecDepth 20000 in
theorem c_X8_move {a1 : Int32} {a2 : Int32} {u : MS} {Post : MS → Prop} (hw : wp_X8_move a1 a2 u Post) : xMet l yX8_move cX8_move 4 none 0 0 0 0 G K [.ref (L 0), .int a1, .int a2] (mw L K u T) (fun v ws' => ∃ u' : MS, v = none ∧ ws' = (mw L K u' T) ∧ Post u') := by
  refine xMet.intro (lv := [(0, .ref (L 0)), (1, .int a1), (2, .int a2)]) (by decide) rfl (Nat.le_of_ble_eq_true rfl) rfl (fun p e s m args below meth c A C => ?_)
  unfold wp_X8_move at hw
  refine x_aload_n C dX8_move_0 rfl rfl 0 rfl ?_
  refine gM0_addresses C i_633 dX8_move_1 rfl ?_
  refine x_iload_n C dX8_move_4 rfl rfl 2 rfl ?_
  refine x_aload_n C dX8_move_5 rfl rfl 0 rfl ?_
  refine gM0_addresses C i_633 dX8_move_6 rfl ?_
  refine x_iload_n C dX8_move_9 rfl rfl 1 rfl ?_
  obtain ⟨h1, hw⟩ := hw
  refine gM2_at C h1 dX8_move_10 rfl ?_
  obtain ⟨h2, hw⟩ := hw
  refine pM2_at C h2 dX8_move_11 rfl (fun u3 e4 => ?_)
  have hw := hw u3 e4
  refine x_aload_n C dX8_move_12 rfl rfl 0 rfl ?_
  refine gM0_kinds C i_634 dX8_move_13 rfl ?_
  refine x_iload_n C dX8_move_16 rfl rfl 2 rfl ?_
  refine x_aload_n C dX8_move_17 rfl rfl 0 rfl ?_
  refine gM0_kinds C i_634 dX8_move_18 rfl ?_
  refine x_iload_n C dX8_move_21 rfl rfl 1 rfl ?_
  refine gM3_at C h1 dX8_move_22 rfl ?_
  refine pM3_at C h2 dX8_move_23 rfl (fun u5 e6 => ?_)
  have hw := hw u5 e6
  refine x_aload_n C dX8_move_24 rfl rfl 0 rfl ?_
  refine gM0_hardware C i_635 dX8_move_25 rfl ?_
  refine x_iload_n C dX8_move_28 rfl rfl 2 rfl ?_
  refine x_aload_n C dX8_move_29 rfl rfl 0 rfl ?_
  refine gM0_hardware C i_635 dX8_move_30 rfl ?_
  refine x_iload_n C dX8_move_33 rfl rfl 1 rfl ?_
  refine gM4_at C h1 dX8_move_34 rfl ?_
  refine pM4_at C h2 dX8_move_35 rfl (fun u7 e8 => ?_)
  have hw := hw u7 e8
  refine x_aload_n C dX8_move_36 rfl rfl 0 rfl ?_
  refine gM0_since C i_636 dX8_move_37 rfl ?_
  refine x_iload_n C dX8_move_40 rfl rfl 2 rfl ?_
  refine x_aload_n C dX8_move_41 rfl rfl 0 rfl ?_
  refine gM0_since C i_636 dX8_move_42 rfl ?_
  refine x_iload_n C dX8_move_45 rfl rfl 1 rfl ?_
  refine gM5_at C h1 dX8_move_46 rfl ?_
  refine pM5_at C h2 dX8_move_47 rfl (fun u9 e10 => ?_)
  have hw := hw u9 e10
  refine x_aload_n C dX8_move_48 rfl rfl 0 rfl ?_
  refine gM0_used C i_637 dX8_move_49 rfl ?_
  refine x_iload_n C dX8_move_52 rfl rfl 2 rfl ?_
  refine x_aload_n C dX8_move_53 rfl rfl 0 rfl ?_
  refine gM0_used C i_637 dX8_move_54 rfl ?_
  refine x_iload_n C dX8_move_57 rfl rfl 1 rfl ?_
  refine gM6_at C h1 dX8_move_58 rfl ?_
  refine pM6_at C h2 dX8_move_59 rfl (fun u11 e12 => ?_)
  have hw := hw u11 e12
  refine x_aload_n C dX8_move_60 rfl rfl 0 rfl ?_
  refine gM0_waiting C i_638 dX8_move_61 rfl ?_
  refine x_iload_n C dX8_move_64 rfl rfl 2 rfl ?_
  refine x_aload_n C dX8_move_65 rfl rfl 0 rfl ?_
  refine gM0_waiting C i_638 dX8_move_66 rfl ?_
  refine x_iload_n C dX8_move_69 rfl rfl 1 rfl ?_
  refine gM7_at C h1 dX8_move_70 rfl ?_
  refine pM7_at C h2 dX8_move_71 rfl (fun u13 e14 => ?_)
  have hw := hw u13 e14
  refine x_iconst C (v := (0 : Int32)) dX8_move_72 rfl (by decide) ?_
  refine x_istore_n C (lv' := [(3, .int (0 : Int32)), (0, .ref (L 0)), (1, .int a1), (2, .int a2)]) dX8_move_73 rfl rfl (by decide) rfl ?_
  refine x_lv [1, 2, 3, 0] rfl ?_
  obtain ⟨f9, hw⟩ := hw
  exact t_X8_move_74 C f9 a1 a2 (0 : Int32) u13 hw
set_option maxRecDepth 20000 in
theorem k_X8_move (C : xCx p s m args meth c G K A nL cc own ret) {a1 : Int32} {a2 : Int32} {u : MS} {idx : Nat} {rest : List Value} {Post : MS → Prop} (hlink : Cond.methodLink own idx yX8_move ∈ gw_tbl) (hR : 0 + 1 ≤ R.frames ∧ 8 + (4 + 11) + 0 ≤ R.locals) (hf : cells ≤ R.cells ∧ slots ≤ R.slots) (hW : (rest.map fun v => v.category).sum ≤ 8) (hw : wp_X8_move a1 a2 u Post) (hdg : decode cc n = .ok (.invokevirtual idx, 3)) (hp : pc = n) (kk : ∀ u' : MS, Post u' → xV p l e R s m args below meth c G A nL Q cells slots (mw L K u' T) (n + 3) lv rest) : xV p l e R s m args below meth c G A nL Q cells slots (mw L K u T) pc lv (.int a2 :: .int a1 :: .ref (L 0) :: rest) :=
  x_callV C (As := [.int a1, .int a2]) (c_X8_move hw) ⟨hlink, i_773, i_s31, i_9, i_774⟩ 0 rfl rfl rfl (k := 2) (by decide +kernel) rfl hR hf hW rfl hdg hp (fun v ws' ⟨u', hv, hws, hPo⟩ _ => by subst hv; subst hws; exact kk u' hPo)
def lb_X8_take_12 (Post : MS → Prop) (Ks : Int32 → MS → Prop) (x2 : Int32) (u : MS) : Prop :=
  (((M_entries u) ≤ x2 → Post u) ∧ (¬ ((M_entries u) ≤ x2) → wp_X8_move (x2 + (1 : Int32)) x2 u (fun u3 => Ks (x2 + 1) u3)))
def lp_X8_take_12 (Post : MS → Prop) : Nat → Int32 → MS → Prop
  | 0 => fun _ _ => False
  | f + 1 => fun x2 u => lb_X8_take_12 Post (lp_X8_take_12 Post f) x2 u
set_option maxHeartbeats 4000000 in
set_option maxRecDepth 20000 in
theorem t_X8_take_12 (C : xCx p s m args meth c G K A 3 cX8_take RX8 none) {u0 : MS} {Post : MS → Prop} : ∀ (f : Nat) (x2 : Int32) (u : MS) , lp_X8_take_12  Post f x2 u → xV p l e (xRm 1 23 0 0) s m args below meth c G A 3 (xQ G A (mw L K u0 T) (fun v ws' => ∃ u' : MS, v = none ∧ ws' = (mw L K u' T) ∧ Post u') below args s 0 0) 0 0 (mw L K u T) 12 [(0, .ref (L 0)), (2, .int x2)] [] := by
  intro f
  induction f with
  | zero => intro x2 u hw; exact hw.elim
  | succ f ih =>
    intro x2 u hw
    have hw : lb_X8_take_12  Post (lp_X8_take_12  Post f) x2 u := hw
    unfold lb_X8_take_12 at hw
    refine x_iload_n C dX8_take_12 rfl rfl 1 rfl ?_
    refine x_aload_n C dX8_take_13 rfl rfl 0 rfl ?_
    refine gM0_entries C i_632 dX8_take_14 rfl ?_
    refine x_icmp_ge C 34 dX8_take_17 rfl (by decide) (fun c1 => ?_) (fun c1 => ?_)
    · have hw := hw.1 c1
      exact x_vret C dX8_take_34 rfl (mw_same _ _) ⟨_, rfl, rfl, hw⟩
    · have hw := hw.2 c1
      refine x_aload_n C dX8_take_20 rfl rfl 0 rfl ?_
      refine x_iload_n C dX8_take_21 rfl rfl 1 rfl ?_
      refine x_iconst C (v := (1 : Int32)) dX8_take_22 rfl (by decide) ?_
      refine x_iadd C dX8_take_23 rfl ?_
      refine x_iload_n C dX8_take_24 rfl rfl 1 rfl ?_
      refine k_X8_move C i_771 ⟨Nat.le_of_ble_eq_true rfl, Nat.le_of_ble_eq_true rfl⟩ ⟨Nat.zero_le _, Nat.zero_le _⟩ (Nat.le_of_ble_eq_true rfl) hw dX8_take_25 rfl (fun u3 hw => ?_)
      refine x_iinc C (k := 1) (v := x2 + 1) (lv' := [(2, .int (x2 + 1)), (0, .ref (L 0))]) dX8_take_28 rfl rfl rfl (by decide) rfl ?_
      refine x_goto C (tgt := 12) dX8_take_31 rfl (by decide) ?_
      refine x_lv [1, 0] rfl ?_
      exact ih (x2 + 1) u3 hw
def wp_X8_take (a1 : Int32) (u : MS) (Post : MS → Prop) : Prop :=
  (∀ (u1 : MS), u1 = Ms_entries u ((M_entries u) - (1 : Int32)) → ∃ f9 : Nat, lp_X8_take_12 Post f9 a1 u1)
set_option maxHeartbeats 4000000 in
set_option maxRecDepth 20000 in
theorem c_X8_take {a1 : Int32} {u : MS} {Post : MS → Prop} (hw : wp_X8_take a1 u Post) : xMet l yX8_take cX8_take 3 none 1 23 0 0 G K [.ref (L 0), .int a1] (mw L K u T) (fun v ws' => ∃ u' : MS, v = none ∧ ws' = (mw L K u' T) ∧ Post u') := by
  refine xMet.intro (lv := [(0, .ref (L 0)), (1, .int a1)]) (by decide) rfl (Nat.le_of_ble_eq_true rfl) rfl (fun p e s m args below meth c A C => ?_)
  unfold wp_X8_take at hw
  refine x_aload_n C dX8_take_0 rfl rfl 0 rfl ?_
  refine x_dup C dX8_take_1 rfl rfl ?_
  refine gM0_entries C i_632 dX8_take_2 rfl ?_
  refine x_iconst C (v := (1 : Int32)) dX8_take_5 rfl (by decide) ?_
  refine x_isub C dX8_take_6 rfl ?_
  refine pM0_entries C i_632 dX8_take_7 rfl (fun u1 e2 => ?_)
  have hw := hw u1 e2
  refine x_iload_n C dX8_take_10 rfl rfl 1 rfl ?_
  refine x_istore_n C (lv' := [(2, .int a1), (0, .ref (L 0)), (1, .int a1)]) dX8_take_11 rfl rfl (by decide) rfl ?_
  refine x_lv [1, 0] rfl ?_
  obtain ⟨f9, hw⟩ := hw
  exact t_X8_take_12 C f9 a1 u1 hw
set_option maxRecDepth 20000 in
theorem k_X8_take (C : xCx p s m args meth c G K A nL cc own ret) {a1 : Int32} {u : MS} {idx : Nat} {rest : List Value} {Post : MS → Prop} (hlink : Cond.methodLink own idx yX8_take ∈ gw_tbl) (hR : 1 + 1 ≤ R.frames ∧ 8 + (3 + 11) + 23 ≤ R.locals) (hf : cells ≤ R.cells ∧ slots ≤ R.slots) (hW : (rest.map fun v => v.category).sum ≤ 8) (hw : wp_X8_take a1 u Post) (hdg : decode cc n = .ok (.invokevirtual idx, 3)) (hp : pc = n) (kk : ∀ u' : MS, Post u' → xV p l e R s m args below meth c G A nL Q cells slots (mw L K u' T) (n + 3) lv rest) : xV p l e R s m args below meth c G A nL Q cells slots (mw L K u T) pc lv (.int a1 :: .ref (L 0) :: rest) :=
  x_callV C (As := [.int a1]) (c_X8_take hw) ⟨hlink, i_769, i_s30, i_9, i_770⟩ 0 rfl rfl rfl (k := 1) (by decide +kernel) rfl hR hf hW rfl hdg hp (fun v ws' ⟨u', hv, hws, hPo⟩ _ => by subst hv; subst hws; exact kk u' hPo)
def lb_X8_goes_2 (Post : MS → Prop) (Ks : Int32 → Int32 → MS → Prop) (x1 : Int32) (x2 : Int32) (u : MS) : Prop :=
  vp_in x1 33 ∧ ((((M_waiting u (Int32.toNatClampNeg x1)) ≤ x2 → wp_X8_take x1 u (fun u4 => Post u4)) ∧ (¬ ((M_waiting u (Int32.toNatClampNeg x1)) ≤ x2) → vp_in (((4 : Int32) * x1) + x2) 132 ∧ (wp_X8_lose (M_waits u (Int32.toNatClampNeg (((4 : Int32) * x1) + x2))) u (fun u7 => Ks x1 (x2 + 1) u7)))))
def lp_X8_goes_2 (Post : MS → Prop) : Nat → Int32 → Int32 → MS → Prop
  | 0 => fun _ _ _ => False
  | f + 1 => fun x1 x2 u => lb_X8_goes_2 Post (lp_X8_goes_2 Post f) x1 x2 u
set_option maxHeartbeats 4000000 in
set_option maxRecDepth 20000 in
theorem t_X8_goes_2 (C : xCx p s m args meth c G K A 3 cX8_goes RX8 none) {u0 : MS} {Post : MS → Prop} : ∀ (f : Nat) (x1 : Int32) (x2 : Int32) (u : MS) , lp_X8_goes_2  Post f x1 x2 u → xV p l e (xRm 2 45 0 0) s m args below meth c G A 3 (xQ G A (mw L K u0 T) (fun v ws' => ∃ u' : MS, v = none ∧ ws' = (mw L K u' T) ∧ Post u') below args s 0 0) 0 0 (mw L K u T) 2 [(0, .ref (L 0)), (1, .int x1), (2, .int x2)] [] := by
  intro f
  induction f with
  | zero => intro x1 x2 u hw; exact hw.elim
  | succ f ih =>
    intro x1 x2 u hw
    have hw : lb_X8_goes_2  Post (lp_X8_goes_2  Post f) x1 x2 u := hw
    unfold lb_X8_goes_2 at hw
    refine x_iload_n C dX8_goes_2 rfl rfl 2 rfl ?_
    refine x_aload_n C dX8_goes_3 rfl rfl 0 rfl ?_
    refine gM0_waiting C i_638 dX8_goes_4 rfl ?_
    refine x_iload_n C dX8_goes_7 rfl rfl 1 rfl ?_
    obtain ⟨h1, hw⟩ := hw
    refine gM7_at C h1 dX8_goes_8 rfl ?_
    refine x_icmp_ge C 32 dX8_goes_9 rfl (by decide) (fun c2 => ?_) (fun c2 => ?_)
    · have hw := hw.1 c2
      refine x_aload_n C dX8_goes_32 rfl rfl 0 rfl ?_
      refine x_iload_n C dX8_goes_33 rfl rfl 1 rfl ?_
      refine k_X8_take C i_767 ⟨Nat.le_of_ble_eq_true rfl, Nat.le_of_ble_eq_true rfl⟩ ⟨Nat.zero_le _, Nat.zero_le _⟩ (Nat.le_of_ble_eq_true rfl) hw dX8_goes_34 rfl (fun u4 hw => ?_)
      exact x_vret C dX8_goes_37 rfl (mw_same _ _) ⟨_, rfl, rfl, hw⟩
    · have hw := hw.2 c2
      refine x_aload_n C dX8_goes_12 rfl rfl 0 rfl ?_
      refine x_aload_n C dX8_goes_13 rfl rfl 0 rfl ?_
      refine gM0_waits C i_639 dX8_goes_14 rfl ?_
      refine x_iconst C (v := (4 : Int32)) dX8_goes_17 rfl (by decide) ?_
      refine x_iload_n C dX8_goes_18 rfl rfl 1 rfl ?_
      refine x_imul C dX8_goes_19 rfl ?_
      refine x_iload_n C dX8_goes_20 rfl rfl 2 rfl ?_
      refine x_iadd C dX8_goes_21 rfl ?_
      obtain ⟨h5, hw⟩ := hw
      refine gM8_at C h5 dX8_goes_22 rfl ?_
      refine k_X8_lose C i_763 ⟨Nat.le_of_ble_eq_true rfl, Nat.le_of_ble_eq_true rfl⟩ ⟨Nat.zero_le _, Nat.zero_le _⟩ (Nat.le_of_ble_eq_true rfl) hw dX8_goes_23 rfl (fun u7 hw => ?_)
      refine x_iinc C (k := 2) (v := x2 + 1) (lv' := [(2, .int (x2 + 1)), (0, .ref (L 0)), (1, .int x1)]) dX8_goes_26 rfl rfl rfl (by decide) rfl ?_
      refine x_goto C (tgt := 2) dX8_goes_29 rfl (by decide) ?_
      refine x_lv [1, 2, 0] rfl ?_
      exact ih x1 (x2 + 1) u7 hw
def wp_X8_goes (a1 : Int32) (u : MS) (Post : MS → Prop) : Prop :=
  ∃ f9 : Nat, lp_X8_goes_2 Post f9 a1 (0 : Int32) u
set_option maxHeartbeats 4000000 in
set_option maxRecDepth 20000 in
theorem c_X8_goes {a1 : Int32} {u : MS} {Post : MS → Prop} (hw : wp_X8_goes a1 u Post) : xMet l yX8_goes cX8_goes 3 none 2 45 0 0 G K [.ref (L 0), .int a1] (mw L K u T) (fun v ws' => ∃ u' : MS, v = none ∧ ws' = (mw L K u' T) ∧ Post u') := by
  refine xMet.intro (lv := [(0, .ref (L 0)), (1, .int a1)]) (by decide) rfl (Nat.le_of_ble_eq_true rfl) rfl (fun p e s m args below meth c A C => ?_)
  unfold wp_X8_goes at hw
  refine x_iconst C (v := (0 : Int32)) dX8_goes_0 rfl (by decide) ?_
  refine x_istore_n C (lv' := [(2, .int (0 : Int32)), (0, .ref (L 0)), (1, .int a1)]) dX8_goes_1 rfl rfl (by decide) rfl ?_
  refine x_lv [1, 2, 0] rfl ?_
  obtain ⟨f9, hw⟩ := hw
  exact t_X8_goes_2 C f9 a1 (0 : Int32) u hw
set_option maxRecDepth 20000 in
theorem k_X8_goes (C : xCx p s m args meth c G K A nL cc own ret) {a1 : Int32} {u : MS} {idx : Nat} {rest : List Value} {Post : MS → Prop} (hlink : Cond.methodLink own idx yX8_goes ∈ gw_tbl) (hR : 2 + 1 ≤ R.frames ∧ 8 + (3 + 11) + 45 ≤ R.locals) (hf : cells ≤ R.cells ∧ slots ≤ R.slots) (hW : (rest.map fun v => v.category).sum ≤ 8) (hw : wp_X8_goes a1 u Post) (hdg : decode cc n = .ok (.invokevirtual idx, 3)) (hp : pc = n) (kk : ∀ u' : MS, Post u' → xV p l e R s m args below meth c G A nL Q cells slots (mw L K u' T) (n + 3) lv rest) : xV p l e R s m args below meth c G A nL Q cells slots (mw L K u T) pc lv (.int a1 :: .ref (L 0) :: rest) :=
  x_callV C (As := [.int a1]) (c_X8_goes hw) ⟨hlink, i_761, i_s28, i_9, i_762⟩ 0 rfl rfl rfl (k := 1) (by decide +kernel) rfl hR hf hW rfl hdg hp (fun v ws' ⟨u', hv, hws, hPo⟩ _ => by subst hv; subst hws; exact kk u' hPo)
def wp_X8_use (a1 : Int32) (u : MS) (Post : MS → Prop) : Prop :=
  vp_in a1 33 ∧ ((∀ (u2 : MS), u2 = Ms_used u (upd (M_used u) (Int32.toNatClampNeg a1) (M_time u)) → wp_X8_move a1 (32 : Int32) u2 (fun u5 => wp_X8_take a1 u5 (fun u7 => wp_X8_move (32 : Int32) (M_entries u7) u7 (fun u9 => (∀ (u10 : MS), u10 = Ms_entries u9 ((M_entries u9) + (1 : Int32)) → Post u10))))))
set_option maxHeartbeats 4000000 in
set_option maxRecDepth 20000 in
theorem c_X8_use {a1 : Int32} {u : MS} {Post : MS → Prop} (hw : wp_X8_use a1 u Post) : xMet l yX8_use cX8_use 2 none 2 45 0 0 G K [.ref (L 0), .int a1] (mw L K u T) (fun v ws' => ∃ u' : MS, v = none ∧ ws' = (mw L K u' T) ∧ Post u') := by
  refine xMet.intro (lv := [(0, .ref (L 0)), (1, .int a1)]) (by decide) rfl (Nat.le_of_ble_eq_true rfl) rfl (fun p e s m args below meth c A C => ?_)
  unfold wp_X8_use at hw
  refine x_aload_n C dX8_use_0 rfl rfl 0 rfl ?_
  refine gM0_used C i_637 dX8_use_1 rfl ?_
  refine x_iload_n C dX8_use_4 rfl rfl 1 rfl ?_
  refine x_aload_n C dX8_use_5 rfl rfl 0 rfl ?_
  refine gM0_time C i_625 dX8_use_6 rfl ?_
  obtain ⟨h1, hw⟩ := hw
  refine pM6_at C h1 dX8_use_9 rfl (fun u2 e3 => ?_)
  have hw := hw u2 e3
  refine x_aload_n C dX8_use_10 rfl rfl 0 rfl ?_
  refine x_iload_n C dX8_use_11 rfl rfl 1 rfl ?_
  refine x_bipush C (v := (32 : Int32)) dX8_use_12 rfl (by decide) ?_
  refine k_X8_move C i_771 ⟨Nat.le_of_ble_eq_true rfl, Nat.le_of_ble_eq_true rfl⟩ ⟨Nat.zero_le _, Nat.zero_le _⟩ (Nat.le_of_ble_eq_true rfl) hw dX8_use_14 rfl (fun u5 hw => ?_)
  refine x_aload_n C dX8_use_17 rfl rfl 0 rfl ?_
  refine x_iload_n C dX8_use_18 rfl rfl 1 rfl ?_
  refine k_X8_take C i_767 ⟨Nat.le_of_ble_eq_true rfl, Nat.le_of_ble_eq_true rfl⟩ ⟨Nat.zero_le _, Nat.zero_le _⟩ (Nat.le_of_ble_eq_true rfl) hw dX8_use_19 rfl (fun u7 hw => ?_)
  refine x_aload_n C dX8_use_22 rfl rfl 0 rfl ?_
  refine x_bipush C (v := (32 : Int32)) dX8_use_23 rfl (by decide) ?_
  refine x_aload_n C dX8_use_25 rfl rfl 0 rfl ?_
  refine gM0_entries C i_632 dX8_use_26 rfl ?_
  refine k_X8_move C i_771 ⟨Nat.le_of_ble_eq_true rfl, Nat.le_of_ble_eq_true rfl⟩ ⟨Nat.zero_le _, Nat.zero_le _⟩ (Nat.le_of_ble_eq_true rfl) hw dX8_use_29 rfl (fun u9 hw => ?_)
  refine x_aload_n C dX8_use_32 rfl rfl 0 rfl ?_
  refine x_dup C dX8_use_33 rfl rfl ?_
  refine gM0_entries C i_632 dX8_use_34 rfl ?_
  refine x_iconst C (v := (1 : Int32)) dX8_use_37 rfl (by decide) ?_
  refine x_iadd C dX8_use_38 rfl ?_
  refine pM0_entries C i_632 dX8_use_39 rfl (fun u10 e11 => ?_)
  have hw := hw u10 e11
  exact x_vret C dX8_use_42 rfl (mw_same _ _) ⟨_, rfl, rfl, hw⟩
set_option maxRecDepth 20000 in
theorem k_X8_use (C : xCx p s m args meth c G K A nL cc own ret) {a1 : Int32} {u : MS} {idx : Nat} {rest : List Value} {Post : MS → Prop} (hlink : Cond.methodLink own idx yX8_use ∈ gw_tbl) (hR : 2 + 1 ≤ R.frames ∧ 8 + (2 + 11) + 45 ≤ R.locals) (hf : cells ≤ R.cells ∧ slots ≤ R.slots) (hW : (rest.map fun v => v.category).sum ≤ 8) (hw : wp_X8_use a1 u Post) (hdg : decode cc n = .ok (.invokevirtual idx, 3)) (hp : pc = n) (kk : ∀ u' : MS, Post u' → xV p l e R s m args below meth c G A nL Q cells slots (mw L K u' T) (n + 3) lv rest) : xV p l e R s m args below meth c G A nL Q cells slots (mw L K u T) pc lv (.int a1 :: .ref (L 0) :: rest) :=
  x_callV C (As := [.int a1]) (c_X8_use hw) ⟨hlink, i_813, i_s38, i_9, i_814⟩ 0 rfl rfl rfl (k := 1) (by decide +kernel) rfl hR hf hW rfl hdg hp (fun v ws' ⟨u', hv, hws, hPo⟩ _ => by subst hv; subst hws; exact kk u' hPo)
def lb_X8_makeRoom_15 (Post : Int32 → MS → Prop) (Ks : Int32 → MS → Prop) (x1 : Int32) (u : MS) : Prop :=
  (((M_entries u) ≤ x1 → Post (0 : Int32) u) ∧ (¬ ((M_entries u) ≤ x1) → vp_in x1 33 ∧ ((((M_kinds u (Int32.toNatClampNeg x1)) = (1 : Int32) → Ks (x1 + 1) u) ∧ (¬ ((M_kinds u (Int32.toNatClampNeg x1)) = (1 : Int32)) → wp_X8_goes x1 u (fun u5 => Post (1 : Int32) u5))))))
def lp_X8_makeRoom_15 (Post : Int32 → MS → Prop) : Nat → Int32 → MS → Prop
  | 0 => fun _ _ => False
  | f + 1 => fun x1 u => lb_X8_makeRoom_15 Post (lp_X8_makeRoom_15 Post f) x1 u
set_option maxHeartbeats 4000000 in
set_option maxRecDepth 20000 in
theorem t_X8_makeRoom_15 (C : xCx p s m args meth c G K A 2 cX8_makeRoom RX8 (some .boolean)) {u0 : MS} {Post : Int32 → MS → Prop} : ∀ (f : Nat) (x1 : Int32) (u : MS) , lp_X8_makeRoom_15  Post f x1 u → xV p l e (xRm 3 67 0 0) s m args below meth c G A 2 (xQ G A (mw L K u0 T) (fun v ws' => ∃ (r : Int32) (u' : MS), v = some (.int r) ∧ ws' = (mw L K u' T) ∧ Post r u') below args s 0 0) 0 0 (mw L K u T) 15 [(0, .ref (L 0)), (1, .int x1)] [] := by
  intro f
  induction f with
  | zero => intro x1 u hw; exact hw.elim
  | succ f ih =>
    intro x1 u hw
    have hw : lb_X8_makeRoom_15  Post (lp_X8_makeRoom_15  Post f) x1 u := hw
    unfold lb_X8_makeRoom_15 at hw
    refine x_iload_n C dX8_makeRoom_15 rfl rfl 1 rfl ?_
    refine x_aload_n C dX8_makeRoom_16 rfl rfl 0 rfl ?_
    refine gM0_entries C i_632 dX8_makeRoom_17 rfl ?_
    refine x_icmp_ge C 46 dX8_makeRoom_20 rfl (by decide) (fun c1 => ?_) (fun c1 => ?_)
    · have hw := hw.1 c1
      refine x_iconst C (v := (0 : Int32)) dX8_makeRoom_46 rfl (by decide) ?_
      exact x_zret C dX8_makeRoom_47 rfl rfl (mw_same _ _) ⟨_, _, rfl, rfl, hw⟩
    · have hw := hw.2 c1
      refine x_aload_n C dX8_makeRoom_23 rfl rfl 0 rfl ?_
      refine gM0_kinds C i_634 dX8_makeRoom_24 rfl ?_
      refine x_iload_n C dX8_makeRoom_27 rfl rfl 1 rfl ?_
      obtain ⟨h2, hw⟩ := hw
      refine gM3_at C h2 dX8_makeRoom_28 rfl ?_
      refine x_iconst C (v := (1 : Int32)) dX8_makeRoom_29 rfl (by decide) ?_
      refine x_icmp_eq C 40 dX8_makeRoom_30 rfl (by decide) (fun c3 => ?_) (fun c3 => ?_)
      · have hw := hw.1 c3
        refine x_iinc C (k := 1) (v := x1 + 1) (lv' := [(1, .int (x1 + 1)), (0, .ref (L 0))]) dX8_makeRoom_40 rfl rfl rfl (by decide) rfl ?_
        refine x_goto C (tgt := 15) dX8_makeRoom_43 rfl (by decide) ?_
        refine x_lv [1, 0] rfl ?_
        exact ih (x1 + 1) u hw
      · have hw := hw.2 c3
        refine x_aload_n C dX8_makeRoom_33 rfl rfl 0 rfl ?_
        refine x_iload_n C dX8_makeRoom_34 rfl rfl 1 rfl ?_
        refine k_X8_goes C i_759 ⟨Nat.le_of_ble_eq_true rfl, Nat.le_of_ble_eq_true rfl⟩ ⟨Nat.zero_le _, Nat.zero_le _⟩ (Nat.le_of_ble_eq_true rfl) hw dX8_makeRoom_35 rfl (fun u5 hw => ?_)
        refine x_iconst C (v := (1 : Int32)) dX8_makeRoom_38 rfl (by decide) ?_
        exact x_zret C dX8_makeRoom_39 rfl rfl (mw_same _ _) ⟨_, _, rfl, rfl, hw⟩
def wp_X8_makeRoom (u : MS) (Post : Int32 → MS → Prop) : Prop :=
  (((M_capacity u) ≤ (M_entries u) → ∃ f9 : Nat, lp_X8_makeRoom_15 Post f9 (0 : Int32) u) ∧ (¬ ((M_capacity u) ≤ (M_entries u)) → Post (1 : Int32) u))
set_option maxHeartbeats 4000000 in
set_option maxRecDepth 20000 in
theorem c_X8_makeRoom {u : MS} {Post : Int32 → MS → Prop} (hw : wp_X8_makeRoom  u Post) : xMet l yX8_makeRoom cX8_makeRoom 2 (some .boolean) 3 67 0 0 G K [.ref (L 0)] (mw L K u T) (fun v ws' => ∃ (r : Int32) (u' : MS), v = some (.int r) ∧ ws' = (mw L K u' T) ∧ Post r u') := by
  refine xMet.intro (lv := [(0, .ref (L 0))]) (by decide) rfl (Nat.le_of_ble_eq_true rfl) rfl (fun p e s m args below meth c A C => ?_)
  unfold wp_X8_makeRoom at hw
  refine x_aload_n C dX8_makeRoom_0 rfl rfl 0 rfl ?_
  refine gM0_entries C i_632 dX8_makeRoom_1 rfl ?_
  refine x_aload_n C dX8_makeRoom_4 rfl rfl 0 rfl ?_
  refine gM0_capacity C i_621 dX8_makeRoom_5 rfl ?_
  refine x_icmp_ge C 13 dX8_makeRoom_8 rfl (by decide) (fun c1 => ?_) (fun c1 => ?_)
  · have hw := hw.1 c1
    refine x_iconst C (v := (0 : Int32)) dX8_makeRoom_13 rfl (by decide) ?_
    refine x_istore_n C (lv' := [(1, .int (0 : Int32)), (0, .ref (L 0))]) dX8_makeRoom_14 rfl rfl (by decide) rfl ?_
    refine x_lv [1, 0] rfl ?_
    obtain ⟨f9, hw⟩ := hw
    exact t_X8_makeRoom_15 C f9 (0 : Int32) u hw
  · have hw := hw.2 c1
    refine x_iconst C (v := (1 : Int32)) dX8_makeRoom_11 rfl (by decide) ?_
    exact x_zret C dX8_makeRoom_12 rfl rfl (mw_same _ _) ⟨_, _, rfl, rfl, hw⟩
set_option maxRecDepth 20000 in
theorem k_X8_makeRoom (C : xCx p s m args meth c G K A nL cc own ret) {u : MS} {idx : Nat} {rest : List Value} {Post : Int32 → MS → Prop} (hlink : Cond.methodLink own idx yX8_makeRoom ∈ gw_tbl) (hR : 3 + 1 ≤ R.frames ∧ 8 + (2 + 11) + 67 ≤ R.locals) (hf : cells ≤ R.cells ∧ slots ≤ R.slots) (hW : (rest.map fun v => v.category).sum ≤ 8) (hw : wp_X8_makeRoom  u Post) (hdg : decode cc n = .ok (.invokevirtual idx, 3)) (hp : pc = n) (kk : ∀ (r : Int32) (u' : MS), Post r u' → xV p l e R s m args below meth c G A nL Q cells slots (mw L K u' T) (n + 3) lv (.int r :: rest)) : xV p l e R s m args below meth c G A nL Q cells slots (mw L K u T) pc lv (.ref (L 0) :: rest) :=
  x_callV C (As := []) (c_X8_makeRoom hw) ⟨hlink, i_789, i_s35, i_9, i_790⟩ 0 rfl rfl rfl (k := 0) (by decide +kernel) rfl hR hf hW rfl hdg hp (fun v ws' ⟨r, u', hv, hws, hPo⟩ _ => by subst hv; subst hws; exact kk r u' hPo)
def wp_X8_make (a1 : Int32) (a2 : Int32) (a3 : Int64) (u : MS) (Post : MS → Prop) : Prop :=
  (∀ (u1 : MS), u1 = Ms_entries u ((M_entries u) + (1 : Int32)) → vp_in (M_entries u) 33 ∧ ((∀ (u4 : MS), u4 = Ms_addresses u1 (upd (M_addresses u1) (Int32.toNatClampNeg (M_entries u)) a1) → (∀ (u6 : MS), u6 = Ms_kinds u4 (upd (M_kinds u4) (Int32.toNatClampNeg (M_entries u)) a2) → (∀ (u8 : MS), u8 = Ms_hardware u6 (vp_updL (M_hardware u6) (Int32.toNatClampNeg (M_entries u)) a3) → (∀ (u10 : MS), u10 = Ms_since u8 (upd (M_since u8) (Int32.toNatClampNeg (M_entries u)) (M_time u8)) → (∀ (u12 : MS), u12 = Ms_used u10 (upd (M_used u10) (Int32.toNatClampNeg (M_entries u)) (M_time u10)) → (∀ (u14 : MS), u14 = Ms_waiting u12 (upd (M_waiting u12) (Int32.toNatClampNeg (M_entries u)) (0 : Int32)) → Post u14))))))))
set_option maxHeartbeats 4000000 in
set_option maxRecDepth 20000 in
theorem c_X8_make {a1 : Int32} {a2 : Int32} {a3 : Int64} {u : MS} {Post : MS → Prop} (hw : wp_X8_make a1 a2 a3 u Post) : xMet l yX8_make cX8_make 6 none 0 0 0 0 G K [.ref (L 0), .int a1, .int a2, .long a3] (mw L K u T) (fun v ws' => ∃ u' : MS, v = none ∧ ws' = (mw L K u' T) ∧ Post u') := by
  refine xMet.intro (lv := [(0, .ref (L 0)), (1, .int a1), (2, .int a2), (3, .long a3)]) (by decide) rfl (Nat.le_of_ble_eq_true rfl) rfl (fun p e s m args below meth c A C => ?_)
  unfold wp_X8_make at hw
  refine x_aload_n C dX8_make_0 rfl rfl 0 rfl ?_
  refine gM0_entries C i_632 dX8_make_1 rfl ?_
  refine x_istore C (lv' := [(5, .int (M_entries u)), (0, .ref (L 0)), (1, .int a1), (2, .int a2), (3, .long a3)]) dX8_make_4 rfl (by decide) rfl ?_
  refine x_aload_n C dX8_make_6 rfl rfl 1 rfl ?_
  refine x_dup C dX8_make_7 rfl rfl ?_
  refine gM0_entries C i_632 dX8_make_8 rfl ?_
  refine x_iconst C (v := (1 : Int32)) dX8_make_11 rfl (by decide) ?_
  refine x_iadd C dX8_make_12 rfl ?_
  refine pM0_entries C i_632 dX8_make_13 rfl (fun u1 e2 => ?_)
  have hw := hw u1 e2
  refine x_aload_n C dX8_make_16 rfl rfl 1 rfl ?_
  refine gM0_addresses C i_633 dX8_make_17 rfl ?_
  refine x_iload C dX8_make_20 rfl 0 rfl ?_
  refine x_iload_n C dX8_make_22 rfl rfl 2 rfl ?_
  obtain ⟨h3, hw⟩ := hw
  refine pM2_at C h3 dX8_make_23 rfl (fun u4 e5 => ?_)
  have hw := hw u4 e5
  refine x_aload_n C dX8_make_24 rfl rfl 1 rfl ?_
  refine gM0_kinds C i_634 dX8_make_25 rfl ?_
  refine x_iload C dX8_make_28 rfl 0 rfl ?_
  refine x_iload_n C dX8_make_30 rfl rfl 3 rfl ?_
  refine pM3_at C h3 dX8_make_31 rfl (fun u6 e7 => ?_)
  have hw := hw u6 e7
  refine x_aload_n C dX8_make_32 rfl rfl 1 rfl ?_
  refine gM0_hardware C i_635 dX8_make_33 rfl ?_
  refine x_iload C dX8_make_36 rfl 0 rfl ?_
  refine x_lload_n C dX8_make_38 rfl rfl 4 rfl ?_
  refine pM4_at C h3 dX8_make_39 rfl (fun u8 e9 => ?_)
  have hw := hw u8 e9
  refine x_aload_n C dX8_make_40 rfl rfl 1 rfl ?_
  refine gM0_since C i_636 dX8_make_41 rfl ?_
  refine x_iload C dX8_make_44 rfl 0 rfl ?_
  refine x_aload_n C dX8_make_46 rfl rfl 1 rfl ?_
  refine gM0_time C i_625 dX8_make_47 rfl ?_
  refine pM5_at C h3 dX8_make_50 rfl (fun u10 e11 => ?_)
  have hw := hw u10 e11
  refine x_aload_n C dX8_make_51 rfl rfl 1 rfl ?_
  refine gM0_used C i_637 dX8_make_52 rfl ?_
  refine x_iload C dX8_make_55 rfl 0 rfl ?_
  refine x_aload_n C dX8_make_57 rfl rfl 1 rfl ?_
  refine gM0_time C i_625 dX8_make_58 rfl ?_
  refine pM6_at C h3 dX8_make_61 rfl (fun u12 e13 => ?_)
  have hw := hw u12 e13
  refine x_aload_n C dX8_make_62 rfl rfl 1 rfl ?_
  refine gM0_waiting C i_638 dX8_make_63 rfl ?_
  refine x_iload C dX8_make_66 rfl 0 rfl ?_
  refine x_iconst C (v := (0 : Int32)) dX8_make_68 rfl (by decide) ?_
  refine pM7_at C h3 dX8_make_69 rfl (fun u14 e15 => ?_)
  have hw := hw u14 e15
  exact x_vret C dX8_make_70 rfl (mw_same _ _) ⟨_, rfl, rfl, hw⟩
set_option maxRecDepth 20000 in
theorem k_X8_make (C : xCx p s m args meth c G K A nL cc own ret) {a1 : Int32} {a2 : Int32} {a3 : Int64} {u : MS} {idx : Nat} {rest : List Value} {Post : MS → Prop} (hlink : Cond.methodLink own idx yX8_make ∈ gw_tbl) (hR : 0 + 1 ≤ R.frames ∧ 8 + (6 + 11) + 0 ≤ R.locals) (hf : cells ≤ R.cells ∧ slots ≤ R.slots) (hW : (rest.map fun v => v.category).sum ≤ 8) (hw : wp_X8_make a1 a2 a3 u Post) (hdg : decode cc n = .ok (.invokevirtual idx, 3)) (hp : pc = n) (kk : ∀ u' : MS, Post u' → xV p l e R s m args below meth c G A nL Q cells slots (mw L K u' T) (n + 3) lv rest) : xV p l e R s m args below meth c G A nL Q cells slots (mw L K u T) pc lv (.long a3 :: .int a2 :: .int a1 :: .ref (L 0) :: rest) :=
  x_callV C (As := [.int a1, .int a2, .long a3]) (c_X8_make hw) ⟨hlink, i_793, i_s36, i_9, i_794⟩ 0 rfl rfl rfl (k := 3) (by decide +kernel) rfl hR hf hW rfl hdg hp (fun v ws' ⟨u', hv, hws, hPo⟩ _ => by subst hv; subst hws; exact kk u' hPo)
def lb_X8_giveUp_10 (Post : MS → Prop) (Ks : MS → Prop) (u : MS) : Prop :=
  (((M_entries u) ≤ 0 → Post u) ∧ (¬ ((M_entries u) ≤ 0) → wp_X8_goes (0 : Int32) u (fun u3 => Ks u3)))
def lp_X8_giveUp_10 (Post : MS → Prop) : Nat → MS → Prop
  | 0 => fun _ => False
  | f + 1 => fun u => lb_X8_giveUp_10 Post (lp_X8_giveUp_10 Post f) u
set_option maxHeartbeats 4000000 in
set_option maxRecDepth 20000 in
theorem t_X8_giveUp_10 (C : xCx p s m args meth c G K A 1 cX8_giveUp RX8 none) {u0 : MS} {Post : MS → Prop} : ∀ (f : Nat) (u : MS) , lp_X8_giveUp_10  Post f  u → xV p l e (xRm 3 67 0 0) s m args below meth c G A 1 (xQ G A (mw L K u0 T) (fun v ws' => ∃ u' : MS, v = none ∧ ws' = (mw L K u' T) ∧ Post u') below args s 0 0) 0 0 (mw L K u T) 10 [(0, .ref (L 0))] [] := by
  intro f
  induction f with
  | zero => intro  u hw; exact hw.elim
  | succ f ih =>
    intro  u hw
    have hw : lb_X8_giveUp_10  Post (lp_X8_giveUp_10  Post f)  u := hw
    unfold lb_X8_giveUp_10 at hw
    refine x_aload_n C dX8_giveUp_10 rfl rfl 0 rfl ?_
    refine gM0_entries C i_632 dX8_giveUp_11 rfl ?_
    refine x_if_le C 25 dX8_giveUp_14 rfl (by decide) (fun c1 => ?_) (fun c1 => ?_)
    · have hw := hw.1 c1
      exact x_vret C dX8_giveUp_25 rfl (mw_same _ _) ⟨_, rfl, rfl, hw⟩
    · have hw := hw.2 c1
      refine x_aload_n C dX8_giveUp_17 rfl rfl 0 rfl ?_
      refine x_iconst C (v := (0 : Int32)) dX8_giveUp_18 rfl (by decide) ?_
      refine k_X8_goes C i_759 ⟨Nat.le_of_ble_eq_true rfl, Nat.le_of_ble_eq_true rfl⟩ ⟨Nat.zero_le _, Nat.zero_le _⟩ (Nat.le_of_ble_eq_true rfl) hw dX8_giveUp_19 rfl (fun u3 hw => ?_)
      refine x_goto C (tgt := 10) dX8_giveUp_22 rfl (by decide) ?_
      refine x_lv [0] rfl ?_
      exact ih  u3 hw
def wp_X8_giveUp (u : MS) (Post : MS → Prop) : Prop :=
  (∀ (u1 : MS), u1 = Ms_phase u (0 : Int32) → (∀ (u3 : MS), u3 = Ms_own u1 (0 : Int32) → ∃ f9 : Nat, lp_X8_giveUp_10 Post f9 u3))
set_option maxHeartbeats 4000000 in
set_option maxRecDepth 20000 in
theorem c_X8_giveUp {u : MS} {Post : MS → Prop} (hw : wp_X8_giveUp  u Post) : xMet l yX8_giveUp cX8_giveUp 1 none 3 67 0 0 G K [.ref (L 0)] (mw L K u T) (fun v ws' => ∃ u' : MS, v = none ∧ ws' = (mw L K u' T) ∧ Post u') := by
  refine xMet.intro (lv := [(0, .ref (L 0))]) (by decide) rfl (Nat.le_of_ble_eq_true rfl) rfl (fun p e s m args below meth c A C => ?_)
  unfold wp_X8_giveUp at hw
  refine x_aload_n C dX8_giveUp_0 rfl rfl 0 rfl ?_
  refine x_iconst C (v := (0 : Int32)) dX8_giveUp_1 rfl (by decide) ?_
  refine pM0_phase C i_627 dX8_giveUp_2 rfl (fun u1 e2 => ?_)
  have hw := hw u1 e2
  refine x_aload_n C dX8_giveUp_5 rfl rfl 0 rfl ?_
  refine x_iconst C (v := (0 : Int32)) dX8_giveUp_6 rfl (by decide) ?_
  refine pM0_own C i_626 dX8_giveUp_7 rfl (fun u3 e4 => ?_)
  have hw := hw u3 e4
  refine x_lv [0] rfl ?_
  obtain ⟨f9, hw⟩ := hw
  exact t_X8_giveUp_10 C f9 u3 hw
set_option maxRecDepth 20000 in
theorem k_X8_giveUp (C : xCx p s m args meth c G K A nL cc own ret) {u : MS} {idx : Nat} {rest : List Value} {Post : MS → Prop} (hlink : Cond.methodLink own idx yX8_giveUp ∈ gw_tbl) (hR : 3 + 1 ≤ R.frames ∧ 8 + (1 + 11) + 67 ≤ R.locals) (hf : cells ≤ R.cells ∧ slots ≤ R.slots) (hW : (rest.map fun v => v.category).sum ≤ 8) (hw : wp_X8_giveUp  u Post) (hdg : decode cc n = .ok (.invokevirtual idx, 3)) (hp : pc = n) (kk : ∀ u' : MS, Post u' → xV p l e R s m args below meth c G A nL Q cells slots (mw L K u' T) (n + 3) lv rest) : xV p l e R s m args below meth c G A nL Q cells slots (mw L K u T) pc lv (.ref (L 0) :: rest) :=
  x_callV C (As := []) (c_X8_giveUp hw) ⟨hlink, i_757, i_s27, i_9, i_758⟩ 0 rfl rfl rfl (k := 0) (by decide +kernel) rfl hR hf hW rfl hdg hp (fun v ws' ⟨u', hv, hws, hPo⟩ _ => by subst hv; subst hws; exact kk u' hPo)
def jn_X8_isBad_95 (Post : Int32 → MS → Prop) (x4 : Int64) (u : MS) : Prop :=
  ((x4 = (M_here u) → Post (1 : Int32) u) ∧ (¬ (x4 = (M_here u)) → ((x4 = (0 : Int64) → Post (1 : Int32) u) ∧ (¬ (x4 = (0 : Int64)) → ((¬ (x4 = (281474976710655 : Int64)) → Post (0 : Int32) u) ∧ (x4 = (281474976710655 : Int64) → Post (1 : Int32) u))))))
set_option maxHeartbeats 4000000 in
set_option maxRecDepth 20000 in
theorem t_X8_isBad_95 (C : xCx p s m args meth c G K A 6 cX8_isBad RX8 (some .boolean)) {u0 : MS} {Post : Int32 → MS → Prop} (x4 : Int64) (u : MS) (hw : jn_X8_isBad_95  Post x4 u) : xV p l e (xRm 1 27 0 0) s m args below meth c G A 6 (xQ G A (mw L K u0 T) (fun v ws' => ∃ (r : Int32) (u' : MS), v = some (.int r) ∧ ws' = (mw L K u' T) ∧ Post r u') below args s 0 0) 0 0 (mw L K u T) 95 [(0, .ref (L 0)), (4, .long x4)] [] := by
  unfold jn_X8_isBad_95 at hw
  refine x_lload C dX8_isBad_95 rfl 1 rfl ?_
  refine x_aload_n C dX8_isBad_97 rfl rfl 0 rfl ?_
  refine gM0_here C i_624 dX8_isBad_98 rfl ?_
  refine x_lc_eq C 121 dX8_isBad_101 dX8_isBad_102 rfl (by decide) (fun c1 => ?_) (fun c1 => ?_)
  · have hw := hw.1 c1
    refine x_iconst C (v := (1 : Int32)) dX8_isBad_121 rfl (by decide) ?_
    refine x_goto C (tgt := 126) dX8_isBad_122 rfl (by decide) ?_
    exact x_zret C dX8_isBad_126 rfl rfl (mw_same _ _) ⟨_, _, rfl, rfl, hw⟩
  · have hw := hw.2 c1
    refine x_lload C dX8_isBad_105 rfl 1 rfl ?_
    refine x_lconst C (v := (0 : Int64)) dX8_isBad_107 rfl (by decide) ?_
    refine x_lc_eq C 121 dX8_isBad_108 dX8_isBad_109 rfl (by decide) (fun c2 => ?_) (fun c2 => ?_)
    · have hw := hw.1 c2
      refine x_iconst C (v := (1 : Int32)) dX8_isBad_121 rfl (by decide) ?_
      refine x_goto C (tgt := 126) dX8_isBad_122 rfl (by decide) ?_
      exact x_zret C dX8_isBad_126 rfl rfl (mw_same _ _) ⟨_, _, rfl, rfl, hw⟩
    · have hw := hw.2 c2
      refine x_lload C dX8_isBad_112 rfl 1 rfl ?_
      refine x_ldc2 C dX8_isBad_114 rfl i_738 ?_
      refine x_lc_ne C 125 dX8_isBad_117 dX8_isBad_118 rfl (by decide) (fun c3 => ?_) (fun c3 => ?_)
      · have hw := hw.1 c3
        refine x_iconst C (v := (0 : Int32)) dX8_isBad_125 rfl (by decide) ?_
        exact x_zret C dX8_isBad_126 rfl rfl (mw_same _ _) ⟨_, _, rfl, rfl, hw⟩
      · have hw := hw.2 c3
        refine x_iconst C (v := (1 : Int32)) dX8_isBad_121 rfl (by decide) ?_
        refine x_goto C (tgt := 126) dX8_isBad_122 rfl (by decide) ?_
        exact x_zret C dX8_isBad_126 rfl rfl (mw_same _ _) ⟨_, _, rfl, rfl, hw⟩
def jn_X8_isBad_57 (Post : Int32 → MS → Prop) (x1 : Int32) (u : MS) : Prop :=
  ((¬ (x1 = 0) → wp_X8_number (6 : Int32) (2 : Int32) u (fun r2 u3 => wp_X8_number (8 : Int32) (6 : Int32) u3 (fun r4 u5 => ((r2 = (1 : Int64) → jn_X8_isBad_95 Post r4 u5) ∧ (¬ (r2 = (1 : Int64)) → ((¬ (r2 = (2 : Int64)) → Post (1 : Int32) u5) ∧ (r2 = (2 : Int64) → jn_X8_isBad_95 Post r4 u5))))))) ∧ (x1 = 0 → Post (1 : Int32) u))
set_option maxHeartbeats 4000000 in
set_option maxRecDepth 20000 in
theorem t_X8_isBad_57 (C : xCx p s m args meth c G K A 6 cX8_isBad RX8 (some .boolean)) {u0 : MS} {Post : Int32 → MS → Prop} (x1 : Int32) (u : MS) (hw : jn_X8_isBad_57  Post x1 u) : xV p l e (xRm 1 27 0 0) s m args below meth c G A 6 (xQ G A (mw L K u0 T) (fun v ws' => ∃ (r : Int32) (u' : MS), v = some (.int r) ∧ ws' = (mw L K u' T) ∧ Post r u') below args s 0 0) 0 0 (mw L K u T) 57 [(0, .ref (L 0)), (1, .int x1)] [] := by
  unfold jn_X8_isBad_57 at hw
  refine x_iload_n C dX8_isBad_57 rfl rfl 1 rfl ?_
  refine x_if_ne C 63 dX8_isBad_58 rfl (by decide) (fun c1 => ?_) (fun c1 => ?_)
  · have hw := hw.1 c1
    refine x_aload_n C dX8_isBad_63 rfl rfl 0 rfl ?_
    refine x_bipush C (v := (6 : Int32)) dX8_isBad_64 rfl (by decide) ?_
    refine x_iconst C (v := (2 : Int32)) dX8_isBad_66 rfl (by decide) ?_
    refine k_X8_number C i_734 ⟨Nat.le_of_ble_eq_true rfl, Nat.le_of_ble_eq_true rfl⟩ ⟨Nat.zero_le _, Nat.zero_le _⟩ (Nat.le_of_ble_eq_true rfl) hw dX8_isBad_67 rfl (fun r2 u3 hw => ?_)
    refine x_lstore_n C (lv' := [(2, .long r2), (0, .ref (L 0)), (1, .int x1)]) dX8_isBad_70 rfl rfl (by decide) rfl ?_
    refine x_aload_n C dX8_isBad_71 rfl rfl 1 rfl ?_
    refine x_bipush C (v := (8 : Int32)) dX8_isBad_72 rfl (by decide) ?_
    refine x_bipush C (v := (6 : Int32)) dX8_isBad_74 rfl (by decide) ?_
    refine k_X8_number C i_734 ⟨Nat.le_of_ble_eq_true rfl, Nat.le_of_ble_eq_true rfl⟩ ⟨Nat.zero_le _, Nat.zero_le _⟩ (Nat.le_of_ble_eq_true rfl) hw dX8_isBad_76 rfl (fun r4 u5 hw => ?_)
    refine x_lstore C (lv' := [(4, .long r4), (2, .long r2), (0, .ref (L 0)), (1, .int x1)]) dX8_isBad_79 rfl (by decide) rfl ?_
    refine x_lload_n C dX8_isBad_81 rfl rfl 1 rfl ?_
    refine x_lconst C (v := (1 : Int64)) dX8_isBad_82 rfl (by decide) ?_
    refine x_lc_eq C 95 dX8_isBad_83 dX8_isBad_84 rfl (by decide) (fun c6 => ?_) (fun c6 => ?_)
    · have hw := hw.1 c6
      refine x_lv [2, 0] rfl ?_
      exact t_X8_isBad_95 C r4 u5 hw
    · have hw := hw.2 c6
      refine x_lload_n C dX8_isBad_87 rfl rfl 1 rfl ?_
      refine x_ldc2 C dX8_isBad_88 rfl i_619 ?_
      refine x_lc_ne C 121 dX8_isBad_91 dX8_isBad_92 rfl (by decide) (fun c7 => ?_) (fun c7 => ?_)
      · have hw := hw.1 c7
        refine x_iconst C (v := (1 : Int32)) dX8_isBad_121 rfl (by decide) ?_
        refine x_goto C (tgt := 126) dX8_isBad_122 rfl (by decide) ?_
        exact x_zret C dX8_isBad_126 rfl rfl (mw_same _ _) ⟨_, _, rfl, rfl, hw⟩
      · have hw := hw.2 c7
        refine x_lv [2, 0] rfl ?_
        exact t_X8_isBad_95 C r4 u5 hw
  · have hw := hw.2 c1
    refine x_iconst C (v := (1 : Int32)) dX8_isBad_61 rfl (by decide) ?_
    exact x_zret C dX8_isBad_62 rfl rfl (mw_same _ _) ⟨_, _, rfl, rfl, hw⟩
def lb_X8_isBad_17 (Post : Int32 → MS → Prop) (Ks : Int32 → Int32 → MS → Prop) (x1 : Int32) (x2 : Int32) (u : MS) : Prop :=
  (((6 : Int32) ≤ x2 → jn_X8_isBad_57 Post x1 u) ∧ (¬ ((6 : Int32) ≤ x2) → ((x1 = 0 → jn_X8_isBad_57 Post x1 u) ∧ (¬ (x1 = 0) → vp_in x2 40 ∧ (wp_X8_byteOf x2 (0 : Int32) (0 : Int64) (0 : Int32) (0 : Int64) (0 : Int32) (fun r4 => ((¬ ((M_tape u (Int32.toNatClampNeg x2)) = r4) → Ks (0 : Int32) (x2 + 1) u) ∧ ((M_tape u (Int32.toNatClampNeg x2)) = r4 → Ks (1 : Int32) (x2 + 1) u))))))))
def lp_X8_isBad_17 (Post : Int32 → MS → Prop) : Nat → Int32 → Int32 → MS → Prop
  | 0 => fun _ _ _ => False
  | f + 1 => fun x1 x2 u => lb_X8_isBad_17 Post (lp_X8_isBad_17 Post f) x1 x2 u
set_option maxHeartbeats 4000000 in
set_option maxRecDepth 20000 in
theorem t_X8_isBad_17 (C : xCx p s m args meth c G K A 6 cX8_isBad RX8 (some .boolean)) {u0 : MS} {Post : Int32 → MS → Prop} : ∀ (f : Nat) (x1 : Int32) (x2 : Int32) (u : MS) , lp_X8_isBad_17  Post f x1 x2 u → xV p l e (xRm 1 27 0 0) s m args below meth c G A 6 (xQ G A (mw L K u0 T) (fun v ws' => ∃ (r : Int32) (u' : MS), v = some (.int r) ∧ ws' = (mw L K u' T) ∧ Post r u') below args s 0 0) 0 0 (mw L K u T) 17 [(0, .ref (L 0)), (1, .int x1), (2, .int x2)] [] := by
  intro f
  induction f with
  | zero => intro x1 x2 u hw; exact hw.elim
  | succ f ih =>
    intro x1 x2 u hw
    have hw : lb_X8_isBad_17  Post (lp_X8_isBad_17  Post f) x1 x2 u := hw
    unfold lb_X8_isBad_17 at hw
    refine x_iload_n C dX8_isBad_17 rfl rfl 2 rfl ?_
    refine x_bipush C (v := (6 : Int32)) dX8_isBad_18 rfl (by decide) ?_
    refine x_icmp_ge C 57 dX8_isBad_20 rfl (by decide) (fun c1 => ?_) (fun c1 => ?_)
    · have hw := hw.1 c1
      refine x_lv [0, 1] rfl ?_
      exact t_X8_isBad_57 C x1 u hw
    · have hw := hw.2 c1
      refine x_iload_n C dX8_isBad_23 rfl rfl 1 rfl ?_
      refine x_if_eq C 57 dX8_isBad_24 rfl (by decide) (fun c2 => ?_) (fun c2 => ?_)
      · have hw := hw.1 c2
        refine x_lv [0, 1] rfl ?_
        exact t_X8_isBad_57 C x1 u hw
      · have hw := hw.2 c2
        refine x_aload_n C dX8_isBad_27 rfl rfl 0 rfl ?_
        refine gM0_tape C i_630 dX8_isBad_28 rfl ?_
        refine x_iload_n C dX8_isBad_31 rfl rfl 2 rfl ?_
        obtain ⟨h3, hw⟩ := hw
        refine gM1_at C h3 dX8_isBad_32 rfl ?_
        refine x_iload_n C dX8_isBad_33 rfl rfl 2 rfl ?_
        refine x_iconst C (v := (0 : Int32)) dX8_isBad_34 rfl (by decide) ?_
        refine x_lconst C (v := (0 : Int64)) dX8_isBad_35 rfl (by decide) ?_
        refine x_iconst C (v := (0 : Int32)) dX8_isBad_36 rfl (by decide) ?_
        refine x_lconst C (v := (0 : Int64)) dX8_isBad_37 rfl (by decide) ?_
        refine x_iconst C (v := (0 : Int32)) dX8_isBad_38 rfl (by decide) ?_
        refine k_X8_byteOf C i_719 ⟨Nat.le_of_ble_eq_true rfl, Nat.le_of_ble_eq_true rfl⟩ ⟨Nat.zero_le _, Nat.zero_le _⟩ (Nat.le_of_ble_eq_true rfl) hw dX8_isBad_39 rfl (fun r4 hw => ?_)
        refine x_icmp_ne C 49 dX8_isBad_42 rfl (by decide) (fun c6 => ?_) (fun c6 => ?_)
        · have hw := hw.1 c6
          refine x_iconst C (v := (0 : Int32)) dX8_isBad_49 rfl (by decide) ?_
          refine x_istore_n C (lv' := [(1, .int (0 : Int32)), (0, .ref (L 0)), (2, .int x2)]) dX8_isBad_50 rfl rfl (by decide) rfl ?_
          refine x_iinc C (k := 2) (v := x2 + 1) (lv' := [(2, .int (x2 + 1)), (1, .int (0 : Int32)), (0, .ref (L 0))]) dX8_isBad_51 rfl rfl rfl (by decide) rfl ?_
          refine x_goto C (tgt := 17) dX8_isBad_54 rfl (by decide) ?_
          refine x_lv [2, 1, 0] rfl ?_
          exact ih (0 : Int32) (x2 + 1) u hw
        · have hw := hw.2 c6
          refine x_iconst C (v := (1 : Int32)) dX8_isBad_45 rfl (by decide) ?_
          refine x_goto C (tgt := 50) dX8_isBad_46 rfl (by decide) ?_
          refine x_istore_n C (lv' := [(1, .int (1 : Int32)), (0, .ref (L 0)), (2, .int x2)]) dX8_isBad_50 rfl rfl (by decide) rfl ?_
          refine x_iinc C (k := 2) (v := x2 + 1) (lv' := [(2, .int (x2 + 1)), (1, .int (1 : Int32)), (0, .ref (L 0))]) dX8_isBad_51 rfl rfl rfl (by decide) rfl ?_
          refine x_goto C (tgt := 17) dX8_isBad_54 rfl (by decide) ?_
          refine x_lv [2, 1, 0] rfl ?_
          exact ih (1 : Int32) (x2 + 1) u hw
def wp_X8_isBad (u : MS) (Post : Int32 → MS → Prop) : Prop :=
  ((¬ ((M_taped u) = (28 : Int32)) → ∃ f9 : Nat, lp_X8_isBad_17 Post f9 (0 : Int32) (0 : Int32) u) ∧ ((M_taped u) = (28 : Int32) → ∃ f9 : Nat, lp_X8_isBad_17 Post f9 (1 : Int32) (0 : Int32) u))
set_option maxHeartbeats 4000000 in
set_option maxRecDepth 20000 in
theorem c_X8_isBad {u : MS} {Post : Int32 → MS → Prop} (hw : wp_X8_isBad  u Post) : xMet l yX8_isBad cX8_isBad 6 (some .boolean) 1 27 0 0 G K [.ref (L 0)] (mw L K u T) (fun v ws' => ∃ (r : Int32) (u' : MS), v = some (.int r) ∧ ws' = (mw L K u' T) ∧ Post r u') := by
  refine xMet.intro (lv := [(0, .ref (L 0))]) (by decide) rfl (Nat.le_of_ble_eq_true rfl) rfl (fun p e s m args below meth c A C => ?_)
  unfold wp_X8_isBad at hw
  refine x_aload_n C dX8_isBad_0 rfl rfl 0 rfl ?_
  refine gM0_taped C i_631 dX8_isBad_1 rfl ?_
  refine x_bipush C (v := (28 : Int32)) dX8_isBad_4 rfl (by decide) ?_
  refine x_icmp_ne C 13 dX8_isBad_6 rfl (by decide) (fun c1 => ?_) (fun c1 => ?_)
  · have hw := hw.1 c1
    refine x_iconst C (v := (0 : Int32)) dX8_isBad_13 rfl (by decide) ?_
    refine x_istore_n C (lv' := [(1, .int (0 : Int32)), (0, .ref (L 0))]) dX8_isBad_14 rfl rfl (by decide) rfl ?_
    refine x_iconst C (v := (0 : Int32)) dX8_isBad_15 rfl (by decide) ?_
    refine x_istore_n C (lv' := [(2, .int (0 : Int32)), (1, .int (0 : Int32)), (0, .ref (L 0))]) dX8_isBad_16 rfl rfl (by decide) rfl ?_
    refine x_lv [2, 1, 0] rfl ?_
    obtain ⟨f9, hw⟩ := hw
    exact t_X8_isBad_17 C f9 (0 : Int32) (0 : Int32) u hw
  · have hw := hw.2 c1
    refine x_iconst C (v := (1 : Int32)) dX8_isBad_9 rfl (by decide) ?_
    refine x_goto C (tgt := 14) dX8_isBad_10 rfl (by decide) ?_
    refine x_istore_n C (lv' := [(1, .int (1 : Int32)), (0, .ref (L 0))]) dX8_isBad_14 rfl rfl (by decide) rfl ?_
    refine x_iconst C (v := (0 : Int32)) dX8_isBad_15 rfl (by decide) ?_
    refine x_istore_n C (lv' := [(2, .int (0 : Int32)), (1, .int (1 : Int32)), (0, .ref (L 0))]) dX8_isBad_16 rfl rfl (by decide) rfl ?_
    refine x_lv [2, 1, 0] rfl ?_
    obtain ⟨f9, hw⟩ := hw
    exact t_X8_isBad_17 C f9 (1 : Int32) (0 : Int32) u hw
set_option maxRecDepth 20000 in
theorem k_X8_isBad (C : xCx p s m args meth c G K A nL cc own ret) {u : MS} {idx : Nat} {rest : List Value} {Post : Int32 → MS → Prop} (hlink : Cond.methodLink own idx yX8_isBad ∈ gw_tbl) (hR : 1 + 1 ≤ R.frames ∧ 8 + (6 + 11) + 27 ≤ R.locals) (hf : cells ≤ R.cells ∧ slots ≤ R.slots) (hW : (rest.map fun v => v.category).sum ≤ 8) (hw : wp_X8_isBad  u Post) (hdg : decode cc n = .ok (.invokevirtual idx, 3)) (hp : pc = n) (kk : ∀ (r : Int32) (u' : MS), Post r u' → xV p l e R s m args below meth c G A nL Q cells slots (mw L K u' T) (n + 3) lv (.int r :: rest)) : xV p l e R s m args below meth c G A nL Q cells slots (mw L K u T) pc lv (.ref (L 0) :: rest) :=
  x_callV C (As := []) (c_X8_isBad hw) ⟨hlink, i_732, i_s21, i_9, i_733⟩ 0 rfl rfl rfl (k := 0) (by decide +kernel) rfl hR hf hW rfl hdg hp (fun v ws' ⟨r, u', hv, hws, hPo⟩ _ => by subst hv; subst hws; exact kk r u' hPo)
def jn_X8_conflict_30 (Post : Int32 → MS → Prop) (u : MS) : Prop :=
  wp_X8_request (281474976710655 : Int64) (M_own u) u (fun u2 => (∀ (u3 : MS), u3 = Ms_defended u2 (M_time u2) → Post (2 : Int32) u3))
set_option maxHeartbeats 4000000 in
set_option maxRecDepth 20000 in
theorem t_X8_conflict_30 (C : xCx p s m args meth c G K A 1 cX8_conflict RX8 (some .int)) {u0 : MS} {Post : Int32 → MS → Prop} (u : MS) (hw : jn_X8_conflict_30  Post  u) : xV p l e (xRm 4 87 0 0) s m args below meth c G A 1 (xQ G A (mw L K u0 T) (fun v ws' => ∃ (r : Int32) (u' : MS), v = some (.int r) ∧ ws' = (mw L K u' T) ∧ Post r u') below args s 0 0) 0 0 (mw L K u T) 30 [(0, .ref (L 0))] [] := by
  unfold jn_X8_conflict_30 at hw
  refine x_aload_n C dX8_conflict_30 rfl rfl 0 rfl ?_
  refine x_ldc2 C dX8_conflict_31 rfl i_738 ?_
  refine x_aload_n C dX8_conflict_34 rfl rfl 0 rfl ?_
  refine gM0_own C i_626 dX8_conflict_35 rfl ?_
  refine k_X8_request C i_747 ⟨Nat.le_of_ble_eq_true rfl, Nat.le_of_ble_eq_true rfl⟩ ⟨Nat.zero_le _, Nat.zero_le _⟩ (Nat.le_of_ble_eq_true rfl) hw dX8_conflict_38 rfl (fun u2 hw => ?_)
  refine x_aload_n C dX8_conflict_41 rfl rfl 0 rfl ?_
  refine x_aload_n C dX8_conflict_42 rfl rfl 0 rfl ?_
  refine gM0_time C i_625 dX8_conflict_43 rfl ?_
  refine pM0_defended C i_629 dX8_conflict_46 rfl (fun u3 e4 => ?_)
  have hw := hw u3 e4
  refine x_goto C (tgt := 56) dX8_conflict_49 rfl (by decide) ?_
  refine x_iconst C (v := (2 : Int32)) dX8_conflict_56 rfl (by decide) ?_
  exact x_iret C dX8_conflict_57 rfl (mw_same _ _) ⟨_, _, rfl, rfl, hw⟩
def wp_X8_conflict (u : MS) (Post : Int32 → MS → Prop) : Prop :=
  (((M_phase u) ≤ (1 : Int32) → wp_X8_giveUp u (fun u3 => Post (2 : Int32) u3)) ∧ (¬ ((M_phase u) ≤ (1 : Int32)) → (((M_defended u) = (-1 : Int32) → jn_X8_conflict_30 Post u) ∧ (¬ ((M_defended u) = (-1 : Int32)) → ((((M_time u) - (M_defended u)) < (10 : Int32) → wp_X8_giveUp u (fun u7 => Post (2 : Int32) u7)) ∧ (¬ (((M_time u) - (M_defended u)) < (10 : Int32)) → jn_X8_conflict_30 Post u))))))
set_option maxHeartbeats 4000000 in
set_option maxRecDepth 20000 in
theorem c_X8_conflict {u : MS} {Post : Int32 → MS → Prop} (hw : wp_X8_conflict  u Post) : xMet l yX8_conflict cX8_conflict 1 (some .int) 4 87 0 0 G K [.ref (L 0)] (mw L K u T) (fun v ws' => ∃ (r : Int32) (u' : MS), v = some (.int r) ∧ ws' = (mw L K u' T) ∧ Post r u') := by
  refine xMet.intro (lv := [(0, .ref (L 0))]) (by decide) rfl (Nat.le_of_ble_eq_true rfl) rfl (fun p e s m args below meth c A C => ?_)
  unfold wp_X8_conflict at hw
  refine x_aload_n C dX8_conflict_0 rfl rfl 0 rfl ?_
  refine gM0_phase C i_627 dX8_conflict_1 rfl ?_
  refine x_iconst C (v := (1 : Int32)) dX8_conflict_4 rfl (by decide) ?_
  refine x_icmp_le C 52 dX8_conflict_5 rfl (by decide) (fun c1 => ?_) (fun c1 => ?_)
  · have hw := hw.1 c1
    refine x_aload_n C dX8_conflict_52 rfl rfl 0 rfl ?_
    refine k_X8_giveUp C i_755 ⟨Nat.le_of_ble_eq_true rfl, Nat.le_of_ble_eq_true rfl⟩ ⟨Nat.zero_le _, Nat.zero_le _⟩ (Nat.le_of_ble_eq_true rfl) hw dX8_conflict_53 rfl (fun u3 hw => ?_)
    refine x_iconst C (v := (2 : Int32)) dX8_conflict_56 rfl (by decide) ?_
    exact x_iret C dX8_conflict_57 rfl (mw_same _ _) ⟨_, _, rfl, rfl, hw⟩
  · have hw := hw.2 c1
    refine x_aload_n C dX8_conflict_8 rfl rfl 0 rfl ?_
    refine gM0_defended C i_629 dX8_conflict_9 rfl ?_
    refine x_iconst C (v := (-1 : Int32)) dX8_conflict_12 rfl (by decide) ?_
    refine x_icmp_eq C 30 dX8_conflict_13 rfl (by decide) (fun c4 => ?_) (fun c4 => ?_)
    · have hw := hw.1 c4
      refine x_lv [0] rfl ?_
      exact t_X8_conflict_30 C  u hw
    · have hw := hw.2 c4
      refine x_aload_n C dX8_conflict_16 rfl rfl 0 rfl ?_
      refine gM0_time C i_625 dX8_conflict_17 rfl ?_
      refine x_aload_n C dX8_conflict_20 rfl rfl 0 rfl ?_
      refine gM0_defended C i_629 dX8_conflict_21 rfl ?_
      refine x_isub C dX8_conflict_24 rfl ?_
      refine x_bipush C (v := (10 : Int32)) dX8_conflict_25 rfl (by decide) ?_
      refine x_icmp_lt C 52 dX8_conflict_27 rfl (by decide) (fun c5 => ?_) (fun c5 => ?_)
      · have hw := hw.1 c5
        refine x_aload_n C dX8_conflict_52 rfl rfl 0 rfl ?_
        refine k_X8_giveUp C i_755 ⟨Nat.le_of_ble_eq_true rfl, Nat.le_of_ble_eq_true rfl⟩ ⟨Nat.zero_le _, Nat.zero_le _⟩ (Nat.le_of_ble_eq_true rfl) hw dX8_conflict_53 rfl (fun u7 hw => ?_)
        refine x_iconst C (v := (2 : Int32)) dX8_conflict_56 rfl (by decide) ?_
        exact x_iret C dX8_conflict_57 rfl (mw_same _ _) ⟨_, _, rfl, rfl, hw⟩
      · have hw := hw.2 c5
        refine x_lv [0] rfl ?_
        exact t_X8_conflict_30 C  u hw
set_option maxRecDepth 20000 in
theorem k_X8_conflict (C : xCx p s m args meth c G K A nL cc own ret) {u : MS} {idx : Nat} {rest : List Value} {Post : Int32 → MS → Prop} (hlink : Cond.methodLink own idx yX8_conflict ∈ gw_tbl) (hR : 4 + 1 ≤ R.frames ∧ 8 + (1 + 11) + 87 ≤ R.locals) (hf : cells ≤ R.cells ∧ slots ≤ R.slots) (hW : (rest.map fun v => v.category).sum ≤ 8) (hw : wp_X8_conflict  u Post) (hdg : decode cc n = .ok (.invokevirtual idx, 3)) (hp : pc = n) (kk : ∀ (r : Int32) (u' : MS), Post r u' → xV p l e R s m args below meth c G A nL Q cells slots (mw L K u' T) (n + 3) lv (.int r :: rest)) : xV p l e R s m args below meth c G A nL Q cells slots (mw L K u T) pc lv (.ref (L 0) :: rest) :=
  x_callV C (As := []) (c_X8_conflict hw) ⟨hlink, i_745, i_s24, i_9, i_746⟩ 0 rfl rfl rfl (k := 0) (by decide +kernel) rfl hR hf hW rfl hdg hp (fun v ws' ⟨r, u', hv, hws, hPo⟩ _ => by subst hv; subst hws; exact kk r u' hPo)
def lb_X8_learn_44 (Post : MS → Prop) (Ks : Int32 → Int64 → Int32 → Int32 → MS → Prop) (x1 : Int32) (x2 : Int64) (x4 : Int32) (x5 : Int32) (u : MS) : Prop :=
  vp_in x1 33 ∧ ((((M_waiting u (Int32.toNatClampNeg x1)) ≤ x5 → (∀ (u3 : MS), u3 = Ms_waiting u (upd (M_waiting u) (Int32.toNatClampNeg x1) (0 : Int32)) → Post u3)) ∧ (¬ ((M_waiting u (Int32.toNatClampNeg x1)) ≤ x5) → ((x4 = 0 → (∀ (u6 : MS), u6 = Ms_waiting u (upd (M_waiting u) (Int32.toNatClampNeg x1) (0 : Int32)) → Post u6)) ∧ (¬ (x4 = 0) → vp_in (((4 : Int32) * x1) + x5) 132 ∧ (wp_X8_sendData x2 (M_waits u (Int32.toNatClampNeg (((4 : Int32) * x1) + x5))) u (fun u10 => Ks x1 x2 x4 (x5 + 1) u10)))))))
def lp_X8_learn_44 (Post : MS → Prop) : Nat → Int32 → Int64 → Int32 → Int32 → MS → Prop
  | 0 => fun _ _ _ _ _ => False
  | f + 1 => fun x1 x2 x4 x5 u => lb_X8_learn_44 Post (lp_X8_learn_44 Post f) x1 x2 x4 x5 u
set_option maxHeartbeats 4000000 in
set_option maxRecDepth 20000 in
theorem t_X8_learn_44 (C : xCx p s m args meth c G K A 6 cX8_learn RX8 none) {u0 : MS} {Post : MS → Prop} : ∀ (f : Nat) (x1 : Int32) (x2 : Int64) (x4 : Int32) (x5 : Int32) (u : MS) , lp_X8_learn_44  Post f x1 x2 x4 x5 u → xV p l e (xRm 1 24 0 0) s m args below meth c G A 6 (xQ G A (mw L K u0 T) (fun v ws' => ∃ u' : MS, v = none ∧ ws' = (mw L K u' T) ∧ Post u') below args s 0 0) 0 0 (mw L K u T) 44 [(0, .ref (L 0)), (1, .int x1), (2, .long x2), (4, .int x4), (5, .int x5)] [] := by
  intro f
  induction f with
  | zero => intro x1 x2 x4 x5 u hw; exact hw.elim
  | succ f ih =>
    intro x1 x2 x4 x5 u hw
    have hw : lb_X8_learn_44  Post (lp_X8_learn_44  Post f) x1 x2 x4 x5 u := hw
    unfold lb_X8_learn_44 at hw
    refine x_iload C dX8_learn_44 rfl 4 rfl ?_
    refine x_aload_n C dX8_learn_46 rfl rfl 0 rfl ?_
    refine gM0_waiting C i_638 dX8_learn_47 rfl ?_
    refine x_iload_n C dX8_learn_50 rfl rfl 1 rfl ?_
    obtain ⟨h1, hw⟩ := hw
    refine gM7_at C h1 dX8_learn_51 rfl ?_
    refine x_icmp_ge C 82 dX8_learn_52 rfl (by decide) (fun c2 => ?_) (fun c2 => ?_)
    · have hw := hw.1 c2
      refine x_aload_n C dX8_learn_82 rfl rfl 0 rfl ?_
      refine gM0_waiting C i_638 dX8_learn_83 rfl ?_
      refine x_iload_n C dX8_learn_86 rfl rfl 1 rfl ?_
      refine x_iconst C (v := (0 : Int32)) dX8_learn_87 rfl (by decide) ?_
      refine pM7_at C h1 dX8_learn_88 rfl (fun u3 e4 => ?_)
      have hw := hw u3 e4
      exact x_vret C dX8_learn_89 rfl (mw_same _ _) ⟨_, rfl, rfl, hw⟩
    · have hw := hw.2 c2
      refine x_iload C dX8_learn_55 rfl 3 rfl ?_
      refine x_if_eq C 82 dX8_learn_57 rfl (by decide) (fun c5 => ?_) (fun c5 => ?_)
      · have hw := hw.1 c5
        refine x_aload_n C dX8_learn_82 rfl rfl 0 rfl ?_
        refine gM0_waiting C i_638 dX8_learn_83 rfl ?_
        refine x_iload_n C dX8_learn_86 rfl rfl 1 rfl ?_
        refine x_iconst C (v := (0 : Int32)) dX8_learn_87 rfl (by decide) ?_
        refine pM7_at C h1 dX8_learn_88 rfl (fun u6 e7 => ?_)
        have hw := hw u6 e7
        exact x_vret C dX8_learn_89 rfl (mw_same _ _) ⟨_, rfl, rfl, hw⟩
      · have hw := hw.2 c5
        refine x_aload_n C dX8_learn_60 rfl rfl 0 rfl ?_
        refine x_lload_n C dX8_learn_61 rfl rfl 2 rfl ?_
        refine x_aload_n C dX8_learn_62 rfl rfl 0 rfl ?_
        refine gM0_waits C i_639 dX8_learn_63 rfl ?_
        refine x_iconst C (v := (4 : Int32)) dX8_learn_66 rfl (by decide) ?_
        refine x_iload_n C dX8_learn_67 rfl rfl 1 rfl ?_
        refine x_imul C dX8_learn_68 rfl ?_
        refine x_iload C dX8_learn_69 rfl 4 rfl ?_
        refine x_iadd C dX8_learn_71 rfl ?_
        obtain ⟨h8, hw⟩ := hw
        refine gM8_at C h8 dX8_learn_72 rfl ?_
        refine k_X8_sendData C i_783 ⟨Nat.le_of_ble_eq_true rfl, Nat.le_of_ble_eq_true rfl⟩ ⟨Nat.zero_le _, Nat.zero_le _⟩ (Nat.le_of_ble_eq_true rfl) hw dX8_learn_73 rfl (fun u10 hw => ?_)
        refine x_iinc C (k := 4) (v := x5 + 1) (lv' := [(5, .int (x5 + 1)), (0, .ref (L 0)), (1, .int x1), (2, .long x2), (4, .int x4)]) dX8_learn_76 rfl rfl rfl (by decide) rfl ?_
        refine x_goto C (tgt := 44) dX8_learn_79 rfl (by decide) ?_
        refine x_lv [1, 2, 3, 4, 0] rfl ?_
        exact ih x1 x2 x4 (x5 + 1) u10 hw
def jn_X8_learn_15 (Post : MS → Prop) (x1 : Int32) (x2 : Int64) (t0 : Int32) (u : MS) : Prop :=
  vp_in x1 33 ∧ ((∀ (u2 : MS), u2 = Ms_hardware u (vp_updL (M_hardware u) (Int32.toNatClampNeg x1) x2) → (∀ (u4 : MS), u4 = Ms_kinds u2 (upd (M_kinds u2) (Int32.toNatClampNeg x1) (2 : Int32)) → (∀ (u6 : MS), u6 = Ms_since u4 (upd (M_since u4) (Int32.toNatClampNeg x1) (M_time u4)) → ∃ f9 : Nat, lp_X8_learn_44 Post f9 x1 x2 t0 (0 : Int32) u6))))
set_option maxHeartbeats 4000000 in
set_option maxRecDepth 20000 in
theorem t_X8_learn_15 (C : xCx p s m args meth c G K A 6 cX8_learn RX8 none) {u0 : MS} {Post : MS → Prop} (x1 : Int32) (x2 : Int64) (t0 : Int32) (u : MS) (hw : jn_X8_learn_15  Post x1 x2 t0 u) : xV p l e (xRm 1 24 0 0) s m args below meth c G A 6 (xQ G A (mw L K u0 T) (fun v ws' => ∃ u' : MS, v = none ∧ ws' = (mw L K u' T) ∧ Post u') below args s 0 0) 0 0 (mw L K u T) 15 [(0, .ref (L 0)), (1, .int x1), (2, .long x2)] [.int t0] := by
  unfold jn_X8_learn_15 at hw
  refine x_istore C (lv' := [(4, .int t0), (0, .ref (L 0)), (1, .int x1), (2, .long x2)]) dX8_learn_15 rfl (by decide) rfl ?_
  refine x_aload_n C dX8_learn_17 rfl rfl 1 rfl ?_
  refine gM0_hardware C i_635 dX8_learn_18 rfl ?_
  refine x_iload_n C dX8_learn_21 rfl rfl 2 rfl ?_
  refine x_lload_n C dX8_learn_22 rfl rfl 3 rfl ?_
  obtain ⟨h1, hw⟩ := hw
  refine pM4_at C h1 dX8_learn_23 rfl (fun u2 e3 => ?_)
  have hw := hw u2 e3
  refine x_aload_n C dX8_learn_24 rfl rfl 1 rfl ?_
  refine gM0_kinds C i_634 dX8_learn_25 rfl ?_
  refine x_iload_n C dX8_learn_28 rfl rfl 2 rfl ?_
  refine x_iconst C (v := (2 : Int32)) dX8_learn_29 rfl (by decide) ?_
  refine pM3_at C h1 dX8_learn_30 rfl (fun u4 e5 => ?_)
  have hw := hw u4 e5
  refine x_aload_n C dX8_learn_31 rfl rfl 1 rfl ?_
  refine gM0_since C i_636 dX8_learn_32 rfl ?_
  refine x_iload_n C dX8_learn_35 rfl rfl 2 rfl ?_
  refine x_aload_n C dX8_learn_36 rfl rfl 1 rfl ?_
  refine gM0_time C i_625 dX8_learn_37 rfl ?_
  refine pM5_at C h1 dX8_learn_40 rfl (fun u6 e7 => ?_)
  have hw := hw u6 e7
  refine x_iconst C (v := (0 : Int32)) dX8_learn_41 rfl (by decide) ?_
  refine x_istore C (lv' := [(5, .int (0 : Int32)), (4, .int t0), (0, .ref (L 0)), (1, .int x1), (2, .long x2)]) dX8_learn_42 rfl (by decide) rfl ?_
  refine x_lv [2, 3, 4, 1, 0] rfl ?_
  obtain ⟨f9, hw⟩ := hw
  exact t_X8_learn_44 C f9 x1 x2 t0 (0 : Int32) u6 hw
def wp_X8_learn (a1 : Int32) (a2 : Int64) (u : MS) (Post : MS → Prop) : Prop :=
  vp_in a1 33 ∧ (((¬ ((M_kinds u (Int32.toNatClampNeg a1)) = (1 : Int32)) → jn_X8_learn_15 Post a1 a2 (0 : Int32) u) ∧ ((M_kinds u (Int32.toNatClampNeg a1)) = (1 : Int32) → jn_X8_learn_15 Post a1 a2 (1 : Int32) u)))
set_option maxHeartbeats 4000000 in
set_option maxRecDepth 20000 in
theorem c_X8_learn {a1 : Int32} {a2 : Int64} {u : MS} {Post : MS → Prop} (hw : wp_X8_learn a1 a2 u Post) : xMet l yX8_learn cX8_learn 6 none 1 24 0 0 G K [.ref (L 0), .int a1, .long a2] (mw L K u T) (fun v ws' => ∃ u' : MS, v = none ∧ ws' = (mw L K u' T) ∧ Post u') := by
  refine xMet.intro (lv := [(0, .ref (L 0)), (1, .int a1), (2, .long a2)]) (by decide) rfl (Nat.le_of_ble_eq_true rfl) rfl (fun p e s m args below meth c A C => ?_)
  unfold wp_X8_learn at hw
  refine x_aload_n C dX8_learn_0 rfl rfl 0 rfl ?_
  refine gM0_kinds C i_634 dX8_learn_1 rfl ?_
  refine x_iload_n C dX8_learn_4 rfl rfl 1 rfl ?_
  obtain ⟨h1, hw⟩ := hw
  refine gM3_at C h1 dX8_learn_5 rfl ?_
  refine x_iconst C (v := (1 : Int32)) dX8_learn_6 rfl (by decide) ?_
  refine x_icmp_ne C 14 dX8_learn_7 rfl (by decide) (fun c2 => ?_) (fun c2 => ?_)
  · have hw := hw.1 c2
    refine x_iconst C (v := (0 : Int32)) dX8_learn_14 rfl (by decide) ?_
    refine x_lv [0, 1, 2] rfl ?_
    exact t_X8_learn_15 C a1 a2 (0 : Int32) u hw
  · have hw := hw.2 c2
    refine x_iconst C (v := (1 : Int32)) dX8_learn_10 rfl (by decide) ?_
    refine x_goto C (tgt := 15) dX8_learn_11 rfl (by decide) ?_
    refine x_lv [0, 1, 2] rfl ?_
    exact t_X8_learn_15 C a1 a2 (1 : Int32) u hw
set_option maxRecDepth 20000 in
theorem k_X8_learn (C : xCx p s m args meth c G K A nL cc own ret) {a1 : Int32} {a2 : Int64} {u : MS} {idx : Nat} {rest : List Value} {Post : MS → Prop} (hlink : Cond.methodLink own idx yX8_learn ∈ gw_tbl) (hR : 1 + 1 ≤ R.frames ∧ 8 + (6 + 11) + 24 ≤ R.locals) (hf : cells ≤ R.cells ∧ slots ≤ R.slots) (hW : (rest.map fun v => v.category).sum ≤ 8) (hw : wp_X8_learn a1 a2 u Post) (hdg : decode cc n = .ok (.invokevirtual idx, 3)) (hp : pc = n) (kk : ∀ u' : MS, Post u' → xV p l e R s m args below meth c G A nL Q cells slots (mw L K u' T) (n + 3) lv rest) : xV p l e R s m args below meth c G A nL Q cells slots (mw L K u T) pc lv (.long a2 :: .int a1 :: .ref (L 0) :: rest) :=
  x_callV C (As := [.int a1, .long a2]) (c_X8_learn hw) ⟨hlink, i_781, i_s33, i_9, i_782⟩ 0 rfl rfl rfl (k := 2) (by decide +kernel) rfl hR hf hW rfl hdg hp (fun v ws' ⟨u', hv, hws, hPo⟩ _ => by subst hv; subst hws; exact kk u' hPo)
def jn_X8_heard_163 (Post : Int32 → MS → Prop) (x1 : Int32) (x2 : Int64) (x4 : Int32) (u : MS) : Prop :=
  ((x1 = 0 → Post (0 : Int32) u) ∧ (¬ (x1 = 0) → wp_X8_sendPacket x2 (2 : Int32) (M_own u) x2 x4 u (fun u3 => Post (0 : Int32) u3)))
set_option maxHeartbeats 4000000 in
set_option maxRecDepth 20000 in
theorem t_X8_heard_163 (C : xCx p s m args meth c G K A 7 cX8_heard RX8 (some .int)) {u0 : MS} {Post : Int32 → MS → Prop} (x1 : Int32) (x2 : Int64) (x4 : Int32) (u : MS) (hw : jn_X8_heard_163  Post x1 x2 x4 u) : xV p l e (xRm 5 107 0 0) s m args below meth c G A 7 (xQ G A (mw L K u0 T) (fun v ws' => ∃ (r : Int32) (u' : MS), v = some (.int r) ∧ ws' = (mw L K u' T) ∧ Post r u') below args s 0 0) 0 0 (mw L K u T) 163 [(0, .ref (L 0)), (1, .int x1), (2, .long x2), (4, .int x4)] [] := by
  unfold jn_X8_heard_163 at hw
  refine x_iload_n C dX8_heard_163 rfl rfl 1 rfl ?_
  refine x_if_eq C 180 dX8_heard_164 rfl (by decide) (fun c1 => ?_) (fun c1 => ?_)
  · have hw := hw.1 c1
    refine x_iconst C (v := (0 : Int32)) dX8_heard_180 rfl (by decide) ?_
    exact x_iret C dX8_heard_181 rfl (mw_same _ _) ⟨_, _, rfl, rfl, hw⟩
  · have hw := hw.2 c1
    refine x_aload_n C dX8_heard_167 rfl rfl 0 rfl ?_
    refine x_lload_n C dX8_heard_168 rfl rfl 2 rfl ?_
    refine x_iconst C (v := (2 : Int32)) dX8_heard_169 rfl (by decide) ?_
    refine x_aload_n C dX8_heard_170 rfl rfl 0 rfl ?_
    refine gM0_own C i_626 dX8_heard_171 rfl ?_
    refine x_lload_n C dX8_heard_174 rfl rfl 2 rfl ?_
    refine x_iload C dX8_heard_175 rfl 3 rfl ?_
    refine k_X8_sendPacket C i_751 ⟨Nat.le_of_ble_eq_true rfl, Nat.le_of_ble_eq_true rfl⟩ ⟨Nat.zero_le _, Nat.zero_le _⟩ (Nat.le_of_ble_eq_true rfl) hw dX8_heard_177 rfl (fun u3 hw => ?_)
    refine x_iconst C (v := (0 : Int32)) dX8_heard_180 rfl (by decide) ?_
    exact x_iret C dX8_heard_181 rfl (mw_same _ _) ⟨_, _, rfl, rfl, hw⟩
def jn_X8_heard_120 (Post : Int32 → MS → Prop) (x1 : Int32) (x2 : Int64) (x4 : Int32) (x5 : Int32) (x6 : Int32) (u : MS) : Prop :=
  (((M_phase u) ≤ (1 : Int32) → Post (0 : Int32) u) ∧ (¬ ((M_phase u) ≤ (1 : Int32)) → ((¬ (x5 = (M_own u)) → Post (0 : Int32) u) ∧ (x5 = (M_own u) → ((¬ (x6 = (-1 : Int32)) → jn_X8_heard_163 Post x1 x2 x4 u) ∧ (x6 = (-1 : Int32) → ((x4 = 0 → jn_X8_heard_163 Post x1 x2 x4 u) ∧ (¬ (x4 = 0) → wp_X8_makeRoom u (fun r5 u6 => ((r5 = 0 → jn_X8_heard_163 Post x1 x2 x4 u6) ∧ (¬ (r5 = 0) → wp_X8_make x4 (2 : Int32) x2 u6 (fun u9 => jn_X8_heard_163 Post x1 x2 x4 u9))))))))))))
set_option maxHeartbeats 4000000 in
set_option maxRecDepth 20000 in
theorem t_X8_heard_120 (C : xCx p s m args meth c G K A 7 cX8_heard RX8 (some .int)) {u0 : MS} {Post : Int32 → MS → Prop} (x1 : Int32) (x2 : Int64) (x4 : Int32) (x5 : Int32) (x6 : Int32) (u : MS) (hw : jn_X8_heard_120  Post x1 x2 x4 x5 x6 u) : xV p l e (xRm 5 107 0 0) s m args below meth c G A 7 (xQ G A (mw L K u0 T) (fun v ws' => ∃ (r : Int32) (u' : MS), v = some (.int r) ∧ ws' = (mw L K u' T) ∧ Post r u') below args s 0 0) 0 0 (mw L K u T) 120 [(0, .ref (L 0)), (1, .int x1), (2, .long x2), (4, .int x4), (5, .int x5), (6, .int x6)] [] := by
  unfold jn_X8_heard_120 at hw
  refine x_aload_n C dX8_heard_120 rfl rfl 0 rfl ?_
  refine gM0_phase C i_627 dX8_heard_121 rfl ?_
  refine x_iconst C (v := (1 : Int32)) dX8_heard_124 rfl (by decide) ?_
  refine x_icmp_le C 180 dX8_heard_125 rfl (by decide) (fun c1 => ?_) (fun c1 => ?_)
  · have hw := hw.1 c1
    refine x_iconst C (v := (0 : Int32)) dX8_heard_180 rfl (by decide) ?_
    exact x_iret C dX8_heard_181 rfl (mw_same _ _) ⟨_, _, rfl, rfl, hw⟩
  · have hw := hw.2 c1
    refine x_iload C dX8_heard_128 rfl 4 rfl ?_
    refine x_aload_n C dX8_heard_130 rfl rfl 0 rfl ?_
    refine gM0_own C i_626 dX8_heard_131 rfl ?_
    refine x_icmp_ne C 180 dX8_heard_134 rfl (by decide) (fun c2 => ?_) (fun c2 => ?_)
    · have hw := hw.1 c2
      refine x_iconst C (v := (0 : Int32)) dX8_heard_180 rfl (by decide) ?_
      exact x_iret C dX8_heard_181 rfl (mw_same _ _) ⟨_, _, rfl, rfl, hw⟩
    · have hw := hw.2 c2
      refine x_iload C dX8_heard_137 rfl 5 rfl ?_
      refine x_iconst C (v := (-1 : Int32)) dX8_heard_139 rfl (by decide) ?_
      refine x_icmp_ne C 163 dX8_heard_140 rfl (by decide) (fun c3 => ?_) (fun c3 => ?_)
      · have hw := hw.1 c3
        refine x_lv [0, 1, 2, 3] rfl ?_
        exact t_X8_heard_163 C x1 x2 x4 u hw
      · have hw := hw.2 c3
        refine x_iload C dX8_heard_143 rfl 3 rfl ?_
        refine x_if_eq C 163 dX8_heard_145 rfl (by decide) (fun c4 => ?_) (fun c4 => ?_)
        · have hw := hw.1 c4
          refine x_lv [0, 1, 2, 3] rfl ?_
          exact t_X8_heard_163 C x1 x2 x4 u hw
        · have hw := hw.2 c4
          refine x_aload_n C dX8_heard_148 rfl rfl 0 rfl ?_
          refine k_X8_makeRoom C i_787 ⟨Nat.le_of_ble_eq_true rfl, Nat.le_of_ble_eq_true rfl⟩ ⟨Nat.zero_le _, Nat.zero_le _⟩ (Nat.le_of_ble_eq_true rfl) hw dX8_heard_149 rfl (fun r5 u6 hw => ?_)
          refine x_if_eq C 163 dX8_heard_152 rfl (by decide) (fun c7 => ?_) (fun c7 => ?_)
          · have hw := hw.1 c7
            refine x_lv [0, 1, 2, 3] rfl ?_
            exact t_X8_heard_163 C x1 x2 x4 u6 hw
          · have hw := hw.2 c7
            refine x_aload_n C dX8_heard_155 rfl rfl 0 rfl ?_
            refine x_iload C dX8_heard_156 rfl 3 rfl ?_
            refine x_iconst C (v := (2 : Int32)) dX8_heard_158 rfl (by decide) ?_
            refine x_lload_n C dX8_heard_159 rfl rfl 2 rfl ?_
            refine k_X8_make C i_791 ⟨Nat.le_of_ble_eq_true rfl, Nat.le_of_ble_eq_true rfl⟩ ⟨Nat.zero_le _, Nat.zero_le _⟩ (Nat.le_of_ble_eq_true rfl) hw dX8_heard_160 rfl (fun u9 hw => ?_)
            refine x_lv [0, 1, 2, 3] rfl ?_
            exact t_X8_heard_163 C x1 x2 x4 u9 hw
def jn_X8_heard_99 (Post : Int32 → MS → Prop) (x1 : Int32) (x2 : Int64) (x4 : Int32) (x5 : Int32) (u : MS) : Prop :=
  wp_X8_find x4 u (fun r1 u2 => ((r1 = (-1 : Int32) → jn_X8_heard_120 Post x1 x2 x4 x5 r1 u2) ∧ (¬ (r1 = (-1 : Int32)) → wp_X8_learn r1 x2 u2 (fun u5 => jn_X8_heard_120 Post x1 x2 x4 x5 r1 u5))))
set_option maxHeartbeats 4000000 in
set_option maxRecDepth 20000 in
theorem t_X8_heard_99 (C : xCx p s m args meth c G K A 7 cX8_heard RX8 (some .int)) {u0 : MS} {Post : Int32 → MS → Prop} (x1 : Int32) (x2 : Int64) (x4 : Int32) (x5 : Int32) (u : MS) (hw : jn_X8_heard_99  Post x1 x2 x4 x5 u) : xV p l e (xRm 5 107 0 0) s m args below meth c G A 7 (xQ G A (mw L K u0 T) (fun v ws' => ∃ (r : Int32) (u' : MS), v = some (.int r) ∧ ws' = (mw L K u' T) ∧ Post r u') below args s 0 0) 0 0 (mw L K u T) 99 [(0, .ref (L 0)), (1, .int x1), (2, .long x2), (4, .int x4), (5, .int x5)] [] := by
  unfold jn_X8_heard_99 at hw
  refine x_aload_n C dX8_heard_99 rfl rfl 0 rfl ?_
  refine x_iload C dX8_heard_100 rfl 3 rfl ?_
  refine k_X8_find C i_775 ⟨Nat.le_of_ble_eq_true rfl, Nat.le_of_ble_eq_true rfl⟩ ⟨Nat.zero_le _, Nat.zero_le _⟩ (Nat.le_of_ble_eq_true rfl) hw dX8_heard_102 rfl (fun r1 u2 hw => ?_)
  refine x_istore C (lv' := [(6, .int r1), (0, .ref (L 0)), (1, .int x1), (2, .long x2), (4, .int x4), (5, .int x5)]) dX8_heard_105 rfl (by decide) rfl ?_
  refine x_iload C dX8_heard_107 rfl 0 rfl ?_
  refine x_iconst C (v := (-1 : Int32)) dX8_heard_109 rfl (by decide) ?_
  refine x_icmp_eq C 120 dX8_heard_110 rfl (by decide) (fun c3 => ?_) (fun c3 => ?_)
  · have hw := hw.1 c3
    refine x_lv [1, 2, 3, 4, 5, 0] rfl ?_
    exact t_X8_heard_120 C x1 x2 x4 x5 r1 u2 hw
  · have hw := hw.2 c3
    refine x_aload_n C dX8_heard_113 rfl rfl 1 rfl ?_
    refine x_iload C dX8_heard_114 rfl 0 rfl ?_
    refine x_lload_n C dX8_heard_116 rfl rfl 3 rfl ?_
    refine k_X8_learn C i_779 ⟨Nat.le_of_ble_eq_true rfl, Nat.le_of_ble_eq_true rfl⟩ ⟨Nat.zero_le _, Nat.zero_le _⟩ (Nat.le_of_ble_eq_true rfl) hw dX8_heard_117 rfl (fun u5 hw => ?_)
    refine x_lv [1, 2, 3, 4, 5, 0] rfl ?_
    exact t_X8_heard_120 C x1 x2 x4 x5 r1 u5 hw
def jn_X8_heard_26 (Post : Int32 → MS → Prop) (t0 : Int32) (u : MS) : Prop :=
  wp_X8_number (8 : Int32) (6 : Int32) u (fun r1 u2 => wp_X8_address (14 : Int32) u2 (fun r3 u4 => wp_X8_address (24 : Int32) u4 (fun r5 u6 => (((M_phase u6) ≤ 0 → jn_X8_heard_99 Post t0 r1 r3 r5 u6) ∧ (¬ ((M_phase u6) ≤ 0) → ((r3 = (M_own u6) → wp_X8_conflict u6 (fun r9 u10 => Post r9 u10)) ∧ (¬ (r3 = (M_own u6)) → ((¬ ((M_phase u6) = (1 : Int32)) → jn_X8_heard_99 Post t0 r1 r3 r5 u6) ∧ ((M_phase u6) = (1 : Int32) → ((t0 = 0 → jn_X8_heard_99 Post t0 r1 r3 r5 u6) ∧ (¬ (t0 = 0) → ((¬ (r3 = 0) → jn_X8_heard_99 Post t0 r1 r3 r5 u6) ∧ (r3 = 0 → ((¬ (r5 = (M_own u6)) → jn_X8_heard_99 Post t0 r1 r3 r5 u6) ∧ (r5 = (M_own u6) → wp_X8_conflict u6 (fun r15 u16 => Post r15 u16))))))))))))))))
set_option maxHeartbeats 4000000 in
set_option maxRecDepth 20000 in
theorem t_X8_heard_26 (C : xCx p s m args meth c G K A 7 cX8_heard RX8 (some .int)) {u0 : MS} {Post : Int32 → MS → Prop} (t0 : Int32) (u : MS) (hw : jn_X8_heard_26  Post t0 u) : xV p l e (xRm 5 107 0 0) s m args below meth c G A 7 (xQ G A (mw L K u0 T) (fun v ws' => ∃ (r : Int32) (u' : MS), v = some (.int r) ∧ ws' = (mw L K u' T) ∧ Post r u') below args s 0 0) 0 0 (mw L K u T) 26 [(0, .ref (L 0))] [.int t0] := by
  unfold jn_X8_heard_26 at hw
  refine x_istore_n C (lv' := [(1, .int t0), (0, .ref (L 0))]) dX8_heard_26 rfl rfl (by decide) rfl ?_
  refine x_aload_n C dX8_heard_27 rfl rfl 1 rfl ?_
  refine x_bipush C (v := (8 : Int32)) dX8_heard_28 rfl (by decide) ?_
  refine x_bipush C (v := (6 : Int32)) dX8_heard_30 rfl (by decide) ?_
  refine k_X8_number C i_734 ⟨Nat.le_of_ble_eq_true rfl, Nat.le_of_ble_eq_true rfl⟩ ⟨Nat.zero_le _, Nat.zero_le _⟩ (Nat.le_of_ble_eq_true rfl) hw dX8_heard_32 rfl (fun r1 u2 hw => ?_)
  refine x_lstore_n C (lv' := [(2, .long r1), (1, .int t0), (0, .ref (L 0))]) dX8_heard_35 rfl rfl (by decide) rfl ?_
  refine x_aload_n C dX8_heard_36 rfl rfl 2 rfl ?_
  refine x_bipush C (v := (14 : Int32)) dX8_heard_37 rfl (by decide) ?_
  refine k_X8_address C i_739 ⟨Nat.le_of_ble_eq_true rfl, Nat.le_of_ble_eq_true rfl⟩ ⟨Nat.zero_le _, Nat.zero_le _⟩ (Nat.le_of_ble_eq_true rfl) hw dX8_heard_39 rfl (fun r3 u4 hw => ?_)
  refine x_istore C (lv' := [(4, .int r3), (2, .long r1), (1, .int t0), (0, .ref (L 0))]) dX8_heard_42 rfl (by decide) rfl ?_
  refine x_aload_n C dX8_heard_44 rfl rfl 3 rfl ?_
  refine x_bipush C (v := (24 : Int32)) dX8_heard_45 rfl (by decide) ?_
  refine k_X8_address C i_739 ⟨Nat.le_of_ble_eq_true rfl, Nat.le_of_ble_eq_true rfl⟩ ⟨Nat.zero_le _, Nat.zero_le _⟩ (Nat.le_of_ble_eq_true rfl) hw dX8_heard_47 rfl (fun r5 u6 hw => ?_)
  refine x_istore C (lv' := [(5, .int r5), (4, .int r3), (2, .long r1), (1, .int t0), (0, .ref (L 0))]) dX8_heard_50 rfl (by decide) rfl ?_
  refine x_aload_n C dX8_heard_52 rfl rfl 4 rfl ?_
  refine gM0_phase C i_627 dX8_heard_53 rfl ?_
  refine x_if_le C 99 dX8_heard_56 rfl (by decide) (fun c7 => ?_) (fun c7 => ?_)
  · have hw := hw.1 c7
    refine x_lv [4, 3, 2, 1, 0] rfl ?_
    exact t_X8_heard_99 C t0 r1 r3 r5 u6 hw
  · have hw := hw.2 c7
    refine x_iload C dX8_heard_59 rfl 1 rfl ?_
    refine x_aload_n C dX8_heard_61 rfl rfl 4 rfl ?_
    refine gM0_own C i_626 dX8_heard_62 rfl ?_
    refine x_icmp_eq C 94 dX8_heard_65 rfl (by decide) (fun c8 => ?_) (fun c8 => ?_)
    · have hw := hw.1 c8
      refine x_aload_n C dX8_heard_94 rfl rfl 4 rfl ?_
      refine k_X8_conflict C i_743 ⟨Nat.le_of_ble_eq_true rfl, Nat.le_of_ble_eq_true rfl⟩ ⟨Nat.zero_le _, Nat.zero_le _⟩ (Nat.le_of_ble_eq_true rfl) hw dX8_heard_95 rfl (fun r9 u10 hw => ?_)
      exact x_iret C dX8_heard_98 rfl (mw_same _ _) ⟨_, _, rfl, rfl, hw⟩
    · have hw := hw.2 c8
      refine x_aload_n C dX8_heard_68 rfl rfl 4 rfl ?_
      refine gM0_phase C i_627 dX8_heard_69 rfl ?_
      refine x_iconst C (v := (1 : Int32)) dX8_heard_72 rfl (by decide) ?_
      refine x_icmp_ne C 99 dX8_heard_73 rfl (by decide) (fun c11 => ?_) (fun c11 => ?_)
      · have hw := hw.1 c11
        refine x_lv [4, 3, 2, 1, 0] rfl ?_
        exact t_X8_heard_99 C t0 r1 r3 r5 u6 hw
      · have hw := hw.2 c11
        refine x_iload_n C dX8_heard_76 rfl rfl 3 rfl ?_
        refine x_if_eq C 99 dX8_heard_77 rfl (by decide) (fun c12 => ?_) (fun c12 => ?_)
        · have hw := hw.1 c12
          refine x_lv [4, 3, 2, 1, 0] rfl ?_
          exact t_X8_heard_99 C t0 r1 r3 r5 u6 hw
        · have hw := hw.2 c12
          refine x_iload C dX8_heard_80 rfl 1 rfl ?_
          refine x_if_ne C 99 dX8_heard_82 rfl (by decide) (fun c13 => ?_) (fun c13 => ?_)
          · have hw := hw.1 c13
            refine x_lv [4, 3, 2, 1, 0] rfl ?_
            exact t_X8_heard_99 C t0 r1 r3 r5 u6 hw
          · have hw := hw.2 c13
            refine x_iload C dX8_heard_85 rfl 0 rfl ?_
            refine x_aload_n C dX8_heard_87 rfl rfl 4 rfl ?_
            refine gM0_own C i_626 dX8_heard_88 rfl ?_
            refine x_icmp_ne C 99 dX8_heard_91 rfl (by decide) (fun c14 => ?_) (fun c14 => ?_)
            · have hw := hw.1 c14
              refine x_lv [4, 3, 2, 1, 0] rfl ?_
              exact t_X8_heard_99 C t0 r1 r3 r5 u6 hw
            · have hw := hw.2 c14
              refine x_aload_n C dX8_heard_94 rfl rfl 4 rfl ?_
              refine k_X8_conflict C i_743 ⟨Nat.le_of_ble_eq_true rfl, Nat.le_of_ble_eq_true rfl⟩ ⟨Nat.zero_le _, Nat.zero_le _⟩ (Nat.le_of_ble_eq_true rfl) hw dX8_heard_95 rfl (fun r15 u16 hw => ?_)
              exact x_iret C dX8_heard_98 rfl (mw_same _ _) ⟨_, _, rfl, rfl, hw⟩
def wp_X8_heard (u : MS) (Post : Int32 → MS → Prop) : Prop :=
  wp_X8_isBad u (fun r1 u2 => ((r1 = 0 → wp_X8_number (6 : Int32) (2 : Int32) u2 (fun r4 u5 => ((¬ (r4 = (1 : Int64)) → jn_X8_heard_26 Post (0 : Int32) u5) ∧ (r4 = (1 : Int64) → jn_X8_heard_26 Post (1 : Int32) u5)))) ∧ (¬ (r1 = 0) → Post (1 : Int32) u2)))
set_option maxHeartbeats 4000000 in
set_option maxRecDepth 20000 in
theorem c_X8_heard {u : MS} {Post : Int32 → MS → Prop} (hw : wp_X8_heard  u Post) : xMet l yX8_heard cX8_heard 7 (some .int) 5 107 0 0 G K [.ref (L 0)] (mw L K u T) (fun v ws' => ∃ (r : Int32) (u' : MS), v = some (.int r) ∧ ws' = (mw L K u' T) ∧ Post r u') := by
  refine xMet.intro (lv := [(0, .ref (L 0))]) (by decide) rfl (Nat.le_of_ble_eq_true rfl) rfl (fun p e s m args below meth c A C => ?_)
  unfold wp_X8_heard at hw
  refine x_aload_n C dX8_heard_0 rfl rfl 0 rfl ?_
  refine k_X8_isBad C i_730 ⟨Nat.le_of_ble_eq_true rfl, Nat.le_of_ble_eq_true rfl⟩ ⟨Nat.zero_le _, Nat.zero_le _⟩ (Nat.le_of_ble_eq_true rfl) hw dX8_heard_1 rfl (fun r1 u2 hw => ?_)
  refine x_if_eq C 9 dX8_heard_4 rfl (by decide) (fun c3 => ?_) (fun c3 => ?_)
  · have hw := hw.1 c3
    refine x_aload_n C dX8_heard_9 rfl rfl 0 rfl ?_
    refine x_bipush C (v := (6 : Int32)) dX8_heard_10 rfl (by decide) ?_
    refine x_iconst C (v := (2 : Int32)) dX8_heard_12 rfl (by decide) ?_
    refine k_X8_number C i_734 ⟨Nat.le_of_ble_eq_true rfl, Nat.le_of_ble_eq_true rfl⟩ ⟨Nat.zero_le _, Nat.zero_le _⟩ (Nat.le_of_ble_eq_true rfl) hw dX8_heard_13 rfl (fun r4 u5 hw => ?_)
    refine x_lconst C (v := (1 : Int64)) dX8_heard_16 rfl (by decide) ?_
    refine x_lc_ne C 25 dX8_heard_17 dX8_heard_18 rfl (by decide) (fun c6 => ?_) (fun c6 => ?_)
    · have hw := hw.1 c6
      refine x_iconst C (v := (0 : Int32)) dX8_heard_25 rfl (by decide) ?_
      refine x_lv [0] rfl ?_
      exact t_X8_heard_26 C (0 : Int32) u5 hw
    · have hw := hw.2 c6
      refine x_iconst C (v := (1 : Int32)) dX8_heard_21 rfl (by decide) ?_
      refine x_goto C (tgt := 26) dX8_heard_22 rfl (by decide) ?_
      refine x_lv [0] rfl ?_
      exact t_X8_heard_26 C (1 : Int32) u5 hw
  · have hw := hw.2 c3
    refine x_iconst C (v := (1 : Int32)) dX8_heard_7 rfl (by decide) ?_
    exact x_iret C dX8_heard_8 rfl (mw_same _ _) ⟨_, _, rfl, rfl, hw⟩
set_option maxRecDepth 20000 in
theorem k_X8_heard (C : xCx p s m args meth c G K A nL cc own ret) {u : MS} {idx : Nat} {rest : List Value} {Post : Int32 → MS → Prop} (hlink : Cond.methodLink own idx yX8_heard ∈ gw_tbl) (hR : 5 + 1 ≤ R.frames ∧ 8 + (7 + 11) + 107 ≤ R.locals) (hf : cells ≤ R.cells ∧ slots ≤ R.slots) (hW : (rest.map fun v => v.category).sum ≤ 8) (hw : wp_X8_heard  u Post) (hdg : decode cc n = .ok (.invokevirtual idx, 3)) (hp : pc = n) (kk : ∀ (r : Int32) (u' : MS), Post r u' → xV p l e R s m args below meth c G A nL Q cells slots (mw L K u' T) (n + 3) lv (.int r :: rest)) : xV p l e R s m args below meth c G A nL Q cells slots (mw L K u T) pc lv (.ref (L 0) :: rest) :=
  x_callV C (As := []) (c_X8_heard hw) ⟨hlink, i_728, i_s20, i_9, i_729⟩ 0 rfl rfl rfl (k := 0) (by decide +kernel) rfl hR hf hW rfl hdg hp (fun v ws' ⟨r, u', hv, hws, hPo⟩ _ => by subst hv; subst hws; exact kk r u' hPo)
def wp_X8_hear (u : MS) (Post : Int32 → MS → Prop) : Prop :=
  (∀ (u1 : MS), u1 = Ms_thrown u (0 : Int32) → wp_X8_heard u1 (fun r3 u4 => (∀ (u5 : MS), u5 = Ms_taped u4 (0 : Int32) → Post r3 u5)))
set_option maxHeartbeats 4000000 in
set_option maxRecDepth 20000 in
theorem c_X8_hear {u : MS} {Post : Int32 → MS → Prop} (hw : wp_X8_hear  u Post) : xMet l yX8_hear cX8_hear 2 (some .int) 6 133 0 0 G K [.ref (L 0)] (mw L K u T) (fun v ws' => ∃ (r : Int32) (u' : MS), v = some (.int r) ∧ ws' = (mw L K u' T) ∧ Post r u') := by
  refine xMet.intro (lv := [(0, .ref (L 0))]) (by decide) rfl (Nat.le_of_ble_eq_true rfl) rfl (fun p e s m args below meth c A C => ?_)
  unfold wp_X8_hear at hw
  refine x_aload_n C dX8_hear_0 rfl rfl 0 rfl ?_
  refine x_iconst C (v := (0 : Int32)) dX8_hear_1 rfl (by decide) ?_
  refine pM0_thrown C i_620 dX8_hear_2 rfl (fun u1 e2 => ?_)
  have hw := hw u1 e2
  refine x_aload_n C dX8_hear_5 rfl rfl 0 rfl ?_
  refine k_X8_heard C i_726 ⟨Nat.le_of_ble_eq_true rfl, Nat.le_of_ble_eq_true rfl⟩ ⟨Nat.zero_le _, Nat.zero_le _⟩ (Nat.le_of_ble_eq_true rfl) hw dX8_hear_6 rfl (fun r3 u4 hw => ?_)
  refine x_istore_n C (lv' := [(1, .int r3), (0, .ref (L 0))]) dX8_hear_9 rfl rfl (by decide) rfl ?_
  refine x_aload_n C dX8_hear_10 rfl rfl 1 rfl ?_
  refine x_iconst C (v := (0 : Int32)) dX8_hear_11 rfl (by decide) ?_
  refine pM0_taped C i_631 dX8_hear_12 rfl (fun u5 e6 => ?_)
  have hw := hw u5 e6
  refine x_iload_n C dX8_hear_15 rfl rfl 0 rfl ?_
  exact x_iret C dX8_hear_16 rfl (mw_same _ _) ⟨_, _, rfl, rfl, hw⟩
set_option maxRecDepth 20000 in
theorem k_X8_hear (C : xCx p s m args meth c G K A nL cc own ret) {u : MS} {idx : Nat} {rest : List Value} {Post : Int32 → MS → Prop} (hlink : Cond.methodLink own idx yX8_hear ∈ gw_tbl) (hR : 6 + 1 ≤ R.frames ∧ 8 + (2 + 11) + 133 ≤ R.locals) (hf : cells ≤ R.cells ∧ slots ≤ R.slots) (hW : (rest.map fun v => v.category).sum ≤ 8) (hw : wp_X8_hear  u Post) (hdg : decode cc n = .ok (.invokevirtual idx, 3)) (hp : pc = n) (kk : ∀ (r : Int32) (u' : MS), Post r u' → xV p l e R s m args below meth c G A nL Q cells slots (mw L K u' T) (n + 3) lv (.int r :: rest)) : xV p l e R s m args below meth c G A nL Q cells slots (mw L K u T) pc lv (.ref (L 0) :: rest) :=
  x_callV C (As := []) (c_X8_hear hw) ⟨hlink, i_723, i_724, i_9, i_725⟩ 0 rfl rfl rfl (k := 0) (by decide +kernel) rfl hR hf hW rfl hdg hp (fun v ws' ⟨r, u', hv, hws, hPo⟩ _ => by subst hv; subst hws; exact kk r u' hPo)
def jn_X8_claim_26 (Post : MS → Prop) (x1 : Int32) (t0 : Int32) (u : MS) : Prop :=
  (∀ (u1 : MS), u1 = Ms_thrown u t0 → ((¬ ((M_thrown u1) = 0) → Post u1) ∧ ((M_thrown u1) = 0 → (∀ (u4 : MS), u4 = Ms_own u1 x1 → (∀ (u6 : MS), u6 = Ms_phase u4 (1 : Int32) → (∀ (u8 : MS), u8 = Ms_claimed u6 (M_time u6) → (∀ (u10 : MS), u10 = Ms_defended u8 (-1 : Int32) → wp_X8_probe u10 (fun u13 => Post u13))))))))
set_option maxHeartbeats 4000000 in
set_option maxRecDepth 20000 in
theorem t_X8_claim_26 (C : xCx p s m args meth c G K A 2 cX8_claim RX8 none) {u0 : MS} {Post : MS → Prop} (x1 : Int32) (t0 : Int32) (u : MS) (hw : jn_X8_claim_26  Post x1 t0 u) : xV p l e (xRm 3 76 0 0) s m args below meth c G A 2 (xQ G A (mw L K u0 T) (fun v ws' => ∃ u' : MS, v = none ∧ ws' = (mw L K u' T) ∧ Post u') below args s 0 0) 0 0 (mw L K u T) 26 [(0, .ref (L 0)), (1, .int x1)] [.int t0, .ref (L 0)] := by
  unfold jn_X8_claim_26 at hw
  refine pM0_thrown C i_620 dX8_claim_26 rfl (fun u1 e2 => ?_)
  have hw := hw u1 e2
  refine x_aload_n C dX8_claim_29 rfl rfl 0 rfl ?_
  refine gM0_thrown C i_620 dX8_claim_30 rfl ?_
  refine x_if_ne C 63 dX8_claim_33 rfl (by decide) (fun c3 => ?_) (fun c3 => ?_)
  · have hw := hw.1 c3
    exact x_vret C dX8_claim_63 rfl (mw_same _ _) ⟨_, rfl, rfl, hw⟩
  · have hw := hw.2 c3
    refine x_aload_n C dX8_claim_36 rfl rfl 0 rfl ?_
    refine x_iload_n C dX8_claim_37 rfl rfl 1 rfl ?_
    refine pM0_own C i_626 dX8_claim_38 rfl (fun u4 e5 => ?_)
    have hw := hw u4 e5
    refine x_aload_n C dX8_claim_41 rfl rfl 0 rfl ?_
    refine x_iconst C (v := (1 : Int32)) dX8_claim_42 rfl (by decide) ?_
    refine pM0_phase C i_627 dX8_claim_43 rfl (fun u6 e7 => ?_)
    have hw := hw u6 e7
    refine x_aload_n C dX8_claim_46 rfl rfl 0 rfl ?_
    refine x_aload_n C dX8_claim_47 rfl rfl 0 rfl ?_
    refine gM0_time C i_625 dX8_claim_48 rfl ?_
    refine pM0_claimed C i_628 dX8_claim_51 rfl (fun u8 e9 => ?_)
    have hw := hw u8 e9
    refine x_aload_n C dX8_claim_54 rfl rfl 0 rfl ?_
    refine x_iconst C (v := (-1 : Int32)) dX8_claim_55 rfl (by decide) ?_
    refine pM0_defended C i_629 dX8_claim_56 rfl (fun u10 e11 => ?_)
    have hw := hw u10 e11
    refine x_aload_n C dX8_claim_59 rfl rfl 0 rfl ?_
    refine k_X8_probe C i_799 ⟨Nat.le_of_ble_eq_true rfl, Nat.le_of_ble_eq_true rfl⟩ ⟨Nat.zero_le _, Nat.zero_le _⟩ (Nat.le_of_ble_eq_true rfl) hw dX8_claim_60 rfl (fun u13 hw => ?_)
    exact x_vret C dX8_claim_63 rfl (mw_same _ _) ⟨_, rfl, rfl, hw⟩
def jn_X8_claim_10 (Post : MS → Prop) (x1 : Int32) (u : MS) : Prop :=
  jn_X8_claim_26 Post x1 (1 : Int32) u
set_option maxHeartbeats 4000000 in
set_option maxRecDepth 20000 in
theorem t_X8_claim_10 (C : xCx p s m args meth c G K A 2 cX8_claim RX8 none) {u0 : MS} {Post : MS → Prop} (x1 : Int32) (u : MS) (hw : jn_X8_claim_10  Post x1 u) : xV p l e (xRm 3 76 0 0) s m args below meth c G A 2 (xQ G A (mw L K u0 T) (fun v ws' => ∃ u' : MS, v = none ∧ ws' = (mw L K u' T) ∧ Post u') below args s 0 0) 0 0 (mw L K u T) 10 [(0, .ref (L 0)), (1, .int x1)] [.ref (L 0)] := by
  unfold jn_X8_claim_10 at hw
  refine x_iconst C (v := (1 : Int32)) dX8_claim_10 rfl (by decide) ?_
  refine x_goto C (tgt := 26) dX8_claim_11 rfl (by decide) ?_
  refine x_lv [0, 1] rfl ?_
  exact t_X8_claim_26 C x1 (1 : Int32) u hw
def wp_X8_claim (a1 : Int32) (u : MS) (Post : MS → Prop) : Prop :=
  ((a1 = 0 → jn_X8_claim_10 Post a1 u) ∧ (¬ (a1 = 0) → ((¬ (a1 = (-1 : Int32)) → (((M_phase u) = 0 → jn_X8_claim_26 Post a1 (0 : Int32) u) ∧ (¬ ((M_phase u) = 0) → jn_X8_claim_26 Post a1 (2 : Int32) u))) ∧ (a1 = (-1 : Int32) → jn_X8_claim_10 Post a1 u))))
set_option maxHeartbeats 4000000 in
set_option maxRecDepth 20000 in
theorem c_X8_claim {a1 : Int32} {u : MS} {Post : MS → Prop} (hw : wp_X8_claim a1 u Post) : xMet l yX8_claim cX8_claim 2 none 3 76 0 0 G K [.ref (L 0), .int a1] (mw L K u T) (fun v ws' => ∃ u' : MS, v = none ∧ ws' = (mw L K u' T) ∧ Post u') := by
  refine xMet.intro (lv := [(0, .ref (L 0)), (1, .int a1)]) (by decide) rfl (Nat.le_of_ble_eq_true rfl) rfl (fun p e s m args below meth c A C => ?_)
  unfold wp_X8_claim at hw
  refine x_aload_n C dX8_claim_0 rfl rfl 0 rfl ?_
  refine x_iload_n C dX8_claim_1 rfl rfl 1 rfl ?_
  refine x_if_eq C 10 dX8_claim_2 rfl (by decide) (fun c1 => ?_) (fun c1 => ?_)
  · have hw := hw.1 c1
    refine x_lv [0, 1] rfl ?_
    exact t_X8_claim_10 C a1 u hw
  · have hw := hw.2 c1
    refine x_iload_n C dX8_claim_5 rfl rfl 1 rfl ?_
    refine x_iconst C (v := (-1 : Int32)) dX8_claim_6 rfl (by decide) ?_
    refine x_icmp_ne C 14 dX8_claim_7 rfl (by decide) (fun c2 => ?_) (fun c2 => ?_)
    · have hw := hw.1 c2
      refine x_aload_n C dX8_claim_14 rfl rfl 0 rfl ?_
      refine gM0_phase C i_627 dX8_claim_15 rfl ?_
      refine x_if_eq C 25 dX8_claim_18 rfl (by decide) (fun c3 => ?_) (fun c3 => ?_)
      · have hw := hw.1 c3
        refine x_iconst C (v := (0 : Int32)) dX8_claim_25 rfl (by decide) ?_
        refine x_lv [0, 1] rfl ?_
        exact t_X8_claim_26 C a1 (0 : Int32) u hw
      · have hw := hw.2 c3
        refine x_iconst C (v := (2 : Int32)) dX8_claim_21 rfl (by decide) ?_
        refine x_goto C (tgt := 26) dX8_claim_22 rfl (by decide) ?_
        refine x_lv [0, 1] rfl ?_
        exact t_X8_claim_26 C a1 (2 : Int32) u hw
    · have hw := hw.2 c2
      refine x_lv [0, 1] rfl ?_
      exact t_X8_claim_10 C a1 u hw
set_option maxRecDepth 20000 in
theorem k_X8_claim (C : xCx p s m args meth c G K A nL cc own ret) {a1 : Int32} {u : MS} {idx : Nat} {rest : List Value} {Post : MS → Prop} (hlink : Cond.methodLink own idx yX8_claim ∈ gw_tbl) (hR : 3 + 1 ≤ R.frames ∧ 8 + (2 + 11) + 76 ≤ R.locals) (hf : cells ≤ R.cells ∧ slots ≤ R.slots) (hW : (rest.map fun v => v.category).sum ≤ 8) (hw : wp_X8_claim a1 u Post) (hdg : decode cc n = .ok (.invokevirtual idx, 3)) (hp : pc = n) (kk : ∀ u' : MS, Post u' → xV p l e R s m args below meth c G A nL Q cells slots (mw L K u' T) (n + 3) lv rest) : xV p l e R s m args below meth c G A nL Q cells slots (mw L K u T) pc lv (.int a1 :: .ref (L 0) :: rest) :=
  x_callV C (As := [.int a1]) (c_X8_claim hw) ⟨hlink, i_796, i_797, i_9, i_798⟩ 0 rfl rfl rfl (k := 1) (by decide +kernel) rfl hR hf hW rfl hdg hp (fun v ws' ⟨u', hv, hws, hPo⟩ _ => by subst hv; subst hws; exact kk u' hPo)
def wp_X8_release (u : MS) (Post : Int32 → MS → Prop) : Prop :=
  (∀ (u1 : MS), u1 = Ms_thrown u (0 : Int32) → (((M_phase u1) ≤ 0 → wp_X8_giveUp u1 (fun u5 => Post (0 : Int32) u5)) ∧ (¬ ((M_phase u1) ≤ 0) → wp_X8_giveUp u1 (fun u7 => Post (1 : Int32) u7))))
set_option maxHeartbeats 4000000 in
set_option maxRecDepth 20000 in
theorem c_X8_release {u : MS} {Post : Int32 → MS → Prop} (hw : wp_X8_release  u Post) : xMet l yX8_release cX8_release 2 (some .boolean) 4 87 0 0 G K [.ref (L 0)] (mw L K u T) (fun v ws' => ∃ (r : Int32) (u' : MS), v = some (.int r) ∧ ws' = (mw L K u' T) ∧ Post r u') := by
  refine xMet.intro (lv := [(0, .ref (L 0))]) (by decide) rfl (Nat.le_of_ble_eq_true rfl) rfl (fun p e s m args below meth c A C => ?_)
  unfold wp_X8_release at hw
  refine x_aload_n C dX8_release_0 rfl rfl 0 rfl ?_
  refine x_iconst C (v := (0 : Int32)) dX8_release_1 rfl (by decide) ?_
  refine pM0_thrown C i_620 dX8_release_2 rfl (fun u1 e2 => ?_)
  have hw := hw u1 e2
  refine x_aload_n C dX8_release_5 rfl rfl 0 rfl ?_
  refine gM0_phase C i_627 dX8_release_6 rfl ?_
  refine x_if_le C 16 dX8_release_9 rfl (by decide) (fun c3 => ?_) (fun c3 => ?_)
  · have hw := hw.1 c3
    refine x_iconst C (v := (0 : Int32)) dX8_release_16 rfl (by decide) ?_
    refine x_istore_n C (lv' := [(1, .int (0 : Int32)), (0, .ref (L 0))]) dX8_release_17 rfl rfl (by decide) rfl ?_
    refine x_aload_n C dX8_release_18 rfl rfl 1 rfl ?_
    refine k_X8_giveUp C i_755 ⟨Nat.le_of_ble_eq_true rfl, Nat.le_of_ble_eq_true rfl⟩ ⟨Nat.zero_le _, Nat.zero_le _⟩ (Nat.le_of_ble_eq_true rfl) hw dX8_release_19 rfl (fun u5 hw => ?_)
    refine x_iload_n C dX8_release_22 rfl rfl 0 rfl ?_
    exact x_zret C dX8_release_23 rfl rfl (mw_same _ _) ⟨_, _, rfl, rfl, hw⟩
  · have hw := hw.2 c3
    refine x_iconst C (v := (1 : Int32)) dX8_release_12 rfl (by decide) ?_
    refine x_goto C (tgt := 17) dX8_release_13 rfl (by decide) ?_
    refine x_istore_n C (lv' := [(1, .int (1 : Int32)), (0, .ref (L 0))]) dX8_release_17 rfl rfl (by decide) rfl ?_
    refine x_aload_n C dX8_release_18 rfl rfl 1 rfl ?_
    refine k_X8_giveUp C i_755 ⟨Nat.le_of_ble_eq_true rfl, Nat.le_of_ble_eq_true rfl⟩ ⟨Nat.zero_le _, Nat.zero_le _⟩ (Nat.le_of_ble_eq_true rfl) hw dX8_release_19 rfl (fun u7 hw => ?_)
    refine x_iload_n C dX8_release_22 rfl rfl 0 rfl ?_
    exact x_zret C dX8_release_23 rfl rfl (mw_same _ _) ⟨_, _, rfl, rfl, hw⟩
set_option maxRecDepth 20000 in
theorem k_X8_release (C : xCx p s m args meth c G K A nL cc own ret) {u : MS} {idx : Nat} {rest : List Value} {Post : Int32 → MS → Prop} (hlink : Cond.methodLink own idx yX8_release ∈ gw_tbl) (hR : 4 + 1 ≤ R.frames ∧ 8 + (2 + 11) + 87 ≤ R.locals) (hf : cells ≤ R.cells ∧ slots ≤ R.slots) (hW : (rest.map fun v => v.category).sum ≤ 8) (hw : wp_X8_release  u Post) (hdg : decode cc n = .ok (.invokevirtual idx, 3)) (hp : pc = n) (kk : ∀ (r : Int32) (u' : MS), Post r u' → xV p l e R s m args below meth c G A nL Q cells slots (mw L K u' T) (n + 3) lv (.int r :: rest)) : xV p l e R s m args below meth c G A nL Q cells slots (mw L K u T) pc lv (.ref (L 0) :: rest) :=
  x_callV C (As := []) (c_X8_release hw) ⟨hlink, i_804, i_805, i_9, i_806⟩ 0 rfl rfl rfl (k := 0) (by decide +kernel) rfl hR hf hW rfl hdg hp (fun v ws' ⟨r, u', hv, hws, hPo⟩ _ => by subst hv; subst hws; exact kk r u' hPo)
def jn_X8_send_155 (Post : Int32 → MS → Prop) (x2 : Int32) (x3 : Int32) (x5 : Int32) (t0 : Int32) (u : MS) : Prop :=
  ((x5 = 0 → wp_X8_lose x2 u (fun u3 => wp_X8_use x3 u3 (fun u5 => Post t0 u5))) ∧ (¬ (x5 = 0) → vp_in x3 33 ∧ (vp_in (((4 : Int32) * x3) + (M_waiting u (Int32.toNatClampNeg x3))) 132 ∧ ((∀ (u8 : MS), u8 = Ms_waits u (upd (M_waits u) (Int32.toNatClampNeg (((4 : Int32) * x3) + (M_waiting u (Int32.toNatClampNeg x3)))) x2) → (∀ (u10 : MS), u10 = Ms_waiting u8 (upd (M_waiting u8) (Int32.toNatClampNeg x3) ((M_waiting u8 (Int32.toNatClampNeg x3)) + (1 : Int32))) → wp_X8_use x3 u10 (fun u13 => Post t0 u13)))))))
set_option maxHeartbeats 4000000 in
set_option maxRecDepth 20000 in
theorem t_X8_send_155 (C : xCx p s m args meth c G K A 6 cX8_send RX8 (some .int)) {u0 : MS} {Post : Int32 → MS → Prop} (x2 : Int32) (x3 : Int32) (x5 : Int32) (t0 : Int32) (u : MS) (hw : jn_X8_send_155  Post x2 x3 x5 t0 u) : xV p l e (xRm 4 88 0 0) s m args below meth c G A 6 (xQ G A (mw L K u0 T) (fun v ws' => ∃ (r : Int32) (u' : MS), v = some (.int r) ∧ ws' = (mw L K u' T) ∧ Post r u') below args s 0 0) 0 0 (mw L K u T) 155 [(0, .ref (L 0)), (2, .int x2), (3, .int x3), (5, .int x5)] [.int t0] := by
  unfold jn_X8_send_155 at hw
  refine x_istore C (lv' := [(4, .int t0), (0, .ref (L 0)), (2, .int x2), (3, .int x3), (5, .int x5)]) dX8_send_155 rfl (by decide) rfl ?_
  refine x_iload C dX8_send_157 rfl 4 rfl ?_
  refine x_if_eq C 191 dX8_send_159 rfl (by decide) (fun c1 => ?_) (fun c1 => ?_)
  · have hw := hw.1 c1
    refine x_aload_n C dX8_send_191 rfl rfl 1 rfl ?_
    refine x_iload_n C dX8_send_192 rfl rfl 2 rfl ?_
    refine k_X8_lose C i_763 ⟨Nat.le_of_ble_eq_true rfl, Nat.le_of_ble_eq_true rfl⟩ ⟨Nat.zero_le _, Nat.zero_le _⟩ (Nat.le_of_ble_eq_true rfl) hw dX8_send_193 rfl (fun u3 hw => ?_)
    refine x_goto C (tgt := 248) dX8_send_196 rfl (by decide) ?_
    refine x_aload_n C dX8_send_248 rfl rfl 1 rfl ?_
    refine x_iload_n C dX8_send_249 rfl rfl 3 rfl ?_
    refine k_X8_use C i_811 ⟨Nat.le_of_ble_eq_true rfl, Nat.le_of_ble_eq_true rfl⟩ ⟨Nat.zero_le _, Nat.zero_le _⟩ (Nat.le_of_ble_eq_true rfl) hw dX8_send_250 rfl (fun u5 hw => ?_)
    refine x_iload C dX8_send_253 rfl 0 rfl ?_
    exact x_iret C dX8_send_255 rfl (mw_same _ _) ⟨_, _, rfl, rfl, hw⟩
  · have hw := hw.2 c1
    refine x_aload_n C dX8_send_162 rfl rfl 1 rfl ?_
    refine gM0_waits C i_639 dX8_send_163 rfl ?_
    refine x_iconst C (v := (4 : Int32)) dX8_send_166 rfl (by decide) ?_
    refine x_iload_n C dX8_send_167 rfl rfl 3 rfl ?_
    refine x_imul C dX8_send_168 rfl ?_
    refine x_aload_n C dX8_send_169 rfl rfl 1 rfl ?_
    refine gM0_waiting C i_638 dX8_send_170 rfl ?_
    refine x_iload_n C dX8_send_173 rfl rfl 3 rfl ?_
    obtain ⟨h6, hw⟩ := hw
    refine gM7_at C h6 dX8_send_174 rfl ?_
    refine x_iadd C dX8_send_175 rfl ?_
    refine x_iload_n C dX8_send_176 rfl rfl 2 rfl ?_
    obtain ⟨h7, hw⟩ := hw
    refine pM8_at C h7 dX8_send_177 rfl (fun u8 e9 => ?_)
    have hw := hw u8 e9
    refine x_aload_n C dX8_send_178 rfl rfl 1 rfl ?_
    refine gM0_waiting C i_638 dX8_send_179 rfl ?_
    refine x_iload_n C dX8_send_182 rfl rfl 3 rfl ?_
    refine x_dup2 C dX8_send_183 rfl rfl rfl ?_
    refine gM7_at C h6 dX8_send_184 rfl ?_
    refine x_iconst C (v := (1 : Int32)) dX8_send_185 rfl (by decide) ?_
    refine x_iadd C dX8_send_186 rfl ?_
    refine pM7_at C h6 dX8_send_187 rfl (fun u10 e11 => ?_)
    have hw := hw u10 e11
    refine x_goto C (tgt := 196) dX8_send_188 rfl (by decide) ?_
    refine x_goto C (tgt := 248) dX8_send_196 rfl (by decide) ?_
    refine x_aload_n C dX8_send_248 rfl rfl 1 rfl ?_
    refine x_iload_n C dX8_send_249 rfl rfl 3 rfl ?_
    refine k_X8_use C i_811 ⟨Nat.le_of_ble_eq_true rfl, Nat.le_of_ble_eq_true rfl⟩ ⟨Nat.zero_le _, Nat.zero_le _⟩ (Nat.le_of_ble_eq_true rfl) hw dX8_send_250 rfl (fun u13 hw => ?_)
    refine x_iload C dX8_send_253 rfl 0 rfl ?_
    exact x_iret C dX8_send_255 rfl (mw_same _ _) ⟨_, _, rfl, rfl, hw⟩
def jn_X8_send_143 (Post : Int32 → MS → Prop) (x2 : Int32) (x3 : Int32) (t0 : Int32) (u : MS) : Prop :=
  ((t0 = 0 → jn_X8_send_155 Post x2 x3 t0 (2 : Int32) u) ∧ (¬ (t0 = 0) → jn_X8_send_155 Post x2 x3 t0 (1 : Int32) u))
set_option maxHeartbeats 4000000 in
set_option maxRecDepth 20000 in
theorem t_X8_send_143 (C : xCx p s m args meth c G K A 6 cX8_send RX8 (some .int)) {u0 : MS} {Post : Int32 → MS → Prop} (x2 : Int32) (x3 : Int32) (t0 : Int32) (u : MS) (hw : jn_X8_send_143  Post x2 x3 t0 u) : xV p l e (xRm 4 88 0 0) s m args below meth c G A 6 (xQ G A (mw L K u0 T) (fun v ws' => ∃ (r : Int32) (u' : MS), v = some (.int r) ∧ ws' = (mw L K u' T) ∧ Post r u') below args s 0 0) 0 0 (mw L K u T) 143 [(0, .ref (L 0)), (2, .int x2), (3, .int x3)] [.int t0] := by
  unfold jn_X8_send_143 at hw
  refine x_istore C (lv' := [(5, .int t0), (0, .ref (L 0)), (2, .int x2), (3, .int x3)]) dX8_send_143 rfl (by decide) rfl ?_
  refine x_iload C dX8_send_145 rfl 0 rfl ?_
  refine x_if_eq C 154 dX8_send_147 rfl (by decide) (fun c1 => ?_) (fun c1 => ?_)
  · have hw := hw.1 c1
    refine x_iconst C (v := (2 : Int32)) dX8_send_154 rfl (by decide) ?_
    refine x_lv [1, 2, 3, 0] rfl ?_
    exact t_X8_send_155 C x2 x3 t0 (2 : Int32) u hw
  · have hw := hw.2 c1
    refine x_iconst C (v := (1 : Int32)) dX8_send_150 rfl (by decide) ?_
    refine x_goto C (tgt := 155) dX8_send_151 rfl (by decide) ?_
    refine x_lv [1, 2, 3, 0] rfl ?_
    exact t_X8_send_155 C x2 x3 t0 (1 : Int32) u hw
def jn_X8_send_35 (Post : Int32 → MS → Prop) (x1 : Int32) (x2 : Int32) (t0 : Int32) (u : MS) : Prop :=
  (∀ (u1 : MS), u1 = Ms_thrown u t0 → (((M_thrown u1) ≤ 0 → wp_X8_find x1 u1 (fun r4 u5 => ((¬ (r4 = (-1 : Int32)) → vp_in r4 33 ∧ (((¬ ((M_kinds u5 (Int32.toNatClampNeg r4)) = (1 : Int32)) → wp_X8_sendData (M_hardware u5 (Int32.toNatClampNeg r4)) x2 u5 (fun u10 => ((¬ ((M_kinds u10 (Int32.toNatClampNeg r4)) = (3 : Int32)) → wp_X8_use r4 u10 (fun u13 => Post (0 : Int32) u13)) ∧ ((M_kinds u10 (Int32.toNatClampNeg r4)) = (3 : Int32) → wp_X8_request (M_hardware u10 (Int32.toNatClampNeg r4)) x1 u10 (fun u15 => (∀ (u16 : MS), u16 = Ms_kinds u15 (upd (M_kinds u15) (Int32.toNatClampNeg r4) (4 : Int32)) → (∀ (u18 : MS), u18 = Ms_since u16 (upd (M_since u16) (Int32.toNatClampNeg r4) (M_time u16)) → wp_X8_use r4 u18 (fun u21 => Post (0 : Int32) u21)))))))) ∧ ((M_kinds u5 (Int32.toNatClampNeg r4)) = (1 : Int32) → (((4 : Int32) ≤ (M_waiting u5 (Int32.toNatClampNeg r4)) → jn_X8_send_143 Post x2 r4 (0 : Int32) u5) ∧ (¬ ((4 : Int32) ≤ (M_waiting u5 (Int32.toNatClampNeg r4))) → jn_X8_send_143 Post x2 r4 (1 : Int32) u5)))))) ∧ (r4 = (-1 : Int32) → wp_X8_makeRoom u5 (fun r23 u24 => ((¬ (r23 = 0) → wp_X8_make x1 (1 : Int32) (0 : Int64) u24 (fun u27 => wp_X8_request (281474976710655 : Int64) x1 u27 (fun u29 => vp_in ((4 : Int32) * ((M_entries u29) - (1 : Int32))) 132 ∧ ((∀ (u31 : MS), u31 = Ms_waits u29 (upd (M_waits u29) (Int32.toNatClampNeg ((4 : Int32) * ((M_entries u29) - (1 : Int32)))) x2) → vp_in ((M_entries u31) - (1 : Int32)) 33 ∧ ((∀ (u34 : MS), u34 = Ms_waiting u31 (upd (M_waiting u31) (Int32.toNatClampNeg ((M_entries u31) - (1 : Int32))) (1 : Int32)) → Post (1 : Int32) u34))))))) ∧ (r23 = 0 → wp_X8_lose x2 u24 (fun u37 => Post (2 : Int32) u37)))))))) ∧ (¬ ((M_thrown u1) ≤ 0) → Post (0 : Int32) u1)))
set_option maxHeartbeats 4000000 in
set_option maxRecDepth 20000 in
theorem t_X8_send_35 (C : xCx p s m args meth c G K A 6 cX8_send RX8 (some .int)) {u0 : MS} {Post : Int32 → MS → Prop} (x1 : Int32) (x2 : Int32) (t0 : Int32) (u : MS) (hw : jn_X8_send_35  Post x1 x2 t0 u) : xV p l e (xRm 4 88 0 0) s m args below meth c G A 6 (xQ G A (mw L K u0 T) (fun v ws' => ∃ (r : Int32) (u' : MS), v = some (.int r) ∧ ws' = (mw L K u' T) ∧ Post r u') below args s 0 0) 0 0 (mw L K u T) 35 [(0, .ref (L 0)), (1, .int x1), (2, .int x2)] [.int t0, .ref (L 0)] := by
  unfold jn_X8_send_35 at hw
  refine pM0_thrown C i_620 dX8_send_35 rfl (fun u1 e2 => ?_)
  have hw := hw u1 e2
  refine x_aload_n C dX8_send_38 rfl rfl 0 rfl ?_
  refine gM0_thrown C i_620 dX8_send_39 rfl ?_
  refine x_if_le C 47 dX8_send_42 rfl (by decide) (fun c3 => ?_) (fun c3 => ?_)
  · have hw := hw.1 c3
    refine x_aload_n C dX8_send_47 rfl rfl 0 rfl ?_
    refine x_iload_n C dX8_send_48 rfl rfl 1 rfl ?_
    refine k_X8_find C i_775 ⟨Nat.le_of_ble_eq_true rfl, Nat.le_of_ble_eq_true rfl⟩ ⟨Nat.zero_le _, Nat.zero_le _⟩ (Nat.le_of_ble_eq_true rfl) hw dX8_send_49 rfl (fun r4 u5 hw => ?_)
    refine x_istore_n C (lv' := [(3, .int r4), (0, .ref (L 0)), (1, .int x1), (2, .int x2)]) dX8_send_52 rfl rfl (by decide) rfl ?_
    refine x_iload_n C dX8_send_53 rfl rfl 0 rfl ?_
    refine x_iconst C (v := (-1 : Int32)) dX8_send_54 rfl (by decide) ?_
    refine x_icmp_ne C 115 dX8_send_55 rfl (by decide) (fun c6 => ?_) (fun c6 => ?_)
    · have hw := hw.1 c6
      refine x_iconst C (v := (0 : Int32)) dX8_send_115 rfl (by decide) ?_
      refine x_istore C (lv' := [(4, .int (0 : Int32)), (3, .int r4), (0, .ref (L 0)), (1, .int x1), (2, .int x2)]) dX8_send_116 rfl (by decide) rfl ?_
      refine x_aload_n C dX8_send_118 rfl rfl 2 rfl ?_
      refine gM0_kinds C i_634 dX8_send_119 rfl ?_
      refine x_iload_n C dX8_send_122 rfl rfl 1 rfl ?_
      obtain ⟨h7, hw⟩ := hw
      refine gM3_at C h7 dX8_send_123 rfl ?_
      refine x_iconst C (v := (1 : Int32)) dX8_send_124 rfl (by decide) ?_
      refine x_icmp_ne C 199 dX8_send_125 rfl (by decide) (fun c8 => ?_) (fun c8 => ?_)
      · have hw := hw.1 c8
        refine x_aload_n C dX8_send_199 rfl rfl 2 rfl ?_
        refine x_aload_n C dX8_send_200 rfl rfl 2 rfl ?_
        refine gM0_hardware C i_635 dX8_send_201 rfl ?_
        refine x_iload_n C dX8_send_204 rfl rfl 1 rfl ?_
        refine gM4_at C h7 dX8_send_205 rfl ?_
        refine x_iload_n C dX8_send_206 rfl rfl 4 rfl ?_
        refine k_X8_sendData C i_783 ⟨Nat.le_of_ble_eq_true rfl, Nat.le_of_ble_eq_true rfl⟩ ⟨Nat.zero_le _, Nat.zero_le _⟩ (Nat.le_of_ble_eq_true rfl) hw dX8_send_207 rfl (fun u10 hw => ?_)
        refine x_aload_n C dX8_send_210 rfl rfl 2 rfl ?_
        refine gM0_kinds C i_634 dX8_send_211 rfl ?_
        refine x_iload_n C dX8_send_214 rfl rfl 1 rfl ?_
        refine gM3_at C h7 dX8_send_215 rfl ?_
        refine x_iconst C (v := (3 : Int32)) dX8_send_216 rfl (by decide) ?_
        refine x_icmp_ne C 248 dX8_send_217 rfl (by decide) (fun c11 => ?_) (fun c11 => ?_)
        · have hw := hw.1 c11
          refine x_aload_n C dX8_send_248 rfl rfl 2 rfl ?_
          refine x_iload_n C dX8_send_249 rfl rfl 1 rfl ?_
          refine k_X8_use C i_811 ⟨Nat.le_of_ble_eq_true rfl, Nat.le_of_ble_eq_true rfl⟩ ⟨Nat.zero_le _, Nat.zero_le _⟩ (Nat.le_of_ble_eq_true rfl) hw dX8_send_250 rfl (fun u13 hw => ?_)
          refine x_iload C dX8_send_253 rfl 0 rfl ?_
          exact x_iret C dX8_send_255 rfl (mw_same _ _) ⟨_, _, rfl, rfl, hw⟩
        · have hw := hw.2 c11
          refine x_aload_n C dX8_send_220 rfl rfl 2 rfl ?_
          refine x_aload_n C dX8_send_221 rfl rfl 2 rfl ?_
          refine gM0_hardware C i_635 dX8_send_222 rfl ?_
          refine x_iload_n C dX8_send_225 rfl rfl 1 rfl ?_
          refine gM4_at C h7 dX8_send_226 rfl ?_
          refine x_iload_n C dX8_send_227 rfl rfl 3 rfl ?_
          refine k_X8_request C i_747 ⟨Nat.le_of_ble_eq_true rfl, Nat.le_of_ble_eq_true rfl⟩ ⟨Nat.zero_le _, Nat.zero_le _⟩ (Nat.le_of_ble_eq_true rfl) hw dX8_send_228 rfl (fun u15 hw => ?_)
          refine x_aload_n C dX8_send_231 rfl rfl 2 rfl ?_
          refine gM0_kinds C i_634 dX8_send_232 rfl ?_
          refine x_iload_n C dX8_send_235 rfl rfl 1 rfl ?_
          refine x_iconst C (v := (4 : Int32)) dX8_send_236 rfl (by decide) ?_
          refine pM3_at C h7 dX8_send_237 rfl (fun u16 e17 => ?_)
          have hw := hw u16 e17
          refine x_aload_n C dX8_send_238 rfl rfl 2 rfl ?_
          refine gM0_since C i_636 dX8_send_239 rfl ?_
          refine x_iload_n C dX8_send_242 rfl rfl 1 rfl ?_
          refine x_aload_n C dX8_send_243 rfl rfl 2 rfl ?_
          refine gM0_time C i_625 dX8_send_244 rfl ?_
          refine pM5_at C h7 dX8_send_247 rfl (fun u18 e19 => ?_)
          have hw := hw u18 e19
          refine x_aload_n C dX8_send_248 rfl rfl 2 rfl ?_
          refine x_iload_n C dX8_send_249 rfl rfl 1 rfl ?_
          refine k_X8_use C i_811 ⟨Nat.le_of_ble_eq_true rfl, Nat.le_of_ble_eq_true rfl⟩ ⟨Nat.zero_le _, Nat.zero_le _⟩ (Nat.le_of_ble_eq_true rfl) hw dX8_send_250 rfl (fun u21 hw => ?_)
          refine x_iload C dX8_send_253 rfl 0 rfl ?_
          exact x_iret C dX8_send_255 rfl (mw_same _ _) ⟨_, _, rfl, rfl, hw⟩
      · have hw := hw.2 c8
        refine x_aload_n C dX8_send_128 rfl rfl 2 rfl ?_
        refine gM0_waiting C i_638 dX8_send_129 rfl ?_
        refine x_iload_n C dX8_send_132 rfl rfl 1 rfl ?_
        refine gM7_at C h7 dX8_send_133 rfl ?_
        refine x_iconst C (v := (4 : Int32)) dX8_send_134 rfl (by decide) ?_
        refine x_icmp_ge C 142 dX8_send_135 rfl (by decide) (fun c22 => ?_) (fun c22 => ?_)
        · have hw := hw.1 c22
          refine x_iconst C (v := (0 : Int32)) dX8_send_142 rfl (by decide) ?_
          refine x_lv [2, 4, 1] rfl ?_
          exact t_X8_send_143 C x2 r4 (0 : Int32) u5 hw
        · have hw := hw.2 c22
          refine x_iconst C (v := (1 : Int32)) dX8_send_138 rfl (by decide) ?_
          refine x_goto C (tgt := 143) dX8_send_139 rfl (by decide) ?_
          refine x_lv [2, 4, 1] rfl ?_
          exact t_X8_send_143 C x2 r4 (1 : Int32) u5 hw
    · have hw := hw.2 c6
      refine x_aload_n C dX8_send_58 rfl rfl 1 rfl ?_
      refine k_X8_makeRoom C i_787 ⟨Nat.le_of_ble_eq_true rfl, Nat.le_of_ble_eq_true rfl⟩ ⟨Nat.zero_le _, Nat.zero_le _⟩ (Nat.le_of_ble_eq_true rfl) hw dX8_send_59 rfl (fun r23 u24 hw => ?_)
      refine x_if_ne C 72 dX8_send_62 rfl (by decide) (fun c25 => ?_) (fun c25 => ?_)
      · have hw := hw.1 c25
        refine x_aload_n C dX8_send_72 rfl rfl 1 rfl ?_
        refine x_iload_n C dX8_send_73 rfl rfl 2 rfl ?_
        refine x_iconst C (v := (1 : Int32)) dX8_send_74 rfl (by decide) ?_
        refine x_lconst C (v := (0 : Int64)) dX8_send_75 rfl (by decide) ?_
        refine k_X8_make C i_791 ⟨Nat.le_of_ble_eq_true rfl, Nat.le_of_ble_eq_true rfl⟩ ⟨Nat.zero_le _, Nat.zero_le _⟩ (Nat.le_of_ble_eq_true rfl) hw dX8_send_76 rfl (fun u27 hw => ?_)
        refine x_aload_n C dX8_send_79 rfl rfl 1 rfl ?_
        refine x_ldc2 C dX8_send_80 rfl i_738 ?_
        refine x_iload_n C dX8_send_83 rfl rfl 2 rfl ?_
        refine k_X8_request C i_747 ⟨Nat.le_of_ble_eq_true rfl, Nat.le_of_ble_eq_true rfl⟩ ⟨Nat.zero_le _, Nat.zero_le _⟩ (Nat.le_of_ble_eq_true rfl) hw dX8_send_84 rfl (fun u29 hw => ?_)
        refine x_aload_n C dX8_send_87 rfl rfl 1 rfl ?_
        refine gM0_waits C i_639 dX8_send_88 rfl ?_
        refine x_iconst C (v := (4 : Int32)) dX8_send_91 rfl (by decide) ?_
        refine x_aload_n C dX8_send_92 rfl rfl 1 rfl ?_
        refine gM0_entries C i_632 dX8_send_93 rfl ?_
        refine x_iconst C (v := (1 : Int32)) dX8_send_96 rfl (by decide) ?_
        refine x_isub C dX8_send_97 rfl ?_
        refine x_imul C dX8_send_98 rfl ?_
        refine x_iload_n C dX8_send_99 rfl rfl 3 rfl ?_
        obtain ⟨h30, hw⟩ := hw
        refine pM8_at C h30 dX8_send_100 rfl (fun u31 e32 => ?_)
        have hw := hw u31 e32
        refine x_aload_n C dX8_send_101 rfl rfl 1 rfl ?_
        refine gM0_waiting C i_638 dX8_send_102 rfl ?_
        refine x_aload_n C dX8_send_105 rfl rfl 1 rfl ?_
        refine gM0_entries C i_632 dX8_send_106 rfl ?_
        refine x_iconst C (v := (1 : Int32)) dX8_send_109 rfl (by decide) ?_
        refine x_isub C dX8_send_110 rfl ?_
        refine x_iconst C (v := (1 : Int32)) dX8_send_111 rfl (by decide) ?_
        obtain ⟨h33, hw⟩ := hw
        refine pM7_at C h33 dX8_send_112 rfl (fun u34 e35 => ?_)
        have hw := hw u34 e35
        refine x_iconst C (v := (1 : Int32)) dX8_send_113 rfl (by decide) ?_
        exact x_iret C dX8_send_114 rfl (mw_same _ _) ⟨_, _, rfl, rfl, hw⟩
      · have hw := hw.2 c25
        refine x_aload_n C dX8_send_65 rfl rfl 1 rfl ?_
        refine x_iload_n C dX8_send_66 rfl rfl 3 rfl ?_
        refine k_X8_lose C i_763 ⟨Nat.le_of_ble_eq_true rfl, Nat.le_of_ble_eq_true rfl⟩ ⟨Nat.zero_le _, Nat.zero_le _⟩ (Nat.le_of_ble_eq_true rfl) hw dX8_send_67 rfl (fun u37 hw => ?_)
        refine x_iconst C (v := (2 : Int32)) dX8_send_70 rfl (by decide) ?_
        exact x_iret C dX8_send_71 rfl (mw_same _ _) ⟨_, _, rfl, rfl, hw⟩
  · have hw := hw.2 c3
    refine x_iconst C (v := (0 : Int32)) dX8_send_45 rfl (by decide) ?_
    exact x_iret C dX8_send_46 rfl (mw_same _ _) ⟨_, _, rfl, rfl, hw⟩
def jn_X8_send_18 (Post : Int32 → MS → Prop) (x1 : Int32) (x2 : Int32) (u : MS) : Prop :=
  jn_X8_send_35 Post x1 x2 (1 : Int32) u
set_option maxHeartbeats 4000000 in
set_option maxRecDepth 20000 in
theorem t_X8_send_18 (C : xCx p s m args meth c G K A 6 cX8_send RX8 (some .int)) {u0 : MS} {Post : Int32 → MS → Prop} (x1 : Int32) (x2 : Int32) (u : MS) (hw : jn_X8_send_18  Post x1 x2 u) : xV p l e (xRm 4 88 0 0) s m args below meth c G A 6 (xQ G A (mw L K u0 T) (fun v ws' => ∃ (r : Int32) (u' : MS), v = some (.int r) ∧ ws' = (mw L K u' T) ∧ Post r u') below args s 0 0) 0 0 (mw L K u T) 18 [(0, .ref (L 0)), (1, .int x1), (2, .int x2)] [.ref (L 0)] := by
  unfold jn_X8_send_18 at hw
  refine x_iconst C (v := (1 : Int32)) dX8_send_18 rfl (by decide) ?_
  refine x_goto C (tgt := 35) dX8_send_19 rfl (by decide) ?_
  refine x_lv [0, 1, 2] rfl ?_
  exact t_X8_send_35 C x1 x2 (1 : Int32) u hw
def wp_X8_send (a1 : Int32) (a2 : Int32) (u : MS) (Post : Int32 → MS → Prop) : Prop :=
  ((a1 = 0 → jn_X8_send_18 Post a1 a2 u) ∧ (¬ (a1 = 0) → ((a1 = (-1 : Int32) → jn_X8_send_18 Post a1 a2 u) ∧ (¬ (a1 = (-1 : Int32)) → ((¬ (a1 = (M_own u)) → (((2 : Int32) ≤ (M_phase u) → jn_X8_send_35 Post a1 a2 (0 : Int32) u) ∧ (¬ ((2 : Int32) ≤ (M_phase u)) → jn_X8_send_35 Post a1 a2 (2 : Int32) u))) ∧ (a1 = (M_own u) → jn_X8_send_18 Post a1 a2 u))))))
set_option maxHeartbeats 4000000 in
set_option maxRecDepth 20000 in
theorem c_X8_send {a1 : Int32} {a2 : Int32} {u : MS} {Post : Int32 → MS → Prop} (hw : wp_X8_send a1 a2 u Post) : xMet l yX8_send cX8_send 6 (some .int) 4 88 0 0 G K [.ref (L 0), .int a1, .int a2] (mw L K u T) (fun v ws' => ∃ (r : Int32) (u' : MS), v = some (.int r) ∧ ws' = (mw L K u' T) ∧ Post r u') := by
  refine xMet.intro (lv := [(0, .ref (L 0)), (1, .int a1), (2, .int a2)]) (by decide) rfl (Nat.le_of_ble_eq_true rfl) rfl (fun p e s m args below meth c A C => ?_)
  unfold wp_X8_send at hw
  refine x_aload_n C dX8_send_0 rfl rfl 0 rfl ?_
  refine x_iload_n C dX8_send_1 rfl rfl 1 rfl ?_
  refine x_if_eq C 18 dX8_send_2 rfl (by decide) (fun c1 => ?_) (fun c1 => ?_)
  · have hw := hw.1 c1
    refine x_lv [0, 1, 2] rfl ?_
    exact t_X8_send_18 C a1 a2 u hw
  · have hw := hw.2 c1
    refine x_iload_n C dX8_send_5 rfl rfl 1 rfl ?_
    refine x_iconst C (v := (-1 : Int32)) dX8_send_6 rfl (by decide) ?_
    refine x_icmp_eq C 18 dX8_send_7 rfl (by decide) (fun c2 => ?_) (fun c2 => ?_)
    · have hw := hw.1 c2
      refine x_lv [0, 1, 2] rfl ?_
      exact t_X8_send_18 C a1 a2 u hw
    · have hw := hw.2 c2
      refine x_iload_n C dX8_send_10 rfl rfl 1 rfl ?_
      refine x_aload_n C dX8_send_11 rfl rfl 0 rfl ?_
      refine gM0_own C i_626 dX8_send_12 rfl ?_
      refine x_icmp_ne C 22 dX8_send_15 rfl (by decide) (fun c3 => ?_) (fun c3 => ?_)
      · have hw := hw.1 c3
        refine x_aload_n C dX8_send_22 rfl rfl 0 rfl ?_
        refine gM0_phase C i_627 dX8_send_23 rfl ?_
        refine x_iconst C (v := (2 : Int32)) dX8_send_26 rfl (by decide) ?_
        refine x_icmp_ge C 34 dX8_send_27 rfl (by decide) (fun c4 => ?_) (fun c4 => ?_)
        · have hw := hw.1 c4
          refine x_iconst C (v := (0 : Int32)) dX8_send_34 rfl (by decide) ?_
          refine x_lv [0, 1, 2] rfl ?_
          exact t_X8_send_35 C a1 a2 (0 : Int32) u hw
        · have hw := hw.2 c4
          refine x_iconst C (v := (2 : Int32)) dX8_send_30 rfl (by decide) ?_
          refine x_goto C (tgt := 35) dX8_send_31 rfl (by decide) ?_
          refine x_lv [0, 1, 2] rfl ?_
          exact t_X8_send_35 C a1 a2 (2 : Int32) u hw
      · have hw := hw.2 c3
        refine x_lv [0, 1, 2] rfl ?_
        exact t_X8_send_18 C a1 a2 u hw
set_option maxRecDepth 20000 in
theorem k_X8_send (C : xCx p s m args meth c G K A nL cc own ret) {a1 : Int32} {a2 : Int32} {u : MS} {idx : Nat} {rest : List Value} {Post : Int32 → MS → Prop} (hlink : Cond.methodLink own idx yX8_send ∈ gw_tbl) (hR : 4 + 1 ≤ R.frames ∧ 8 + (6 + 11) + 88 ≤ R.locals) (hf : cells ≤ R.cells ∧ slots ≤ R.slots) (hW : (rest.map fun v => v.category).sum ≤ 8) (hw : wp_X8_send a1 a2 u Post) (hdg : decode cc n = .ok (.invokevirtual idx, 3)) (hp : pc = n) (kk : ∀ (r : Int32) (u' : MS), Post r u' → xV p l e R s m args below meth c G A nL Q cells slots (mw L K u' T) (n + 3) lv (.int r :: rest)) : xV p l e R s m args below meth c G A nL Q cells slots (mw L K u T) pc lv (.int a2 :: .int a1 :: .ref (L 0) :: rest) :=
  x_callV C (As := [.int a1, .int a2]) (c_X8_send hw) ⟨hlink, i_808, i_809, i_9, i_810⟩ 0 rfl rfl rfl (k := 2) (by decide +kernel) rfl hR hf hW rfl hdg hp (fun v ws' ⟨r, u', hv, hws, hPo⟩ _ => by subst hv; subst hws; exact kk r u' hPo)
def jn_X8_ownTick_63 (Post : MS → Prop) (u : MS) : Prop :=
  wp_X8_request (281474976710655 : Int64) (M_own u) u (fun u2 => (∀ (u3 : MS), u3 = Ms_phase u2 ((M_phase u2) + (1 : Int32)) → Post u3))
set_option maxHeartbeats 4000000 in
set_option maxRecDepth 20000 in
theorem t_X8_ownTick_63 (C : xCx p s m args meth c G K A 2 cX8_ownTick RX8 none) {u0 : MS} {Post : MS → Prop} (u : MS) (hw : jn_X8_ownTick_63  Post  u) : xV p l e (xRm 3 79 0 0) s m args below meth c G A 2 (xQ G A (mw L K u0 T) (fun v ws' => ∃ u' : MS, v = none ∧ ws' = (mw L K u' T) ∧ Post u') below args s 0 0) 0 0 (mw L K u T) 63 [(0, .ref (L 0))] [] := by
  unfold jn_X8_ownTick_63 at hw
  refine x_aload_n C dX8_ownTick_63 rfl rfl 0 rfl ?_
  refine x_ldc2 C dX8_ownTick_64 rfl i_738 ?_
  refine x_aload_n C dX8_ownTick_67 rfl rfl 0 rfl ?_
  refine gM0_own C i_626 dX8_ownTick_68 rfl ?_
  refine k_X8_request C i_747 ⟨Nat.le_of_ble_eq_true rfl, Nat.le_of_ble_eq_true rfl⟩ ⟨Nat.zero_le _, Nat.zero_le _⟩ (Nat.le_of_ble_eq_true rfl) hw dX8_ownTick_71 rfl (fun u2 hw => ?_)
  refine x_aload_n C dX8_ownTick_74 rfl rfl 0 rfl ?_
  refine x_dup C dX8_ownTick_75 rfl rfl ?_
  refine gM0_phase C i_627 dX8_ownTick_76 rfl ?_
  refine x_iconst C (v := (1 : Int32)) dX8_ownTick_79 rfl (by decide) ?_
  refine x_iadd C dX8_ownTick_80 rfl ?_
  refine pM0_phase C i_627 dX8_ownTick_81 rfl (fun u3 e4 => ?_)
  have hw := hw u3 e4
  exact x_vret C dX8_ownTick_84 rfl (mw_same _ _) ⟨_, rfl, rfl, hw⟩
def jn_X8_ownTick_49 (Post : MS → Prop) (x1 : Int32) (u : MS) : Prop :=
  ((¬ ((M_phase u) = (2 : Int32)) → Post u) ∧ ((M_phase u) = (2 : Int32) → ((¬ (x1 = (8 : Int32)) → Post u) ∧ (x1 = (8 : Int32) → jn_X8_ownTick_63 Post u))))
set_option maxHeartbeats 4000000 in
set_option maxRecDepth 20000 in
theorem t_X8_ownTick_49 (C : xCx p s m args meth c G K A 2 cX8_ownTick RX8 none) {u0 : MS} {Post : MS → Prop} (x1 : Int32) (u : MS) (hw : jn_X8_ownTick_49  Post x1 u) : xV p l e (xRm 3 79 0 0) s m args below meth c G A 2 (xQ G A (mw L K u0 T) (fun v ws' => ∃ u' : MS, v = none ∧ ws' = (mw L K u' T) ∧ Post u') below args s 0 0) 0 0 (mw L K u T) 49 [(0, .ref (L 0)), (1, .int x1)] [] := by
  unfold jn_X8_ownTick_49 at hw
  refine x_aload_n C dX8_ownTick_49 rfl rfl 0 rfl ?_
  refine gM0_phase C i_627 dX8_ownTick_50 rfl ?_
  refine x_iconst C (v := (2 : Int32)) dX8_ownTick_53 rfl (by decide) ?_
  refine x_icmp_ne C 84 dX8_ownTick_54 rfl (by decide) (fun c1 => ?_) (fun c1 => ?_)
  · have hw := hw.1 c1
    exact x_vret C dX8_ownTick_84 rfl (mw_same _ _) ⟨_, rfl, rfl, hw⟩
  · have hw := hw.2 c1
    refine x_iload_n C dX8_ownTick_57 rfl rfl 1 rfl ?_
    refine x_bipush C (v := (8 : Int32)) dX8_ownTick_58 rfl (by decide) ?_
    refine x_icmp_ne C 84 dX8_ownTick_60 rfl (by decide) (fun c2 => ?_) (fun c2 => ?_)
    · have hw := hw.1 c2
      exact x_vret C dX8_ownTick_84 rfl (mw_same _ _) ⟨_, rfl, rfl, hw⟩
    · have hw := hw.2 c2
      refine x_lv [0] rfl ?_
      exact t_X8_ownTick_63 C  u hw
def jn_X8_ownTick_35 (Post : MS → Prop) (x1 : Int32) (u : MS) : Prop :=
  ((¬ ((M_phase u) = (1 : Int32)) → jn_X8_ownTick_49 Post x1 u) ∧ ((M_phase u) = (1 : Int32) → ((x1 = (6 : Int32) → jn_X8_ownTick_63 Post u) ∧ (¬ (x1 = (6 : Int32)) → jn_X8_ownTick_49 Post x1 u))))
set_option maxHeartbeats 4000000 in
set_option maxRecDepth 20000 in
theorem t_X8_ownTick_35 (C : xCx p s m args meth c G K A 2 cX8_ownTick RX8 none) {u0 : MS} {Post : MS → Prop} (x1 : Int32) (u : MS) (hw : jn_X8_ownTick_35  Post x1 u) : xV p l e (xRm 3 79 0 0) s m args below meth c G A 2 (xQ G A (mw L K u0 T) (fun v ws' => ∃ u' : MS, v = none ∧ ws' = (mw L K u' T) ∧ Post u') below args s 0 0) 0 0 (mw L K u T) 35 [(0, .ref (L 0)), (1, .int x1)] [] := by
  unfold jn_X8_ownTick_35 at hw
  refine x_aload_n C dX8_ownTick_35 rfl rfl 0 rfl ?_
  refine gM0_phase C i_627 dX8_ownTick_36 rfl ?_
  refine x_iconst C (v := (1 : Int32)) dX8_ownTick_39 rfl (by decide) ?_
  refine x_icmp_ne C 49 dX8_ownTick_40 rfl (by decide) (fun c1 => ?_) (fun c1 => ?_)
  · have hw := hw.1 c1
    refine x_lv [0, 1] rfl ?_
    exact t_X8_ownTick_49 C x1 u hw
  · have hw := hw.2 c1
    refine x_iload_n C dX8_ownTick_43 rfl rfl 1 rfl ?_
    refine x_bipush C (v := (6 : Int32)) dX8_ownTick_44 rfl (by decide) ?_
    refine x_icmp_eq C 63 dX8_ownTick_46 rfl (by decide) (fun c2 => ?_) (fun c2 => ?_)
    · have hw := hw.1 c2
      refine x_lv [0] rfl ?_
      exact t_X8_ownTick_63 C  u hw
    · have hw := hw.2 c2
      refine x_lv [0, 1] rfl ?_
      exact t_X8_ownTick_49 C x1 u hw
def wp_X8_ownTick (u : MS) (Post : MS → Prop) : Prop :=
  ((¬ ((M_phase u) = (1 : Int32)) → jn_X8_ownTick_35 Post ((M_time u) - (M_claimed u)) u) ∧ ((M_phase u) = (1 : Int32) → ((((M_time u) - (M_claimed u)) = (2 : Int32) → wp_X8_probe u (fun u4 => Post u4)) ∧ (¬ (((M_time u) - (M_claimed u)) = (2 : Int32)) → ((¬ (((M_time u) - (M_claimed u)) = (4 : Int32)) → jn_X8_ownTick_35 Post ((M_time u) - (M_claimed u)) u) ∧ (((M_time u) - (M_claimed u)) = (4 : Int32) → wp_X8_probe u (fun u7 => Post u7)))))))
set_option maxHeartbeats 4000000 in
set_option maxRecDepth 20000 in
theorem c_X8_ownTick {u : MS} {Post : MS → Prop} (hw : wp_X8_ownTick  u Post) : xMet l yX8_ownTick cX8_ownTick 2 none 3 79 0 0 G K [.ref (L 0)] (mw L K u T) (fun v ws' => ∃ u' : MS, v = none ∧ ws' = (mw L K u' T) ∧ Post u') := by
  refine xMet.intro (lv := [(0, .ref (L 0))]) (by decide) rfl (Nat.le_of_ble_eq_true rfl) rfl (fun p e s m args below meth c A C => ?_)
  unfold wp_X8_ownTick at hw
  refine x_aload_n C dX8_ownTick_0 rfl rfl 0 rfl ?_
  refine gM0_time C i_625 dX8_ownTick_1 rfl ?_
  refine x_aload_n C dX8_ownTick_4 rfl rfl 0 rfl ?_
  refine gM0_claimed C i_628 dX8_ownTick_5 rfl ?_
  refine x_isub C dX8_ownTick_8 rfl ?_
  refine x_istore_n C (lv' := [(1, .int ((M_time u) - (M_claimed u))), (0, .ref (L 0))]) dX8_ownTick_9 rfl rfl (by decide) rfl ?_
  refine x_aload_n C dX8_ownTick_10 rfl rfl 1 rfl ?_
  refine gM0_phase C i_627 dX8_ownTick_11 rfl ?_
  refine x_iconst C (v := (1 : Int32)) dX8_ownTick_14 rfl (by decide) ?_
  refine x_icmp_ne C 35 dX8_ownTick_15 rfl (by decide) (fun c1 => ?_) (fun c1 => ?_)
  · have hw := hw.1 c1
    refine x_lv [1, 0] rfl ?_
    exact t_X8_ownTick_35 C ((M_time u) - (M_claimed u)) u hw
  · have hw := hw.2 c1
    refine x_iload_n C dX8_ownTick_18 rfl rfl 0 rfl ?_
    refine x_iconst C (v := (2 : Int32)) dX8_ownTick_19 rfl (by decide) ?_
    refine x_icmp_eq C 28 dX8_ownTick_20 rfl (by decide) (fun c2 => ?_) (fun c2 => ?_)
    · have hw := hw.1 c2
      refine x_aload_n C dX8_ownTick_28 rfl rfl 1 rfl ?_
      refine k_X8_probe C i_799 ⟨Nat.le_of_ble_eq_true rfl, Nat.le_of_ble_eq_true rfl⟩ ⟨Nat.zero_le _, Nat.zero_le _⟩ (Nat.le_of_ble_eq_true rfl) hw dX8_ownTick_29 rfl (fun u4 hw => ?_)
      refine x_goto C (tgt := 84) dX8_ownTick_32 rfl (by decide) ?_
      exact x_vret C dX8_ownTick_84 rfl (mw_same _ _) ⟨_, rfl, rfl, hw⟩
    · have hw := hw.2 c2
      refine x_iload_n C dX8_ownTick_23 rfl rfl 0 rfl ?_
      refine x_iconst C (v := (4 : Int32)) dX8_ownTick_24 rfl (by decide) ?_
      refine x_icmp_ne C 35 dX8_ownTick_25 rfl (by decide) (fun c5 => ?_) (fun c5 => ?_)
      · have hw := hw.1 c5
        refine x_lv [1, 0] rfl ?_
        exact t_X8_ownTick_35 C ((M_time u) - (M_claimed u)) u hw
      · have hw := hw.2 c5
        refine x_aload_n C dX8_ownTick_28 rfl rfl 1 rfl ?_
        refine k_X8_probe C i_799 ⟨Nat.le_of_ble_eq_true rfl, Nat.le_of_ble_eq_true rfl⟩ ⟨Nat.zero_le _, Nat.zero_le _⟩ (Nat.le_of_ble_eq_true rfl) hw dX8_ownTick_29 rfl (fun u7 hw => ?_)
        refine x_goto C (tgt := 84) dX8_ownTick_32 rfl (by decide) ?_
        exact x_vret C dX8_ownTick_84 rfl (mw_same _ _) ⟨_, rfl, rfl, hw⟩
set_option maxRecDepth 20000 in
theorem k_X8_ownTick (C : xCx p s m args meth c G K A nL cc own ret) {u : MS} {idx : Nat} {rest : List Value} {Post : MS → Prop} (hlink : Cond.methodLink own idx yX8_ownTick ∈ gw_tbl) (hR : 3 + 1 ≤ R.frames ∧ 8 + (2 + 11) + 79 ≤ R.locals) (hf : cells ≤ R.cells ∧ slots ≤ R.slots) (hW : (rest.map fun v => v.category).sum ≤ 8) (hw : wp_X8_ownTick  u Post) (hdg : decode cc n = .ok (.invokevirtual idx, 3)) (hp : pc = n) (kk : ∀ u' : MS, Post u' → xV p l e R s m args below meth c G A nL Q cells slots (mw L K u' T) (n + 3) lv rest) : xV p l e R s m args below meth c G A nL Q cells slots (mw L K u T) pc lv (.ref (L 0) :: rest) :=
  x_callV C (As := []) (c_X8_ownTick hw) ⟨hlink, i_821, i_s39, i_9, i_822⟩ 0 rfl rfl rfl (k := 0) (by decide +kernel) rfl hR hf hW rfl hdg hp (fun v ws' ⟨u', hv, hws, hPo⟩ _ => by subst hv; subst hws; exact kk u' hPo)
def jn_X8_entryTick_77 (Post : Int32 → MS → Prop) (x1 : Int32) (x2 : Int32) (u : MS) : Prop :=
  vp_in x1 33 ∧ (wp_X8_request (M_hardware u (Int32.toNatClampNeg x1)) (M_addresses u (Int32.toNatClampNeg x1)) u (fun u3 => (((3 : Int32) ≤ x2 → Post (0 : Int32) u3) ∧ (¬ ((3 : Int32) ≤ x2) → Post (1 : Int32) u3))))
set_option maxHeartbeats 4000000 in
set_option maxRecDepth 20000 in
theorem t_X8_entryTick_77 (C : xCx p s m args meth c G K A 3 cX8_entryTick RX8 (some .boolean)) {u0 : MS} {Post : Int32 → MS → Prop} (x1 : Int32) (x2 : Int32) (u : MS) (hw : jn_X8_entryTick_77  Post x1 x2 u) : xV p l e (xRm 3 79 0 0) s m args below meth c G A 3 (xQ G A (mw L K u0 T) (fun v ws' => ∃ (r : Int32) (u' : MS), v = some (.int r) ∧ ws' = (mw L K u' T) ∧ Post r u') below args s 0 0) 0 0 (mw L K u T) 77 [(0, .ref (L 0)), (1, .int x1), (2, .int x2)] [] := by
  unfold jn_X8_entryTick_77 at hw
  refine x_aload_n C dX8_entryTick_77 rfl rfl 0 rfl ?_
  refine x_aload_n C dX8_entryTick_78 rfl rfl 0 rfl ?_
  refine gM0_hardware C i_635 dX8_entryTick_79 rfl ?_
  refine x_iload_n C dX8_entryTick_82 rfl rfl 1 rfl ?_
  obtain ⟨h1, hw⟩ := hw
  refine gM4_at C h1 dX8_entryTick_83 rfl ?_
  refine x_aload_n C dX8_entryTick_84 rfl rfl 0 rfl ?_
  refine gM0_addresses C i_633 dX8_entryTick_85 rfl ?_
  refine x_iload_n C dX8_entryTick_88 rfl rfl 1 rfl ?_
  refine gM2_at C h1 dX8_entryTick_89 rfl ?_
  refine k_X8_request C i_747 ⟨Nat.le_of_ble_eq_true rfl, Nat.le_of_ble_eq_true rfl⟩ ⟨Nat.zero_le _, Nat.zero_le _⟩ (Nat.le_of_ble_eq_true rfl) hw dX8_entryTick_90 rfl (fun u3 hw => ?_)
  refine x_iload_n C dX8_entryTick_93 rfl rfl 2 rfl ?_
  refine x_iconst C (v := (3 : Int32)) dX8_entryTick_94 rfl (by decide) ?_
  refine x_icmp_ge C 102 dX8_entryTick_95 rfl (by decide) (fun c4 => ?_) (fun c4 => ?_)
  · have hw := hw.1 c4
    refine x_iconst C (v := (0 : Int32)) dX8_entryTick_102 rfl (by decide) ?_
    exact x_zret C dX8_entryTick_103 rfl rfl (mw_same _ _) ⟨_, _, rfl, rfl, hw⟩
  · have hw := hw.2 c4
    refine x_iconst C (v := (1 : Int32)) dX8_entryTick_98 rfl (by decide) ?_
    refine x_goto C (tgt := 103) dX8_entryTick_99 rfl (by decide) ?_
    exact x_zret C dX8_entryTick_103 rfl rfl (mw_same _ _) ⟨_, _, rfl, rfl, hw⟩
def jn_X8_entryTick_32 (Post : Int32 → MS → Prop) (x1 : Int32) (x2 : Int32) (u : MS) : Prop :=
  vp_in x1 33 ∧ (wp_X8_request (281474976710655 : Int64) (M_addresses u (Int32.toNatClampNeg x1)) u (fun u3 => (((6 : Int32) ≤ x2 → Post (0 : Int32) u3) ∧ (¬ ((6 : Int32) ≤ x2) → Post (1 : Int32) u3))))
set_option maxHeartbeats 4000000 in
set_option maxRecDepth 20000 in
theorem t_X8_entryTick_32 (C : xCx p s m args meth c G K A 3 cX8_entryTick RX8 (some .boolean)) {u0 : MS} {Post : Int32 → MS → Prop} (x1 : Int32) (x2 : Int32) (u : MS) (hw : jn_X8_entryTick_32  Post x1 x2 u) : xV p l e (xRm 3 79 0 0) s m args below meth c G A 3 (xQ G A (mw L K u0 T) (fun v ws' => ∃ (r : Int32) (u' : MS), v = some (.int r) ∧ ws' = (mw L K u' T) ∧ Post r u') below args s 0 0) 0 0 (mw L K u T) 32 [(0, .ref (L 0)), (1, .int x1), (2, .int x2)] [] := by
  unfold jn_X8_entryTick_32 at hw
  refine x_aload_n C dX8_entryTick_32 rfl rfl 0 rfl ?_
  refine x_ldc2 C dX8_entryTick_33 rfl i_738 ?_
  refine x_aload_n C dX8_entryTick_36 rfl rfl 0 rfl ?_
  refine gM0_addresses C i_633 dX8_entryTick_37 rfl ?_
  refine x_iload_n C dX8_entryTick_40 rfl rfl 1 rfl ?_
  obtain ⟨h1, hw⟩ := hw
  refine gM2_at C h1 dX8_entryTick_41 rfl ?_
  refine k_X8_request C i_747 ⟨Nat.le_of_ble_eq_true rfl, Nat.le_of_ble_eq_true rfl⟩ ⟨Nat.zero_le _, Nat.zero_le _⟩ (Nat.le_of_ble_eq_true rfl) hw dX8_entryTick_42 rfl (fun u3 hw => ?_)
  refine x_iload_n C dX8_entryTick_45 rfl rfl 2 rfl ?_
  refine x_bipush C (v := (6 : Int32)) dX8_entryTick_46 rfl (by decide) ?_
  refine x_icmp_ge C 55 dX8_entryTick_48 rfl (by decide) (fun c4 => ?_) (fun c4 => ?_)
  · have hw := hw.1 c4
    refine x_iconst C (v := (0 : Int32)) dX8_entryTick_55 rfl (by decide) ?_
    exact x_zret C dX8_entryTick_56 rfl rfl (mw_same _ _) ⟨_, _, rfl, rfl, hw⟩
  · have hw := hw.2 c4
    refine x_iconst C (v := (1 : Int32)) dX8_entryTick_51 rfl (by decide) ?_
    refine x_goto C (tgt := 56) dX8_entryTick_52 rfl (by decide) ?_
    exact x_zret C dX8_entryTick_56 rfl rfl (mw_same _ _) ⟨_, _, rfl, rfl, hw⟩
def wp_X8_entryTick (a1 : Int32) (u : MS) (Post : Int32 → MS → Prop) : Prop :=
  vp_in a1 33 ∧ (((¬ ((M_kinds u (Int32.toNatClampNeg a1)) = (1 : Int32)) → ((¬ ((M_kinds u (Int32.toNatClampNeg a1)) = (4 : Int32)) → ((¬ ((M_kinds u (Int32.toNatClampNeg a1)) = (3 : Int32)) → ((((M_time u) - (M_since u (Int32.toNatClampNeg a1))) < (M_reach u) → Post (1 : Int32) u) ∧ (¬ (((M_time u) - (M_since u (Int32.toNatClampNeg a1))) < (M_reach u)) → (∀ (u6 : MS), u6 = Ms_kinds u (upd (M_kinds u) (Int32.toNatClampNeg a1) (3 : Int32)) → (∀ (u8 : MS), u8 = Ms_since u6 (upd (M_since u6) (Int32.toNatClampNeg a1) (M_time u6)) → Post (1 : Int32) u8))))) ∧ ((M_kinds u (Int32.toNatClampNeg a1)) = (3 : Int32) → (((M_age u) ≤ ((M_time u) - (M_used u (Int32.toNatClampNeg a1))) → Post (0 : Int32) u) ∧ (¬ ((M_age u) ≤ ((M_time u) - (M_used u (Int32.toNatClampNeg a1)))) → Post (1 : Int32) u))))) ∧ ((M_kinds u (Int32.toNatClampNeg a1)) = (4 : Int32) → ((((M_time u) - (M_since u (Int32.toNatClampNeg a1))) = (1 : Int32) → jn_X8_entryTick_77 Post a1 ((M_time u) - (M_since u (Int32.toNatClampNeg a1))) u) ∧ (¬ (((M_time u) - (M_since u (Int32.toNatClampNeg a1))) = (1 : Int32)) → ((¬ (((M_time u) - (M_since u (Int32.toNatClampNeg a1))) = (2 : Int32)) → (((3 : Int32) ≤ ((M_time u) - (M_since u (Int32.toNatClampNeg a1))) → Post (0 : Int32) u) ∧ (¬ ((3 : Int32) ≤ ((M_time u) - (M_since u (Int32.toNatClampNeg a1)))) → Post (1 : Int32) u))) ∧ (((M_time u) - (M_since u (Int32.toNatClampNeg a1))) = (2 : Int32) → jn_X8_entryTick_77 Post a1 ((M_time u) - (M_since u (Int32.toNatClampNeg a1))) u))))))) ∧ ((M_kinds u (Int32.toNatClampNeg a1)) = (1 : Int32) → ((((M_time u) - (M_since u (Int32.toNatClampNeg a1))) = (2 : Int32) → jn_X8_entryTick_32 Post a1 ((M_time u) - (M_since u (Int32.toNatClampNeg a1))) u) ∧ (¬ (((M_time u) - (M_since u (Int32.toNatClampNeg a1))) = (2 : Int32)) → ((¬ (((M_time u) - (M_since u (Int32.toNatClampNeg a1))) = (4 : Int32)) → (((6 : Int32) ≤ ((M_time u) - (M_since u (Int32.toNatClampNeg a1))) → Post (0 : Int32) u) ∧ (¬ ((6 : Int32) ≤ ((M_time u) - (M_since u (Int32.toNatClampNeg a1)))) → Post (1 : Int32) u))) ∧ (((M_time u) - (M_since u (Int32.toNatClampNeg a1))) = (4 : Int32) → jn_X8_entryTick_32 Post a1 ((M_time u) - (M_since u (Int32.toNatClampNeg a1))) u)))))))
set_option maxHeartbeats 4000000 in
set_option maxRecDepth 20000 in
theorem c_X8_entryTick {a1 : Int32} {u : MS} {Post : Int32 → MS → Prop} (hw : wp_X8_entryTick a1 u Post) : xMet l yX8_entryTick cX8_entryTick 3 (some .boolean) 3 79 0 0 G K [.ref (L 0), .int a1] (mw L K u T) (fun v ws' => ∃ (r : Int32) (u' : MS), v = some (.int r) ∧ ws' = (mw L K u' T) ∧ Post r u') := by
  refine xMet.intro (lv := [(0, .ref (L 0)), (1, .int a1)]) (by decide) rfl (Nat.le_of_ble_eq_true rfl) rfl (fun p e s m args below meth c A C => ?_)
  unfold wp_X8_entryTick at hw
  refine x_aload_n C dX8_entryTick_0 rfl rfl 0 rfl ?_
  refine gM0_time C i_625 dX8_entryTick_1 rfl ?_
  refine x_aload_n C dX8_entryTick_4 rfl rfl 0 rfl ?_
  refine gM0_since C i_636 dX8_entryTick_5 rfl ?_
  refine x_iload_n C dX8_entryTick_8 rfl rfl 1 rfl ?_
  obtain ⟨h1, hw⟩ := hw
  refine gM5_at C h1 dX8_entryTick_9 rfl ?_
  refine x_isub C dX8_entryTick_10 rfl ?_
  refine x_istore_n C (lv' := [(2, .int ((M_time u) - (M_since u (Int32.toNatClampNeg a1)))), (0, .ref (L 0)), (1, .int a1)]) dX8_entryTick_11 rfl rfl (by decide) rfl ?_
  refine x_aload_n C dX8_entryTick_12 rfl rfl 1 rfl ?_
  refine gM0_kinds C i_634 dX8_entryTick_13 rfl ?_
  refine x_iload_n C dX8_entryTick_16 rfl rfl 2 rfl ?_
  refine gM3_at C h1 dX8_entryTick_17 rfl ?_
  refine x_iconst C (v := (1 : Int32)) dX8_entryTick_18 rfl (by decide) ?_
  refine x_icmp_ne C 57 dX8_entryTick_19 rfl (by decide) (fun c2 => ?_) (fun c2 => ?_)
  · have hw := hw.1 c2
    refine x_aload_n C dX8_entryTick_57 rfl rfl 1 rfl ?_
    refine gM0_kinds C i_634 dX8_entryTick_58 rfl ?_
    refine x_iload_n C dX8_entryTick_61 rfl rfl 2 rfl ?_
    refine gM3_at C h1 dX8_entryTick_62 rfl ?_
    refine x_iconst C (v := (4 : Int32)) dX8_entryTick_63 rfl (by decide) ?_
    refine x_icmp_ne C 104 dX8_entryTick_64 rfl (by decide) (fun c3 => ?_) (fun c3 => ?_)
    · have hw := hw.1 c3
      refine x_aload_n C dX8_entryTick_104 rfl rfl 1 rfl ?_
      refine gM0_kinds C i_634 dX8_entryTick_105 rfl ?_
      refine x_iload_n C dX8_entryTick_108 rfl rfl 2 rfl ?_
      refine gM3_at C h1 dX8_entryTick_109 rfl ?_
      refine x_iconst C (v := (3 : Int32)) dX8_entryTick_110 rfl (by decide) ?_
      refine x_icmp_ne C 138 dX8_entryTick_111 rfl (by decide) (fun c4 => ?_) (fun c4 => ?_)
      · have hw := hw.1 c4
        refine x_iload_n C dX8_entryTick_138 rfl rfl 0 rfl ?_
        refine x_aload_n C dX8_entryTick_139 rfl rfl 1 rfl ?_
        refine gM0_reach C i_622 dX8_entryTick_140 rfl ?_
        refine x_icmp_lt C 163 dX8_entryTick_143 rfl (by decide) (fun c5 => ?_) (fun c5 => ?_)
        · have hw := hw.1 c5
          refine x_iconst C (v := (1 : Int32)) dX8_entryTick_163 rfl (by decide) ?_
          exact x_zret C dX8_entryTick_164 rfl rfl (mw_same _ _) ⟨_, _, rfl, rfl, hw⟩
        · have hw := hw.2 c5
          refine x_aload_n C dX8_entryTick_146 rfl rfl 1 rfl ?_
          refine gM0_kinds C i_634 dX8_entryTick_147 rfl ?_
          refine x_iload_n C dX8_entryTick_150 rfl rfl 2 rfl ?_
          refine x_iconst C (v := (3 : Int32)) dX8_entryTick_151 rfl (by decide) ?_
          refine pM3_at C h1 dX8_entryTick_152 rfl (fun u6 e7 => ?_)
          have hw := hw u6 e7
          refine x_aload_n C dX8_entryTick_153 rfl rfl 1 rfl ?_
          refine gM0_since C i_636 dX8_entryTick_154 rfl ?_
          refine x_iload_n C dX8_entryTick_157 rfl rfl 2 rfl ?_
          refine x_aload_n C dX8_entryTick_158 rfl rfl 1 rfl ?_
          refine gM0_time C i_625 dX8_entryTick_159 rfl ?_
          refine pM5_at C h1 dX8_entryTick_162 rfl (fun u8 e9 => ?_)
          have hw := hw u8 e9
          refine x_iconst C (v := (1 : Int32)) dX8_entryTick_163 rfl (by decide) ?_
          exact x_zret C dX8_entryTick_164 rfl rfl (mw_same _ _) ⟨_, _, rfl, rfl, hw⟩
      · have hw := hw.2 c4
        refine x_aload_n C dX8_entryTick_114 rfl rfl 1 rfl ?_
        refine gM0_time C i_625 dX8_entryTick_115 rfl ?_
        refine x_aload_n C dX8_entryTick_118 rfl rfl 1 rfl ?_
        refine gM0_used C i_637 dX8_entryTick_119 rfl ?_
        refine x_iload_n C dX8_entryTick_122 rfl rfl 2 rfl ?_
        refine gM6_at C h1 dX8_entryTick_123 rfl ?_
        refine x_isub C dX8_entryTick_124 rfl ?_
        refine x_aload_n C dX8_entryTick_125 rfl rfl 1 rfl ?_
        refine gM0_age C i_623 dX8_entryTick_126 rfl ?_
        refine x_icmp_ge C 136 dX8_entryTick_129 rfl (by decide) (fun c10 => ?_) (fun c10 => ?_)
        · have hw := hw.1 c10
          refine x_iconst C (v := (0 : Int32)) dX8_entryTick_136 rfl (by decide) ?_
          exact x_zret C dX8_entryTick_137 rfl rfl (mw_same _ _) ⟨_, _, rfl, rfl, hw⟩
        · have hw := hw.2 c10
          refine x_iconst C (v := (1 : Int32)) dX8_entryTick_132 rfl (by decide) ?_
          refine x_goto C (tgt := 137) dX8_entryTick_133 rfl (by decide) ?_
          exact x_zret C dX8_entryTick_137 rfl rfl (mw_same _ _) ⟨_, _, rfl, rfl, hw⟩
    · have hw := hw.2 c3
      refine x_iload_n C dX8_entryTick_67 rfl rfl 0 rfl ?_
      refine x_iconst C (v := (1 : Int32)) dX8_entryTick_68 rfl (by decide) ?_
      refine x_icmp_eq C 77 dX8_entryTick_69 rfl (by decide) (fun c11 => ?_) (fun c11 => ?_)
      · have hw := hw.1 c11
        refine x_lv [1, 2, 0] rfl ?_
        exact t_X8_entryTick_77 C a1 ((M_time u) - (M_since u (Int32.toNatClampNeg a1))) u hw
      · have hw := hw.2 c11
        refine x_iload_n C dX8_entryTick_72 rfl rfl 0 rfl ?_
        refine x_iconst C (v := (2 : Int32)) dX8_entryTick_73 rfl (by decide) ?_
        refine x_icmp_ne C 93 dX8_entryTick_74 rfl (by decide) (fun c12 => ?_) (fun c12 => ?_)
        · have hw := hw.1 c12
          refine x_iload_n C dX8_entryTick_93 rfl rfl 0 rfl ?_
          refine x_iconst C (v := (3 : Int32)) dX8_entryTick_94 rfl (by decide) ?_
          refine x_icmp_ge C 102 dX8_entryTick_95 rfl (by decide) (fun c13 => ?_) (fun c13 => ?_)
          · have hw := hw.1 c13
            refine x_iconst C (v := (0 : Int32)) dX8_entryTick_102 rfl (by decide) ?_
            exact x_zret C dX8_entryTick_103 rfl rfl (mw_same _ _) ⟨_, _, rfl, rfl, hw⟩
          · have hw := hw.2 c13
            refine x_iconst C (v := (1 : Int32)) dX8_entryTick_98 rfl (by decide) ?_
            refine x_goto C (tgt := 103) dX8_entryTick_99 rfl (by decide) ?_
            exact x_zret C dX8_entryTick_103 rfl rfl (mw_same _ _) ⟨_, _, rfl, rfl, hw⟩
        · have hw := hw.2 c12
          refine x_lv [1, 2, 0] rfl ?_
          exact t_X8_entryTick_77 C a1 ((M_time u) - (M_since u (Int32.toNatClampNeg a1))) u hw
  · have hw := hw.2 c2
    refine x_iload_n C dX8_entryTick_22 rfl rfl 0 rfl ?_
    refine x_iconst C (v := (2 : Int32)) dX8_entryTick_23 rfl (by decide) ?_
    refine x_icmp_eq C 32 dX8_entryTick_24 rfl (by decide) (fun c14 => ?_) (fun c14 => ?_)
    · have hw := hw.1 c14
      refine x_lv [1, 2, 0] rfl ?_
      exact t_X8_entryTick_32 C a1 ((M_time u) - (M_since u (Int32.toNatClampNeg a1))) u hw
    · have hw := hw.2 c14
      refine x_iload_n C dX8_entryTick_27 rfl rfl 0 rfl ?_
      refine x_iconst C (v := (4 : Int32)) dX8_entryTick_28 rfl (by decide) ?_
      refine x_icmp_ne C 45 dX8_entryTick_29 rfl (by decide) (fun c15 => ?_) (fun c15 => ?_)
      · have hw := hw.1 c15
        refine x_iload_n C dX8_entryTick_45 rfl rfl 0 rfl ?_
        refine x_bipush C (v := (6 : Int32)) dX8_entryTick_46 rfl (by decide) ?_
        refine x_icmp_ge C 55 dX8_entryTick_48 rfl (by decide) (fun c16 => ?_) (fun c16 => ?_)
        · have hw := hw.1 c16
          refine x_iconst C (v := (0 : Int32)) dX8_entryTick_55 rfl (by decide) ?_
          exact x_zret C dX8_entryTick_56 rfl rfl (mw_same _ _) ⟨_, _, rfl, rfl, hw⟩
        · have hw := hw.2 c16
          refine x_iconst C (v := (1 : Int32)) dX8_entryTick_51 rfl (by decide) ?_
          refine x_goto C (tgt := 56) dX8_entryTick_52 rfl (by decide) ?_
          exact x_zret C dX8_entryTick_56 rfl rfl (mw_same _ _) ⟨_, _, rfl, rfl, hw⟩
      · have hw := hw.2 c15
        refine x_lv [1, 2, 0] rfl ?_
        exact t_X8_entryTick_32 C a1 ((M_time u) - (M_since u (Int32.toNatClampNeg a1))) u hw
set_option maxRecDepth 20000 in
theorem k_X8_entryTick (C : xCx p s m args meth c G K A nL cc own ret) {a1 : Int32} {u : MS} {idx : Nat} {rest : List Value} {Post : Int32 → MS → Prop} (hlink : Cond.methodLink own idx yX8_entryTick ∈ gw_tbl) (hR : 3 + 1 ≤ R.frames ∧ 8 + (3 + 11) + 79 ≤ R.locals) (hf : cells ≤ R.cells ∧ slots ≤ R.slots) (hW : (rest.map fun v => v.category).sum ≤ 8) (hw : wp_X8_entryTick a1 u Post) (hdg : decode cc n = .ok (.invokevirtual idx, 3)) (hp : pc = n) (kk : ∀ (r : Int32) (u' : MS), Post r u' → xV p l e R s m args below meth c G A nL Q cells slots (mw L K u' T) (n + 3) lv (.int r :: rest)) : xV p l e R s m args below meth c G A nL Q cells slots (mw L K u T) pc lv (.int a1 :: .ref (L 0) :: rest) :=
  x_callV C (As := [.int a1]) (c_X8_entryTick hw) ⟨hlink, i_825, i_s40, i_9, i_826⟩ 0 rfl rfl rfl (k := 1) (by decide +kernel) rfl hR hf hW rfl hdg hp (fun v ws' ⟨r, u', hv, hws, hPo⟩ _ => by subst hv; subst hws; exact kk r u' hPo)
def lb_X8_tick_49 (KH21 : Int32 → Int32 → MS → Prop) (Post : Int32 → MS → Prop) (Ks : Int32 → Int32 → Int32 → MS → Prop) (x1 : Int32) (x2 : Int32) (x3 : Int32) (u : MS) : Prop :=
  (((M_entries u) ≤ x3 → KH21 x1 (x2 + 1) u) ∧ (¬ ((M_entries u) ≤ x3) → wp_X8_entryTick x3 u (fun r2 u3 => ((r2 = 0 → wp_X8_goes x3 u3 (fun u6 => Ks x1 x2 x3 u6)) ∧ (¬ (r2 = 0) → Ks x1 x2 (x3 + 1) u3)))))
def lp_X8_tick_49 (KH21 : Int32 → Int32 → MS → Prop) (Post : Int32 → MS → Prop) : Nat → Int32 → Int32 → Int32 → MS → Prop
  | 0 => fun _ _ _ _ => False
  | f + 1 => fun x1 x2 x3 u => lb_X8_tick_49 KH21 Post (lp_X8_tick_49 KH21 Post f) x1 x2 x3 u
set_option maxHeartbeats 4000000 in
set_option maxRecDepth 20000 in
theorem t_X8_tick_49 (C : xCx p s m args meth c G K A 4 cX8_tick RX8 (some .int)) {u0 : MS} {Post : Int32 → MS → Prop} {KH21 : Int32 → Int32 → MS → Prop} (hH21 : ∀ (x1 : Int32) (x2 : Int32) (u : MS) , KH21 x1 x2 u → xV p l e (xRm 4 101 0 0) s m args below meth c G A 4 (xQ G A (mw L K u0 T) (fun v ws' => ∃ (r : Int32) (u' : MS), v = some (.int r) ∧ ws' = (mw L K u' T) ∧ Post r u') below args s 0 0) 0 0 (mw L K u T) 21 [(0, .ref (L 0)), (1, .int x1), (2, .int x2)] []) : ∀ (f : Nat) (x1 : Int32) (x2 : Int32) (x3 : Int32) (u : MS) , lp_X8_tick_49 KH21 Post f x1 x2 x3 u → xV p l e (xRm 4 101 0 0) s m args below meth c G A 4 (xQ G A (mw L K u0 T) (fun v ws' => ∃ (r : Int32) (u' : MS), v = some (.int r) ∧ ws' = (mw L K u' T) ∧ Post r u') below args s 0 0) 0 0 (mw L K u T) 49 [(0, .ref (L 0)), (1, .int x1), (2, .int x2), (3, .int x3)] [] := by
  intro f
  induction f with
  | zero => intro x1 x2 x3 u hw; exact hw.elim
  | succ f ih =>
    intro x1 x2 x3 u hw
    have hw : lb_X8_tick_49 KH21 Post (lp_X8_tick_49 KH21 Post f) x1 x2 x3 u := hw
    unfold lb_X8_tick_49 at hw
    refine x_iload_n C dX8_tick_49 rfl rfl 3 rfl ?_
    refine x_aload_n C dX8_tick_50 rfl rfl 0 rfl ?_
    refine gM0_entries C i_632 dX8_tick_51 rfl ?_
    refine x_icmp_ge C 79 dX8_tick_54 rfl (by decide) (fun c1 => ?_) (fun c1 => ?_)
    · have hw := hw.1 c1
      refine x_iinc C (k := 2) (v := x2 + 1) (lv' := [(2, .int (x2 + 1)), (0, .ref (L 0)), (1, .int x1), (3, .int x3)]) dX8_tick_79 rfl rfl rfl (by decide) rfl ?_
      refine x_goto C (tgt := 21) dX8_tick_82 rfl (by decide) ?_
      refine x_lv [1, 2, 0] rfl ?_
      exact hH21 x1 (x2 + 1) u hw
    · have hw := hw.2 c1
      refine x_aload_n C dX8_tick_57 rfl rfl 0 rfl ?_
      refine x_iload_n C dX8_tick_58 rfl rfl 3 rfl ?_
      refine k_X8_entryTick C i_823 ⟨Nat.le_of_ble_eq_true rfl, Nat.le_of_ble_eq_true rfl⟩ ⟨Nat.zero_le _, Nat.zero_le _⟩ (Nat.le_of_ble_eq_true rfl) hw dX8_tick_59 rfl (fun r2 u3 hw => ?_)
      refine x_if_eq C 71 dX8_tick_62 rfl (by decide) (fun c4 => ?_) (fun c4 => ?_)
      · have hw := hw.1 c4
        refine x_aload_n C dX8_tick_71 rfl rfl 0 rfl ?_
        refine x_iload_n C dX8_tick_72 rfl rfl 3 rfl ?_
        refine k_X8_goes C i_759 ⟨Nat.le_of_ble_eq_true rfl, Nat.le_of_ble_eq_true rfl⟩ ⟨Nat.zero_le _, Nat.zero_le _⟩ (Nat.le_of_ble_eq_true rfl) hw dX8_tick_73 rfl (fun u6 hw => ?_)
        refine x_goto C (tgt := 49) dX8_tick_76 rfl (by decide) ?_
        refine x_lv [0, 1, 2, 3] rfl ?_
        exact ih x1 x2 x3 u6 hw
      · have hw := hw.2 c4
        refine x_iinc C (k := 3) (v := x3 + 1) (lv' := [(3, .int (x3 + 1)), (0, .ref (L 0)), (1, .int x1), (2, .int x2)]) dX8_tick_65 rfl rfl rfl (by decide) rfl ?_
        refine x_goto C (tgt := 49) dX8_tick_68 rfl (by decide) ?_
        refine x_lv [1, 2, 3, 0] rfl ?_
        exact ih x1 x2 (x3 + 1) u3 hw
def lb_X8_tick_21 (Post : Int32 → MS → Prop) (Ks : Int32 → Int32 → MS → Prop) (x1 : Int32) (x2 : Int32) (u : MS) : Prop :=
  ((x1 ≤ x2 → (((M_thrown u) ≤ 0 → Post (M_time u) u) ∧ (¬ ((M_thrown u) ≤ 0) → Post (0 : Int32) u))) ∧ (¬ (x1 ≤ x2) → ((¬ ((M_thrown u) = 0) → (((M_thrown u) ≤ 0 → Post (M_time u) u) ∧ (¬ ((M_thrown u) ≤ 0) → Post (0 : Int32) u))) ∧ ((M_thrown u) = 0 → (∀ (u5 : MS), u5 = Ms_time u ((M_time u) + (1 : Int32)) → wp_X8_ownTick u5 (fun u8 => ∃ f9 : Nat, lp_X8_tick_49 Ks Post f9 x1 x2 (0 : Int32) u8))))))
def lp_X8_tick_21 (Post : Int32 → MS → Prop) : Nat → Int32 → Int32 → MS → Prop
  | 0 => fun _ _ _ => False
  | f + 1 => fun x1 x2 u => lb_X8_tick_21 Post (lp_X8_tick_21 Post f) x1 x2 u
set_option maxHeartbeats 4000000 in
set_option maxRecDepth 20000 in
theorem t_X8_tick_21 (C : xCx p s m args meth c G K A 4 cX8_tick RX8 (some .int)) {u0 : MS} {Post : Int32 → MS → Prop} : ∀ (f : Nat) (x1 : Int32) (x2 : Int32) (u : MS) , lp_X8_tick_21  Post f x1 x2 u → xV p l e (xRm 4 101 0 0) s m args below meth c G A 4 (xQ G A (mw L K u0 T) (fun v ws' => ∃ (r : Int32) (u' : MS), v = some (.int r) ∧ ws' = (mw L K u' T) ∧ Post r u') below args s 0 0) 0 0 (mw L K u T) 21 [(0, .ref (L 0)), (1, .int x1), (2, .int x2)] [] := by
  intro f
  induction f with
  | zero => intro x1 x2 u hw; exact hw.elim
  | succ f ih =>
    intro x1 x2 u hw
    have hw : lb_X8_tick_21  Post (lp_X8_tick_21  Post f) x1 x2 u := hw
    unfold lb_X8_tick_21 at hw
    refine x_iload_n C dX8_tick_21 rfl rfl 2 rfl ?_
    refine x_iload_n C dX8_tick_22 rfl rfl 1 rfl ?_
    refine x_icmp_ge C 85 dX8_tick_23 rfl (by decide) (fun c1 => ?_) (fun c1 => ?_)
    · have hw := hw.1 c1
      refine x_aload_n C dX8_tick_85 rfl rfl 0 rfl ?_
      refine gM0_thrown C i_620 dX8_tick_86 rfl ?_
      refine x_if_le C 96 dX8_tick_89 rfl (by decide) (fun c2 => ?_) (fun c2 => ?_)
      · have hw := hw.1 c2
        refine x_aload_n C dX8_tick_96 rfl rfl 0 rfl ?_
        refine gM0_time C i_625 dX8_tick_97 rfl ?_
        exact x_iret C dX8_tick_100 rfl (mw_same _ _) ⟨_, _, rfl, rfl, hw⟩
      · have hw := hw.2 c2
        refine x_iconst C (v := (0 : Int32)) dX8_tick_92 rfl (by decide) ?_
        refine x_goto C (tgt := 100) dX8_tick_93 rfl (by decide) ?_
        exact x_iret C dX8_tick_100 rfl (mw_same _ _) ⟨_, _, rfl, rfl, hw⟩
    · have hw := hw.2 c1
      refine x_aload_n C dX8_tick_26 rfl rfl 0 rfl ?_
      refine gM0_thrown C i_620 dX8_tick_27 rfl ?_
      refine x_if_ne C 85 dX8_tick_30 rfl (by decide) (fun c3 => ?_) (fun c3 => ?_)
      · have hw := hw.1 c3
        refine x_aload_n C dX8_tick_85 rfl rfl 0 rfl ?_
        refine gM0_thrown C i_620 dX8_tick_86 rfl ?_
        refine x_if_le C 96 dX8_tick_89 rfl (by decide) (fun c4 => ?_) (fun c4 => ?_)
        · have hw := hw.1 c4
          refine x_aload_n C dX8_tick_96 rfl rfl 0 rfl ?_
          refine gM0_time C i_625 dX8_tick_97 rfl ?_
          exact x_iret C dX8_tick_100 rfl (mw_same _ _) ⟨_, _, rfl, rfl, hw⟩
        · have hw := hw.2 c4
          refine x_iconst C (v := (0 : Int32)) dX8_tick_92 rfl (by decide) ?_
          refine x_goto C (tgt := 100) dX8_tick_93 rfl (by decide) ?_
          exact x_iret C dX8_tick_100 rfl (mw_same _ _) ⟨_, _, rfl, rfl, hw⟩
      · have hw := hw.2 c3
        refine x_aload_n C dX8_tick_33 rfl rfl 0 rfl ?_
        refine x_dup C dX8_tick_34 rfl rfl ?_
        refine gM0_time C i_625 dX8_tick_35 rfl ?_
        refine x_iconst C (v := (1 : Int32)) dX8_tick_38 rfl (by decide) ?_
        refine x_iadd C dX8_tick_39 rfl ?_
        refine pM0_time C i_625 dX8_tick_40 rfl (fun u5 e6 => ?_)
        have hw := hw u5 e6
        refine x_aload_n C dX8_tick_43 rfl rfl 0 rfl ?_
        refine k_X8_ownTick C i_819 ⟨Nat.le_of_ble_eq_true rfl, Nat.le_of_ble_eq_true rfl⟩ ⟨Nat.zero_le _, Nat.zero_le _⟩ (Nat.le_of_ble_eq_true rfl) hw dX8_tick_44 rfl (fun u8 hw => ?_)
        refine x_iconst C (v := (0 : Int32)) dX8_tick_47 rfl (by decide) ?_
        refine x_istore_n C (lv' := [(3, .int (0 : Int32)), (0, .ref (L 0)), (1, .int x1), (2, .int x2)]) dX8_tick_48 rfl rfl (by decide) rfl ?_
        refine x_lv [1, 2, 3, 0] rfl ?_
        obtain ⟨f9, hw⟩ := hw
        exact t_X8_tick_49 C ih f9 x1 x2 (0 : Int32) u8 hw
def wp_X8_tick (a1 : Int32) (u : MS) (Post : Int32 → MS → Prop) : Prop :=
  ((a1 < 0 → (∀ (u2 : MS), u2 = Ms_thrown u (1 : Int32) → ∃ f9 : Nat, lp_X8_tick_21 Post f9 a1 (0 : Int32) u2)) ∧ (¬ (a1 < 0) → ((a1 ≤ (40 : Int32) → (∀ (u5 : MS), u5 = Ms_thrown u (0 : Int32) → ∃ f9 : Nat, lp_X8_tick_21 Post f9 a1 (0 : Int32) u5)) ∧ (¬ (a1 ≤ (40 : Int32)) → (∀ (u7 : MS), u7 = Ms_thrown u (1 : Int32) → ∃ f9 : Nat, lp_X8_tick_21 Post f9 a1 (0 : Int32) u7)))))
set_option maxHeartbeats 4000000 in
set_option maxRecDepth 20000 in
theorem c_X8_tick {a1 : Int32} {u : MS} {Post : Int32 → MS → Prop} (hw : wp_X8_tick a1 u Post) : xMet l yX8_tick cX8_tick 4 (some .int) 4 101 0 0 G K [.ref (L 0), .int a1] (mw L K u T) (fun v ws' => ∃ (r : Int32) (u' : MS), v = some (.int r) ∧ ws' = (mw L K u' T) ∧ Post r u') := by
  refine xMet.intro (lv := [(0, .ref (L 0)), (1, .int a1)]) (by decide) rfl (Nat.le_of_ble_eq_true rfl) rfl (fun p e s m args below meth c A C => ?_)
  unfold wp_X8_tick at hw
  refine x_aload_n C dX8_tick_0 rfl rfl 0 rfl ?_
  refine x_iload_n C dX8_tick_1 rfl rfl 1 rfl ?_
  refine x_if_lt C 11 dX8_tick_2 rfl (by decide) (fun c1 => ?_) (fun c1 => ?_)
  · have hw := hw.1 c1
    refine x_iconst C (v := (1 : Int32)) dX8_tick_11 rfl (by decide) ?_
    refine x_goto C (tgt := 16) dX8_tick_12 rfl (by decide) ?_
    refine pM0_thrown C i_620 dX8_tick_16 rfl (fun u2 e3 => ?_)
    have hw := hw u2 e3
    refine x_iconst C (v := (0 : Int32)) dX8_tick_19 rfl (by decide) ?_
    refine x_istore_n C (lv' := [(2, .int (0 : Int32)), (0, .ref (L 0)), (1, .int a1)]) dX8_tick_20 rfl rfl (by decide) rfl ?_
    refine x_lv [1, 2, 0] rfl ?_
    obtain ⟨f9, hw⟩ := hw
    exact t_X8_tick_21 C f9 a1 (0 : Int32) u2 hw
  · have hw := hw.2 c1
    refine x_iload_n C dX8_tick_5 rfl rfl 1 rfl ?_
    refine x_bipush C (v := (40 : Int32)) dX8_tick_6 rfl (by decide) ?_
    refine x_icmp_le C 15 dX8_tick_8 rfl (by decide) (fun c4 => ?_) (fun c4 => ?_)
    · have hw := hw.1 c4
      refine x_iconst C (v := (0 : Int32)) dX8_tick_15 rfl (by decide) ?_
      refine pM0_thrown C i_620 dX8_tick_16 rfl (fun u5 e6 => ?_)
      have hw := hw u5 e6
      refine x_iconst C (v := (0 : Int32)) dX8_tick_19 rfl (by decide) ?_
      refine x_istore_n C (lv' := [(2, .int (0 : Int32)), (0, .ref (L 0)), (1, .int a1)]) dX8_tick_20 rfl rfl (by decide) rfl ?_
      refine x_lv [1, 2, 0] rfl ?_
      obtain ⟨f9, hw⟩ := hw
      exact t_X8_tick_21 C f9 a1 (0 : Int32) u5 hw
    · have hw := hw.2 c4
      refine x_iconst C (v := (1 : Int32)) dX8_tick_11 rfl (by decide) ?_
      refine x_goto C (tgt := 16) dX8_tick_12 rfl (by decide) ?_
      refine pM0_thrown C i_620 dX8_tick_16 rfl (fun u7 e8 => ?_)
      have hw := hw u7 e8
      refine x_iconst C (v := (0 : Int32)) dX8_tick_19 rfl (by decide) ?_
      refine x_istore_n C (lv' := [(2, .int (0 : Int32)), (0, .ref (L 0)), (1, .int a1)]) dX8_tick_20 rfl rfl (by decide) rfl ?_
      refine x_lv [1, 2, 0] rfl ?_
      obtain ⟨f9, hw⟩ := hw
      exact t_X8_tick_21 C f9 a1 (0 : Int32) u7 hw
set_option maxRecDepth 20000 in
theorem k_X8_tick (C : xCx p s m args meth c G K A nL cc own ret) {a1 : Int32} {u : MS} {idx : Nat} {rest : List Value} {Post : Int32 → MS → Prop} (hlink : Cond.methodLink own idx yX8_tick ∈ gw_tbl) (hR : 4 + 1 ≤ R.frames ∧ 8 + (4 + 11) + 101 ≤ R.locals) (hf : cells ≤ R.cells ∧ slots ≤ R.slots) (hW : (rest.map fun v => v.category).sum ≤ 8) (hw : wp_X8_tick a1 u Post) (hdg : decode cc n = .ok (.invokevirtual idx, 3)) (hp : pc = n) (kk : ∀ (r : Int32) (u' : MS), Post r u' → xV p l e R s m args below meth c G A nL Q cells slots (mw L K u' T) (n + 3) lv (.int r :: rest)) : xV p l e R s m args below meth c G A nL Q cells slots (mw L K u T) pc lv (.int a1 :: .ref (L 0) :: rest) :=
  x_callV C (As := [.int a1]) (c_X8_tick hw) ⟨hlink, i_816, i_817, i_9, i_818⟩ 0 rfl rfl rfl (k := 1) (by decide +kernel) rfl hR hf hW rfl hdg hp (fun v ws' ⟨r, u', hv, hws, hPo⟩ _ => by subst hv; subst hws; exact kk r u' hPo)
def lb_X8_count_77 (Post : Int32 → MS → Prop) (Ks : Int32 → Int32 → Int32 → MS → Prop) (x1 : Int32) (x2 : Int32) (x3 : Int32) (u : MS) : Prop :=
  (((M_entries u) ≤ x3 → ((¬ (x1 = (4 : Int32)) → ((¬ (x1 = (5 : Int32)) → ((¬ (x1 = (6 : Int32)) → Post (M_defended u) u) ∧ (x1 = (6 : Int32) → Post x2 u))) ∧ (x1 = (5 : Int32) → Post (M_lost u) u))) ∧ (x1 = (4 : Int32) → Post (M_frames u) u))) ∧ (¬ ((M_entries u) ≤ x3) → vp_in x3 33 ∧ (Ks x1 (x2 + (M_waiting u (Int32.toNatClampNeg x3))) (x3 + 1) u)))
def lp_X8_count_77 (Post : Int32 → MS → Prop) : Nat → Int32 → Int32 → Int32 → MS → Prop
  | 0 => fun _ _ _ _ => False
  | f + 1 => fun x1 x2 x3 u => lb_X8_count_77 Post (lp_X8_count_77 Post f) x1 x2 x3 u
set_option maxHeartbeats 4000000 in
set_option maxRecDepth 20000 in
theorem t_X8_count_77 (C : xCx p s m args meth c G K A 4 cX8_count RX8 (some .int)) {u0 : MS} {Post : Int32 → MS → Prop} : ∀ (f : Nat) (x1 : Int32) (x2 : Int32) (x3 : Int32) (u : MS) , lp_X8_count_77  Post f x1 x2 x3 u → xV p l e (xRm 0 0 0 0) s m args below meth c G A 4 (xQ G A (mw L K u0 T) (fun v ws' => ∃ (r : Int32) (u' : MS), v = some (.int r) ∧ ws' = (mw L K u' T) ∧ Post r u') below args s 0 0) 0 0 (mw L K u T) 77 [(0, .ref (L 0)), (1, .int x1), (2, .int x2), (3, .int x3)] [] := by
  intro f
  induction f with
  | zero => intro x1 x2 x3 u hw; exact hw.elim
  | succ f ih =>
    intro x1 x2 x3 u hw
    have hw : lb_X8_count_77  Post (lp_X8_count_77  Post f) x1 x2 x3 u := hw
    unfold lb_X8_count_77 at hw
    refine x_iload_n C dX8_count_77 rfl rfl 3 rfl ?_
    refine x_aload_n C dX8_count_78 rfl rfl 0 rfl ?_
    refine gM0_entries C i_632 dX8_count_79 rfl ?_
    refine x_icmp_ge C 100 dX8_count_82 rfl (by decide) (fun c1 => ?_) (fun c1 => ?_)
    · have hw := hw.1 c1
      refine x_iload_n C dX8_count_100 rfl rfl 1 rfl ?_
      refine x_iconst C (v := (4 : Int32)) dX8_count_101 rfl (by decide) ?_
      refine x_icmp_ne C 112 dX8_count_102 rfl (by decide) (fun c2 => ?_) (fun c2 => ?_)
      · have hw := hw.1 c2
        refine x_iload_n C dX8_count_112 rfl rfl 1 rfl ?_
        refine x_iconst C (v := (5 : Int32)) dX8_count_113 rfl (by decide) ?_
        refine x_icmp_ne C 124 dX8_count_114 rfl (by decide) (fun c3 => ?_) (fun c3 => ?_)
        · have hw := hw.1 c3
          refine x_iload_n C dX8_count_124 rfl rfl 1 rfl ?_
          refine x_bipush C (v := (6 : Int32)) dX8_count_125 rfl (by decide) ?_
          refine x_icmp_ne C 134 dX8_count_127 rfl (by decide) (fun c4 => ?_) (fun c4 => ?_)
          · have hw := hw.1 c4
            refine x_aload_n C dX8_count_134 rfl rfl 0 rfl ?_
            refine gM0_defended C i_629 dX8_count_135 rfl ?_
            exact x_iret C dX8_count_138 rfl (mw_same _ _) ⟨_, _, rfl, rfl, hw⟩
          · have hw := hw.2 c4
            refine x_iload_n C dX8_count_130 rfl rfl 2 rfl ?_
            refine x_goto C (tgt := 138) dX8_count_131 rfl (by decide) ?_
            exact x_iret C dX8_count_138 rfl (mw_same _ _) ⟨_, _, rfl, rfl, hw⟩
        · have hw := hw.2 c3
          refine x_aload_n C dX8_count_117 rfl rfl 0 rfl ?_
          refine gM0_lost C i_645 dX8_count_118 rfl ?_
          refine x_goto C (tgt := 138) dX8_count_121 rfl (by decide) ?_
          exact x_iret C dX8_count_138 rfl (mw_same _ _) ⟨_, _, rfl, rfl, hw⟩
      · have hw := hw.2 c2
        refine x_aload_n C dX8_count_105 rfl rfl 0 rfl ?_
        refine gM0_frames C i_640 dX8_count_106 rfl ?_
        refine x_goto C (tgt := 138) dX8_count_109 rfl (by decide) ?_
        exact x_iret C dX8_count_138 rfl (mw_same _ _) ⟨_, _, rfl, rfl, hw⟩
    · have hw := hw.2 c1
      refine x_iload_n C dX8_count_85 rfl rfl 2 rfl ?_
      refine x_aload_n C dX8_count_86 rfl rfl 0 rfl ?_
      refine gM0_waiting C i_638 dX8_count_87 rfl ?_
      refine x_iload_n C dX8_count_90 rfl rfl 3 rfl ?_
      obtain ⟨h5, hw⟩ := hw
      refine gM7_at C h5 dX8_count_91 rfl ?_
      refine x_iadd C dX8_count_92 rfl ?_
      refine x_istore_n C (lv' := [(2, .int (x2 + (M_waiting u (Int32.toNatClampNeg x3)))), (0, .ref (L 0)), (1, .int x1), (3, .int x3)]) dX8_count_93 rfl rfl (by decide) rfl ?_
      refine x_iinc C (k := 3) (v := x3 + 1) (lv' := [(3, .int (x3 + 1)), (2, .int (x2 + (M_waiting u (Int32.toNatClampNeg x3)))), (0, .ref (L 0)), (1, .int x1)]) dX8_count_94 rfl rfl rfl (by decide) rfl ?_
      refine x_goto C (tgt := 77) dX8_count_97 rfl (by decide) ?_
      refine x_lv [2, 3, 1, 0] rfl ?_
      exact ih x1 (x2 + (M_waiting u (Int32.toNatClampNeg x3))) (x3 + 1) u hw
def jn_X8_count_16 (Post : Int32 → MS → Prop) (x1 : Int32) (t0 : Int32) (u : MS) : Prop :=
  (∀ (u1 : MS), u1 = Ms_thrown u t0 → (((M_thrown u1) ≤ 0 → (((4 : Int32) ≤ x1 → ∃ f9 : Nat, lp_X8_count_77 Post f9 x1 (0 : Int32) (0 : Int32) u1) ∧ (¬ ((4 : Int32) ≤ x1) → ((¬ (x1 = 0) → ((¬ (x1 = (1 : Int32)) → ((¬ (x1 = (2 : Int32)) → Post (M_entries u1) u1) ∧ (x1 = (2 : Int32) → Post (M_time u1) u1))) ∧ (x1 = (1 : Int32) → Post (M_own u1) u1))) ∧ (x1 = 0 → Post (M_phase u1) u1))))) ∧ (¬ ((M_thrown u1) ≤ 0) → Post (0 : Int32) u1)))
set_option maxHeartbeats 4000000 in
set_option maxRecDepth 20000 in
theorem t_X8_count_16 (C : xCx p s m args meth c G K A 4 cX8_count RX8 (some .int)) {u0 : MS} {Post : Int32 → MS → Prop} (x1 : Int32) (t0 : Int32) (u : MS) (hw : jn_X8_count_16  Post x1 t0 u) : xV p l e (xRm 0 0 0 0) s m args below meth c G A 4 (xQ G A (mw L K u0 T) (fun v ws' => ∃ (r : Int32) (u' : MS), v = some (.int r) ∧ ws' = (mw L K u' T) ∧ Post r u') below args s 0 0) 0 0 (mw L K u T) 16 [(0, .ref (L 0)), (1, .int x1)] [.int t0, .ref (L 0)] := by
  unfold jn_X8_count_16 at hw
  refine pM0_thrown C i_620 dX8_count_16 rfl (fun u1 e2 => ?_)
  have hw := hw u1 e2
  refine x_aload_n C dX8_count_19 rfl rfl 0 rfl ?_
  refine gM0_thrown C i_620 dX8_count_20 rfl ?_
  refine x_if_le C 28 dX8_count_23 rfl (by decide) (fun c3 => ?_) (fun c3 => ?_)
  · have hw := hw.1 c3
    refine x_iload_n C dX8_count_28 rfl rfl 1 rfl ?_
    refine x_iconst C (v := (4 : Int32)) dX8_count_29 rfl (by decide) ?_
    refine x_icmp_ge C 73 dX8_count_30 rfl (by decide) (fun c4 => ?_) (fun c4 => ?_)
    · have hw := hw.1 c4
      refine x_iconst C (v := (0 : Int32)) dX8_count_73 rfl (by decide) ?_
      refine x_istore_n C (lv' := [(2, .int (0 : Int32)), (0, .ref (L 0)), (1, .int x1)]) dX8_count_74 rfl rfl (by decide) rfl ?_
      refine x_iconst C (v := (0 : Int32)) dX8_count_75 rfl (by decide) ?_
      refine x_istore_n C (lv' := [(3, .int (0 : Int32)), (2, .int (0 : Int32)), (0, .ref (L 0)), (1, .int x1)]) dX8_count_76 rfl rfl (by decide) rfl ?_
      refine x_lv [2, 3, 1, 0] rfl ?_
      obtain ⟨f9, hw⟩ := hw
      exact t_X8_count_77 C f9 x1 (0 : Int32) (0 : Int32) u1 hw
    · have hw := hw.2 c4
      refine x_iload_n C dX8_count_33 rfl rfl 1 rfl ?_
      refine x_if_ne C 44 dX8_count_34 rfl (by decide) (fun c5 => ?_) (fun c5 => ?_)
      · have hw := hw.1 c5
        refine x_iload_n C dX8_count_44 rfl rfl 1 rfl ?_
        refine x_iconst C (v := (1 : Int32)) dX8_count_45 rfl (by decide) ?_
        refine x_icmp_ne C 56 dX8_count_46 rfl (by decide) (fun c6 => ?_) (fun c6 => ?_)
        · have hw := hw.1 c6
          refine x_iload_n C dX8_count_56 rfl rfl 1 rfl ?_
          refine x_iconst C (v := (2 : Int32)) dX8_count_57 rfl (by decide) ?_
          refine x_icmp_ne C 68 dX8_count_58 rfl (by decide) (fun c7 => ?_) (fun c7 => ?_)
          · have hw := hw.1 c7
            refine x_aload_n C dX8_count_68 rfl rfl 0 rfl ?_
            refine gM0_entries C i_632 dX8_count_69 rfl ?_
            exact x_iret C dX8_count_72 rfl (mw_same _ _) ⟨_, _, rfl, rfl, hw⟩
          · have hw := hw.2 c7
            refine x_aload_n C dX8_count_61 rfl rfl 0 rfl ?_
            refine gM0_time C i_625 dX8_count_62 rfl ?_
            refine x_goto C (tgt := 72) dX8_count_65 rfl (by decide) ?_
            exact x_iret C dX8_count_72 rfl (mw_same _ _) ⟨_, _, rfl, rfl, hw⟩
        · have hw := hw.2 c6
          refine x_aload_n C dX8_count_49 rfl rfl 0 rfl ?_
          refine gM0_own C i_626 dX8_count_50 rfl ?_
          refine x_goto C (tgt := 72) dX8_count_53 rfl (by decide) ?_
          exact x_iret C dX8_count_72 rfl (mw_same _ _) ⟨_, _, rfl, rfl, hw⟩
      · have hw := hw.2 c5
        refine x_aload_n C dX8_count_37 rfl rfl 0 rfl ?_
        refine gM0_phase C i_627 dX8_count_38 rfl ?_
        refine x_goto C (tgt := 72) dX8_count_41 rfl (by decide) ?_
        exact x_iret C dX8_count_72 rfl (mw_same _ _) ⟨_, _, rfl, rfl, hw⟩
  · have hw := hw.2 c3
    refine x_iconst C (v := (0 : Int32)) dX8_count_26 rfl (by decide) ?_
    exact x_iret C dX8_count_27 rfl (mw_same _ _) ⟨_, _, rfl, rfl, hw⟩
def jn_X8_count_11 (Post : Int32 → MS → Prop) (x1 : Int32) (u : MS) : Prop :=
  jn_X8_count_16 Post x1 (1 : Int32) u
set_option maxHeartbeats 4000000 in
set_option maxRecDepth 20000 in
theorem t_X8_count_11 (C : xCx p s m args meth c G K A 4 cX8_count RX8 (some .int)) {u0 : MS} {Post : Int32 → MS → Prop} (x1 : Int32) (u : MS) (hw : jn_X8_count_11  Post x1 u) : xV p l e (xRm 0 0 0 0) s m args below meth c G A 4 (xQ G A (mw L K u0 T) (fun v ws' => ∃ (r : Int32) (u' : MS), v = some (.int r) ∧ ws' = (mw L K u' T) ∧ Post r u') below args s 0 0) 0 0 (mw L K u T) 11 [(0, .ref (L 0)), (1, .int x1)] [.ref (L 0)] := by
  unfold jn_X8_count_11 at hw
  refine x_iconst C (v := (1 : Int32)) dX8_count_11 rfl (by decide) ?_
  refine x_goto C (tgt := 16) dX8_count_12 rfl (by decide) ?_
  refine x_lv [0, 1] rfl ?_
  exact t_X8_count_16 C x1 (1 : Int32) u hw
def wp_X8_count (a1 : Int32) (u : MS) (Post : Int32 → MS → Prop) : Prop :=
  ((a1 < 0 → jn_X8_count_11 Post a1 u) ∧ (¬ (a1 < 0) → ((a1 ≤ (7 : Int32) → jn_X8_count_16 Post a1 (0 : Int32) u) ∧ (¬ (a1 ≤ (7 : Int32)) → jn_X8_count_11 Post a1 u))))
set_option maxHeartbeats 4000000 in
set_option maxRecDepth 20000 in
theorem c_X8_count {a1 : Int32} {u : MS} {Post : Int32 → MS → Prop} (hw : wp_X8_count a1 u Post) : xMet l yX8_count cX8_count 4 (some .int) 0 0 0 0 G K [.ref (L 0), .int a1] (mw L K u T) (fun v ws' => ∃ (r : Int32) (u' : MS), v = some (.int r) ∧ ws' = (mw L K u' T) ∧ Post r u') := by
  refine xMet.intro (lv := [(0, .ref (L 0)), (1, .int a1)]) (by decide) rfl (Nat.le_of_ble_eq_true rfl) rfl (fun p e s m args below meth c A C => ?_)
  unfold wp_X8_count at hw
  refine x_aload_n C dX8_count_0 rfl rfl 0 rfl ?_
  refine x_iload_n C dX8_count_1 rfl rfl 1 rfl ?_
  refine x_if_lt C 11 dX8_count_2 rfl (by decide) (fun c1 => ?_) (fun c1 => ?_)
  · have hw := hw.1 c1
    refine x_lv [0, 1] rfl ?_
    exact t_X8_count_11 C a1 u hw
  · have hw := hw.2 c1
    refine x_iload_n C dX8_count_5 rfl rfl 1 rfl ?_
    refine x_bipush C (v := (7 : Int32)) dX8_count_6 rfl (by decide) ?_
    refine x_icmp_le C 15 dX8_count_8 rfl (by decide) (fun c2 => ?_) (fun c2 => ?_)
    · have hw := hw.1 c2
      refine x_iconst C (v := (0 : Int32)) dX8_count_15 rfl (by decide) ?_
      refine x_lv [0, 1] rfl ?_
      exact t_X8_count_16 C a1 (0 : Int32) u hw
    · have hw := hw.2 c2
      refine x_lv [0, 1] rfl ?_
      exact t_X8_count_11 C a1 u hw
set_option maxRecDepth 20000 in
theorem k_X8_count (C : xCx p s m args meth c G K A nL cc own ret) {a1 : Int32} {u : MS} {idx : Nat} {rest : List Value} {Post : Int32 → MS → Prop} (hlink : Cond.methodLink own idx yX8_count ∈ gw_tbl) (hR : 0 + 1 ≤ R.frames ∧ 8 + (4 + 11) + 0 ≤ R.locals) (hf : cells ≤ R.cells ∧ slots ≤ R.slots) (hW : (rest.map fun v => v.category).sum ≤ 8) (hw : wp_X8_count a1 u Post) (hdg : decode cc n = .ok (.invokevirtual idx, 3)) (hp : pc = n) (kk : ∀ (r : Int32) (u' : MS), Post r u' → xV p l e R s m args below meth c G A nL Q cells slots (mw L K u' T) (n + 3) lv (.int r :: rest)) : xV p l e R s m args below meth c G A nL Q cells slots (mw L K u T) pc lv (.int a1 :: .ref (L 0) :: rest) :=
  x_callV C (As := [.int a1]) (c_X8_count hw) ⟨hlink, i_828, i_829, i_9, i_830⟩ 0 rfl rfl rfl (k := 1) (by decide +kernel) rfl hR hf hW rfl hdg hp (fun v ws' ⟨r, u', hv, hws, hPo⟩ _ => by subst hv; subst hws; exact kk r u' hPo)
def jn_X8_entry_18 (Post : Int32 → MS → Prop) (x1 : Int32) (t0 : Int32) (u : MS) : Prop :=
  (∀ (u1 : MS), u1 = Ms_thrown u t0 → (((M_thrown u1) ≤ 0 → vp_in x1 33 ∧ (Post (M_addresses u1 (Int32.toNatClampNeg x1)) u1)) ∧ (¬ ((M_thrown u1) ≤ 0) → Post (0 : Int32) u1)))
set_option maxHeartbeats 4000000 in
set_option maxRecDepth 20000 in
theorem t_X8_entry_18 (C : xCx p s m args meth c G K A 2 cX8_entry RX8 (some .int)) {u0 : MS} {Post : Int32 → MS → Prop} (x1 : Int32) (t0 : Int32) (u : MS) (hw : jn_X8_entry_18  Post x1 t0 u) : xV p l e (xRm 0 0 0 0) s m args below meth c G A 2 (xQ G A (mw L K u0 T) (fun v ws' => ∃ (r : Int32) (u' : MS), v = some (.int r) ∧ ws' = (mw L K u' T) ∧ Post r u') below args s 0 0) 0 0 (mw L K u T) 18 [(0, .ref (L 0)), (1, .int x1)] [.int t0, .ref (L 0)] := by
  unfold jn_X8_entry_18 at hw
  refine pM0_thrown C i_620 dX8_entry_18 rfl (fun u1 e2 => ?_)
  have hw := hw u1 e2
  refine x_aload_n C dX8_entry_21 rfl rfl 0 rfl ?_
  refine gM0_thrown C i_620 dX8_entry_22 rfl ?_
  refine x_if_le C 32 dX8_entry_25 rfl (by decide) (fun c3 => ?_) (fun c3 => ?_)
  · have hw := hw.1 c3
    refine x_aload_n C dX8_entry_32 rfl rfl 0 rfl ?_
    refine gM0_addresses C i_633 dX8_entry_33 rfl ?_
    refine x_iload_n C dX8_entry_36 rfl rfl 1 rfl ?_
    obtain ⟨h4, hw⟩ := hw
    refine gM2_at C h4 dX8_entry_37 rfl ?_
    exact x_iret C dX8_entry_38 rfl (mw_same _ _) ⟨_, _, rfl, rfl, hw⟩
  · have hw := hw.2 c3
    refine x_iconst C (v := (0 : Int32)) dX8_entry_28 rfl (by decide) ?_
    refine x_goto C (tgt := 38) dX8_entry_29 rfl (by decide) ?_
    exact x_iret C dX8_entry_38 rfl (mw_same _ _) ⟨_, _, rfl, rfl, hw⟩
def jn_X8_entry_13 (Post : Int32 → MS → Prop) (x1 : Int32) (u : MS) : Prop :=
  jn_X8_entry_18 Post x1 (1 : Int32) u
set_option maxHeartbeats 4000000 in
set_option maxRecDepth 20000 in
theorem t_X8_entry_13 (C : xCx p s m args meth c G K A 2 cX8_entry RX8 (some .int)) {u0 : MS} {Post : Int32 → MS → Prop} (x1 : Int32) (u : MS) (hw : jn_X8_entry_13  Post x1 u) : xV p l e (xRm 0 0 0 0) s m args below meth c G A 2 (xQ G A (mw L K u0 T) (fun v ws' => ∃ (r : Int32) (u' : MS), v = some (.int r) ∧ ws' = (mw L K u' T) ∧ Post r u') below args s 0 0) 0 0 (mw L K u T) 13 [(0, .ref (L 0)), (1, .int x1)] [.ref (L 0)] := by
  unfold jn_X8_entry_13 at hw
  refine x_iconst C (v := (1 : Int32)) dX8_entry_13 rfl (by decide) ?_
  refine x_goto C (tgt := 18) dX8_entry_14 rfl (by decide) ?_
  refine x_lv [0, 1] rfl ?_
  exact t_X8_entry_18 C x1 (1 : Int32) u hw
def wp_X8_entry (a1 : Int32) (u : MS) (Post : Int32 → MS → Prop) : Prop :=
  ((a1 < 0 → jn_X8_entry_13 Post a1 u) ∧ (¬ (a1 < 0) → ((a1 < (M_entries u) → jn_X8_entry_18 Post a1 (0 : Int32) u) ∧ (¬ (a1 < (M_entries u)) → jn_X8_entry_13 Post a1 u))))
set_option maxHeartbeats 4000000 in
set_option maxRecDepth 20000 in
theorem c_X8_entry {a1 : Int32} {u : MS} {Post : Int32 → MS → Prop} (hw : wp_X8_entry a1 u Post) : xMet l yX8_entry cX8_entry 2 (some .int) 0 0 0 0 G K [.ref (L 0), .int a1] (mw L K u T) (fun v ws' => ∃ (r : Int32) (u' : MS), v = some (.int r) ∧ ws' = (mw L K u' T) ∧ Post r u') := by
  refine xMet.intro (lv := [(0, .ref (L 0)), (1, .int a1)]) (by decide) rfl (Nat.le_of_ble_eq_true rfl) rfl (fun p e s m args below meth c A C => ?_)
  unfold wp_X8_entry at hw
  refine x_aload_n C dX8_entry_0 rfl rfl 0 rfl ?_
  refine x_iload_n C dX8_entry_1 rfl rfl 1 rfl ?_
  refine x_if_lt C 13 dX8_entry_2 rfl (by decide) (fun c1 => ?_) (fun c1 => ?_)
  · have hw := hw.1 c1
    refine x_lv [0, 1] rfl ?_
    exact t_X8_entry_13 C a1 u hw
  · have hw := hw.2 c1
    refine x_iload_n C dX8_entry_5 rfl rfl 1 rfl ?_
    refine x_aload_n C dX8_entry_6 rfl rfl 0 rfl ?_
    refine gM0_entries C i_632 dX8_entry_7 rfl ?_
    refine x_icmp_lt C 17 dX8_entry_10 rfl (by decide) (fun c2 => ?_) (fun c2 => ?_)
    · have hw := hw.1 c2
      refine x_iconst C (v := (0 : Int32)) dX8_entry_17 rfl (by decide) ?_
      refine x_lv [0, 1] rfl ?_
      exact t_X8_entry_18 C a1 (0 : Int32) u hw
    · have hw := hw.2 c2
      refine x_lv [0, 1] rfl ?_
      exact t_X8_entry_13 C a1 u hw
set_option maxRecDepth 20000 in
theorem k_X8_entry (C : xCx p s m args meth c G K A nL cc own ret) {a1 : Int32} {u : MS} {idx : Nat} {rest : List Value} {Post : Int32 → MS → Prop} (hlink : Cond.methodLink own idx yX8_entry ∈ gw_tbl) (hR : 0 + 1 ≤ R.frames ∧ 8 + (2 + 11) + 0 ≤ R.locals) (hf : cells ≤ R.cells ∧ slots ≤ R.slots) (hW : (rest.map fun v => v.category).sum ≤ 8) (hw : wp_X8_entry a1 u Post) (hdg : decode cc n = .ok (.invokevirtual idx, 3)) (hp : pc = n) (kk : ∀ (r : Int32) (u' : MS), Post r u' → xV p l e R s m args below meth c G A nL Q cells slots (mw L K u' T) (n + 3) lv (.int r :: rest)) : xV p l e R s m args below meth c G A nL Q cells slots (mw L K u T) pc lv (.int a1 :: .ref (L 0) :: rest) :=
  x_callV C (As := [.int a1]) (c_X8_entry hw) ⟨hlink, i_832, i_833, i_9, i_834⟩ 0 rfl rfl rfl (k := 1) (by decide +kernel) rfl hR hf hW rfl hdg hp (fun v ws' ⟨r, u', hv, hws, hPo⟩ _ => by subst hv; subst hws; exact kk r u' hPo)
def jn_X8_about_30 (Post : Int32 → MS → Prop) (x2 : Int32) (x3 : Int32) (t0 : Int32) (u : MS) : Prop :=
  (∀ (u1 : MS), u1 = Ms_thrown u t0 → (((M_thrown u1) ≤ 0 → ((¬ (x2 = 0) → ((¬ (x2 = (1 : Int32)) → ((¬ (x2 = (2 : Int32)) → vp_in x3 33 ∧ (Post (M_used u1 (Int32.toNatClampNeg x3)) u1)) ∧ (x2 = (2 : Int32) → vp_in x3 33 ∧ (Post (M_since u1 (Int32.toNatClampNeg x3)) u1)))) ∧ (x2 = (1 : Int32) → vp_in x3 33 ∧ (Post (M_waiting u1 (Int32.toNatClampNeg x3)) u1)))) ∧ (x2 = 0 → vp_in x3 33 ∧ (Post (M_kinds u1 (Int32.toNatClampNeg x3)) u1)))) ∧ (¬ ((M_thrown u1) ≤ 0) → Post (0 : Int32) u1)))
set_option maxHeartbeats 4000000 in
set_option maxRecDepth 20000 in
theorem t_X8_about_30 (C : xCx p s m args meth c G K A 4 cX8_about RX8 (some .int)) {u0 : MS} {Post : Int32 → MS → Prop} (x2 : Int32) (x3 : Int32) (t0 : Int32) (u : MS) (hw : jn_X8_about_30  Post x2 x3 t0 u) : xV p l e (xRm 1 23 0 0) s m args below meth c G A 4 (xQ G A (mw L K u0 T) (fun v ws' => ∃ (r : Int32) (u' : MS), v = some (.int r) ∧ ws' = (mw L K u' T) ∧ Post r u') below args s 0 0) 0 0 (mw L K u T) 30 [(0, .ref (L 0)), (2, .int x2), (3, .int x3)] [.int t0, .ref (L 0)] := by
  unfold jn_X8_about_30 at hw
  refine pM0_thrown C i_620 dX8_about_30 rfl (fun u1 e2 => ?_)
  have hw := hw u1 e2
  refine x_aload_n C dX8_about_33 rfl rfl 0 rfl ?_
  refine gM0_thrown C i_620 dX8_about_34 rfl ?_
  refine x_if_le C 42 dX8_about_37 rfl (by decide) (fun c3 => ?_) (fun c3 => ?_)
  · have hw := hw.1 c3
    refine x_iload_n C dX8_about_42 rfl rfl 1 rfl ?_
    refine x_if_ne C 55 dX8_about_43 rfl (by decide) (fun c4 => ?_) (fun c4 => ?_)
    · have hw := hw.1 c4
      refine x_iload_n C dX8_about_55 rfl rfl 1 rfl ?_
      refine x_iconst C (v := (1 : Int32)) dX8_about_56 rfl (by decide) ?_
      refine x_icmp_ne C 69 dX8_about_57 rfl (by decide) (fun c5 => ?_) (fun c5 => ?_)
      · have hw := hw.1 c5
        refine x_iload_n C dX8_about_69 rfl rfl 1 rfl ?_
        refine x_iconst C (v := (2 : Int32)) dX8_about_70 rfl (by decide) ?_
        refine x_icmp_ne C 83 dX8_about_71 rfl (by decide) (fun c6 => ?_) (fun c6 => ?_)
        · have hw := hw.1 c6
          refine x_aload_n C dX8_about_83 rfl rfl 0 rfl ?_
          refine gM0_used C i_637 dX8_about_84 rfl ?_
          refine x_iload_n C dX8_about_87 rfl rfl 2 rfl ?_
          obtain ⟨h7, hw⟩ := hw
          refine gM6_at C h7 dX8_about_88 rfl ?_
          exact x_iret C dX8_about_89 rfl (mw_same _ _) ⟨_, _, rfl, rfl, hw⟩
        · have hw := hw.2 c6
          refine x_aload_n C dX8_about_74 rfl rfl 0 rfl ?_
          refine gM0_since C i_636 dX8_about_75 rfl ?_
          refine x_iload_n C dX8_about_78 rfl rfl 2 rfl ?_
          obtain ⟨h8, hw⟩ := hw
          refine gM5_at C h8 dX8_about_79 rfl ?_
          refine x_goto C (tgt := 89) dX8_about_80 rfl (by decide) ?_
          exact x_iret C dX8_about_89 rfl (mw_same _ _) ⟨_, _, rfl, rfl, hw⟩
      · have hw := hw.2 c5
        refine x_aload_n C dX8_about_60 rfl rfl 0 rfl ?_
        refine gM0_waiting C i_638 dX8_about_61 rfl ?_
        refine x_iload_n C dX8_about_64 rfl rfl 2 rfl ?_
        obtain ⟨h9, hw⟩ := hw
        refine gM7_at C h9 dX8_about_65 rfl ?_
        refine x_goto C (tgt := 89) dX8_about_66 rfl (by decide) ?_
        exact x_iret C dX8_about_89 rfl (mw_same _ _) ⟨_, _, rfl, rfl, hw⟩
    · have hw := hw.2 c4
      refine x_aload_n C dX8_about_46 rfl rfl 0 rfl ?_
      refine gM0_kinds C i_634 dX8_about_47 rfl ?_
      refine x_iload_n C dX8_about_50 rfl rfl 2 rfl ?_
      obtain ⟨h10, hw⟩ := hw
      refine gM3_at C h10 dX8_about_51 rfl ?_
      refine x_goto C (tgt := 89) dX8_about_52 rfl (by decide) ?_
      exact x_iret C dX8_about_89 rfl (mw_same _ _) ⟨_, _, rfl, rfl, hw⟩
  · have hw := hw.2 c3
    refine x_iconst C (v := (0 : Int32)) dX8_about_40 rfl (by decide) ?_
    exact x_iret C dX8_about_41 rfl (mw_same _ _) ⟨_, _, rfl, rfl, hw⟩
def jn_X8_about_16 (Post : Int32 → MS → Prop) (x2 : Int32) (x3 : Int32) (u : MS) : Prop :=
  jn_X8_about_30 Post x2 x3 (1 : Int32) u
set_option maxHeartbeats 4000000 in
set_option maxRecDepth 20000 in
theorem t_X8_about_16 (C : xCx p s m args meth c G K A 4 cX8_about RX8 (some .int)) {u0 : MS} {Post : Int32 → MS → Prop} (x2 : Int32) (x3 : Int32) (u : MS) (hw : jn_X8_about_16  Post x2 x3 u) : xV p l e (xRm 1 23 0 0) s m args below meth c G A 4 (xQ G A (mw L K u0 T) (fun v ws' => ∃ (r : Int32) (u' : MS), v = some (.int r) ∧ ws' = (mw L K u' T) ∧ Post r u') below args s 0 0) 0 0 (mw L K u T) 16 [(0, .ref (L 0)), (2, .int x2), (3, .int x3)] [.ref (L 0)] := by
  unfold jn_X8_about_16 at hw
  refine x_iconst C (v := (1 : Int32)) dX8_about_16 rfl (by decide) ?_
  refine x_goto C (tgt := 30) dX8_about_17 rfl (by decide) ?_
  refine x_lv [0, 1, 2] rfl ?_
  exact t_X8_about_30 C x2 x3 (1 : Int32) u hw
def wp_X8_about (a1 : Int32) (a2 : Int32) (u : MS) (Post : Int32 → MS → Prop) : Prop :=
  wp_X8_find a1 u (fun r1 u2 => ((a2 < 0 → jn_X8_about_16 Post a2 r1 u2) ∧ (¬ (a2 < 0) → ((a2 ≤ (3 : Int32) → ((¬ (r1 = (-1 : Int32)) → jn_X8_about_30 Post a2 r1 (0 : Int32) u2) ∧ (r1 = (-1 : Int32) → jn_X8_about_30 Post a2 r1 (2 : Int32) u2))) ∧ (¬ (a2 ≤ (3 : Int32)) → jn_X8_about_16 Post a2 r1 u2)))))
set_option maxHeartbeats 4000000 in
set_option maxRecDepth 20000 in
theorem c_X8_about {a1 : Int32} {a2 : Int32} {u : MS} {Post : Int32 → MS → Prop} (hw : wp_X8_about a1 a2 u Post) : xMet l yX8_about cX8_about 4 (some .int) 1 23 0 0 G K [.ref (L 0), .int a1, .int a2] (mw L K u T) (fun v ws' => ∃ (r : Int32) (u' : MS), v = some (.int r) ∧ ws' = (mw L K u' T) ∧ Post r u') := by
  refine xMet.intro (lv := [(0, .ref (L 0)), (1, .int a1), (2, .int a2)]) (by decide) rfl (Nat.le_of_ble_eq_true rfl) rfl (fun p e s m args below meth c A C => ?_)
  unfold wp_X8_about at hw
  refine x_aload_n C dX8_about_0 rfl rfl 0 rfl ?_
  refine x_iload_n C dX8_about_1 rfl rfl 1 rfl ?_
  refine k_X8_find C i_775 ⟨Nat.le_of_ble_eq_true rfl, Nat.le_of_ble_eq_true rfl⟩ ⟨Nat.zero_le _, Nat.zero_le _⟩ (Nat.le_of_ble_eq_true rfl) hw dX8_about_2 rfl (fun r1 u2 hw => ?_)
  refine x_istore_n C (lv' := [(3, .int r1), (0, .ref (L 0)), (1, .int a1), (2, .int a2)]) dX8_about_5 rfl rfl (by decide) rfl ?_
  refine x_aload_n C dX8_about_6 rfl rfl 1 rfl ?_
  refine x_iload_n C dX8_about_7 rfl rfl 3 rfl ?_
  refine x_if_lt C 16 dX8_about_8 rfl (by decide) (fun c3 => ?_) (fun c3 => ?_)
  · have hw := hw.1 c3
    refine x_lv [1, 3, 0] rfl ?_
    exact t_X8_about_16 C a2 r1 u2 hw
  · have hw := hw.2 c3
    refine x_iload_n C dX8_about_11 rfl rfl 3 rfl ?_
    refine x_iconst C (v := (3 : Int32)) dX8_about_12 rfl (by decide) ?_
    refine x_icmp_le C 20 dX8_about_13 rfl (by decide) (fun c4 => ?_) (fun c4 => ?_)
    · have hw := hw.1 c4
      refine x_iload_n C dX8_about_20 rfl rfl 0 rfl ?_
      refine x_iconst C (v := (-1 : Int32)) dX8_about_21 rfl (by decide) ?_
      refine x_icmp_ne C 29 dX8_about_22 rfl (by decide) (fun c5 => ?_) (fun c5 => ?_)
      · have hw := hw.1 c5
        refine x_iconst C (v := (0 : Int32)) dX8_about_29 rfl (by decide) ?_
        refine x_lv [1, 3, 0] rfl ?_
        exact t_X8_about_30 C a2 r1 (0 : Int32) u2 hw
      · have hw := hw.2 c5
        refine x_iconst C (v := (2 : Int32)) dX8_about_25 rfl (by decide) ?_
        refine x_goto C (tgt := 30) dX8_about_26 rfl (by decide) ?_
        refine x_lv [1, 3, 0] rfl ?_
        exact t_X8_about_30 C a2 r1 (2 : Int32) u2 hw
    · have hw := hw.2 c4
      refine x_lv [1, 3, 0] rfl ?_
      exact t_X8_about_16 C a2 r1 u2 hw
set_option maxRecDepth 20000 in
theorem k_X8_about (C : xCx p s m args meth c G K A nL cc own ret) {a1 : Int32} {a2 : Int32} {u : MS} {idx : Nat} {rest : List Value} {Post : Int32 → MS → Prop} (hlink : Cond.methodLink own idx yX8_about ∈ gw_tbl) (hR : 1 + 1 ≤ R.frames ∧ 8 + (4 + 11) + 23 ≤ R.locals) (hf : cells ≤ R.cells ∧ slots ≤ R.slots) (hW : (rest.map fun v => v.category).sum ≤ 8) (hw : wp_X8_about a1 a2 u Post) (hdg : decode cc n = .ok (.invokevirtual idx, 3)) (hp : pc = n) (kk : ∀ (r : Int32) (u' : MS), Post r u' → xV p l e R s m args below meth c G A nL Q cells slots (mw L K u' T) (n + 3) lv (.int r :: rest)) : xV p l e R s m args below meth c G A nL Q cells slots (mw L K u T) pc lv (.int a2 :: .int a1 :: .ref (L 0) :: rest) :=
  x_callV C (As := [.int a1, .int a2]) (c_X8_about hw) ⟨hlink, i_836, i_837, i_9, i_838⟩ 0 rfl rfl rfl (k := 2) (by decide +kernel) rfl hR hf hW rfl hdg hp (fun v ws' ⟨r, u', hv, hws, hPo⟩ _ => by subst hv; subst hws; exact kk r u' hPo)
def jn_X8_hardware_17 (Post : Int64 → MS → Prop) (x2 : Int32) (t0 : Int32) (u : MS) : Prop :=
  (∀ (u1 : MS), u1 = Ms_thrown u t0 → ((0 < (M_thrown u1) → Post (0 : Int64) u1) ∧ (¬ (0 < (M_thrown u1)) → vp_in x2 33 ∧ (((¬ ((M_kinds u1 (Int32.toNatClampNeg x2)) = (1 : Int32)) → Post (M_hardware u1 (Int32.toNatClampNeg x2)) u1) ∧ ((M_kinds u1 (Int32.toNatClampNeg x2)) = (1 : Int32) → Post (0 : Int64) u1))))))
set_option maxHeartbeats 4000000 in
set_option maxRecDepth 20000 in
theorem t_X8_hardware_17 (C : xCx p s m args meth c G K A 3 cX8_hardware RX8 (some .long)) {u0 : MS} {Post : Int64 → MS → Prop} (x2 : Int32) (t0 : Int32) (u : MS) (hw : jn_X8_hardware_17  Post x2 t0 u) : xV p l e (xRm 1 23 0 0) s m args below meth c G A 3 (xQ G A (mw L K u0 T) (fun v ws' => ∃ (r : Int64) (u' : MS), v = some (.long r) ∧ ws' = (mw L K u' T) ∧ Post r u') below args s 0 0) 0 0 (mw L K u T) 17 [(0, .ref (L 0)), (2, .int x2)] [.int t0, .ref (L 0)] := by
  unfold jn_X8_hardware_17 at hw
  refine pM0_thrown C i_620 dX8_hardware_17 rfl (fun u1 e2 => ?_)
  have hw := hw u1 e2
  refine x_aload_n C dX8_hardware_20 rfl rfl 0 rfl ?_
  refine gM0_thrown C i_620 dX8_hardware_21 rfl ?_
  refine x_if_gt C 37 dX8_hardware_24 rfl (by decide) (fun c3 => ?_) (fun c3 => ?_)
  · have hw := hw.1 c3
    refine x_lconst C (v := (0 : Int64)) dX8_hardware_37 rfl (by decide) ?_
    refine x_goto C (tgt := 47) dX8_hardware_38 rfl (by decide) ?_
    exact x_lret C dX8_hardware_47 rfl (mw_same _ _) ⟨_, _, rfl, rfl, hw⟩
  · have hw := hw.2 c3
    refine x_aload_n C dX8_hardware_27 rfl rfl 0 rfl ?_
    refine gM0_kinds C i_634 dX8_hardware_28 rfl ?_
    refine x_iload_n C dX8_hardware_31 rfl rfl 1 rfl ?_
    obtain ⟨h4, hw⟩ := hw
    refine gM3_at C h4 dX8_hardware_32 rfl ?_
    refine x_iconst C (v := (1 : Int32)) dX8_hardware_33 rfl (by decide) ?_
    refine x_icmp_ne C 41 dX8_hardware_34 rfl (by decide) (fun c5 => ?_) (fun c5 => ?_)
    · have hw := hw.1 c5
      refine x_aload_n C dX8_hardware_41 rfl rfl 0 rfl ?_
      refine gM0_hardware C i_635 dX8_hardware_42 rfl ?_
      refine x_iload_n C dX8_hardware_45 rfl rfl 1 rfl ?_
      refine gM4_at C h4 dX8_hardware_46 rfl ?_
      exact x_lret C dX8_hardware_47 rfl (mw_same _ _) ⟨_, _, rfl, rfl, hw⟩
    · have hw := hw.2 c5
      refine x_lconst C (v := (0 : Int64)) dX8_hardware_37 rfl (by decide) ?_
      refine x_goto C (tgt := 47) dX8_hardware_38 rfl (by decide) ?_
      exact x_lret C dX8_hardware_47 rfl (mw_same _ _) ⟨_, _, rfl, rfl, hw⟩
def wp_X8_hardware (a1 : Int32) (u : MS) (Post : Int64 → MS → Prop) : Prop :=
  wp_X8_find a1 u (fun r1 u2 => ((¬ (r1 = (-1 : Int32)) → jn_X8_hardware_17 Post r1 (0 : Int32) u2) ∧ (r1 = (-1 : Int32) → jn_X8_hardware_17 Post r1 (1 : Int32) u2)))
set_option maxHeartbeats 4000000 in
set_option maxRecDepth 20000 in
theorem c_X8_hardware {a1 : Int32} {u : MS} {Post : Int64 → MS → Prop} (hw : wp_X8_hardware a1 u Post) : xMet l yX8_hardware cX8_hardware 3 (some .long) 1 23 0 0 G K [.ref (L 0), .int a1] (mw L K u T) (fun v ws' => ∃ (r : Int64) (u' : MS), v = some (.long r) ∧ ws' = (mw L K u' T) ∧ Post r u') := by
  refine xMet.intro (lv := [(0, .ref (L 0)), (1, .int a1)]) (by decide) rfl (Nat.le_of_ble_eq_true rfl) rfl (fun p e s m args below meth c A C => ?_)
  unfold wp_X8_hardware at hw
  refine x_aload_n C dX8_hardware_0 rfl rfl 0 rfl ?_
  refine x_iload_n C dX8_hardware_1 rfl rfl 1 rfl ?_
  refine k_X8_find C i_775 ⟨Nat.le_of_ble_eq_true rfl, Nat.le_of_ble_eq_true rfl⟩ ⟨Nat.zero_le _, Nat.zero_le _⟩ (Nat.le_of_ble_eq_true rfl) hw dX8_hardware_2 rfl (fun r1 u2 hw => ?_)
  refine x_istore_n C (lv' := [(2, .int r1), (0, .ref (L 0)), (1, .int a1)]) dX8_hardware_5 rfl rfl (by decide) rfl ?_
  refine x_aload_n C dX8_hardware_6 rfl rfl 1 rfl ?_
  refine x_iload_n C dX8_hardware_7 rfl rfl 0 rfl ?_
  refine x_iconst C (v := (-1 : Int32)) dX8_hardware_8 rfl (by decide) ?_
  refine x_icmp_ne C 16 dX8_hardware_9 rfl (by decide) (fun c3 => ?_) (fun c3 => ?_)
  · have hw := hw.1 c3
    refine x_iconst C (v := (0 : Int32)) dX8_hardware_16 rfl (by decide) ?_
    refine x_lv [1, 0] rfl ?_
    exact t_X8_hardware_17 C r1 (0 : Int32) u2 hw
  · have hw := hw.2 c3
    refine x_iconst C (v := (1 : Int32)) dX8_hardware_12 rfl (by decide) ?_
    refine x_goto C (tgt := 17) dX8_hardware_13 rfl (by decide) ?_
    refine x_lv [1, 0] rfl ?_
    exact t_X8_hardware_17 C r1 (1 : Int32) u2 hw
set_option maxRecDepth 20000 in
theorem k_X8_hardware (C : xCx p s m args meth c G K A nL cc own ret) {a1 : Int32} {u : MS} {idx : Nat} {rest : List Value} {Post : Int64 → MS → Prop} (hlink : Cond.methodLink own idx yX8_hardware ∈ gw_tbl) (hR : 1 + 1 ≤ R.frames ∧ 8 + (3 + 11) + 23 ≤ R.locals) (hf : cells ≤ R.cells ∧ slots ≤ R.slots) (hW : (rest.map fun v => v.category).sum ≤ 8) (hw : wp_X8_hardware a1 u Post) (hdg : decode cc n = .ok (.invokevirtual idx, 3)) (hp : pc = n) (kk : ∀ (r : Int64) (u' : MS), Post r u' → xV p l e R s m args below meth c G A nL Q cells slots (mw L K u' T) (n + 3) lv (.long r :: rest)) : xV p l e R s m args below meth c G A nL Q cells slots (mw L K u T) pc lv (.int a1 :: .ref (L 0) :: rest) :=
  x_callV C (As := [.int a1]) (c_X8_hardware hw) ⟨hlink, i_840, i_841, i_9, i_842⟩ 0 rfl rfl rfl (k := 1) (by decide +kernel) rfl hR hf hW rfl hdg hp (fun v ws' ⟨r, u', hv, hws, hPo⟩ _ => by subst hv; subst hws; exact kk r u' hPo)
def wp_X8_knows (a1 : Int32) (u : MS) (Post : Int32 → MS → Prop) : Prop :=
  (∀ (u1 : MS), u1 = Ms_thrown u (0 : Int32) → wp_X8_find a1 u1 (fun r3 u4 => ((r3 = (-1 : Int32) → Post (0 : Int32) u4) ∧ (¬ (r3 = (-1 : Int32)) → vp_in r3 33 ∧ ((((M_kinds u4 (Int32.toNatClampNeg r3)) = (1 : Int32) → Post (0 : Int32) u4) ∧ (¬ ((M_kinds u4 (Int32.toNatClampNeg r3)) = (1 : Int32)) → Post (1 : Int32) u4)))))))
set_option maxHeartbeats 4000000 in
set_option maxRecDepth 20000 in
theorem c_X8_knows {a1 : Int32} {u : MS} {Post : Int32 → MS → Prop} (hw : wp_X8_knows a1 u Post) : xMet l yX8_knows cX8_knows 3 (some .boolean) 1 23 0 0 G K [.ref (L 0), .int a1] (mw L K u T) (fun v ws' => ∃ (r : Int32) (u' : MS), v = some (.int r) ∧ ws' = (mw L K u' T) ∧ Post r u') := by
  refine xMet.intro (lv := [(0, .ref (L 0)), (1, .int a1)]) (by decide) rfl (Nat.le_of_ble_eq_true rfl) rfl (fun p e s m args below meth c A C => ?_)
  unfold wp_X8_knows at hw
  refine x_aload_n C dX8_knows_0 rfl rfl 0 rfl ?_
  refine x_iconst C (v := (0 : Int32)) dX8_knows_1 rfl (by decide) ?_
  refine pM0_thrown C i_620 dX8_knows_2 rfl (fun u1 e2 => ?_)
  have hw := hw u1 e2
  refine x_aload_n C dX8_knows_5 rfl rfl 0 rfl ?_
  refine x_iload_n C dX8_knows_6 rfl rfl 1 rfl ?_
  refine k_X8_find C i_775 ⟨Nat.le_of_ble_eq_true rfl, Nat.le_of_ble_eq_true rfl⟩ ⟨Nat.zero_le _, Nat.zero_le _⟩ (Nat.le_of_ble_eq_true rfl) hw dX8_knows_7 rfl (fun r3 u4 hw => ?_)
  refine x_istore_n C (lv' := [(2, .int r3), (0, .ref (L 0)), (1, .int a1)]) dX8_knows_10 rfl rfl (by decide) rfl ?_
  refine x_iload_n C dX8_knows_11 rfl rfl 0 rfl ?_
  refine x_iconst C (v := (-1 : Int32)) dX8_knows_12 rfl (by decide) ?_
  refine x_icmp_eq C 30 dX8_knows_13 rfl (by decide) (fun c5 => ?_) (fun c5 => ?_)
  · have hw := hw.1 c5
    refine x_iconst C (v := (0 : Int32)) dX8_knows_30 rfl (by decide) ?_
    exact x_zret C dX8_knows_31 rfl rfl (mw_same _ _) ⟨_, _, rfl, rfl, hw⟩
  · have hw := hw.2 c5
    refine x_aload_n C dX8_knows_16 rfl rfl 1 rfl ?_
    refine gM0_kinds C i_634 dX8_knows_17 rfl ?_
    refine x_iload_n C dX8_knows_20 rfl rfl 0 rfl ?_
    obtain ⟨h6, hw⟩ := hw
    refine gM3_at C h6 dX8_knows_21 rfl ?_
    refine x_iconst C (v := (1 : Int32)) dX8_knows_22 rfl (by decide) ?_
    refine x_icmp_eq C 30 dX8_knows_23 rfl (by decide) (fun c7 => ?_) (fun c7 => ?_)
    · have hw := hw.1 c7
      refine x_iconst C (v := (0 : Int32)) dX8_knows_30 rfl (by decide) ?_
      exact x_zret C dX8_knows_31 rfl rfl (mw_same _ _) ⟨_, _, rfl, rfl, hw⟩
    · have hw := hw.2 c7
      refine x_iconst C (v := (1 : Int32)) dX8_knows_26 rfl (by decide) ?_
      refine x_goto C (tgt := 31) dX8_knows_27 rfl (by decide) ?_
      exact x_zret C dX8_knows_31 rfl rfl (mw_same _ _) ⟨_, _, rfl, rfl, hw⟩
set_option maxRecDepth 20000 in
theorem k_X8_knows (C : xCx p s m args meth c G K A nL cc own ret) {a1 : Int32} {u : MS} {idx : Nat} {rest : List Value} {Post : Int32 → MS → Prop} (hlink : Cond.methodLink own idx yX8_knows ∈ gw_tbl) (hR : 1 + 1 ≤ R.frames ∧ 8 + (3 + 11) + 23 ≤ R.locals) (hf : cells ≤ R.cells ∧ slots ≤ R.slots) (hW : (rest.map fun v => v.category).sum ≤ 8) (hw : wp_X8_knows a1 u Post) (hdg : decode cc n = .ok (.invokevirtual idx, 3)) (hp : pc = n) (kk : ∀ (r : Int32) (u' : MS), Post r u' → xV p l e R s m args below meth c G A nL Q cells slots (mw L K u' T) (n + 3) lv (.int r :: rest)) : xV p l e R s m args below meth c G A nL Q cells slots (mw L K u T) pc lv (.int a1 :: .ref (L 0) :: rest) :=
  x_callV C (As := [.int a1]) (c_X8_knows hw) ⟨hlink, i_844, i_845, i_9, i_846⟩ 0 rfl rfl rfl (k := 1) (by decide +kernel) rfl hR hf hW rfl hdg hp (fun v ws' ⟨r, u', hv, hws, hPo⟩ _ => by subst hv; subst hws; exact kk r u' hPo)
def jn_X8_waits_35 (Post : Int32 → MS → Prop) (x2 : Int32) (x3 : Int32) (t0 : Int32) (u : MS) : Prop :=
  (∀ (u1 : MS), u1 = Ms_thrown u t0 → (((M_thrown u1) ≤ 0 → vp_in (((4 : Int32) * x3) + x2) 132 ∧ (Post (M_waits u1 (Int32.toNatClampNeg (((4 : Int32) * x3) + x2))) u1)) ∧ (¬ ((M_thrown u1) ≤ 0) → Post (0 : Int32) u1)))
set_option maxHeartbeats 4000000 in
set_option maxRecDepth 20000 in
theorem t_X8_waits_35 (C : xCx p s m args meth c G K A 4 cX8_waits RX8 (some .int)) {u0 : MS} {Post : Int32 → MS → Prop} (x2 : Int32) (x3 : Int32) (t0 : Int32) (u : MS) (hw : jn_X8_waits_35  Post x2 x3 t0 u) : xV p l e (xRm 1 23 0 0) s m args below meth c G A 4 (xQ G A (mw L K u0 T) (fun v ws' => ∃ (r : Int32) (u' : MS), v = some (.int r) ∧ ws' = (mw L K u' T) ∧ Post r u') below args s 0 0) 0 0 (mw L K u T) 35 [(0, .ref (L 0)), (2, .int x2), (3, .int x3)] [.int t0, .ref (L 0)] := by
  unfold jn_X8_waits_35 at hw
  refine pM0_thrown C i_620 dX8_waits_35 rfl (fun u1 e2 => ?_)
  have hw := hw u1 e2
  refine x_aload_n C dX8_waits_38 rfl rfl 0 rfl ?_
  refine gM0_thrown C i_620 dX8_waits_39 rfl ?_
  refine x_if_le C 49 dX8_waits_42 rfl (by decide) (fun c3 => ?_) (fun c3 => ?_)
  · have hw := hw.1 c3
    refine x_aload_n C dX8_waits_49 rfl rfl 0 rfl ?_
    refine gM0_waits C i_639 dX8_waits_50 rfl ?_
    refine x_iconst C (v := (4 : Int32)) dX8_waits_53 rfl (by decide) ?_
    refine x_iload_n C dX8_waits_54 rfl rfl 2 rfl ?_
    refine x_imul C dX8_waits_55 rfl ?_
    refine x_iload_n C dX8_waits_56 rfl rfl 1 rfl ?_
    refine x_iadd C dX8_waits_57 rfl ?_
    obtain ⟨h4, hw⟩ := hw
    refine gM8_at C h4 dX8_waits_58 rfl ?_
    exact x_iret C dX8_waits_59 rfl (mw_same _ _) ⟨_, _, rfl, rfl, hw⟩
  · have hw := hw.2 c3
    refine x_iconst C (v := (0 : Int32)) dX8_waits_45 rfl (by decide) ?_
    refine x_goto C (tgt := 59) dX8_waits_46 rfl (by decide) ?_
    exact x_iret C dX8_waits_59 rfl (mw_same _ _) ⟨_, _, rfl, rfl, hw⟩
def jn_X8_waits_30 (Post : Int32 → MS → Prop) (x2 : Int32) (x3 : Int32) (u : MS) : Prop :=
  jn_X8_waits_35 Post x2 x3 (2 : Int32) u
set_option maxHeartbeats 4000000 in
set_option maxRecDepth 20000 in
theorem t_X8_waits_30 (C : xCx p s m args meth c G K A 4 cX8_waits RX8 (some .int)) {u0 : MS} {Post : Int32 → MS → Prop} (x2 : Int32) (x3 : Int32) (u : MS) (hw : jn_X8_waits_30  Post x2 x3 u) : xV p l e (xRm 1 23 0 0) s m args below meth c G A 4 (xQ G A (mw L K u0 T) (fun v ws' => ∃ (r : Int32) (u' : MS), v = some (.int r) ∧ ws' = (mw L K u' T) ∧ Post r u') below args s 0 0) 0 0 (mw L K u T) 30 [(0, .ref (L 0)), (2, .int x2), (3, .int x3)] [.ref (L 0)] := by
  unfold jn_X8_waits_30 at hw
  refine x_iconst C (v := (2 : Int32)) dX8_waits_30 rfl (by decide) ?_
  refine x_goto C (tgt := 35) dX8_waits_31 rfl (by decide) ?_
  refine x_lv [0, 1, 2] rfl ?_
  exact t_X8_waits_35 C x2 x3 (2 : Int32) u hw
def wp_X8_waits (a1 : Int32) (a2 : Int32) (u : MS) (Post : Int32 → MS → Prop) : Prop :=
  wp_X8_find a1 u (fun r1 u2 => ((¬ (r1 = (-1 : Int32)) → ((a2 < 0 → jn_X8_waits_30 Post a2 r1 u2) ∧ (¬ (a2 < 0) → vp_in r1 33 ∧ (((a2 < (M_waiting u2 (Int32.toNatClampNeg r1)) → jn_X8_waits_35 Post a2 r1 (0 : Int32) u2) ∧ (¬ (a2 < (M_waiting u2 (Int32.toNatClampNeg r1))) → jn_X8_waits_30 Post a2 r1 u2)))))) ∧ (r1 = (-1 : Int32) → jn_X8_waits_35 Post a2 r1 (1 : Int32) u2)))
set_option maxHeartbeats 4000000 in
set_option maxRecDepth 20000 in
theorem c_X8_waits {a1 : Int32} {a2 : Int32} {u : MS} {Post : Int32 → MS → Prop} (hw : wp_X8_waits a1 a2 u Post) : xMet l yX8_waits cX8_waits 4 (some .int) 1 23 0 0 G K [.ref (L 0), .int a1, .int a2] (mw L K u T) (fun v ws' => ∃ (r : Int32) (u' : MS), v = some (.int r) ∧ ws' = (mw L K u' T) ∧ Post r u') := by
  refine xMet.intro (lv := [(0, .ref (L 0)), (1, .int a1), (2, .int a2)]) (by decide) rfl (Nat.le_of_ble_eq_true rfl) rfl (fun p e s m args below meth c A C => ?_)
  unfold wp_X8_waits at hw
  refine x_aload_n C dX8_waits_0 rfl rfl 0 rfl ?_
  refine x_iload_n C dX8_waits_1 rfl rfl 1 rfl ?_
  refine k_X8_find C i_775 ⟨Nat.le_of_ble_eq_true rfl, Nat.le_of_ble_eq_true rfl⟩ ⟨Nat.zero_le _, Nat.zero_le _⟩ (Nat.le_of_ble_eq_true rfl) hw dX8_waits_2 rfl (fun r1 u2 hw => ?_)
  refine x_istore_n C (lv' := [(3, .int r1), (0, .ref (L 0)), (1, .int a1), (2, .int a2)]) dX8_waits_5 rfl rfl (by decide) rfl ?_
  refine x_aload_n C dX8_waits_6 rfl rfl 1 rfl ?_
  refine x_iload_n C dX8_waits_7 rfl rfl 0 rfl ?_
  refine x_iconst C (v := (-1 : Int32)) dX8_waits_8 rfl (by decide) ?_
  refine x_icmp_ne C 16 dX8_waits_9 rfl (by decide) (fun c3 => ?_) (fun c3 => ?_)
  · have hw := hw.1 c3
    refine x_iload_n C dX8_waits_16 rfl rfl 3 rfl ?_
    refine x_if_lt C 30 dX8_waits_17 rfl (by decide) (fun c4 => ?_) (fun c4 => ?_)
    · have hw := hw.1 c4
      refine x_lv [1, 3, 0] rfl ?_
      exact t_X8_waits_30 C a2 r1 u2 hw
    · have hw := hw.2 c4
      refine x_iload_n C dX8_waits_20 rfl rfl 3 rfl ?_
      refine x_aload_n C dX8_waits_21 rfl rfl 1 rfl ?_
      refine gM0_waiting C i_638 dX8_waits_22 rfl ?_
      refine x_iload_n C dX8_waits_25 rfl rfl 0 rfl ?_
      obtain ⟨h5, hw⟩ := hw
      refine gM7_at C h5 dX8_waits_26 rfl ?_
      refine x_icmp_lt C 34 dX8_waits_27 rfl (by decide) (fun c6 => ?_) (fun c6 => ?_)
      · have hw := hw.1 c6
        refine x_iconst C (v := (0 : Int32)) dX8_waits_34 rfl (by decide) ?_
        refine x_lv [1, 3, 0] rfl ?_
        exact t_X8_waits_35 C a2 r1 (0 : Int32) u2 hw
      · have hw := hw.2 c6
        refine x_lv [1, 3, 0] rfl ?_
        exact t_X8_waits_30 C a2 r1 u2 hw
  · have hw := hw.2 c3
    refine x_iconst C (v := (1 : Int32)) dX8_waits_12 rfl (by decide) ?_
    refine x_goto C (tgt := 35) dX8_waits_13 rfl (by decide) ?_
    refine x_lv [1, 3, 0] rfl ?_
    exact t_X8_waits_35 C a2 r1 (1 : Int32) u2 hw
set_option maxRecDepth 20000 in
theorem k_X8_waits (C : xCx p s m args meth c G K A nL cc own ret) {a1 : Int32} {a2 : Int32} {u : MS} {idx : Nat} {rest : List Value} {Post : Int32 → MS → Prop} (hlink : Cond.methodLink own idx yX8_waits ∈ gw_tbl) (hR : 1 + 1 ≤ R.frames ∧ 8 + (4 + 11) + 23 ≤ R.locals) (hf : cells ≤ R.cells ∧ slots ≤ R.slots) (hW : (rest.map fun v => v.category).sum ≤ 8) (hw : wp_X8_waits a1 a2 u Post) (hdg : decode cc n = .ok (.invokevirtual idx, 3)) (hp : pc = n) (kk : ∀ (r : Int32) (u' : MS), Post r u' → xV p l e R s m args below meth c G A nL Q cells slots (mw L K u' T) (n + 3) lv (.int r :: rest)) : xV p l e R s m args below meth c G A nL Q cells slots (mw L K u T) pc lv (.int a2 :: .int a1 :: .ref (L 0) :: rest) :=
  x_callV C (As := [.int a1, .int a2]) (c_X8_waits hw) ⟨hlink, i_848, i_849, i_9, i_850⟩ 0 rfl rfl rfl (k := 2) (by decide +kernel) rfl hR hf hW rfl hdg hp (fun v ws' ⟨r, u', hv, hws, hPo⟩ _ => by subst hv; subst hws; exact kk r u' hPo)
def jn_X8_frame_20 (Post : Int32 → MS → Prop) (x1 : Int32) (t0 : Int32) (u : MS) : Prop :=
  ((x1 < 0 → Post (-1 : Int32) u) ∧ (¬ (x1 < 0) → ((x1 < ((M_frames u) - t0) → Post ((t0 + x1) - (t0 + x1) / (100 : Int32) * (100 : Int32)) u) ∧ (¬ (x1 < ((M_frames u) - t0)) → Post (-1 : Int32) u))))
set_option maxHeartbeats 4000000 in
set_option maxRecDepth 20000 in
theorem t_X8_frame_20 (C : xCx p s m args meth c G K A 3 cX8_frame RX8 (some .int)) {u0 : MS} {Post : Int32 → MS → Prop} (x1 : Int32) (t0 : Int32) (u : MS) (hw : jn_X8_frame_20  Post x1 t0 u) : xV p l e (xRm 0 0 0 0) s m args below meth c G A 3 (xQ G A (mw L K u0 T) (fun v ws' => ∃ (r : Int32) (u' : MS), v = some (.int r) ∧ ws' = (mw L K u' T) ∧ Post r u') below args s 0 0) 0 0 (mw L K u T) 20 [(0, .ref (L 0)), (1, .int x1)] [.int t0] := by
  unfold jn_X8_frame_20 at hw
  refine x_istore_n C (lv' := [(2, .int t0), (0, .ref (L 0)), (1, .int x1)]) dX8_frame_20 rfl rfl (by decide) rfl ?_
  refine x_iload_n C dX8_frame_21 rfl rfl 2 rfl ?_
  refine x_if_lt C 35 dX8_frame_22 rfl (by decide) (fun c1 => ?_) (fun c1 => ?_)
  · have hw := hw.1 c1
    refine x_iconst C (v := (-1 : Int32)) dX8_frame_35 rfl (by decide) ?_
    refine x_goto C (tgt := 45) dX8_frame_36 rfl (by decide) ?_
    exact x_iret C dX8_frame_45 rfl (mw_same _ _) ⟨_, _, rfl, rfl, hw⟩
  · have hw := hw.2 c1
    refine x_iload_n C dX8_frame_25 rfl rfl 2 rfl ?_
    refine x_aload_n C dX8_frame_26 rfl rfl 1 rfl ?_
    refine gM0_frames C i_640 dX8_frame_27 rfl ?_
    refine x_iload_n C dX8_frame_30 rfl rfl 0 rfl ?_
    refine x_isub C dX8_frame_31 rfl ?_
    refine x_icmp_lt C 39 dX8_frame_32 rfl (by decide) (fun c2 => ?_) (fun c2 => ?_)
    · have hw := hw.1 c2
      refine x_iload_n C dX8_frame_39 rfl rfl 0 rfl ?_
      refine x_iload_n C dX8_frame_40 rfl rfl 2 rfl ?_
      refine x_iadd C dX8_frame_41 rfl ?_
      refine x_bipush C (v := (100 : Int32)) dX8_frame_42 rfl (by decide) ?_
      refine x_irem C dX8_frame_44 rfl (by decide) ?_
      exact x_iret C dX8_frame_45 rfl (mw_same _ _) ⟨_, _, rfl, rfl, hw⟩
    · have hw := hw.2 c2
      refine x_iconst C (v := (-1 : Int32)) dX8_frame_35 rfl (by decide) ?_
      refine x_goto C (tgt := 45) dX8_frame_36 rfl (by decide) ?_
      exact x_iret C dX8_frame_45 rfl (mw_same _ _) ⟨_, _, rfl, rfl, hw⟩
def wp_X8_frame (a1 : Int32) (u : MS) (Post : Int32 → MS → Prop) : Prop :=
  (((100 : Int32) ≤ (M_frames u) → jn_X8_frame_20 Post a1 ((M_frames u) - (100 : Int32)) u) ∧ (¬ ((100 : Int32) ≤ (M_frames u)) → jn_X8_frame_20 Post a1 (0 : Int32) u))
set_option maxHeartbeats 4000000 in
set_option maxRecDepth 20000 in
theorem c_X8_frame {a1 : Int32} {u : MS} {Post : Int32 → MS → Prop} (hw : wp_X8_frame a1 u Post) : xMet l yX8_frame cX8_frame 3 (some .int) 0 0 0 0 G K [.ref (L 0), .int a1] (mw L K u T) (fun v ws' => ∃ (r : Int32) (u' : MS), v = some (.int r) ∧ ws' = (mw L K u' T) ∧ Post r u') := by
  refine xMet.intro (lv := [(0, .ref (L 0)), (1, .int a1)]) (by decide) rfl (Nat.le_of_ble_eq_true rfl) rfl (fun p e s m args below meth c A C => ?_)
  unfold wp_X8_frame at hw
  refine x_aload_n C dX8_frame_0 rfl rfl 0 rfl ?_
  refine gM0_frames C i_640 dX8_frame_1 rfl ?_
  refine x_bipush C (v := (100 : Int32)) dX8_frame_4 rfl (by decide) ?_
  refine x_icmp_ge C 13 dX8_frame_6 rfl (by decide) (fun c1 => ?_) (fun c1 => ?_)
  · have hw := hw.1 c1
    refine x_aload_n C dX8_frame_13 rfl rfl 0 rfl ?_
    refine gM0_frames C i_640 dX8_frame_14 rfl ?_
    refine x_bipush C (v := (100 : Int32)) dX8_frame_17 rfl (by decide) ?_
    refine x_isub C dX8_frame_19 rfl ?_
    refine x_lv [0, 1] rfl ?_
    exact t_X8_frame_20 C a1 ((M_frames u) - (100 : Int32)) u hw
  · have hw := hw.2 c1
    refine x_iconst C (v := (0 : Int32)) dX8_frame_9 rfl (by decide) ?_
    refine x_goto C (tgt := 20) dX8_frame_10 rfl (by decide) ?_
    refine x_lv [0, 1] rfl ?_
    exact t_X8_frame_20 C a1 (0 : Int32) u hw
set_option maxRecDepth 20000 in
theorem k_X8_frame (C : xCx p s m args meth c G K A nL cc own ret) {a1 : Int32} {u : MS} {idx : Nat} {rest : List Value} {Post : Int32 → MS → Prop} (hlink : Cond.methodLink own idx yX8_frame ∈ gw_tbl) (hR : 0 + 1 ≤ R.frames ∧ 8 + (3 + 11) + 0 ≤ R.locals) (hf : cells ≤ R.cells ∧ slots ≤ R.slots) (hW : (rest.map fun v => v.category).sum ≤ 8) (hw : wp_X8_frame a1 u Post) (hdg : decode cc n = .ok (.invokevirtual idx, 3)) (hp : pc = n) (kk : ∀ (r : Int32) (u' : MS), Post r u' → xV p l e R s m args below meth c G A nL Q cells slots (mw L K u' T) (n + 3) lv (.int r :: rest)) : xV p l e R s m args below meth c G A nL Q cells slots (mw L K u T) pc lv (.int a1 :: .ref (L 0) :: rest) :=
  x_callV C (As := [.int a1]) (c_X8_frame hw) ⟨hlink, i_857, i_s41, i_9, i_858⟩ 0 rfl rfl rfl (k := 1) (by decide +kernel) rfl hR hf hW rfl hdg hp (fun v ws' ⟨r, u', hv, hws, hPo⟩ _ => by subst hv; subst hws; exact kk r u' hPo)
def jn_X8_to_17 (Post : Int64 → MS → Prop) (x2 : Int32) (t0 : Int32) (u : MS) : Prop :=
  (∀ (u1 : MS), u1 = Ms_thrown u t0 → (((M_thrown u1) ≤ 0 → vp_in x2 100 ∧ (Post (M_frameTo u1 (Int32.toNatClampNeg x2)) u1)) ∧ (¬ ((M_thrown u1) ≤ 0) → Post (0 : Int64) u1)))
set_option maxHeartbeats 4000000 in
set_option maxRecDepth 20000 in
theorem t_X8_to_17 (C : xCx p s m args meth c G K A 3 cX8_to RX8 (some .long)) {u0 : MS} {Post : Int64 → MS → Prop} (x2 : Int32) (t0 : Int32) (u : MS) (hw : jn_X8_to_17  Post x2 t0 u) : xV p l e (xRm 1 22 0 0) s m args below meth c G A 3 (xQ G A (mw L K u0 T) (fun v ws' => ∃ (r : Int64) (u' : MS), v = some (.long r) ∧ ws' = (mw L K u' T) ∧ Post r u') below args s 0 0) 0 0 (mw L K u T) 17 [(0, .ref (L 0)), (2, .int x2)] [.int t0, .ref (L 0)] := by
  unfold jn_X8_to_17 at hw
  refine pM0_thrown C i_620 dX8_to_17 rfl (fun u1 e2 => ?_)
  have hw := hw u1 e2
  refine x_aload_n C dX8_to_20 rfl rfl 0 rfl ?_
  refine gM0_thrown C i_620 dX8_to_21 rfl ?_
  refine x_if_le C 31 dX8_to_24 rfl (by decide) (fun c3 => ?_) (fun c3 => ?_)
  · have hw := hw.1 c3
    refine x_aload_n C dX8_to_31 rfl rfl 0 rfl ?_
    refine gM0_frameTo C i_641 dX8_to_32 rfl ?_
    refine x_iload_n C dX8_to_35 rfl rfl 1 rfl ?_
    obtain ⟨h4, hw⟩ := hw
    refine gM9_at C h4 dX8_to_36 rfl ?_
    exact x_lret C dX8_to_37 rfl (mw_same _ _) ⟨_, _, rfl, rfl, hw⟩
  · have hw := hw.2 c3
    refine x_lconst C (v := (0 : Int64)) dX8_to_27 rfl (by decide) ?_
    refine x_goto C (tgt := 37) dX8_to_28 rfl (by decide) ?_
    exact x_lret C dX8_to_37 rfl (mw_same _ _) ⟨_, _, rfl, rfl, hw⟩
def wp_X8_to (a1 : Int32) (u : MS) (Post : Int64 → MS → Prop) : Prop :=
  wp_X8_frame a1 u (fun r1 u2 => ((¬ (r1 = (-1 : Int32)) → jn_X8_to_17 Post r1 (0 : Int32) u2) ∧ (r1 = (-1 : Int32) → jn_X8_to_17 Post r1 (1 : Int32) u2)))
set_option maxHeartbeats 4000000 in
set_option maxRecDepth 20000 in
theorem c_X8_to {a1 : Int32} {u : MS} {Post : Int64 → MS → Prop} (hw : wp_X8_to a1 u Post) : xMet l yX8_to cX8_to 3 (some .long) 1 22 0 0 G K [.ref (L 0), .int a1] (mw L K u T) (fun v ws' => ∃ (r : Int64) (u' : MS), v = some (.long r) ∧ ws' = (mw L K u' T) ∧ Post r u') := by
  refine xMet.intro (lv := [(0, .ref (L 0)), (1, .int a1)]) (by decide) rfl (Nat.le_of_ble_eq_true rfl) rfl (fun p e s m args below meth c A C => ?_)
  unfold wp_X8_to at hw
  refine x_aload_n C dX8_to_0 rfl rfl 0 rfl ?_
  refine x_iload_n C dX8_to_1 rfl rfl 1 rfl ?_
  refine k_X8_frame C i_855 ⟨Nat.le_of_ble_eq_true rfl, Nat.le_of_ble_eq_true rfl⟩ ⟨Nat.zero_le _, Nat.zero_le _⟩ (Nat.le_of_ble_eq_true rfl) hw dX8_to_2 rfl (fun r1 u2 hw => ?_)
  refine x_istore_n C (lv' := [(2, .int r1), (0, .ref (L 0)), (1, .int a1)]) dX8_to_5 rfl rfl (by decide) rfl ?_
  refine x_aload_n C dX8_to_6 rfl rfl 1 rfl ?_
  refine x_iload_n C dX8_to_7 rfl rfl 0 rfl ?_
  refine x_iconst C (v := (-1 : Int32)) dX8_to_8 rfl (by decide) ?_
  refine x_icmp_ne C 16 dX8_to_9 rfl (by decide) (fun c3 => ?_) (fun c3 => ?_)
  · have hw := hw.1 c3
    refine x_iconst C (v := (0 : Int32)) dX8_to_16 rfl (by decide) ?_
    refine x_lv [1, 0] rfl ?_
    exact t_X8_to_17 C r1 (0 : Int32) u2 hw
  · have hw := hw.2 c3
    refine x_iconst C (v := (1 : Int32)) dX8_to_12 rfl (by decide) ?_
    refine x_goto C (tgt := 17) dX8_to_13 rfl (by decide) ?_
    refine x_lv [1, 0] rfl ?_
    exact t_X8_to_17 C r1 (1 : Int32) u2 hw
set_option maxRecDepth 20000 in
theorem k_X8_to (C : xCx p s m args meth c G K A nL cc own ret) {a1 : Int32} {u : MS} {idx : Nat} {rest : List Value} {Post : Int64 → MS → Prop} (hlink : Cond.methodLink own idx yX8_to ∈ gw_tbl) (hR : 1 + 1 ≤ R.frames ∧ 8 + (3 + 11) + 22 ≤ R.locals) (hf : cells ≤ R.cells ∧ slots ≤ R.slots) (hW : (rest.map fun v => v.category).sum ≤ 8) (hw : wp_X8_to a1 u Post) (hdg : decode cc n = .ok (.invokevirtual idx, 3)) (hp : pc = n) (kk : ∀ (r : Int64) (u' : MS), Post r u' → xV p l e R s m args below meth c G A nL Q cells slots (mw L K u' T) (n + 3) lv (.long r :: rest)) : xV p l e R s m args below meth c G A nL Q cells slots (mw L K u T) pc lv (.int a1 :: .ref (L 0) :: rest) :=
  x_callV C (As := [.int a1]) (c_X8_to hw) ⟨hlink, i_852, i_853, i_9, i_854⟩ 0 rfl rfl rfl (k := 1) (by decide +kernel) rfl hR hf hW rfl hdg hp (fun v ws' ⟨r, u', hv, hws, hPo⟩ _ => by subst hv; subst hws; exact kk r u' hPo)
def jn_X8_data_17 (Post : Int32 → MS → Prop) (x2 : Int32) (t0 : Int32) (u : MS) : Prop :=
  (∀ (u1 : MS), u1 = Ms_thrown u t0 → (((M_thrown u1) ≤ 0 → vp_in x2 100 ∧ ((((M_framePacket u1 (Int32.toNatClampNeg x2)) = 0 → Post (M_frameData u1 (Int32.toNatClampNeg x2)) u1) ∧ (¬ ((M_framePacket u1 (Int32.toNatClampNeg x2)) = 0) → Post (-1 : Int32) u1)))) ∧ (¬ ((M_thrown u1) ≤ 0) → Post (0 : Int32) u1)))
set_option maxHeartbeats 4000000 in
set_option maxRecDepth 20000 in
theorem t_X8_data_17 (C : xCx p s m args meth c G K A 3 cX8_data RX8 (some .int)) {u0 : MS} {Post : Int32 → MS → Prop} (x2 : Int32) (t0 : Int32) (u : MS) (hw : jn_X8_data_17  Post x2 t0 u) : xV p l e (xRm 1 22 0 0) s m args below meth c G A 3 (xQ G A (mw L K u0 T) (fun v ws' => ∃ (r : Int32) (u' : MS), v = some (.int r) ∧ ws' = (mw L K u' T) ∧ Post r u') below args s 0 0) 0 0 (mw L K u T) 17 [(0, .ref (L 0)), (2, .int x2)] [.int t0, .ref (L 0)] := by
  unfold jn_X8_data_17 at hw
  refine pM0_thrown C i_620 dX8_data_17 rfl (fun u1 e2 => ?_)
  have hw := hw u1 e2
  refine x_aload_n C dX8_data_20 rfl rfl 0 rfl ?_
  refine gM0_thrown C i_620 dX8_data_21 rfl ?_
  refine x_if_le C 31 dX8_data_24 rfl (by decide) (fun c3 => ?_) (fun c3 => ?_)
  · have hw := hw.1 c3
    refine x_aload_n C dX8_data_31 rfl rfl 0 rfl ?_
    refine gM0_framePacket C i_643 dX8_data_32 rfl ?_
    refine x_iload_n C dX8_data_35 rfl rfl 1 rfl ?_
    obtain ⟨h4, hw⟩ := hw
    refine gM11_at C h4 dX8_data_36 rfl ?_
    refine x_if_eq C 44 dX8_data_37 rfl (by decide) (fun c5 => ?_) (fun c5 => ?_)
    · have hw := hw.1 c5
      refine x_aload_n C dX8_data_44 rfl rfl 0 rfl ?_
      refine gM0_frameData C i_642 dX8_data_45 rfl ?_
      refine x_iload_n C dX8_data_48 rfl rfl 1 rfl ?_
      refine gM10_at C h4 dX8_data_49 rfl ?_
      exact x_iret C dX8_data_50 rfl (mw_same _ _) ⟨_, _, rfl, rfl, hw⟩
    · have hw := hw.2 c5
      refine x_iconst C (v := (-1 : Int32)) dX8_data_40 rfl (by decide) ?_
      refine x_goto C (tgt := 50) dX8_data_41 rfl (by decide) ?_
      exact x_iret C dX8_data_50 rfl (mw_same _ _) ⟨_, _, rfl, rfl, hw⟩
  · have hw := hw.2 c3
    refine x_iconst C (v := (0 : Int32)) dX8_data_27 rfl (by decide) ?_
    refine x_goto C (tgt := 50) dX8_data_28 rfl (by decide) ?_
    exact x_iret C dX8_data_50 rfl (mw_same _ _) ⟨_, _, rfl, rfl, hw⟩
def wp_X8_data (a1 : Int32) (u : MS) (Post : Int32 → MS → Prop) : Prop :=
  wp_X8_frame a1 u (fun r1 u2 => ((¬ (r1 = (-1 : Int32)) → jn_X8_data_17 Post r1 (0 : Int32) u2) ∧ (r1 = (-1 : Int32) → jn_X8_data_17 Post r1 (1 : Int32) u2)))
set_option maxHeartbeats 4000000 in
set_option maxRecDepth 20000 in
theorem c_X8_data {a1 : Int32} {u : MS} {Post : Int32 → MS → Prop} (hw : wp_X8_data a1 u Post) : xMet l yX8_data cX8_data 3 (some .int) 1 22 0 0 G K [.ref (L 0), .int a1] (mw L K u T) (fun v ws' => ∃ (r : Int32) (u' : MS), v = some (.int r) ∧ ws' = (mw L K u' T) ∧ Post r u') := by
  refine xMet.intro (lv := [(0, .ref (L 0)), (1, .int a1)]) (by decide) rfl (Nat.le_of_ble_eq_true rfl) rfl (fun p e s m args below meth c A C => ?_)
  unfold wp_X8_data at hw
  refine x_aload_n C dX8_data_0 rfl rfl 0 rfl ?_
  refine x_iload_n C dX8_data_1 rfl rfl 1 rfl ?_
  refine k_X8_frame C i_855 ⟨Nat.le_of_ble_eq_true rfl, Nat.le_of_ble_eq_true rfl⟩ ⟨Nat.zero_le _, Nat.zero_le _⟩ (Nat.le_of_ble_eq_true rfl) hw dX8_data_2 rfl (fun r1 u2 hw => ?_)
  refine x_istore_n C (lv' := [(2, .int r1), (0, .ref (L 0)), (1, .int a1)]) dX8_data_5 rfl rfl (by decide) rfl ?_
  refine x_aload_n C dX8_data_6 rfl rfl 1 rfl ?_
  refine x_iload_n C dX8_data_7 rfl rfl 0 rfl ?_
  refine x_iconst C (v := (-1 : Int32)) dX8_data_8 rfl (by decide) ?_
  refine x_icmp_ne C 16 dX8_data_9 rfl (by decide) (fun c3 => ?_) (fun c3 => ?_)
  · have hw := hw.1 c3
    refine x_iconst C (v := (0 : Int32)) dX8_data_16 rfl (by decide) ?_
    refine x_lv [1, 0] rfl ?_
    exact t_X8_data_17 C r1 (0 : Int32) u2 hw
  · have hw := hw.2 c3
    refine x_iconst C (v := (1 : Int32)) dX8_data_12 rfl (by decide) ?_
    refine x_goto C (tgt := 17) dX8_data_13 rfl (by decide) ?_
    refine x_lv [1, 0] rfl ?_
    exact t_X8_data_17 C r1 (1 : Int32) u2 hw
set_option maxRecDepth 20000 in
theorem k_X8_data (C : xCx p s m args meth c G K A nL cc own ret) {a1 : Int32} {u : MS} {idx : Nat} {rest : List Value} {Post : Int32 → MS → Prop} (hlink : Cond.methodLink own idx yX8_data ∈ gw_tbl) (hR : 1 + 1 ≤ R.frames ∧ 8 + (3 + 11) + 22 ≤ R.locals) (hf : cells ≤ R.cells ∧ slots ≤ R.slots) (hW : (rest.map fun v => v.category).sum ≤ 8) (hw : wp_X8_data a1 u Post) (hdg : decode cc n = .ok (.invokevirtual idx, 3)) (hp : pc = n) (kk : ∀ (r : Int32) (u' : MS), Post r u' → xV p l e R s m args below meth c G A nL Q cells slots (mw L K u' T) (n + 3) lv (.int r :: rest)) : xV p l e R s m args below meth c G A nL Q cells slots (mw L K u T) pc lv (.int a1 :: .ref (L 0) :: rest) :=
  x_callV C (As := [.int a1]) (c_X8_data hw) ⟨hlink, i_860, i_861, i_9, i_862⟩ 0 rfl rfl rfl (k := 1) (by decide +kernel) rfl hR hf hW rfl hdg hp (fun v ws' ⟨r, u', hv, hws, hPo⟩ _ => by subst hv; subst hws; exact kk r u' hPo)
def jn_X8_out_36 (Post : Int32 → MS → Prop) (x2 : Int32) (x3 : Int32) (t0 : Int32) (u : MS) : Prop :=
  (∀ (u1 : MS), u1 = Ms_thrown u t0 → (((M_thrown u1) ≤ 0 → vp_in (((28 : Int32) * x3) + x2) 2800 ∧ (Post (M_frameBytes u1 (Int32.toNatClampNeg (((28 : Int32) * x3) + x2))) u1)) ∧ (¬ ((M_thrown u1) ≤ 0) → Post (0 : Int32) u1)))
set_option maxHeartbeats 4000000 in
set_option maxRecDepth 20000 in
theorem t_X8_out_36 (C : xCx p s m args meth c G K A 4 cX8_out RX8 (some .int)) {u0 : MS} {Post : Int32 → MS → Prop} (x2 : Int32) (x3 : Int32) (t0 : Int32) (u : MS) (hw : jn_X8_out_36  Post x2 x3 t0 u) : xV p l e (xRm 1 22 0 0) s m args below meth c G A 4 (xQ G A (mw L K u0 T) (fun v ws' => ∃ (r : Int32) (u' : MS), v = some (.int r) ∧ ws' = (mw L K u' T) ∧ Post r u') below args s 0 0) 0 0 (mw L K u T) 36 [(0, .ref (L 0)), (2, .int x2), (3, .int x3)] [.int t0, .ref (L 0)] := by
  unfold jn_X8_out_36 at hw
  refine pM0_thrown C i_620 dX8_out_36 rfl (fun u1 e2 => ?_)
  have hw := hw u1 e2
  refine x_aload_n C dX8_out_39 rfl rfl 0 rfl ?_
  refine gM0_thrown C i_620 dX8_out_40 rfl ?_
  refine x_if_le C 50 dX8_out_43 rfl (by decide) (fun c3 => ?_) (fun c3 => ?_)
  · have hw := hw.1 c3
    refine x_aload_n C dX8_out_50 rfl rfl 0 rfl ?_
    refine gM0_frameBytes C i_644 dX8_out_51 rfl ?_
    refine x_bipush C (v := (28 : Int32)) dX8_out_54 rfl (by decide) ?_
    refine x_iload_n C dX8_out_56 rfl rfl 2 rfl ?_
    refine x_imul C dX8_out_57 rfl ?_
    refine x_iload_n C dX8_out_58 rfl rfl 1 rfl ?_
    refine x_iadd C dX8_out_59 rfl ?_
    obtain ⟨h4, hw⟩ := hw
    refine gM12_at C h4 dX8_out_60 rfl ?_
    exact x_iret C dX8_out_61 rfl (mw_same _ _) ⟨_, _, rfl, rfl, hw⟩
  · have hw := hw.2 c3
    refine x_iconst C (v := (0 : Int32)) dX8_out_46 rfl (by decide) ?_
    refine x_goto C (tgt := 61) dX8_out_47 rfl (by decide) ?_
    exact x_iret C dX8_out_61 rfl (mw_same _ _) ⟨_, _, rfl, rfl, hw⟩
def jn_X8_out_31 (Post : Int32 → MS → Prop) (x2 : Int32) (x3 : Int32) (u : MS) : Prop :=
  jn_X8_out_36 Post x2 x3 (1 : Int32) u
set_option maxHeartbeats 4000000 in
set_option maxRecDepth 20000 in
theorem t_X8_out_31 (C : xCx p s m args meth c G K A 4 cX8_out RX8 (some .int)) {u0 : MS} {Post : Int32 → MS → Prop} (x2 : Int32) (x3 : Int32) (u : MS) (hw : jn_X8_out_31  Post x2 x3 u) : xV p l e (xRm 1 22 0 0) s m args below meth c G A 4 (xQ G A (mw L K u0 T) (fun v ws' => ∃ (r : Int32) (u' : MS), v = some (.int r) ∧ ws' = (mw L K u' T) ∧ Post r u') below args s 0 0) 0 0 (mw L K u T) 31 [(0, .ref (L 0)), (2, .int x2), (3, .int x3)] [.ref (L 0)] := by
  unfold jn_X8_out_31 at hw
  refine x_iconst C (v := (1 : Int32)) dX8_out_31 rfl (by decide) ?_
  refine x_goto C (tgt := 36) dX8_out_32 rfl (by decide) ?_
  refine x_lv [0, 1, 2] rfl ?_
  exact t_X8_out_36 C x2 x3 (1 : Int32) u hw
def wp_X8_out (a1 : Int32) (a2 : Int32) (u : MS) (Post : Int32 → MS → Prop) : Prop :=
  wp_X8_frame a1 u (fun r1 u2 => ((r1 = (-1 : Int32) → jn_X8_out_31 Post a2 r1 u2) ∧ (¬ (r1 = (-1 : Int32)) → vp_in r1 100 ∧ ((((M_framePacket u2 (Int32.toNatClampNeg r1)) = 0 → jn_X8_out_31 Post a2 r1 u2) ∧ (¬ ((M_framePacket u2 (Int32.toNatClampNeg r1)) = 0) → ((a2 < 0 → jn_X8_out_31 Post a2 r1 u2) ∧ (¬ (a2 < 0) → ((a2 < (28 : Int32) → jn_X8_out_36 Post a2 r1 (0 : Int32) u2) ∧ (¬ (a2 < (28 : Int32)) → jn_X8_out_31 Post a2 r1 u2))))))))))
set_option maxHeartbeats 4000000 in
set_option maxRecDepth 20000 in
theorem c_X8_out {a1 : Int32} {a2 : Int32} {u : MS} {Post : Int32 → MS → Prop} (hw : wp_X8_out a1 a2 u Post) : xMet l yX8_out cX8_out 4 (some .int) 1 22 0 0 G K [.ref (L 0), .int a1, .int a2] (mw L K u T) (fun v ws' => ∃ (r : Int32) (u' : MS), v = some (.int r) ∧ ws' = (mw L K u' T) ∧ Post r u') := by
  refine xMet.intro (lv := [(0, .ref (L 0)), (1, .int a1), (2, .int a2)]) (by decide) rfl (Nat.le_of_ble_eq_true rfl) rfl (fun p e s m args below meth c A C => ?_)
  unfold wp_X8_out at hw
  refine x_aload_n C dX8_out_0 rfl rfl 0 rfl ?_
  refine x_iload_n C dX8_out_1 rfl rfl 1 rfl ?_
  refine k_X8_frame C i_855 ⟨Nat.le_of_ble_eq_true rfl, Nat.le_of_ble_eq_true rfl⟩ ⟨Nat.zero_le _, Nat.zero_le _⟩ (Nat.le_of_ble_eq_true rfl) hw dX8_out_2 rfl (fun r1 u2 hw => ?_)
  refine x_istore_n C (lv' := [(3, .int r1), (0, .ref (L 0)), (1, .int a1), (2, .int a2)]) dX8_out_5 rfl rfl (by decide) rfl ?_
  refine x_aload_n C dX8_out_6 rfl rfl 1 rfl ?_
  refine x_iload_n C dX8_out_7 rfl rfl 0 rfl ?_
  refine x_iconst C (v := (-1 : Int32)) dX8_out_8 rfl (by decide) ?_
  refine x_icmp_eq C 31 dX8_out_9 rfl (by decide) (fun c3 => ?_) (fun c3 => ?_)
  · have hw := hw.1 c3
    refine x_lv [1, 3, 0] rfl ?_
    exact t_X8_out_31 C a2 r1 u2 hw
  · have hw := hw.2 c3
    refine x_aload_n C dX8_out_12 rfl rfl 1 rfl ?_
    refine gM0_framePacket C i_643 dX8_out_13 rfl ?_
    refine x_iload_n C dX8_out_16 rfl rfl 0 rfl ?_
    obtain ⟨h4, hw⟩ := hw
    refine gM11_at C h4 dX8_out_17 rfl ?_
    refine x_if_eq C 31 dX8_out_18 rfl (by decide) (fun c5 => ?_) (fun c5 => ?_)
    · have hw := hw.1 c5
      refine x_lv [1, 3, 0] rfl ?_
      exact t_X8_out_31 C a2 r1 u2 hw
    · have hw := hw.2 c5
      refine x_iload_n C dX8_out_21 rfl rfl 3 rfl ?_
      refine x_if_lt C 31 dX8_out_22 rfl (by decide) (fun c6 => ?_) (fun c6 => ?_)
      · have hw := hw.1 c6
        refine x_lv [1, 3, 0] rfl ?_
        exact t_X8_out_31 C a2 r1 u2 hw
      · have hw := hw.2 c6
        refine x_iload_n C dX8_out_25 rfl rfl 3 rfl ?_
        refine x_bipush C (v := (28 : Int32)) dX8_out_26 rfl (by decide) ?_
        refine x_icmp_lt C 35 dX8_out_28 rfl (by decide) (fun c7 => ?_) (fun c7 => ?_)
        · have hw := hw.1 c7
          refine x_iconst C (v := (0 : Int32)) dX8_out_35 rfl (by decide) ?_
          refine x_lv [1, 3, 0] rfl ?_
          exact t_X8_out_36 C a2 r1 (0 : Int32) u2 hw
        · have hw := hw.2 c7
          refine x_lv [1, 3, 0] rfl ?_
          exact t_X8_out_31 C a2 r1 u2 hw
set_option maxRecDepth 20000 in
theorem k_X8_out (C : xCx p s m args meth c G K A nL cc own ret) {a1 : Int32} {a2 : Int32} {u : MS} {idx : Nat} {rest : List Value} {Post : Int32 → MS → Prop} (hlink : Cond.methodLink own idx yX8_out ∈ gw_tbl) (hR : 1 + 1 ≤ R.frames ∧ 8 + (4 + 11) + 22 ≤ R.locals) (hf : cells ≤ R.cells ∧ slots ≤ R.slots) (hW : (rest.map fun v => v.category).sum ≤ 8) (hw : wp_X8_out a1 a2 u Post) (hdg : decode cc n = .ok (.invokevirtual idx, 3)) (hp : pc = n) (kk : ∀ (r : Int32) (u' : MS), Post r u' → xV p l e R s m args below meth c G A nL Q cells slots (mw L K u' T) (n + 3) lv (.int r :: rest)) : xV p l e R s m args below meth c G A nL Q cells slots (mw L K u T) pc lv (.int a2 :: .int a1 :: .ref (L 0) :: rest) :=
  x_callV C (As := [.int a1, .int a2]) (c_X8_out hw) ⟨hlink, i_864, i_865, i_9, i_866⟩ 0 rfl rfl rfl (k := 2) (by decide +kernel) rfl hR hf hW rfl hdg hp (fun v ws' ⟨r, u', hv, hws, hPo⟩ _ => by subst hv; subst hws; exact kk r u' hPo)
def jn_X8_lost_41 (Post : Int32 → MS → Prop) (x1 : Int32) (x2 : Int32) (t0 : Int32) (u : MS) : Prop :=
  (∀ (u1 : MS), u1 = Ms_thrown u t0 → (((M_thrown u1) ≤ 0 → vp_in ((x2 + x1) - (x2 + x1) / (100 : Int32) * (100 : Int32)) 100 ∧ (Post (M_lostNumbers u1 (Int32.toNatClampNeg ((x2 + x1) - (x2 + x1) / (100 : Int32) * (100 : Int32)))) u1)) ∧ (¬ ((M_thrown u1) ≤ 0) → Post (0 : Int32) u1)))
set_option maxHeartbeats 4000000 in
set_option maxRecDepth 20000 in
theorem t_X8_lost_41 (C : xCx p s m args meth c G K A 3 cX8_lost RX8 (some .int)) {u0 : MS} {Post : Int32 → MS → Prop} (x1 : Int32) (x2 : Int32) (t0 : Int32) (u : MS) (hw : jn_X8_lost_41  Post x1 x2 t0 u) : xV p l e (xRm 0 0 0 0) s m args below meth c G A 3 (xQ G A (mw L K u0 T) (fun v ws' => ∃ (r : Int32) (u' : MS), v = some (.int r) ∧ ws' = (mw L K u' T) ∧ Post r u') below args s 0 0) 0 0 (mw L K u T) 41 [(0, .ref (L 0)), (1, .int x1), (2, .int x2)] [.int t0, .ref (L 0)] := by
  unfold jn_X8_lost_41 at hw
  refine pM0_thrown C i_620 dX8_lost_41 rfl (fun u1 e2 => ?_)
  have hw := hw u1 e2
  refine x_aload_n C dX8_lost_44 rfl rfl 0 rfl ?_
  refine gM0_thrown C i_620 dX8_lost_45 rfl ?_
  refine x_if_le C 55 dX8_lost_48 rfl (by decide) (fun c3 => ?_) (fun c3 => ?_)
  · have hw := hw.1 c3
    refine x_aload_n C dX8_lost_55 rfl rfl 0 rfl ?_
    refine gM0_lostNumbers C i_646 dX8_lost_56 rfl ?_
    refine x_iload_n C dX8_lost_59 rfl rfl 2 rfl ?_
    refine x_iload_n C dX8_lost_60 rfl rfl 1 rfl ?_
    refine x_iadd C dX8_lost_61 rfl ?_
    refine x_bipush C (v := (100 : Int32)) dX8_lost_62 rfl (by decide) ?_
    refine x_irem C dX8_lost_64 rfl (by decide) ?_
    obtain ⟨h4, hw⟩ := hw
    refine gM13_at C h4 dX8_lost_65 rfl ?_
    exact x_iret C dX8_lost_66 rfl (mw_same _ _) ⟨_, _, rfl, rfl, hw⟩
  · have hw := hw.2 c3
    refine x_iconst C (v := (0 : Int32)) dX8_lost_51 rfl (by decide) ?_
    refine x_goto C (tgt := 66) dX8_lost_52 rfl (by decide) ?_
    exact x_iret C dX8_lost_66 rfl (mw_same _ _) ⟨_, _, rfl, rfl, hw⟩
def jn_X8_lost_36 (Post : Int32 → MS → Prop) (x1 : Int32) (x2 : Int32) (u : MS) : Prop :=
  jn_X8_lost_41 Post x1 x2 (1 : Int32) u
set_option maxHeartbeats 4000000 in
set_option maxRecDepth 20000 in
theorem t_X8_lost_36 (C : xCx p s m args meth c G K A 3 cX8_lost RX8 (some .int)) {u0 : MS} {Post : Int32 → MS → Prop} (x1 : Int32) (x2 : Int32) (u : MS) (hw : jn_X8_lost_36  Post x1 x2 u) : xV p l e (xRm 0 0 0 0) s m args below meth c G A 3 (xQ G A (mw L K u0 T) (fun v ws' => ∃ (r : Int32) (u' : MS), v = some (.int r) ∧ ws' = (mw L K u' T) ∧ Post r u') below args s 0 0) 0 0 (mw L K u T) 36 [(0, .ref (L 0)), (1, .int x1), (2, .int x2)] [.ref (L 0)] := by
  unfold jn_X8_lost_36 at hw
  refine x_iconst C (v := (1 : Int32)) dX8_lost_36 rfl (by decide) ?_
  refine x_goto C (tgt := 41) dX8_lost_37 rfl (by decide) ?_
  refine x_lv [0, 1, 2] rfl ?_
  exact t_X8_lost_41 C x1 x2 (1 : Int32) u hw
def jn_X8_lost_20 (Post : Int32 → MS → Prop) (x1 : Int32) (t0 : Int32) (u : MS) : Prop :=
  ((x1 < 0 → jn_X8_lost_36 Post x1 t0 u) ∧ (¬ (x1 < 0) → ((x1 < ((M_lost u) - t0) → jn_X8_lost_41 Post x1 t0 (0 : Int32) u) ∧ (¬ (x1 < ((M_lost u) - t0)) → jn_X8_lost_36 Post x1 t0 u))))
set_option maxHeartbeats 4000000 in
set_option maxRecDepth 20000 in
theorem t_X8_lost_20 (C : xCx p s m args meth c G K A 3 cX8_lost RX8 (some .int)) {u0 : MS} {Post : Int32 → MS → Prop} (x1 : Int32) (t0 : Int32) (u : MS) (hw : jn_X8_lost_20  Post x1 t0 u) : xV p l e (xRm 0 0 0 0) s m args below meth c G A 3 (xQ G A (mw L K u0 T) (fun v ws' => ∃ (r : Int32) (u' : MS), v = some (.int r) ∧ ws' = (mw L K u' T) ∧ Post r u') below args s 0 0) 0 0 (mw L K u T) 20 [(0, .ref (L 0)), (1, .int x1)] [.int t0] := by
  unfold jn_X8_lost_20 at hw
  refine x_istore_n C (lv' := [(2, .int t0), (0, .ref (L 0)), (1, .int x1)]) dX8_lost_20 rfl rfl (by decide) rfl ?_
  refine x_aload_n C dX8_lost_21 rfl rfl 1 rfl ?_
  refine x_iload_n C dX8_lost_22 rfl rfl 2 rfl ?_
  refine x_if_lt C 36 dX8_lost_23 rfl (by decide) (fun c1 => ?_) (fun c1 => ?_)
  · have hw := hw.1 c1
    refine x_lv [1, 2, 0] rfl ?_
    exact t_X8_lost_36 C x1 t0 u hw
  · have hw := hw.2 c1
    refine x_iload_n C dX8_lost_26 rfl rfl 2 rfl ?_
    refine x_aload_n C dX8_lost_27 rfl rfl 1 rfl ?_
    refine gM0_lost C i_645 dX8_lost_28 rfl ?_
    refine x_iload_n C dX8_lost_31 rfl rfl 0 rfl ?_
    refine x_isub C dX8_lost_32 rfl ?_
    refine x_icmp_lt C 40 dX8_lost_33 rfl (by decide) (fun c2 => ?_) (fun c2 => ?_)
    · have hw := hw.1 c2
      refine x_iconst C (v := (0 : Int32)) dX8_lost_40 rfl (by decide) ?_
      refine x_lv [1, 2, 0] rfl ?_
      exact t_X8_lost_41 C x1 t0 (0 : Int32) u hw
    · have hw := hw.2 c2
      refine x_lv [1, 2, 0] rfl ?_
      exact t_X8_lost_36 C x1 t0 u hw
def wp_X8_lost (a1 : Int32) (u : MS) (Post : Int32 → MS → Prop) : Prop :=
  (((100 : Int32) ≤ (M_lost u) → jn_X8_lost_20 Post a1 ((M_lost u) - (100 : Int32)) u) ∧ (¬ ((100 : Int32) ≤ (M_lost u)) → jn_X8_lost_20 Post a1 (0 : Int32) u))
set_option maxHeartbeats 4000000 in
set_option maxRecDepth 20000 in
theorem c_X8_lost {a1 : Int32} {u : MS} {Post : Int32 → MS → Prop} (hw : wp_X8_lost a1 u Post) : xMet l yX8_lost cX8_lost 3 (some .int) 0 0 0 0 G K [.ref (L 0), .int a1] (mw L K u T) (fun v ws' => ∃ (r : Int32) (u' : MS), v = some (.int r) ∧ ws' = (mw L K u' T) ∧ Post r u') := by
  refine xMet.intro (lv := [(0, .ref (L 0)), (1, .int a1)]) (by decide) rfl (Nat.le_of_ble_eq_true rfl) rfl (fun p e s m args below meth c A C => ?_)
  unfold wp_X8_lost at hw
  refine x_aload_n C dX8_lost_0 rfl rfl 0 rfl ?_
  refine gM0_lost C i_645 dX8_lost_1 rfl ?_
  refine x_bipush C (v := (100 : Int32)) dX8_lost_4 rfl (by decide) ?_
  refine x_icmp_ge C 13 dX8_lost_6 rfl (by decide) (fun c1 => ?_) (fun c1 => ?_)
  · have hw := hw.1 c1
    refine x_aload_n C dX8_lost_13 rfl rfl 0 rfl ?_
    refine gM0_lost C i_645 dX8_lost_14 rfl ?_
    refine x_bipush C (v := (100 : Int32)) dX8_lost_17 rfl (by decide) ?_
    refine x_isub C dX8_lost_19 rfl ?_
    refine x_lv [0, 1] rfl ?_
    exact t_X8_lost_20 C a1 ((M_lost u) - (100 : Int32)) u hw
  · have hw := hw.2 c1
    refine x_iconst C (v := (0 : Int32)) dX8_lost_9 rfl (by decide) ?_
    refine x_goto C (tgt := 20) dX8_lost_10 rfl (by decide) ?_
    refine x_lv [0, 1] rfl ?_
    exact t_X8_lost_20 C a1 (0 : Int32) u hw
set_option maxRecDepth 20000 in
theorem k_X8_lost (C : xCx p s m args meth c G K A nL cc own ret) {a1 : Int32} {u : MS} {idx : Nat} {rest : List Value} {Post : Int32 → MS → Prop} (hlink : Cond.methodLink own idx yX8_lost ∈ gw_tbl) (hR : 0 + 1 ≤ R.frames ∧ 8 + (3 + 11) + 0 ≤ R.locals) (hf : cells ≤ R.cells ∧ slots ≤ R.slots) (hW : (rest.map fun v => v.category).sum ≤ 8) (hw : wp_X8_lost a1 u Post) (hdg : decode cc n = .ok (.invokevirtual idx, 3)) (hp : pc = n) (kk : ∀ (r : Int32) (u' : MS), Post r u' → xV p l e R s m args below meth c G A nL Q cells slots (mw L K u' T) (n + 3) lv (.int r :: rest)) : xV p l e R s m args below meth c G A nL Q cells slots (mw L K u T) pc lv (.int a1 :: .ref (L 0) :: rest) :=
  x_callV C (As := [.int a1]) (c_X8_lost hw) ⟨hlink, i_868, i_869, i_9, i_870⟩ 0 rfl rfl rfl (k := 1) (by decide +kernel) rfl hR hf hW rfl hdg hp (fun v ws' ⟨r, u', hv, hws, hPo⟩ _ => by subst hv; subst hws; exact kk r u' hPo)
end XWK
