/-! the law: the skeleton's head as printed, then the loop -/
def R_law : String := "NeighbourDeskLaw"
def lw_P (b : Addr) (xs : List Int32) (args : Array Value) (s : State) : Prop := args = #[.ref b] ∧ s.IntsAt b xs ∧ xs.length ≤ 387 ∧ (Jvm.Cond.and given_1 narrow_1).before args s = true
def lw_Q (_ : Array Value) (s : State) (o : Outcome) (t : State) : Prop := o = .returned (some (.int 1)) ∧ Framed s o t [] 600096 7301352
def lw_Z (below : List Frame) (a : Array Value) (s : State) : State → Prop := fun t => ∃ o, t.status = .running ∧ Ended t below o ∧ lw_Q a s o t
/-- the law's own end, with 1 on the stack, nothing written that was there before, its room as the claim has it -/
theorem lw_ret {p : Program} {l : Launch} {e : Env} {s : State} {m : MethodId} {below : List Frame} {meth : Method} {c : Code} {b : Nat} (hx : p.tables.exec = Jvm.exec) (hb : c.code = code) (hr : meth.sig.returnType = ret) (hlocks : meth.locks = false) {pc : Nat} {H : Heap} {ls : Array Slot} (hdg : decode code pc = .ok (.ireturn, 1)) : W p l e room_1 s m #[Value.ref b] below meth c H [] 600096 7301352 (lw_Z below #[Value.ref b] s) (F0 m pc ls [.int 1]) := by
  intro T hT X
  obtain ⟨fs, hret, hrun, hended, hW, hframe⟩ := X.leave (v := some (.int 1)) (hlocks := hlocks) (fun h => by rw [hr] at h; cases h)
  have hmeth' : T.vm.method? m = some meth := X.method'
  refine ⟨T.setFrames fs, ?_, .returned (some (.int 1)), hrun, hended, rfl, ⟨_, rfl⟩, hW, hframe⟩
  jvm_step X.here [X.here.top, hx, hb, hdg, hmeth', hr, ret, narrow_b1]
  (try refine ⟨rfl, ?_⟩); (try refine ⟨rfl, ?_⟩)
  first | (intro acts; rw [hret _ acts rfl rfl rfl]) | rw [hret _ _ rfl rfl rfl]
  exact Steps.refl _
/-- what holds at the law's entry: the machine, the code, the tables' words (any of lw_tbl by 'hts w (by decide +kernel)'), the script of L ints xs at the cell b, what the Statement gives of the start (any of its parts by flat_of_before) -/
def lw_At (p : Program) (s : State) (m : MethodId) (meth : Method) (c : Code) (b L : Nat) (xs : Nat → Int32) : Prop :=
  p.tables.exec = Jvm.exec ∧ c.code = code ∧ meth.sig.returnType = ret ∧ c.maxLocals = 8 ∧ s.vm.findClass R_law = some m.cls ∧ (∀ w ∈ lw_tbl, w.before #[Value.ref b] s = true) ∧ va_X b L xs s s.heap ∧ b < s.heap.size ∧ meth.locks = false ∧ (Jvm.Cond.and given_1 narrow_1).before #[Value.ref b] s = true
section XLW
variable {p : Program} {l : Launch} {e : Env} {s : State} {m : MethodId} {below : List Frame} {meth : Method} {c : Code} {G : va_G} {K : Nat → ClassId} {L M : Nat → Nat} {cap b L9 : Nat} {xs9 : Nat → Int32} {cells slots pc n : Nat} {lv : List (Nat × Value)} {st : List Value}
theorem x_perm {A : Nat → Prop} {ws ws' : va_W} {H : Heap} (h : ws.Perm ws') (hP : va_P G vwCl ws H) (hD : va_D A ws) : va_P G vwCl ws' H ∧ va_D A ws' := by
  have hn : (ws.map Prod.fst).Nodup := by
    rw [List.Nodup, List.pairwise_iff_getElem]
    intro i j hi hj hij heq
    simp only [List.length_map] at hi hj
    simp only [List.getElem_map] at heq
    have := hD.1 i j ws[i] ws[j] (List.getElem?_eq_getElem hi) (List.getElem?_eq_getElem hj) heq
    omega
  have hn' : (ws'.map Prod.fst).Nodup := (h.map Prod.fst).nodup hn
  refine ⟨fun k q hk => ?_, ⟨fun i j x y hx hy hxy => ?_, fun k q hk => ?_⟩⟩
  · obtain ⟨i, hi⟩ := List.getElem?_of_mem (h.mem_iff.mpr (List.mem_of_getElem? hk))
    exact hP i q hi
  · have hx' : (ws'.map Prod.fst)[i]? = some x.1 := by rw [List.getElem?_map, hx]; rfl
    have hy' : (ws'.map Prod.fst)[j]? = some x.1 := by rw [List.getElem?_map, hy, hxy]; rfl
    have hi := (List.getElem?_eq_some_iff.mp hx').1
    exact (List.getElem?_inj hi hn').mp (hx'.trans hy'.symm)
  · obtain ⟨i, hi⟩ := List.getElem?_of_mem (h.mem_iff.mpr (List.mem_of_getElem? hk))
    exact hD.2 i q hi
theorem x_permV {R : Room} {args : Array Value} {A : Nat → Prop} {nL : Nat} {Q : State → Prop} {ws ws' : va_W} (h : ws.Perm ws') (kk : xV p l e R s m args below meth c G A nL Q cells slots ws' pc lv st) : xV p l e R s m args below meth c G A nL Q cells slots ws pc lv st := fun H locs ls hP hD hS hl => kk H locs ls (x_perm h hP hD).1 (x_perm h hP hD).2 hS hl
theorem xw_app (u : XS) (T : va_W) : xw L K cap u T = xw L K cap u [] ++ T := by simp [xw]
theorem mw_app (v : MS) (T : va_W) : mw M K v T = mw M K v [] ++ T := by simp [mw]
theorem x_toM {u : XS} {v : MS} (kk : xV p l e room_1 s m #[Value.ref b] below meth c G (fun q : Nat => s.heap.size ≤ q) 8 (lw_Z below #[Value.ref b] s) cells slots (mw M K v (xw L K cap u [])) pc lv st) : xV p l e room_1 s m #[Value.ref b] below meth c G (fun q : Nat => s.heap.size ≤ q) 8 (lw_Z below #[Value.ref b] s) cells slots (xw L K cap u (mw M K v [])) pc lv st := by
  refine x_permV ?_ kk
  rw [mw_app v (xw L K cap u []), xw_app u (mw M K v [])]
  exact List.perm_append_comm
theorem x_toX {u : XS} {v : MS} (kk : xV p l e room_1 s m #[Value.ref b] below meth c G (fun q : Nat => s.heap.size ≤ q) 8 (lw_Z below #[Value.ref b] s) cells slots (xw L K cap u (mw M K v [])) pc lv st) : xV p l e room_1 s m #[Value.ref b] below meth c G (fun q : Nat => s.heap.size ≤ q) 8 (lw_Z below #[Value.ref b] s) cells slots (mw M K v (xw L K cap u [])) pc lv st := by
  refine x_permV ?_ kk
  rw [mw_app v (xw L K cap u []), xw_app u (mw M K v [])]
  exact List.perm_append_comm
theorem xL_ret (C : xCx p s m #[Value.ref b] meth c G K (fun q : Nat => s.heap.size ≤ q) 8 code R_law ret) (hgv : True) {ws : va_W} (hdg : decode code n = .ok (.ireturn, 1)) (hp : pc = n) (hc : cells ≤ 600096) (hs : slots ≤ 7301352) : xV p l e room_1 s m #[Value.ref b] below meth c G (fun q : Nat => s.heap.size ≤ q) 8 (lw_Z below #[Value.ref b] s) cells slots ws pc lv [.int (1 : Int32)] := by
  obtain ⟨hx, hb, hr, hlo, hml, hown, hts, hK, hA⟩ := C
  subst hp
  intro H locs ls hP hD hS hl
  refine va_forget (fun q hq => hS.2.2 q hq) ?_
  refine W.widen hc hs ?_
  exact lw_ret hx hb hr hlo hdg
theorem x_out0_17 {x : Int32} (h0 : ¬ x = 0) (h1 : ¬ x = 1) (h2 : ¬ x = 2) (h3 : ¬ x = 3) (h4 : ¬ x = 4) (h5 : ¬ x = 5) (h6 : ¬ x = 6) (h7 : ¬ x = 7) (h8 : ¬ x = 8) (h9 : ¬ x = 9) (h10 : ¬ x = 10) (h11 : ¬ x = 11) (h12 : ¬ x = 12) (h13 : ¬ x = 13) (h14 : ¬ x = 14) (h15 : ¬ x = 15) (h16 : ¬ x = 16) (h17 : ¬ x = 17) : x.toInt < 0 ∨ 17 < x.toInt := by
  have g0 : x.toInt ≠ 0 := fun q9 => h0 (Int32.toInt_inj.mp (by rw [q9]; rfl))
  have g1 : x.toInt ≠ 1 := fun q9 => h1 (Int32.toInt_inj.mp (by rw [q9]; rfl))
  have g2 : x.toInt ≠ 2 := fun q9 => h2 (Int32.toInt_inj.mp (by rw [q9]; rfl))
  have g3 : x.toInt ≠ 3 := fun q9 => h3 (Int32.toInt_inj.mp (by rw [q9]; rfl))
  have g4 : x.toInt ≠ 4 := fun q9 => h4 (Int32.toInt_inj.mp (by rw [q9]; rfl))
  have g5 : x.toInt ≠ 5 := fun q9 => h5 (Int32.toInt_inj.mp (by rw [q9]; rfl))
  have g6 : x.toInt ≠ 6 := fun q9 => h6 (Int32.toInt_inj.mp (by rw [q9]; rfl))
  have g7 : x.toInt ≠ 7 := fun q9 => h7 (Int32.toInt_inj.mp (by rw [q9]; rfl))
  have g8 : x.toInt ≠ 8 := fun q9 => h8 (Int32.toInt_inj.mp (by rw [q9]; rfl))
  have g9 : x.toInt ≠ 9 := fun q9 => h9 (Int32.toInt_inj.mp (by rw [q9]; rfl))
  have g10 : x.toInt ≠ 10 := fun q9 => h10 (Int32.toInt_inj.mp (by rw [q9]; rfl))
  have g11 : x.toInt ≠ 11 := fun q9 => h11 (Int32.toInt_inj.mp (by rw [q9]; rfl))
  have g12 : x.toInt ≠ 12 := fun q9 => h12 (Int32.toInt_inj.mp (by rw [q9]; rfl))
  have g13 : x.toInt ≠ 13 := fun q9 => h13 (Int32.toInt_inj.mp (by rw [q9]; rfl))
  have g14 : x.toInt ≠ 14 := fun q9 => h14 (Int32.toInt_inj.mp (by rw [q9]; rfl))
  have g15 : x.toInt ≠ 15 := fun q9 => h15 (Int32.toInt_inj.mp (by rw [q9]; rfl))
  have g16 : x.toInt ≠ 16 := fun q9 => h16 (Int32.toInt_inj.mp (by rw [q9]; rfl))
  have g17 : x.toInt ≠ 17 := fun q9 => h17 (Int32.toInt_inj.mp (by rw [q9]; rfl))
  omega
def jn_law_156 (cap L9 : Nat) (xs9 : Nat → Int32) (Ks : Int32 → XS → MS → Prop) (i : Int32) (u : XS) (v : MS) : Prop :=
  vp_in (i + (1 : Int32)) L9 ∧ (vp_in (i + (2 : Int32)) L9 ∧ (wp_L_here cap (((Int32.toInt64 (xs9 (Int32.toNatClampNeg (i + (1 : Int32))))) <<< (Int32.toInt64 (32 : Int32) &&& 63)) ||| ((Int32.toInt64 (xs9 (Int32.toNatClampNeg (i + (2 : Int32))))) &&& (4294967295 : Int64))) u (fun r23 u24 => wp_X8_here (((Int32.toInt64 (xs9 (Int32.toNatClampNeg (i + (1 : Int32))))) <<< (Int32.toInt64 (32 : Int32) &&& 63)) ||| ((Int32.toInt64 (xs9 (Int32.toNatClampNeg (i + (2 : Int32))))) &&& (4294967295 : Int64))) v (fun v26 => wp_X8_thrown v26 (fun r27 v28 => ((r27 = r23 → Ks (i + 8) u24 v28) ∧ (¬ (r27 = r23) → False)))))))
set_option maxHeartbeats 4000000 in
set_option maxRecDepth 20000 in
theorem t_law_156 (hl : l.stackTraces = false) (C : xCx p s m #[Value.ref b] meth c G K (fun q : Nat => s.heap.size ≤ q) 8 code R_law ret) (hZ : xZq (fun q : Nat => s.heap.size ≤ q) s) (hN : xNc s) (hX : va_X b L9 xs9 s s.heap) (hbl : b < s.heap.size) (hbA : ¬ (fun q : Nat => s.heap.size ≤ q) b) {f : Nat} {Ks : Int32 → XS → MS → Prop} (ih : ∀ (i : Int32) (u : XS) (v : MS) (cells slots : Nat), cells + 10 * f ≤ 600000 → slots + 100 * f ≤ 7300000 → Ks i u v → xV p l e room_1 s m #[Value.ref b] below meth c G (fun q : Nat => s.heap.size ≤ q) 8 (lw_Z below #[Value.ref b] s) cells slots (xw L K cap u (mw M K v [])) 53 [(0, .ref b), (1, .ref (L 0)), (2, .ref (M 0)), (3, .ref (L 14)), (4, .int i)] []) (hc : cells + 10 * (f + 1) ≤ 600000) (hs : slots + 100 * (f + 1) ≤ 7300000) (i : Int32) (u : XS) (v : MS) (hw : jn_law_156 cap L9 xs9 Ks i u v) : xV p l e room_1 s m #[Value.ref b] below meth c G (fun q : Nat => s.heap.size ≤ q) 8 (lw_Z below #[Value.ref b] s) cells slots (xw L K cap u (mw M K v [])) 156 [(0, .ref b), (1, .ref (L 0)), (2, .ref (M 0)), (3, .ref (L 14)), (4, .int i)] [] := by
  have hgv := trivial
  unfold jn_law_156 at hw
  refine x_aload_n C dL_law_156 rfl rfl 1 rfl ?_
  refine x_aload_n C dL_law_157 rfl rfl 0 rfl ?_
  refine x_iload C dL_law_158 rfl 4 rfl ?_
  refine x_iconst C (v := (1 : Int32)) dL_law_160 rfl (by decide) ?_
  refine x_iadd C dL_law_161 rfl ?_
  obtain ⟨h21, hw⟩ := hw
  refine x_sld C hX hbl hbA h21 dL_law_162 rfl ?_
  refine x_i2l C dL_law_163 rfl ?_
  refine x_bipush C (v := (32 : Int32)) dL_law_164 rfl (by decide) ?_
  refine x_lshl C dL_law_166 rfl ?_
  refine x_aload_n C dL_law_167 rfl rfl 0 rfl ?_
  refine x_iload C dL_law_168 rfl 4 rfl ?_
  refine x_iconst C (v := (2 : Int32)) dL_law_170 rfl (by decide) ?_
  refine x_iadd C dL_law_171 rfl ?_
  obtain ⟨h22, hw⟩ := hw
  refine x_sld C hX hbl hbA h22 dL_law_172 rfl ?_
  refine x_i2l C dL_law_173 rfl ?_
  refine x_ldc2 C dL_law_174 rfl i_871 ?_
  refine x_land C dL_law_177 rfl ?_
  refine x_lor C dL_law_178 rfl ?_
  refine k_L_here hl C hZ hN i_335 ⟨Nat.le_of_ble_eq_true rfl, Nat.le_of_ble_eq_true rfl⟩ ⟨by show _ ≤ 600096; omega, by show _ ≤ 7301352; omega⟩ (Nat.le_of_ble_eq_true rfl) hw dL_law_179 rfl (fun r23 u24 hw => ?_)
  refine x_istore C (lv' := [(5, .int r23), (0, .ref b), (1, .ref (L 0)), (2, .ref (M 0)), (3, .ref (L 14)), (4, .int i)]) dL_law_182 rfl (by decide) rfl ?_
  refine x_aload_n C dL_law_184 rfl rfl 3 rfl ?_
  refine x_aload_n C dL_law_185 rfl rfl 1 rfl ?_
  refine x_iload C dL_law_186 rfl 5 rfl ?_
  refine x_iconst C (v := (1 : Int32)) dL_law_188 rfl (by decide) ?_
  refine x_iadd C dL_law_189 rfl ?_
  refine x_sld C hX hbl hbA h21 dL_law_190 rfl ?_
  refine x_i2l C dL_law_191 rfl ?_
  refine x_bipush C (v := (32 : Int32)) dL_law_192 rfl (by decide) ?_
  refine x_lshl C dL_law_194 rfl ?_
  refine x_aload_n C dL_law_195 rfl rfl 1 rfl ?_
  refine x_iload C dL_law_196 rfl 5 rfl ?_
  refine x_iconst C (v := (2 : Int32)) dL_law_198 rfl (by decide) ?_
  refine x_iadd C dL_law_199 rfl ?_
  refine x_sld C hX hbl hbA h22 dL_law_200 rfl ?_
  refine x_i2l C dL_law_201 rfl ?_
  refine x_ldc2 C dL_law_202 rfl i_871 ?_
  refine x_land C dL_law_205 rfl ?_
  refine x_lor C dL_law_206 rfl ?_
  refine x_toM ?_
  refine k_X8_here C i_706 ⟨Nat.le_of_ble_eq_true rfl, Nat.le_of_ble_eq_true rfl⟩ ⟨by show _ ≤ 600096; omega, by show _ ≤ 7301352; omega⟩ (Nat.le_of_ble_eq_true rfl) hw dL_law_207 rfl (fun v26 hw => ?_)
  refine x_toX ?_
  refine x_aload_n C dL_law_210 rfl rfl 3 rfl ?_
  refine x_toM ?_
  refine k_X8_thrown C i_702 ⟨Nat.le_of_ble_eq_true rfl, Nat.le_of_ble_eq_true rfl⟩ ⟨by show _ ≤ 600096; omega, by show _ ≤ 7301352; omega⟩ (Nat.le_of_ble_eq_true rfl) hw dL_law_211 rfl (fun r27 v28 hw => ?_)
  refine x_toX ?_
  refine x_iload C dL_law_214 rfl 0 rfl ?_
  refine x_icmp_eq C 221 dL_law_216 rfl (by decide) (fun c29 => ?_) (fun c29 => ?_)
  · have hw := hw.1 c29
    refine x_goto C (tgt := 1212) dL_law_221 rfl (by decide) ?_
    refine x_iinc C (k := 5) (v := (i + 8)) (lv' := [(4, .int (i + 8)), (5, .int r23), (0, .ref b), (1, .ref (L 0)), (2, .ref (M 0)), (3, .ref (L 14))]) dL_law_1212 rfl rfl rfl (by decide) rfl ?_
    refine x_goto C (tgt := 53) dL_law_1215 rfl (by decide) ?_
    refine x_lv [2, 3, 4, 5, 0] rfl ?_
    exact ih (i + 8) u24 v28 _ _ (by omega) (by omega) hw
  · have hw := hw.2 c29
    refine x_iconst C (v := (0 : Int32)) dL_law_219 rfl (by decide) ?_
    exact hw.elim
def jn_law_224 (cap L9 : Nat) (xs9 : Nat → Int32) (Ks : Int32 → XS → MS → Prop) (i : Int32) (u : XS) (v : MS) : Prop :=
  vp_in (i + (1 : Int32)) L9 ∧ (vp_in (i + (2 : Int32)) L9 ∧ (vp_in (i + (3 : Int32)) L9 ∧ (wp_L_type cap (((Int32.toInt64 (xs9 (Int32.toNatClampNeg (i + (1 : Int32))))) <<< (Int32.toInt64 (32 : Int32) &&& 63)) ||| ((Int32.toInt64 (xs9 (Int32.toNatClampNeg (i + (2 : Int32))))) &&& (4294967295 : Int64))) (xs9 (Int32.toNatClampNeg (i + (3 : Int32)))) u (fun r33 u34 => wp_X8_type (((Int32.toInt64 (xs9 (Int32.toNatClampNeg (i + (1 : Int32))))) <<< (Int32.toInt64 (32 : Int32) &&& 63)) ||| ((Int32.toInt64 (xs9 (Int32.toNatClampNeg (i + (2 : Int32))))) &&& (4294967295 : Int64))) (xs9 (Int32.toNatClampNeg (i + (3 : Int32)))) v (fun r35 v36 => wp_X8_thrown v36 (fun r37 v38 => ((r37 = r33 → ((¬ (r33 = 0) → Ks (i + 8) u34 v38) ∧ (r33 = 0 → vp_in (0 : Int32) 1 ∧ ((((X_out u34 (Int32.toNatClampNeg (0 : Int32))) = (Int32.toInt64 r35) → Ks (i + 8) u34 v38) ∧ (¬ ((X_out u34 (Int32.toNatClampNeg (0 : Int32))) = (Int32.toInt64 r35)) → False)))))) ∧ (¬ (r37 = r33) → False))))))))
set_option maxHeartbeats 4000000 in
set_option maxRecDepth 20000 in
theorem t_law_224 (hl : l.stackTraces = false) (C : xCx p s m #[Value.ref b] meth c G K (fun q : Nat => s.heap.size ≤ q) 8 code R_law ret) (hZ : xZq (fun q : Nat => s.heap.size ≤ q) s) (hN : xNc s) (hX : va_X b L9 xs9 s s.heap) (hbl : b < s.heap.size) (hbA : ¬ (fun q : Nat => s.heap.size ≤ q) b) {f : Nat} {Ks : Int32 → XS → MS → Prop} (ih : ∀ (i : Int32) (u : XS) (v : MS) (cells slots : Nat), cells + 10 * f ≤ 600000 → slots + 100 * f ≤ 7300000 → Ks i u v → xV p l e room_1 s m #[Value.ref b] below meth c G (fun q : Nat => s.heap.size ≤ q) 8 (lw_Z below #[Value.ref b] s) cells slots (xw L K cap u (mw M K v [])) 53 [(0, .ref b), (1, .ref (L 0)), (2, .ref (M 0)), (3, .ref (L 14)), (4, .int i)] []) (hc : cells + 10 * (f + 1) ≤ 600000) (hs : slots + 100 * (f + 1) ≤ 7300000) (i : Int32) (u : XS) (v : MS) (hw : jn_law_224 cap L9 xs9 Ks i u v) : xV p l e room_1 s m #[Value.ref b] below meth c G (fun q : Nat => s.heap.size ≤ q) 8 (lw_Z below #[Value.ref b] s) cells slots (xw L K cap u (mw M K v [])) 224 [(0, .ref b), (1, .ref (L 0)), (2, .ref (M 0)), (3, .ref (L 14)), (4, .int i)] [] := by
  have hgv := trivial
  unfold jn_law_224 at hw
  refine x_aload_n C dL_law_224 rfl rfl 1 rfl ?_
  refine x_aload_n C dL_law_225 rfl rfl 0 rfl ?_
  refine x_iload C dL_law_226 rfl 4 rfl ?_
  refine x_iconst C (v := (1 : Int32)) dL_law_228 rfl (by decide) ?_
  refine x_iadd C dL_law_229 rfl ?_
  obtain ⟨h30, hw⟩ := hw
  refine x_sld C hX hbl hbA h30 dL_law_230 rfl ?_
  refine x_i2l C dL_law_231 rfl ?_
  refine x_bipush C (v := (32 : Int32)) dL_law_232 rfl (by decide) ?_
  refine x_lshl C dL_law_234 rfl ?_
  refine x_aload_n C dL_law_235 rfl rfl 0 rfl ?_
  refine x_iload C dL_law_236 rfl 4 rfl ?_
  refine x_iconst C (v := (2 : Int32)) dL_law_238 rfl (by decide) ?_
  refine x_iadd C dL_law_239 rfl ?_
  obtain ⟨h31, hw⟩ := hw
  refine x_sld C hX hbl hbA h31 dL_law_240 rfl ?_
  refine x_i2l C dL_law_241 rfl ?_
  refine x_ldc2 C dL_law_242 rfl i_871 ?_
  refine x_land C dL_law_245 rfl ?_
  refine x_lor C dL_law_246 rfl ?_
  refine x_aload_n C dL_law_247 rfl rfl 0 rfl ?_
  refine x_iload C dL_law_248 rfl 4 rfl ?_
  refine x_iconst C (v := (3 : Int32)) dL_law_250 rfl (by decide) ?_
  refine x_iadd C dL_law_251 rfl ?_
  obtain ⟨h32, hw⟩ := hw
  refine x_sld C hX hbl hbA h32 dL_law_252 rfl ?_
  refine x_aload_n C dL_law_253 rfl rfl 3 rfl ?_
  refine k_L_type hl C hZ hN i_423 ⟨Nat.le_of_ble_eq_true rfl, Nat.le_of_ble_eq_true rfl⟩ ⟨by show _ ≤ 600096; omega, by show _ ≤ 7301352; omega⟩ (Nat.le_of_ble_eq_true rfl) hw dL_law_254 rfl (fun r33 u34 hw => ?_)
  refine x_istore C (lv' := [(5, .int r33), (0, .ref b), (1, .ref (L 0)), (2, .ref (M 0)), (3, .ref (L 14)), (4, .int i)]) dL_law_257 rfl (by decide) rfl ?_
  refine x_aload_n C dL_law_259 rfl rfl 3 rfl ?_
  refine x_aload_n C dL_law_260 rfl rfl 1 rfl ?_
  refine x_iload C dL_law_261 rfl 5 rfl ?_
  refine x_iconst C (v := (1 : Int32)) dL_law_263 rfl (by decide) ?_
  refine x_iadd C dL_law_264 rfl ?_
  refine x_sld C hX hbl hbA h30 dL_law_265 rfl ?_
  refine x_i2l C dL_law_266 rfl ?_
  refine x_bipush C (v := (32 : Int32)) dL_law_267 rfl (by decide) ?_
  refine x_lshl C dL_law_269 rfl ?_
  refine x_aload_n C dL_law_270 rfl rfl 1 rfl ?_
  refine x_iload C dL_law_271 rfl 5 rfl ?_
  refine x_iconst C (v := (2 : Int32)) dL_law_273 rfl (by decide) ?_
  refine x_iadd C dL_law_274 rfl ?_
  refine x_sld C hX hbl hbA h31 dL_law_275 rfl ?_
  refine x_i2l C dL_law_276 rfl ?_
  refine x_ldc2 C dL_law_277 rfl i_871 ?_
  refine x_land C dL_law_280 rfl ?_
  refine x_lor C dL_law_281 rfl ?_
  refine x_aload_n C dL_law_282 rfl rfl 1 rfl ?_
  refine x_iload C dL_law_283 rfl 5 rfl ?_
  refine x_iconst C (v := (3 : Int32)) dL_law_285 rfl (by decide) ?_
  refine x_iadd C dL_law_286 rfl ?_
  refine x_sld C hX hbl hbA h32 dL_law_287 rfl ?_
  refine x_toM ?_
  refine k_X8_type C i_711 ⟨Nat.le_of_ble_eq_true rfl, Nat.le_of_ble_eq_true rfl⟩ ⟨by show _ ≤ 600096; omega, by show _ ≤ 7301352; omega⟩ (Nat.le_of_ble_eq_true rfl) hw dL_law_288 rfl (fun r35 v36 hw => ?_)
  refine x_toX ?_
  refine x_istore C (lv' := [(6, .int r35), (5, .int r33), (0, .ref b), (1, .ref (L 0)), (2, .ref (M 0)), (3, .ref (L 14)), (4, .int i)]) dL_law_291 rfl (by decide) rfl ?_
  refine x_aload_n C dL_law_293 rfl rfl 4 rfl ?_
  refine x_toM ?_
  refine k_X8_thrown C i_702 ⟨Nat.le_of_ble_eq_true rfl, Nat.le_of_ble_eq_true rfl⟩ ⟨by show _ ≤ 600096; omega, by show _ ≤ 7301352; omega⟩ (Nat.le_of_ble_eq_true rfl) hw dL_law_294 rfl (fun r37 v38 hw => ?_)
  refine x_toX ?_
  refine x_iload C dL_law_297 rfl 1 rfl ?_
  refine x_icmp_eq C 304 dL_law_299 rfl (by decide) (fun c39 => ?_) (fun c39 => ?_)
  · have hw := hw.1 c39
    refine x_iload C dL_law_304 rfl 1 rfl ?_
    refine x_if_ne C 321 dL_law_306 rfl (by decide) (fun c40 => ?_) (fun c40 => ?_)
    · have hw := hw.1 c40
      refine x_goto C (tgt := 1212) dL_law_321 rfl (by decide) ?_
      refine x_iinc C (k := 6) (v := (i + 8)) (lv' := [(4, .int (i + 8)), (6, .int r35), (5, .int r33), (0, .ref b), (1, .ref (L 0)), (2, .ref (M 0)), (3, .ref (L 14))]) dL_law_1212 rfl rfl rfl (by decide) rfl ?_
      refine x_goto C (tgt := 53) dL_law_1215 rfl (by decide) ?_
      refine x_lv [3, 4, 5, 6, 0] rfl ?_
      exact ih (i + 8) u34 v38 _ _ (by omega) (by omega) hw
    · have hw := hw.2 c40
      refine x_aload_n C dL_law_309 rfl rfl 5 rfl ?_
      refine x_iconst C (v := (0 : Int32)) dL_law_310 rfl (by decide) ?_
      obtain ⟨h41, hw⟩ := hw
      refine gX14_at C h41 dL_law_311 rfl ?_
      refine x_iload C dL_law_312 rfl 0 rfl ?_
      refine x_i2l C dL_law_314 rfl ?_
      refine x_lc_eq C 321 dL_law_315 dL_law_316 rfl (by decide) (fun c42 => ?_) (fun c42 => ?_)
      · have hw := hw.1 c42
        refine x_goto C (tgt := 1212) dL_law_321 rfl (by decide) ?_
        refine x_iinc C (k := 6) (v := (i + 8)) (lv' := [(4, .int (i + 8)), (6, .int r35), (5, .int r33), (0, .ref b), (1, .ref (L 0)), (2, .ref (M 0)), (3, .ref (L 14))]) dL_law_1212 rfl rfl rfl (by decide) rfl ?_
        refine x_goto C (tgt := 53) dL_law_1215 rfl (by decide) ?_
        refine x_lv [3, 4, 5, 6, 0] rfl ?_
        exact ih (i + 8) u34 v38 _ _ (by omega) (by omega) hw
      · have hw := hw.2 c42
        refine x_iconst C (v := (0 : Int32)) dL_law_319 rfl (by decide) ?_
        exact hw.elim
  · have hw := hw.2 c39
    refine x_iconst C (v := (0 : Int32)) dL_law_302 rfl (by decide) ?_
    exact hw.elim
def jn_law_324 (cap L9 : Nat) (xs9 : Nat → Int32) (Ks : Int32 → XS → MS → Prop) (i : Int32) (u : XS) (v : MS) : Prop :=
  vp_in (i + (1 : Int32)) L9 ∧ (vp_in (i + (2 : Int32)) L9 ∧ (vp_in (i + (3 : Int32)) L9 ∧ (vp_in (i + (4 : Int32)) L9 ∧ (vp_in (i + (5 : Int32)) L9 ∧ (vp_in (i + (6 : Int32)) L9 ∧ (vp_in (i + (7 : Int32)) L9 ∧ (wp_X7_pack cap (xs9 (Int32.toNatClampNeg (i + (1 : Int32)))) (((Int32.toInt64 (xs9 (Int32.toNatClampNeg (i + (2 : Int32))))) <<< (Int32.toInt64 (32 : Int32) &&& 63)) ||| ((Int32.toInt64 (xs9 (Int32.toNatClampNeg (i + (3 : Int32))))) &&& (4294967295 : Int64))) (xs9 (Int32.toNatClampNeg (i + (4 : Int32)))) (((Int32.toInt64 (xs9 (Int32.toNatClampNeg (i + (5 : Int32))))) <<< (Int32.toInt64 (32 : Int32) &&& 63)) ||| ((Int32.toInt64 (xs9 (Int32.toNatClampNeg (i + (6 : Int32))))) &&& (4294967295 : Int64))) (xs9 (Int32.toNatClampNeg (i + (7 : Int32)))) u (fun u51 => wp_X8_pack (xs9 (Int32.toNatClampNeg (i + (1 : Int32)))) (((Int32.toInt64 (xs9 (Int32.toNatClampNeg (i + (2 : Int32))))) <<< (Int32.toInt64 (32 : Int32) &&& 63)) ||| ((Int32.toInt64 (xs9 (Int32.toNatClampNeg (i + (3 : Int32))))) &&& (4294967295 : Int64))) (xs9 (Int32.toNatClampNeg (i + (4 : Int32)))) (((Int32.toInt64 (xs9 (Int32.toNatClampNeg (i + (5 : Int32))))) <<< (Int32.toInt64 (32 : Int32) &&& 63)) ||| ((Int32.toInt64 (xs9 (Int32.toNatClampNeg (i + (6 : Int32))))) &&& (4294967295 : Int64))) (xs9 (Int32.toNatClampNeg (i + (7 : Int32)))) v (fun v53 => Ks (i + 8) u51 v53)))))))))
set_option maxHeartbeats 4000000 in
set_option maxRecDepth 20000 in
theorem t_law_324 (hl : l.stackTraces = false) (C : xCx p s m #[Value.ref b] meth c G K (fun q : Nat => s.heap.size ≤ q) 8 code R_law ret) (hZ : xZq (fun q : Nat => s.heap.size ≤ q) s) (hN : xNc s) (hX : va_X b L9 xs9 s s.heap) (hbl : b < s.heap.size) (hbA : ¬ (fun q : Nat => s.heap.size ≤ q) b) {f : Nat} {Ks : Int32 → XS → MS → Prop} (ih : ∀ (i : Int32) (u : XS) (v : MS) (cells slots : Nat), cells + 10 * f ≤ 600000 → slots + 100 * f ≤ 7300000 → Ks i u v → xV p l e room_1 s m #[Value.ref b] below meth c G (fun q : Nat => s.heap.size ≤ q) 8 (lw_Z below #[Value.ref b] s) cells slots (xw L K cap u (mw M K v [])) 53 [(0, .ref b), (1, .ref (L 0)), (2, .ref (M 0)), (3, .ref (L 14)), (4, .int i)] []) (hc : cells + 10 * (f + 1) ≤ 600000) (hs : slots + 100 * (f + 1) ≤ 7300000) (i : Int32) (u : XS) (v : MS) (hw : jn_law_324 cap L9 xs9 Ks i u v) : xV p l e room_1 s m #[Value.ref b] below meth c G (fun q : Nat => s.heap.size ≤ q) 8 (lw_Z below #[Value.ref b] s) cells slots (xw L K cap u (mw M K v [])) 324 [(0, .ref b), (1, .ref (L 0)), (2, .ref (M 0)), (3, .ref (L 14)), (4, .int i)] [] := by
  have hgv := trivial
  unfold jn_law_324 at hw
  refine x_aload_n C dL_law_324 rfl rfl 1 rfl ?_
  refine x_aload_n C dL_law_325 rfl rfl 0 rfl ?_
  refine x_iload C dL_law_326 rfl 4 rfl ?_
  refine x_iconst C (v := (1 : Int32)) dL_law_328 rfl (by decide) ?_
  refine x_iadd C dL_law_329 rfl ?_
  obtain ⟨h43, hw⟩ := hw
  refine x_sld C hX hbl hbA h43 dL_law_330 rfl ?_
  refine x_aload_n C dL_law_331 rfl rfl 0 rfl ?_
  refine x_iload C dL_law_332 rfl 4 rfl ?_
  refine x_iconst C (v := (2 : Int32)) dL_law_334 rfl (by decide) ?_
  refine x_iadd C dL_law_335 rfl ?_
  obtain ⟨h44, hw⟩ := hw
  refine x_sld C hX hbl hbA h44 dL_law_336 rfl ?_
  refine x_i2l C dL_law_337 rfl ?_
  refine x_bipush C (v := (32 : Int32)) dL_law_338 rfl (by decide) ?_
  refine x_lshl C dL_law_340 rfl ?_
  refine x_aload_n C dL_law_341 rfl rfl 0 rfl ?_
  refine x_iload C dL_law_342 rfl 4 rfl ?_
  refine x_iconst C (v := (3 : Int32)) dL_law_344 rfl (by decide) ?_
  refine x_iadd C dL_law_345 rfl ?_
  obtain ⟨h45, hw⟩ := hw
  refine x_sld C hX hbl hbA h45 dL_law_346 rfl ?_
  refine x_i2l C dL_law_347 rfl ?_
  refine x_ldc2 C dL_law_348 rfl i_871 ?_
  refine x_land C dL_law_351 rfl ?_
  refine x_lor C dL_law_352 rfl ?_
  refine x_aload_n C dL_law_353 rfl rfl 0 rfl ?_
  refine x_iload C dL_law_354 rfl 4 rfl ?_
  refine x_iconst C (v := (4 : Int32)) dL_law_356 rfl (by decide) ?_
  refine x_iadd C dL_law_357 rfl ?_
  obtain ⟨h46, hw⟩ := hw
  refine x_sld C hX hbl hbA h46 dL_law_358 rfl ?_
  refine x_aload_n C dL_law_359 rfl rfl 0 rfl ?_
  refine x_iload C dL_law_360 rfl 4 rfl ?_
  refine x_iconst C (v := (5 : Int32)) dL_law_362 rfl (by decide) ?_
  refine x_iadd C dL_law_363 rfl ?_
  obtain ⟨h47, hw⟩ := hw
  refine x_sld C hX hbl hbA h47 dL_law_364 rfl ?_
  refine x_i2l C dL_law_365 rfl ?_
  refine x_bipush C (v := (32 : Int32)) dL_law_366 rfl (by decide) ?_
  refine x_lshl C dL_law_368 rfl ?_
  refine x_aload_n C dL_law_369 rfl rfl 0 rfl ?_
  refine x_iload C dL_law_370 rfl 4 rfl ?_
  refine x_bipush C (v := (6 : Int32)) dL_law_372 rfl (by decide) ?_
  refine x_iadd C dL_law_374 rfl ?_
  obtain ⟨h48, hw⟩ := hw
  refine x_sld C hX hbl hbA h48 dL_law_375 rfl ?_
  refine x_i2l C dL_law_376 rfl ?_
  refine x_ldc2 C dL_law_377 rfl i_871 ?_
  refine x_land C dL_law_380 rfl ?_
  refine x_lor C dL_law_381 rfl ?_
  refine x_aload_n C dL_law_382 rfl rfl 0 rfl ?_
  refine x_iload C dL_law_383 rfl 4 rfl ?_
  refine x_bipush C (v := (7 : Int32)) dL_law_385 rfl (by decide) ?_
  refine x_iadd C dL_law_387 rfl ?_
  obtain ⟨h49, hw⟩ := hw
  refine x_sld C hX hbl hbA h49 dL_law_388 rfl ?_
  refine k_X7_pack C i_198 ⟨Nat.le_of_ble_eq_true rfl, Nat.le_of_ble_eq_true rfl⟩ ⟨by show _ ≤ 600096; omega, by show _ ≤ 7301352; omega⟩ (Nat.le_of_ble_eq_true rfl) hw dL_law_389 rfl (fun u51 hw => ?_)
  refine x_aload_n C dL_law_392 rfl rfl 2 rfl ?_
  refine x_aload_n C dL_law_393 rfl rfl 0 rfl ?_
  refine x_iload C dL_law_394 rfl 4 rfl ?_
  refine x_iconst C (v := (1 : Int32)) dL_law_396 rfl (by decide) ?_
  refine x_iadd C dL_law_397 rfl ?_
  refine x_sld C hX hbl hbA h43 dL_law_398 rfl ?_
  refine x_aload_n C dL_law_399 rfl rfl 0 rfl ?_
  refine x_iload C dL_law_400 rfl 4 rfl ?_
  refine x_iconst C (v := (2 : Int32)) dL_law_402 rfl (by decide) ?_
  refine x_iadd C dL_law_403 rfl ?_
  refine x_sld C hX hbl hbA h44 dL_law_404 rfl ?_
  refine x_i2l C dL_law_405 rfl ?_
  refine x_bipush C (v := (32 : Int32)) dL_law_406 rfl (by decide) ?_
  refine x_lshl C dL_law_408 rfl ?_
  refine x_aload_n C dL_law_409 rfl rfl 0 rfl ?_
  refine x_iload C dL_law_410 rfl 4 rfl ?_
  refine x_iconst C (v := (3 : Int32)) dL_law_412 rfl (by decide) ?_
  refine x_iadd C dL_law_413 rfl ?_
  refine x_sld C hX hbl hbA h45 dL_law_414 rfl ?_
  refine x_i2l C dL_law_415 rfl ?_
  refine x_ldc2 C dL_law_416 rfl i_871 ?_
  refine x_land C dL_law_419 rfl ?_
  refine x_lor C dL_law_420 rfl ?_
  refine x_aload_n C dL_law_421 rfl rfl 0 rfl ?_
  refine x_iload C dL_law_422 rfl 4 rfl ?_
  refine x_iconst C (v := (4 : Int32)) dL_law_424 rfl (by decide) ?_
  refine x_iadd C dL_law_425 rfl ?_
  refine x_sld C hX hbl hbA h46 dL_law_426 rfl ?_
  refine x_aload_n C dL_law_427 rfl rfl 0 rfl ?_
  refine x_iload C dL_law_428 rfl 4 rfl ?_
  refine x_iconst C (v := (5 : Int32)) dL_law_430 rfl (by decide) ?_
  refine x_iadd C dL_law_431 rfl ?_
  refine x_sld C hX hbl hbA h47 dL_law_432 rfl ?_
  refine x_i2l C dL_law_433 rfl ?_
  refine x_bipush C (v := (32 : Int32)) dL_law_434 rfl (by decide) ?_
  refine x_lshl C dL_law_436 rfl ?_
  refine x_aload_n C dL_law_437 rfl rfl 0 rfl ?_
  refine x_iload C dL_law_438 rfl 4 rfl ?_
  refine x_bipush C (v := (6 : Int32)) dL_law_440 rfl (by decide) ?_
  refine x_iadd C dL_law_442 rfl ?_
  refine x_sld C hX hbl hbA h48 dL_law_443 rfl ?_
  refine x_i2l C dL_law_444 rfl ?_
  refine x_ldc2 C dL_law_445 rfl i_871 ?_
  refine x_land C dL_law_448 rfl ?_
  refine x_lor C dL_law_449 rfl ?_
  refine x_aload_n C dL_law_450 rfl rfl 0 rfl ?_
  refine x_iload C dL_law_451 rfl 4 rfl ?_
  refine x_bipush C (v := (7 : Int32)) dL_law_453 rfl (by decide) ?_
  refine x_iadd C dL_law_455 rfl ?_
  refine x_sld C hX hbl hbA h49 dL_law_456 rfl ?_
  refine x_toM ?_
  refine k_X8_pack C i_715 ⟨Nat.le_of_ble_eq_true rfl, Nat.le_of_ble_eq_true rfl⟩ ⟨by show _ ≤ 600096; omega, by show _ ≤ 7301352; omega⟩ (Nat.le_of_ble_eq_true rfl) hw dL_law_457 rfl (fun v53 hw => ?_)
  refine x_toX ?_
  refine x_goto C (tgt := 1212) dL_law_460 rfl (by decide) ?_
  refine x_iinc C (k := 4) (v := (i + 8)) (lv' := [(4, .int (i + 8)), (0, .ref b), (1, .ref (L 0)), (2, .ref (M 0)), (3, .ref (L 14))]) dL_law_1212 rfl rfl rfl (by decide) rfl ?_
  refine x_goto C (tgt := 53) dL_law_1215 rfl (by decide) ?_
  refine x_lv [1, 2, 3, 4, 0] rfl ?_
  exact ih (i + 8) u51 v53 _ _ (by omega) (by omega) hw
def jn_law_463 (cap L9 : Nat) (xs9 : Nat → Int32) (Ks : Int32 → XS → MS → Prop) (i : Int32) (u : XS) (v : MS) : Prop :=
  wp_X7_hear cap u (fun r54 u55 => wp_X8_hear v (fun r56 v57 => ((r54 = r56 → Ks (i + 8) u55 v57) ∧ (¬ (r54 = r56) → False))))
set_option maxHeartbeats 4000000 in
set_option maxRecDepth 20000 in
theorem t_law_463 (hl : l.stackTraces = false) (C : xCx p s m #[Value.ref b] meth c G K (fun q : Nat => s.heap.size ≤ q) 8 code R_law ret) (hZ : xZq (fun q : Nat => s.heap.size ≤ q) s) (hN : xNc s) (hX : va_X b L9 xs9 s s.heap) (hbl : b < s.heap.size) (hbA : ¬ (fun q : Nat => s.heap.size ≤ q) b) {f : Nat} {Ks : Int32 → XS → MS → Prop} (ih : ∀ (i : Int32) (u : XS) (v : MS) (cells slots : Nat), cells + 10 * f ≤ 600000 → slots + 100 * f ≤ 7300000 → Ks i u v → xV p l e room_1 s m #[Value.ref b] below meth c G (fun q : Nat => s.heap.size ≤ q) 8 (lw_Z below #[Value.ref b] s) cells slots (xw L K cap u (mw M K v [])) 53 [(0, .ref b), (1, .ref (L 0)), (2, .ref (M 0)), (3, .ref (L 14)), (4, .int i)] []) (hc : cells + 10 * (f + 1) ≤ 600000) (hs : slots + 100 * (f + 1) ≤ 7300000) (i : Int32) (u : XS) (v : MS) (hw : jn_law_463 cap L9 xs9 Ks i u v) : xV p l e room_1 s m #[Value.ref b] below meth c G (fun q : Nat => s.heap.size ≤ q) 8 (lw_Z below #[Value.ref b] s) cells slots (xw L K cap u (mw M K v [])) 463 [(0, .ref b), (1, .ref (L 0)), (2, .ref (M 0)), (3, .ref (L 14)), (4, .int i)] [] := by
  have hgv := trivial
  unfold jn_law_463 at hw
  refine x_aload_n C dL_law_463 rfl rfl 1 rfl ?_
  refine k_X7_hear C i_209 ⟨Nat.le_of_ble_eq_true rfl, Nat.le_of_ble_eq_true rfl⟩ ⟨by show _ ≤ 600096; omega, by show _ ≤ 7301352; omega⟩ (Nat.le_of_ble_eq_true rfl) hw dL_law_464 rfl (fun r54 u55 hw => ?_)
  refine x_aload_n C dL_law_467 rfl rfl 2 rfl ?_
  refine x_toM ?_
  refine k_X8_hear C i_722 ⟨Nat.le_of_ble_eq_true rfl, Nat.le_of_ble_eq_true rfl⟩ ⟨by show _ ≤ 600096; omega, by show _ ≤ 7301352; omega⟩ (Nat.le_of_ble_eq_true rfl) hw dL_law_468 rfl (fun r56 v57 hw => ?_)
  refine x_toX ?_
  refine x_icmp_eq C 1212 dL_law_471 rfl (by decide) (fun c58 => ?_) (fun c58 => ?_)
  · have hw := hw.1 c58
    refine x_iinc C (k := 4) (v := (i + 8)) (lv' := [(4, .int (i + 8)), (0, .ref b), (1, .ref (L 0)), (2, .ref (M 0)), (3, .ref (L 14))]) dL_law_1212 rfl rfl rfl (by decide) rfl ?_
    refine x_goto C (tgt := 53) dL_law_1215 rfl (by decide) ?_
    refine x_lv [1, 2, 3, 4, 0] rfl ?_
    exact ih (i + 8) u55 v57 _ _ (by omega) (by omega) hw
  · have hw := hw.2 c58
    refine x_iconst C (v := (0 : Int32)) dL_law_474 rfl (by decide) ?_
    exact hw.elim
def jn_law_476 (cap L9 : Nat) (xs9 : Nat → Int32) (Ks : Int32 → XS → MS → Prop) (i : Int32) (u : XS) (v : MS) : Prop :=
  vp_in (i + (1 : Int32)) L9 ∧ (wp_L_claim cap (xs9 (Int32.toNatClampNeg (i + (1 : Int32)))) u (fun r60 u61 => wp_X8_claim (xs9 (Int32.toNatClampNeg (i + (1 : Int32)))) v (fun v63 => wp_X8_thrown v63 (fun r64 v65 => ((r64 = r60 → Ks (i + 8) u61 v65) ∧ (¬ (r64 = r60) → False))))))
set_option maxHeartbeats 4000000 in
set_option maxRecDepth 20000 in
theorem t_law_476 (hl : l.stackTraces = false) (C : xCx p s m #[Value.ref b] meth c G K (fun q : Nat => s.heap.size ≤ q) 8 code R_law ret) (hZ : xZq (fun q : Nat => s.heap.size ≤ q) s) (hN : xNc s) (hX : va_X b L9 xs9 s s.heap) (hbl : b < s.heap.size) (hbA : ¬ (fun q : Nat => s.heap.size ≤ q) b) {f : Nat} {Ks : Int32 → XS → MS → Prop} (ih : ∀ (i : Int32) (u : XS) (v : MS) (cells slots : Nat), cells + 10 * f ≤ 600000 → slots + 100 * f ≤ 7300000 → Ks i u v → xV p l e room_1 s m #[Value.ref b] below meth c G (fun q : Nat => s.heap.size ≤ q) 8 (lw_Z below #[Value.ref b] s) cells slots (xw L K cap u (mw M K v [])) 53 [(0, .ref b), (1, .ref (L 0)), (2, .ref (M 0)), (3, .ref (L 14)), (4, .int i)] []) (hc : cells + 10 * (f + 1) ≤ 600000) (hs : slots + 100 * (f + 1) ≤ 7300000) (i : Int32) (u : XS) (v : MS) (hw : jn_law_476 cap L9 xs9 Ks i u v) : xV p l e room_1 s m #[Value.ref b] below meth c G (fun q : Nat => s.heap.size ≤ q) 8 (lw_Z below #[Value.ref b] s) cells slots (xw L K cap u (mw M K v [])) 476 [(0, .ref b), (1, .ref (L 0)), (2, .ref (M 0)), (3, .ref (L 14)), (4, .int i)] [] := by
  have hgv := trivial
  unfold jn_law_476 at hw
  refine x_aload_n C dL_law_476 rfl rfl 1 rfl ?_
  refine x_aload_n C dL_law_477 rfl rfl 0 rfl ?_
  refine x_iload C dL_law_478 rfl 4 rfl ?_
  refine x_iconst C (v := (1 : Int32)) dL_law_480 rfl (by decide) ?_
  refine x_iadd C dL_law_481 rfl ?_
  obtain ⟨h59, hw⟩ := hw
  refine x_sld C hX hbl hbA h59 dL_law_482 rfl ?_
  refine k_L_claim hl C hZ hN i_438 ⟨Nat.le_of_ble_eq_true rfl, Nat.le_of_ble_eq_true rfl⟩ ⟨by show _ ≤ 600096; omega, by show _ ≤ 7301352; omega⟩ (Nat.le_of_ble_eq_true rfl) hw dL_law_483 rfl (fun r60 u61 hw => ?_)
  refine x_istore C (lv' := [(5, .int r60), (0, .ref b), (1, .ref (L 0)), (2, .ref (M 0)), (3, .ref (L 14)), (4, .int i)]) dL_law_486 rfl (by decide) rfl ?_
  refine x_aload_n C dL_law_488 rfl rfl 3 rfl ?_
  refine x_aload_n C dL_law_489 rfl rfl 1 rfl ?_
  refine x_iload C dL_law_490 rfl 5 rfl ?_
  refine x_iconst C (v := (1 : Int32)) dL_law_492 rfl (by decide) ?_
  refine x_iadd C dL_law_493 rfl ?_
  refine x_sld C hX hbl hbA h59 dL_law_494 rfl ?_
  refine x_toM ?_
  refine k_X8_claim C i_795 ⟨Nat.le_of_ble_eq_true rfl, Nat.le_of_ble_eq_true rfl⟩ ⟨by show _ ≤ 600096; omega, by show _ ≤ 7301352; omega⟩ (Nat.le_of_ble_eq_true rfl) hw dL_law_495 rfl (fun v63 hw => ?_)
  refine x_toX ?_
  refine x_aload_n C dL_law_498 rfl rfl 3 rfl ?_
  refine x_toM ?_
  refine k_X8_thrown C i_702 ⟨Nat.le_of_ble_eq_true rfl, Nat.le_of_ble_eq_true rfl⟩ ⟨by show _ ≤ 600096; omega, by show _ ≤ 7301352; omega⟩ (Nat.le_of_ble_eq_true rfl) hw dL_law_499 rfl (fun r64 v65 hw => ?_)
  refine x_toX ?_
  refine x_iload C dL_law_502 rfl 0 rfl ?_
  refine x_icmp_eq C 509 dL_law_504 rfl (by decide) (fun c66 => ?_) (fun c66 => ?_)
  · have hw := hw.1 c66
    refine x_goto C (tgt := 1212) dL_law_509 rfl (by decide) ?_
    refine x_iinc C (k := 5) (v := (i + 8)) (lv' := [(4, .int (i + 8)), (5, .int r60), (0, .ref b), (1, .ref (L 0)), (2, .ref (M 0)), (3, .ref (L 14))]) dL_law_1212 rfl rfl rfl (by decide) rfl ?_
    refine x_goto C (tgt := 53) dL_law_1215 rfl (by decide) ?_
    refine x_lv [2, 3, 4, 5, 0] rfl ?_
    exact ih (i + 8) u61 v65 _ _ (by omega) (by omega) hw
  · have hw := hw.2 c66
    refine x_iconst C (v := (0 : Int32)) dL_law_507 rfl (by decide) ?_
    exact hw.elim
def jn_law_512 (cap L9 : Nat) (xs9 : Nat → Int32) (Ks : Int32 → XS → MS → Prop) (i : Int32) (u : XS) (v : MS) : Prop :=
  wp_X7_release cap u (fun r67 u68 => wp_X8_release v (fun r69 v70 => ((r67 = r69 → Ks (i + 8) u68 v70) ∧ (¬ (r67 = r69) → False))))
set_option maxHeartbeats 4000000 in
set_option maxRecDepth 20000 in
theorem t_law_512 (hl : l.stackTraces = false) (C : xCx p s m #[Value.ref b] meth c G K (fun q : Nat => s.heap.size ≤ q) 8 code R_law ret) (hZ : xZq (fun q : Nat => s.heap.size ≤ q) s) (hN : xNc s) (hX : va_X b L9 xs9 s s.heap) (hbl : b < s.heap.size) (hbA : ¬ (fun q : Nat => s.heap.size ≤ q) b) {f : Nat} {Ks : Int32 → XS → MS → Prop} (ih : ∀ (i : Int32) (u : XS) (v : MS) (cells slots : Nat), cells + 10 * f ≤ 600000 → slots + 100 * f ≤ 7300000 → Ks i u v → xV p l e room_1 s m #[Value.ref b] below meth c G (fun q : Nat => s.heap.size ≤ q) 8 (lw_Z below #[Value.ref b] s) cells slots (xw L K cap u (mw M K v [])) 53 [(0, .ref b), (1, .ref (L 0)), (2, .ref (M 0)), (3, .ref (L 14)), (4, .int i)] []) (hc : cells + 10 * (f + 1) ≤ 600000) (hs : slots + 100 * (f + 1) ≤ 7300000) (i : Int32) (u : XS) (v : MS) (hw : jn_law_512 cap L9 xs9 Ks i u v) : xV p l e room_1 s m #[Value.ref b] below meth c G (fun q : Nat => s.heap.size ≤ q) 8 (lw_Z below #[Value.ref b] s) cells slots (xw L K cap u (mw M K v [])) 512 [(0, .ref b), (1, .ref (L 0)), (2, .ref (M 0)), (3, .ref (L 14)), (4, .int i)] [] := by
  have hgv := trivial
  unfold jn_law_512 at hw
  refine x_aload_n C dL_law_512 rfl rfl 1 rfl ?_
  refine k_X7_release C i_324 ⟨Nat.le_of_ble_eq_true rfl, Nat.le_of_ble_eq_true rfl⟩ ⟨by show _ ≤ 600096; omega, by show _ ≤ 7301352; omega⟩ (Nat.le_of_ble_eq_true rfl) hw dL_law_513 rfl (fun r67 u68 hw => ?_)
  refine x_aload_n C dL_law_516 rfl rfl 2 rfl ?_
  refine x_toM ?_
  refine k_X8_release C i_803 ⟨Nat.le_of_ble_eq_true rfl, Nat.le_of_ble_eq_true rfl⟩ ⟨by show _ ≤ 600096; omega, by show _ ≤ 7301352; omega⟩ (Nat.le_of_ble_eq_true rfl) hw dL_law_517 rfl (fun r69 v70 hw => ?_)
  refine x_toX ?_
  refine x_icmp_eq C 1212 dL_law_520 rfl (by decide) (fun c71 => ?_) (fun c71 => ?_)
  · have hw := hw.1 c71
    refine x_iinc C (k := 4) (v := (i + 8)) (lv' := [(4, .int (i + 8)), (0, .ref b), (1, .ref (L 0)), (2, .ref (M 0)), (3, .ref (L 14))]) dL_law_1212 rfl rfl rfl (by decide) rfl ?_
    refine x_goto C (tgt := 53) dL_law_1215 rfl (by decide) ?_
    refine x_lv [1, 2, 3, 4, 0] rfl ?_
    exact ih (i + 8) u68 v70 _ _ (by omega) (by omega) hw
  · have hw := hw.2 c71
    refine x_iconst C (v := (0 : Int32)) dL_law_523 rfl (by decide) ?_
    exact hw.elim
def jn_law_525 (cap L9 : Nat) (xs9 : Nat → Int32) (Ks : Int32 → XS → MS → Prop) (i : Int32) (u : XS) (v : MS) : Prop :=
  vp_in (i + (1 : Int32)) L9 ∧ (vp_in (i + (2 : Int32)) L9 ∧ (wp_L_send cap (xs9 (Int32.toNatClampNeg (i + (1 : Int32)))) (xs9 (Int32.toNatClampNeg (i + (2 : Int32)))) u (fun r74 u75 => wp_X8_send (xs9 (Int32.toNatClampNeg (i + (1 : Int32)))) (xs9 (Int32.toNatClampNeg (i + (2 : Int32)))) v (fun r76 v77 => wp_X8_thrown v77 (fun r78 v79 => ((r78 = r74 → ((¬ (r74 = 0) → Ks (i + 8) u75 v79) ∧ (r74 = 0 → vp_in (0 : Int32) 1 ∧ ((((X_out u75 (Int32.toNatClampNeg (0 : Int32))) = (Int32.toInt64 r76) → Ks (i + 8) u75 v79) ∧ (¬ ((X_out u75 (Int32.toNatClampNeg (0 : Int32))) = (Int32.toInt64 r76)) → False)))))) ∧ (¬ (r78 = r74) → False)))))))
set_option maxHeartbeats 4000000 in
set_option maxRecDepth 20000 in
theorem t_law_525 (hl : l.stackTraces = false) (C : xCx p s m #[Value.ref b] meth c G K (fun q : Nat => s.heap.size ≤ q) 8 code R_law ret) (hZ : xZq (fun q : Nat => s.heap.size ≤ q) s) (hN : xNc s) (hX : va_X b L9 xs9 s s.heap) (hbl : b < s.heap.size) (hbA : ¬ (fun q : Nat => s.heap.size ≤ q) b) {f : Nat} {Ks : Int32 → XS → MS → Prop} (ih : ∀ (i : Int32) (u : XS) (v : MS) (cells slots : Nat), cells + 10 * f ≤ 600000 → slots + 100 * f ≤ 7300000 → Ks i u v → xV p l e room_1 s m #[Value.ref b] below meth c G (fun q : Nat => s.heap.size ≤ q) 8 (lw_Z below #[Value.ref b] s) cells slots (xw L K cap u (mw M K v [])) 53 [(0, .ref b), (1, .ref (L 0)), (2, .ref (M 0)), (3, .ref (L 14)), (4, .int i)] []) (hc : cells + 10 * (f + 1) ≤ 600000) (hs : slots + 100 * (f + 1) ≤ 7300000) (i : Int32) (u : XS) (v : MS) (hw : jn_law_525 cap L9 xs9 Ks i u v) : xV p l e room_1 s m #[Value.ref b] below meth c G (fun q : Nat => s.heap.size ≤ q) 8 (lw_Z below #[Value.ref b] s) cells slots (xw L K cap u (mw M K v [])) 525 [(0, .ref b), (1, .ref (L 0)), (2, .ref (M 0)), (3, .ref (L 14)), (4, .int i)] [] := by
  have hgv := trivial
  unfold jn_law_525 at hw
  refine x_aload_n C dL_law_525 rfl rfl 1 rfl ?_
  refine x_aload_n C dL_law_526 rfl rfl 0 rfl ?_
  refine x_iload C dL_law_527 rfl 4 rfl ?_
  refine x_iconst C (v := (1 : Int32)) dL_law_529 rfl (by decide) ?_
  refine x_iadd C dL_law_530 rfl ?_
  obtain ⟨h72, hw⟩ := hw
  refine x_sld C hX hbl hbA h72 dL_law_531 rfl ?_
  refine x_aload_n C dL_law_532 rfl rfl 0 rfl ?_
  refine x_iload C dL_law_533 rfl 4 rfl ?_
  refine x_iconst C (v := (2 : Int32)) dL_law_535 rfl (by decide) ?_
  refine x_iadd C dL_law_536 rfl ?_
  obtain ⟨h73, hw⟩ := hw
  refine x_sld C hX hbl hbA h73 dL_law_537 rfl ?_
  refine x_aload_n C dL_law_538 rfl rfl 3 rfl ?_
  refine k_L_send hl C hZ hN i_449 ⟨Nat.le_of_ble_eq_true rfl, Nat.le_of_ble_eq_true rfl⟩ ⟨by show _ ≤ 600096; omega, by show _ ≤ 7301352; omega⟩ (Nat.le_of_ble_eq_true rfl) hw dL_law_539 rfl (fun r74 u75 hw => ?_)
  refine x_istore C (lv' := [(5, .int r74), (0, .ref b), (1, .ref (L 0)), (2, .ref (M 0)), (3, .ref (L 14)), (4, .int i)]) dL_law_542 rfl (by decide) rfl ?_
  refine x_aload_n C dL_law_544 rfl rfl 3 rfl ?_
  refine x_aload_n C dL_law_545 rfl rfl 1 rfl ?_
  refine x_iload C dL_law_546 rfl 5 rfl ?_
  refine x_iconst C (v := (1 : Int32)) dL_law_548 rfl (by decide) ?_
  refine x_iadd C dL_law_549 rfl ?_
  refine x_sld C hX hbl hbA h72 dL_law_550 rfl ?_
  refine x_aload_n C dL_law_551 rfl rfl 1 rfl ?_
  refine x_iload C dL_law_552 rfl 5 rfl ?_
  refine x_iconst C (v := (2 : Int32)) dL_law_554 rfl (by decide) ?_
  refine x_iadd C dL_law_555 rfl ?_
  refine x_sld C hX hbl hbA h73 dL_law_556 rfl ?_
  refine x_toM ?_
  refine k_X8_send C i_807 ⟨Nat.le_of_ble_eq_true rfl, Nat.le_of_ble_eq_true rfl⟩ ⟨by show _ ≤ 600096; omega, by show _ ≤ 7301352; omega⟩ (Nat.le_of_ble_eq_true rfl) hw dL_law_557 rfl (fun r76 v77 hw => ?_)
  refine x_toX ?_
  refine x_istore C (lv' := [(6, .int r76), (5, .int r74), (0, .ref b), (1, .ref (L 0)), (2, .ref (M 0)), (3, .ref (L 14)), (4, .int i)]) dL_law_560 rfl (by decide) rfl ?_
  refine x_aload_n C dL_law_562 rfl rfl 4 rfl ?_
  refine x_toM ?_
  refine k_X8_thrown C i_702 ⟨Nat.le_of_ble_eq_true rfl, Nat.le_of_ble_eq_true rfl⟩ ⟨by show _ ≤ 600096; omega, by show _ ≤ 7301352; omega⟩ (Nat.le_of_ble_eq_true rfl) hw dL_law_563 rfl (fun r78 v79 hw => ?_)
  refine x_toX ?_
  refine x_iload C dL_law_566 rfl 1 rfl ?_
  refine x_icmp_eq C 573 dL_law_568 rfl (by decide) (fun c80 => ?_) (fun c80 => ?_)
  · have hw := hw.1 c80
    refine x_iload C dL_law_573 rfl 1 rfl ?_
    refine x_if_ne C 590 dL_law_575 rfl (by decide) (fun c81 => ?_) (fun c81 => ?_)
    · have hw := hw.1 c81
      refine x_goto C (tgt := 1212) dL_law_590 rfl (by decide) ?_
      refine x_iinc C (k := 6) (v := (i + 8)) (lv' := [(4, .int (i + 8)), (6, .int r76), (5, .int r74), (0, .ref b), (1, .ref (L 0)), (2, .ref (M 0)), (3, .ref (L 14))]) dL_law_1212 rfl rfl rfl (by decide) rfl ?_
      refine x_goto C (tgt := 53) dL_law_1215 rfl (by decide) ?_
      refine x_lv [3, 4, 5, 6, 0] rfl ?_
      exact ih (i + 8) u75 v79 _ _ (by omega) (by omega) hw
    · have hw := hw.2 c81
      refine x_aload_n C dL_law_578 rfl rfl 5 rfl ?_
      refine x_iconst C (v := (0 : Int32)) dL_law_579 rfl (by decide) ?_
      obtain ⟨h82, hw⟩ := hw
      refine gX14_at C h82 dL_law_580 rfl ?_
      refine x_iload C dL_law_581 rfl 0 rfl ?_
      refine x_i2l C dL_law_583 rfl ?_
      refine x_lc_eq C 590 dL_law_584 dL_law_585 rfl (by decide) (fun c83 => ?_) (fun c83 => ?_)
      · have hw := hw.1 c83
        refine x_goto C (tgt := 1212) dL_law_590 rfl (by decide) ?_
        refine x_iinc C (k := 6) (v := (i + 8)) (lv' := [(4, .int (i + 8)), (6, .int r76), (5, .int r74), (0, .ref b), (1, .ref (L 0)), (2, .ref (M 0)), (3, .ref (L 14))]) dL_law_1212 rfl rfl rfl (by decide) rfl ?_
        refine x_goto C (tgt := 53) dL_law_1215 rfl (by decide) ?_
        refine x_lv [3, 4, 5, 6, 0] rfl ?_
        exact ih (i + 8) u75 v79 _ _ (by omega) (by omega) hw
      · have hw := hw.2 c83
        refine x_iconst C (v := (0 : Int32)) dL_law_588 rfl (by decide) ?_
        exact hw.elim
  · have hw := hw.2 c80
    refine x_iconst C (v := (0 : Int32)) dL_law_571 rfl (by decide) ?_
    exact hw.elim
def jn_law_593 (cap L9 : Nat) (xs9 : Nat → Int32) (Ks : Int32 → XS → MS → Prop) (i : Int32) (u : XS) (v : MS) : Prop :=
  vp_in (i + (1 : Int32)) L9 ∧ (wp_L_tick cap (xs9 (Int32.toNatClampNeg (i + (1 : Int32)))) u (fun r85 u86 => wp_X8_tick (xs9 (Int32.toNatClampNeg (i + (1 : Int32)))) v (fun r87 v88 => wp_X8_thrown v88 (fun r89 v90 => ((r89 = r85 → ((¬ (r85 = 0) → Ks (i + 8) u86 v90) ∧ (r85 = 0 → vp_in (0 : Int32) 1 ∧ ((((X_out u86 (Int32.toNatClampNeg (0 : Int32))) = (Int32.toInt64 r87) → Ks (i + 8) u86 v90) ∧ (¬ ((X_out u86 (Int32.toNatClampNeg (0 : Int32))) = (Int32.toInt64 r87)) → False)))))) ∧ (¬ (r89 = r85) → False))))))
set_option maxHeartbeats 4000000 in
set_option maxRecDepth 20000 in
theorem t_law_593 (hl : l.stackTraces = false) (C : xCx p s m #[Value.ref b] meth c G K (fun q : Nat => s.heap.size ≤ q) 8 code R_law ret) (hZ : xZq (fun q : Nat => s.heap.size ≤ q) s) (hN : xNc s) (hX : va_X b L9 xs9 s s.heap) (hbl : b < s.heap.size) (hbA : ¬ (fun q : Nat => s.heap.size ≤ q) b) {f : Nat} {Ks : Int32 → XS → MS → Prop} (ih : ∀ (i : Int32) (u : XS) (v : MS) (cells slots : Nat), cells + 10 * f ≤ 600000 → slots + 100 * f ≤ 7300000 → Ks i u v → xV p l e room_1 s m #[Value.ref b] below meth c G (fun q : Nat => s.heap.size ≤ q) 8 (lw_Z below #[Value.ref b] s) cells slots (xw L K cap u (mw M K v [])) 53 [(0, .ref b), (1, .ref (L 0)), (2, .ref (M 0)), (3, .ref (L 14)), (4, .int i)] []) (hc : cells + 10 * (f + 1) ≤ 600000) (hs : slots + 100 * (f + 1) ≤ 7300000) (i : Int32) (u : XS) (v : MS) (hw : jn_law_593 cap L9 xs9 Ks i u v) : xV p l e room_1 s m #[Value.ref b] below meth c G (fun q : Nat => s.heap.size ≤ q) 8 (lw_Z below #[Value.ref b] s) cells slots (xw L K cap u (mw M K v [])) 593 [(0, .ref b), (1, .ref (L 0)), (2, .ref (M 0)), (3, .ref (L 14)), (4, .int i)] [] := by
  have hgv := trivial
  unfold jn_law_593 at hw
  refine x_aload_n C dL_law_593 rfl rfl 1 rfl ?_
  refine x_aload_n C dL_law_594 rfl rfl 0 rfl ?_
  refine x_iload C dL_law_595 rfl 4 rfl ?_
  refine x_iconst C (v := (1 : Int32)) dL_law_597 rfl (by decide) ?_
  refine x_iadd C dL_law_598 rfl ?_
  obtain ⟨h84, hw⟩ := hw
  refine x_sld C hX hbl hbA h84 dL_law_599 rfl ?_
  refine x_aload_n C dL_law_600 rfl rfl 3 rfl ?_
  refine k_L_tick hl C hZ hN i_472 ⟨Nat.le_of_ble_eq_true rfl, Nat.le_of_ble_eq_true rfl⟩ ⟨by show _ ≤ 600096; omega, by show _ ≤ 7301352; omega⟩ (Nat.le_of_ble_eq_true rfl) hw dL_law_601 rfl (fun r85 u86 hw => ?_)
  refine x_istore C (lv' := [(5, .int r85), (0, .ref b), (1, .ref (L 0)), (2, .ref (M 0)), (3, .ref (L 14)), (4, .int i)]) dL_law_604 rfl (by decide) rfl ?_
  refine x_aload_n C dL_law_606 rfl rfl 3 rfl ?_
  refine x_aload_n C dL_law_607 rfl rfl 1 rfl ?_
  refine x_iload C dL_law_608 rfl 5 rfl ?_
  refine x_iconst C (v := (1 : Int32)) dL_law_610 rfl (by decide) ?_
  refine x_iadd C dL_law_611 rfl ?_
  refine x_sld C hX hbl hbA h84 dL_law_612 rfl ?_
  refine x_toM ?_
  refine k_X8_tick C i_815 ⟨Nat.le_of_ble_eq_true rfl, Nat.le_of_ble_eq_true rfl⟩ ⟨by show _ ≤ 600096; omega, by show _ ≤ 7301352; omega⟩ (Nat.le_of_ble_eq_true rfl) hw dL_law_613 rfl (fun r87 v88 hw => ?_)
  refine x_toX ?_
  refine x_istore C (lv' := [(6, .int r87), (5, .int r85), (0, .ref b), (1, .ref (L 0)), (2, .ref (M 0)), (3, .ref (L 14)), (4, .int i)]) dL_law_616 rfl (by decide) rfl ?_
  refine x_aload_n C dL_law_618 rfl rfl 4 rfl ?_
  refine x_toM ?_
  refine k_X8_thrown C i_702 ⟨Nat.le_of_ble_eq_true rfl, Nat.le_of_ble_eq_true rfl⟩ ⟨by show _ ≤ 600096; omega, by show _ ≤ 7301352; omega⟩ (Nat.le_of_ble_eq_true rfl) hw dL_law_619 rfl (fun r89 v90 hw => ?_)
  refine x_toX ?_
  refine x_iload C dL_law_622 rfl 1 rfl ?_
  refine x_icmp_eq C 629 dL_law_624 rfl (by decide) (fun c91 => ?_) (fun c91 => ?_)
  · have hw := hw.1 c91
    refine x_iload C dL_law_629 rfl 1 rfl ?_
    refine x_if_ne C 646 dL_law_631 rfl (by decide) (fun c92 => ?_) (fun c92 => ?_)
    · have hw := hw.1 c92
      refine x_goto C (tgt := 1212) dL_law_646 rfl (by decide) ?_
      refine x_iinc C (k := 6) (v := (i + 8)) (lv' := [(4, .int (i + 8)), (6, .int r87), (5, .int r85), (0, .ref b), (1, .ref (L 0)), (2, .ref (M 0)), (3, .ref (L 14))]) dL_law_1212 rfl rfl rfl (by decide) rfl ?_
      refine x_goto C (tgt := 53) dL_law_1215 rfl (by decide) ?_
      refine x_lv [3, 4, 5, 6, 0] rfl ?_
      exact ih (i + 8) u86 v90 _ _ (by omega) (by omega) hw
    · have hw := hw.2 c92
      refine x_aload_n C dL_law_634 rfl rfl 5 rfl ?_
      refine x_iconst C (v := (0 : Int32)) dL_law_635 rfl (by decide) ?_
      obtain ⟨h93, hw⟩ := hw
      refine gX14_at C h93 dL_law_636 rfl ?_
      refine x_iload C dL_law_637 rfl 0 rfl ?_
      refine x_i2l C dL_law_639 rfl ?_
      refine x_lc_eq C 646 dL_law_640 dL_law_641 rfl (by decide) (fun c94 => ?_) (fun c94 => ?_)
      · have hw := hw.1 c94
        refine x_goto C (tgt := 1212) dL_law_646 rfl (by decide) ?_
        refine x_iinc C (k := 6) (v := (i + 8)) (lv' := [(4, .int (i + 8)), (6, .int r87), (5, .int r85), (0, .ref b), (1, .ref (L 0)), (2, .ref (M 0)), (3, .ref (L 14))]) dL_law_1212 rfl rfl rfl (by decide) rfl ?_
        refine x_goto C (tgt := 53) dL_law_1215 rfl (by decide) ?_
        refine x_lv [3, 4, 5, 6, 0] rfl ?_
        exact ih (i + 8) u86 v90 _ _ (by omega) (by omega) hw
      · have hw := hw.2 c94
        refine x_iconst C (v := (0 : Int32)) dL_law_644 rfl (by decide) ?_
        exact hw.elim
  · have hw := hw.2 c91
    refine x_iconst C (v := (0 : Int32)) dL_law_627 rfl (by decide) ?_
    exact hw.elim
def jn_law_649 (cap L9 : Nat) (xs9 : Nat → Int32) (Ks : Int32 → XS → MS → Prop) (i : Int32) (u : XS) (v : MS) : Prop :=
  vp_in (i + (1 : Int32)) L9 ∧ (wp_L_count cap (xs9 (Int32.toNatClampNeg (i + (1 : Int32)))) u (fun r96 u97 => wp_X8_count (xs9 (Int32.toNatClampNeg (i + (1 : Int32)))) v (fun r98 v99 => wp_X8_thrown v99 (fun r100 v101 => ((r100 = r96 → ((¬ (r96 = 0) → Ks (i + 8) u97 v101) ∧ (r96 = 0 → vp_in (0 : Int32) 1 ∧ ((((X_out u97 (Int32.toNatClampNeg (0 : Int32))) = (Int32.toInt64 r98) → Ks (i + 8) u97 v101) ∧ (¬ ((X_out u97 (Int32.toNatClampNeg (0 : Int32))) = (Int32.toInt64 r98)) → False)))))) ∧ (¬ (r100 = r96) → False))))))
set_option maxHeartbeats 4000000 in
set_option maxRecDepth 20000 in
theorem t_law_649 (hl : l.stackTraces = false) (C : xCx p s m #[Value.ref b] meth c G K (fun q : Nat => s.heap.size ≤ q) 8 code R_law ret) (hZ : xZq (fun q : Nat => s.heap.size ≤ q) s) (hN : xNc s) (hX : va_X b L9 xs9 s s.heap) (hbl : b < s.heap.size) (hbA : ¬ (fun q : Nat => s.heap.size ≤ q) b) {f : Nat} {Ks : Int32 → XS → MS → Prop} (ih : ∀ (i : Int32) (u : XS) (v : MS) (cells slots : Nat), cells + 10 * f ≤ 600000 → slots + 100 * f ≤ 7300000 → Ks i u v → xV p l e room_1 s m #[Value.ref b] below meth c G (fun q : Nat => s.heap.size ≤ q) 8 (lw_Z below #[Value.ref b] s) cells slots (xw L K cap u (mw M K v [])) 53 [(0, .ref b), (1, .ref (L 0)), (2, .ref (M 0)), (3, .ref (L 14)), (4, .int i)] []) (hc : cells + 10 * (f + 1) ≤ 600000) (hs : slots + 100 * (f + 1) ≤ 7300000) (i : Int32) (u : XS) (v : MS) (hw : jn_law_649 cap L9 xs9 Ks i u v) : xV p l e room_1 s m #[Value.ref b] below meth c G (fun q : Nat => s.heap.size ≤ q) 8 (lw_Z below #[Value.ref b] s) cells slots (xw L K cap u (mw M K v [])) 649 [(0, .ref b), (1, .ref (L 0)), (2, .ref (M 0)), (3, .ref (L 14)), (4, .int i)] [] := by
  have hgv := trivial
  unfold jn_law_649 at hw
  refine x_aload_n C dL_law_649 rfl rfl 1 rfl ?_
  refine x_aload_n C dL_law_650 rfl rfl 0 rfl ?_
  refine x_iload C dL_law_651 rfl 4 rfl ?_
  refine x_iconst C (v := (1 : Int32)) dL_law_653 rfl (by decide) ?_
  refine x_iadd C dL_law_654 rfl ?_
  obtain ⟨h95, hw⟩ := hw
  refine x_sld C hX hbl hbA h95 dL_law_655 rfl ?_
  refine x_aload_n C dL_law_656 rfl rfl 3 rfl ?_
  refine k_L_count hl C hZ hN i_496 ⟨Nat.le_of_ble_eq_true rfl, Nat.le_of_ble_eq_true rfl⟩ ⟨by show _ ≤ 600096; omega, by show _ ≤ 7301352; omega⟩ (Nat.le_of_ble_eq_true rfl) hw dL_law_657 rfl (fun r96 u97 hw => ?_)
  refine x_istore C (lv' := [(5, .int r96), (0, .ref b), (1, .ref (L 0)), (2, .ref (M 0)), (3, .ref (L 14)), (4, .int i)]) dL_law_660 rfl (by decide) rfl ?_
  refine x_aload_n C dL_law_662 rfl rfl 3 rfl ?_
  refine x_aload_n C dL_law_663 rfl rfl 1 rfl ?_
  refine x_iload C dL_law_664 rfl 5 rfl ?_
  refine x_iconst C (v := (1 : Int32)) dL_law_666 rfl (by decide) ?_
  refine x_iadd C dL_law_667 rfl ?_
  refine x_sld C hX hbl hbA h95 dL_law_668 rfl ?_
  refine x_toM ?_
  refine k_X8_count C i_827 ⟨Nat.le_of_ble_eq_true rfl, Nat.le_of_ble_eq_true rfl⟩ ⟨by show _ ≤ 600096; omega, by show _ ≤ 7301352; omega⟩ (Nat.le_of_ble_eq_true rfl) hw dL_law_669 rfl (fun r98 v99 hw => ?_)
  refine x_toX ?_
  refine x_istore C (lv' := [(6, .int r98), (5, .int r96), (0, .ref b), (1, .ref (L 0)), (2, .ref (M 0)), (3, .ref (L 14)), (4, .int i)]) dL_law_672 rfl (by decide) rfl ?_
  refine x_aload_n C dL_law_674 rfl rfl 4 rfl ?_
  refine x_toM ?_
  refine k_X8_thrown C i_702 ⟨Nat.le_of_ble_eq_true rfl, Nat.le_of_ble_eq_true rfl⟩ ⟨by show _ ≤ 600096; omega, by show _ ≤ 7301352; omega⟩ (Nat.le_of_ble_eq_true rfl) hw dL_law_675 rfl (fun r100 v101 hw => ?_)
  refine x_toX ?_
  refine x_iload C dL_law_678 rfl 1 rfl ?_
  refine x_icmp_eq C 685 dL_law_680 rfl (by decide) (fun c102 => ?_) (fun c102 => ?_)
  · have hw := hw.1 c102
    refine x_iload C dL_law_685 rfl 1 rfl ?_
    refine x_if_ne C 702 dL_law_687 rfl (by decide) (fun c103 => ?_) (fun c103 => ?_)
    · have hw := hw.1 c103
      refine x_goto C (tgt := 1212) dL_law_702 rfl (by decide) ?_
      refine x_iinc C (k := 6) (v := (i + 8)) (lv' := [(4, .int (i + 8)), (6, .int r98), (5, .int r96), (0, .ref b), (1, .ref (L 0)), (2, .ref (M 0)), (3, .ref (L 14))]) dL_law_1212 rfl rfl rfl (by decide) rfl ?_
      refine x_goto C (tgt := 53) dL_law_1215 rfl (by decide) ?_
      refine x_lv [3, 4, 5, 6, 0] rfl ?_
      exact ih (i + 8) u97 v101 _ _ (by omega) (by omega) hw
    · have hw := hw.2 c103
      refine x_aload_n C dL_law_690 rfl rfl 5 rfl ?_
      refine x_iconst C (v := (0 : Int32)) dL_law_691 rfl (by decide) ?_
      obtain ⟨h104, hw⟩ := hw
      refine gX14_at C h104 dL_law_692 rfl ?_
      refine x_iload C dL_law_693 rfl 0 rfl ?_
      refine x_i2l C dL_law_695 rfl ?_
      refine x_lc_eq C 702 dL_law_696 dL_law_697 rfl (by decide) (fun c105 => ?_) (fun c105 => ?_)
      · have hw := hw.1 c105
        refine x_goto C (tgt := 1212) dL_law_702 rfl (by decide) ?_
        refine x_iinc C (k := 6) (v := (i + 8)) (lv' := [(4, .int (i + 8)), (6, .int r98), (5, .int r96), (0, .ref b), (1, .ref (L 0)), (2, .ref (M 0)), (3, .ref (L 14))]) dL_law_1212 rfl rfl rfl (by decide) rfl ?_
        refine x_goto C (tgt := 53) dL_law_1215 rfl (by decide) ?_
        refine x_lv [3, 4, 5, 6, 0] rfl ?_
        exact ih (i + 8) u97 v101 _ _ (by omega) (by omega) hw
      · have hw := hw.2 c105
        refine x_iconst C (v := (0 : Int32)) dL_law_700 rfl (by decide) ?_
        exact hw.elim
  · have hw := hw.2 c102
    refine x_iconst C (v := (0 : Int32)) dL_law_683 rfl (by decide) ?_
    exact hw.elim
def jn_law_705 (cap L9 : Nat) (xs9 : Nat → Int32) (Ks : Int32 → XS → MS → Prop) (i : Int32) (u : XS) (v : MS) : Prop :=
  vp_in (i + (1 : Int32)) L9 ∧ (wp_L_entry cap (xs9 (Int32.toNatClampNeg (i + (1 : Int32)))) u (fun r107 u108 => wp_X8_entry (xs9 (Int32.toNatClampNeg (i + (1 : Int32)))) v (fun r109 v110 => wp_X8_thrown v110 (fun r111 v112 => ((r111 = r107 → ((¬ (r107 = 0) → Ks (i + 8) u108 v112) ∧ (r107 = 0 → vp_in (0 : Int32) 1 ∧ ((((X_out u108 (Int32.toNatClampNeg (0 : Int32))) = (Int32.toInt64 r109) → Ks (i + 8) u108 v112) ∧ (¬ ((X_out u108 (Int32.toNatClampNeg (0 : Int32))) = (Int32.toInt64 r109)) → False)))))) ∧ (¬ (r111 = r107) → False))))))
set_option maxHeartbeats 4000000 in
set_option maxRecDepth 20000 in
theorem t_law_705 (hl : l.stackTraces = false) (C : xCx p s m #[Value.ref b] meth c G K (fun q : Nat => s.heap.size ≤ q) 8 code R_law ret) (hZ : xZq (fun q : Nat => s.heap.size ≤ q) s) (hN : xNc s) (hX : va_X b L9 xs9 s s.heap) (hbl : b < s.heap.size) (hbA : ¬ (fun q : Nat => s.heap.size ≤ q) b) {f : Nat} {Ks : Int32 → XS → MS → Prop} (ih : ∀ (i : Int32) (u : XS) (v : MS) (cells slots : Nat), cells + 10 * f ≤ 600000 → slots + 100 * f ≤ 7300000 → Ks i u v → xV p l e room_1 s m #[Value.ref b] below meth c G (fun q : Nat => s.heap.size ≤ q) 8 (lw_Z below #[Value.ref b] s) cells slots (xw L K cap u (mw M K v [])) 53 [(0, .ref b), (1, .ref (L 0)), (2, .ref (M 0)), (3, .ref (L 14)), (4, .int i)] []) (hc : cells + 10 * (f + 1) ≤ 600000) (hs : slots + 100 * (f + 1) ≤ 7300000) (i : Int32) (u : XS) (v : MS) (hw : jn_law_705 cap L9 xs9 Ks i u v) : xV p l e room_1 s m #[Value.ref b] below meth c G (fun q : Nat => s.heap.size ≤ q) 8 (lw_Z below #[Value.ref b] s) cells slots (xw L K cap u (mw M K v [])) 705 [(0, .ref b), (1, .ref (L 0)), (2, .ref (M 0)), (3, .ref (L 14)), (4, .int i)] [] := by
  have hgv := trivial
  unfold jn_law_705 at hw
  refine x_aload_n C dL_law_705 rfl rfl 1 rfl ?_
  refine x_aload_n C dL_law_706 rfl rfl 0 rfl ?_
  refine x_iload C dL_law_707 rfl 4 rfl ?_
  refine x_iconst C (v := (1 : Int32)) dL_law_709 rfl (by decide) ?_
  refine x_iadd C dL_law_710 rfl ?_
  obtain ⟨h106, hw⟩ := hw
  refine x_sld C hX hbl hbA h106 dL_law_711 rfl ?_
  refine x_aload_n C dL_law_712 rfl rfl 3 rfl ?_
  refine k_L_entry hl C hZ hN i_507 ⟨Nat.le_of_ble_eq_true rfl, Nat.le_of_ble_eq_true rfl⟩ ⟨by show _ ≤ 600096; omega, by show _ ≤ 7301352; omega⟩ (Nat.le_of_ble_eq_true rfl) hw dL_law_713 rfl (fun r107 u108 hw => ?_)
  refine x_istore C (lv' := [(5, .int r107), (0, .ref b), (1, .ref (L 0)), (2, .ref (M 0)), (3, .ref (L 14)), (4, .int i)]) dL_law_716 rfl (by decide) rfl ?_
  refine x_aload_n C dL_law_718 rfl rfl 3 rfl ?_
  refine x_aload_n C dL_law_719 rfl rfl 1 rfl ?_
  refine x_iload C dL_law_720 rfl 5 rfl ?_
  refine x_iconst C (v := (1 : Int32)) dL_law_722 rfl (by decide) ?_
  refine x_iadd C dL_law_723 rfl ?_
  refine x_sld C hX hbl hbA h106 dL_law_724 rfl ?_
  refine x_toM ?_
  refine k_X8_entry C i_831 ⟨Nat.le_of_ble_eq_true rfl, Nat.le_of_ble_eq_true rfl⟩ ⟨by show _ ≤ 600096; omega, by show _ ≤ 7301352; omega⟩ (Nat.le_of_ble_eq_true rfl) hw dL_law_725 rfl (fun r109 v110 hw => ?_)
  refine x_toX ?_
  refine x_istore C (lv' := [(6, .int r109), (5, .int r107), (0, .ref b), (1, .ref (L 0)), (2, .ref (M 0)), (3, .ref (L 14)), (4, .int i)]) dL_law_728 rfl (by decide) rfl ?_
  refine x_aload_n C dL_law_730 rfl rfl 4 rfl ?_
  refine x_toM ?_
  refine k_X8_thrown C i_702 ⟨Nat.le_of_ble_eq_true rfl, Nat.le_of_ble_eq_true rfl⟩ ⟨by show _ ≤ 600096; omega, by show _ ≤ 7301352; omega⟩ (Nat.le_of_ble_eq_true rfl) hw dL_law_731 rfl (fun r111 v112 hw => ?_)
  refine x_toX ?_
  refine x_iload C dL_law_734 rfl 1 rfl ?_
  refine x_icmp_eq C 741 dL_law_736 rfl (by decide) (fun c113 => ?_) (fun c113 => ?_)
  · have hw := hw.1 c113
    refine x_iload C dL_law_741 rfl 1 rfl ?_
    refine x_if_ne C 758 dL_law_743 rfl (by decide) (fun c114 => ?_) (fun c114 => ?_)
    · have hw := hw.1 c114
      refine x_goto C (tgt := 1212) dL_law_758 rfl (by decide) ?_
      refine x_iinc C (k := 6) (v := (i + 8)) (lv' := [(4, .int (i + 8)), (6, .int r109), (5, .int r107), (0, .ref b), (1, .ref (L 0)), (2, .ref (M 0)), (3, .ref (L 14))]) dL_law_1212 rfl rfl rfl (by decide) rfl ?_
      refine x_goto C (tgt := 53) dL_law_1215 rfl (by decide) ?_
      refine x_lv [3, 4, 5, 6, 0] rfl ?_
      exact ih (i + 8) u108 v112 _ _ (by omega) (by omega) hw
    · have hw := hw.2 c114
      refine x_aload_n C dL_law_746 rfl rfl 5 rfl ?_
      refine x_iconst C (v := (0 : Int32)) dL_law_747 rfl (by decide) ?_
      obtain ⟨h115, hw⟩ := hw
      refine gX14_at C h115 dL_law_748 rfl ?_
      refine x_iload C dL_law_749 rfl 0 rfl ?_
      refine x_i2l C dL_law_751 rfl ?_
      refine x_lc_eq C 758 dL_law_752 dL_law_753 rfl (by decide) (fun c116 => ?_) (fun c116 => ?_)
      · have hw := hw.1 c116
        refine x_goto C (tgt := 1212) dL_law_758 rfl (by decide) ?_
        refine x_iinc C (k := 6) (v := (i + 8)) (lv' := [(4, .int (i + 8)), (6, .int r109), (5, .int r107), (0, .ref b), (1, .ref (L 0)), (2, .ref (M 0)), (3, .ref (L 14))]) dL_law_1212 rfl rfl rfl (by decide) rfl ?_
        refine x_goto C (tgt := 53) dL_law_1215 rfl (by decide) ?_
        refine x_lv [3, 4, 5, 6, 0] rfl ?_
        exact ih (i + 8) u108 v112 _ _ (by omega) (by omega) hw
      · have hw := hw.2 c116
        refine x_iconst C (v := (0 : Int32)) dL_law_756 rfl (by decide) ?_
        exact hw.elim
  · have hw := hw.2 c113
    refine x_iconst C (v := (0 : Int32)) dL_law_739 rfl (by decide) ?_
    exact hw.elim
def jn_law_761 (cap L9 : Nat) (xs9 : Nat → Int32) (Ks : Int32 → XS → MS → Prop) (i : Int32) (u : XS) (v : MS) : Prop :=
  vp_in (i + (1 : Int32)) L9 ∧ (vp_in (i + (2 : Int32)) L9 ∧ (wp_L_about cap (xs9 (Int32.toNatClampNeg (i + (1 : Int32)))) (xs9 (Int32.toNatClampNeg (i + (2 : Int32)))) u (fun r119 u120 => wp_X8_about (xs9 (Int32.toNatClampNeg (i + (1 : Int32)))) (xs9 (Int32.toNatClampNeg (i + (2 : Int32)))) v (fun r121 v122 => wp_X8_thrown v122 (fun r123 v124 => ((r123 = r119 → ((¬ (r119 = 0) → Ks (i + 8) u120 v124) ∧ (r119 = 0 → vp_in (0 : Int32) 1 ∧ ((((X_out u120 (Int32.toNatClampNeg (0 : Int32))) = (Int32.toInt64 r121) → Ks (i + 8) u120 v124) ∧ (¬ ((X_out u120 (Int32.toNatClampNeg (0 : Int32))) = (Int32.toInt64 r121)) → False)))))) ∧ (¬ (r123 = r119) → False)))))))
set_option maxHeartbeats 4000000 in
set_option maxRecDepth 20000 in
theorem t_law_761 (hl : l.stackTraces = false) (C : xCx p s m #[Value.ref b] meth c G K (fun q : Nat => s.heap.size ≤ q) 8 code R_law ret) (hZ : xZq (fun q : Nat => s.heap.size ≤ q) s) (hN : xNc s) (hX : va_X b L9 xs9 s s.heap) (hbl : b < s.heap.size) (hbA : ¬ (fun q : Nat => s.heap.size ≤ q) b) {f : Nat} {Ks : Int32 → XS → MS → Prop} (ih : ∀ (i : Int32) (u : XS) (v : MS) (cells slots : Nat), cells + 10 * f ≤ 600000 → slots + 100 * f ≤ 7300000 → Ks i u v → xV p l e room_1 s m #[Value.ref b] below meth c G (fun q : Nat => s.heap.size ≤ q) 8 (lw_Z below #[Value.ref b] s) cells slots (xw L K cap u (mw M K v [])) 53 [(0, .ref b), (1, .ref (L 0)), (2, .ref (M 0)), (3, .ref (L 14)), (4, .int i)] []) (hc : cells + 10 * (f + 1) ≤ 600000) (hs : slots + 100 * (f + 1) ≤ 7300000) (i : Int32) (u : XS) (v : MS) (hw : jn_law_761 cap L9 xs9 Ks i u v) : xV p l e room_1 s m #[Value.ref b] below meth c G (fun q : Nat => s.heap.size ≤ q) 8 (lw_Z below #[Value.ref b] s) cells slots (xw L K cap u (mw M K v [])) 761 [(0, .ref b), (1, .ref (L 0)), (2, .ref (M 0)), (3, .ref (L 14)), (4, .int i)] [] := by
  have hgv := trivial
  unfold jn_law_761 at hw
  refine x_aload_n C dL_law_761 rfl rfl 1 rfl ?_
  refine x_aload_n C dL_law_762 rfl rfl 0 rfl ?_
  refine x_iload C dL_law_763 rfl 4 rfl ?_
  refine x_iconst C (v := (1 : Int32)) dL_law_765 rfl (by decide) ?_
  refine x_iadd C dL_law_766 rfl ?_
  obtain ⟨h117, hw⟩ := hw
  refine x_sld C hX hbl hbA h117 dL_law_767 rfl ?_
  refine x_aload_n C dL_law_768 rfl rfl 0 rfl ?_
  refine x_iload C dL_law_769 rfl 4 rfl ?_
  refine x_iconst C (v := (2 : Int32)) dL_law_771 rfl (by decide) ?_
  refine x_iadd C dL_law_772 rfl ?_
  obtain ⟨h118, hw⟩ := hw
  refine x_sld C hX hbl hbA h118 dL_law_773 rfl ?_
  refine x_aload_n C dL_law_774 rfl rfl 3 rfl ?_
  refine k_L_about hl C hZ hN i_530 ⟨Nat.le_of_ble_eq_true rfl, Nat.le_of_ble_eq_true rfl⟩ ⟨by show _ ≤ 600096; omega, by show _ ≤ 7301352; omega⟩ (Nat.le_of_ble_eq_true rfl) hw dL_law_775 rfl (fun r119 u120 hw => ?_)
  refine x_istore C (lv' := [(5, .int r119), (0, .ref b), (1, .ref (L 0)), (2, .ref (M 0)), (3, .ref (L 14)), (4, .int i)]) dL_law_778 rfl (by decide) rfl ?_
  refine x_aload_n C dL_law_780 rfl rfl 3 rfl ?_
  refine x_aload_n C dL_law_781 rfl rfl 1 rfl ?_
  refine x_iload C dL_law_782 rfl 5 rfl ?_
  refine x_iconst C (v := (1 : Int32)) dL_law_784 rfl (by decide) ?_
  refine x_iadd C dL_law_785 rfl ?_
  refine x_sld C hX hbl hbA h117 dL_law_786 rfl ?_
  refine x_aload_n C dL_law_787 rfl rfl 1 rfl ?_
  refine x_iload C dL_law_788 rfl 5 rfl ?_
  refine x_iconst C (v := (2 : Int32)) dL_law_790 rfl (by decide) ?_
  refine x_iadd C dL_law_791 rfl ?_
  refine x_sld C hX hbl hbA h118 dL_law_792 rfl ?_
  refine x_toM ?_
  refine k_X8_about C i_835 ⟨Nat.le_of_ble_eq_true rfl, Nat.le_of_ble_eq_true rfl⟩ ⟨by show _ ≤ 600096; omega, by show _ ≤ 7301352; omega⟩ (Nat.le_of_ble_eq_true rfl) hw dL_law_793 rfl (fun r121 v122 hw => ?_)
  refine x_toX ?_
  refine x_istore C (lv' := [(6, .int r121), (5, .int r119), (0, .ref b), (1, .ref (L 0)), (2, .ref (M 0)), (3, .ref (L 14)), (4, .int i)]) dL_law_796 rfl (by decide) rfl ?_
  refine x_aload_n C dL_law_798 rfl rfl 4 rfl ?_
  refine x_toM ?_
  refine k_X8_thrown C i_702 ⟨Nat.le_of_ble_eq_true rfl, Nat.le_of_ble_eq_true rfl⟩ ⟨by show _ ≤ 600096; omega, by show _ ≤ 7301352; omega⟩ (Nat.le_of_ble_eq_true rfl) hw dL_law_799 rfl (fun r123 v124 hw => ?_)
  refine x_toX ?_
  refine x_iload C dL_law_802 rfl 1 rfl ?_
  refine x_icmp_eq C 809 dL_law_804 rfl (by decide) (fun c125 => ?_) (fun c125 => ?_)
  · have hw := hw.1 c125
    refine x_iload C dL_law_809 rfl 1 rfl ?_
    refine x_if_ne C 826 dL_law_811 rfl (by decide) (fun c126 => ?_) (fun c126 => ?_)
    · have hw := hw.1 c126
      refine x_goto C (tgt := 1212) dL_law_826 rfl (by decide) ?_
      refine x_iinc C (k := 6) (v := (i + 8)) (lv' := [(4, .int (i + 8)), (6, .int r121), (5, .int r119), (0, .ref b), (1, .ref (L 0)), (2, .ref (M 0)), (3, .ref (L 14))]) dL_law_1212 rfl rfl rfl (by decide) rfl ?_
      refine x_goto C (tgt := 53) dL_law_1215 rfl (by decide) ?_
      refine x_lv [3, 4, 5, 6, 0] rfl ?_
      exact ih (i + 8) u120 v124 _ _ (by omega) (by omega) hw
    · have hw := hw.2 c126
      refine x_aload_n C dL_law_814 rfl rfl 5 rfl ?_
      refine x_iconst C (v := (0 : Int32)) dL_law_815 rfl (by decide) ?_
      obtain ⟨h127, hw⟩ := hw
      refine gX14_at C h127 dL_law_816 rfl ?_
      refine x_iload C dL_law_817 rfl 0 rfl ?_
      refine x_i2l C dL_law_819 rfl ?_
      refine x_lc_eq C 826 dL_law_820 dL_law_821 rfl (by decide) (fun c128 => ?_) (fun c128 => ?_)
      · have hw := hw.1 c128
        refine x_goto C (tgt := 1212) dL_law_826 rfl (by decide) ?_
        refine x_iinc C (k := 6) (v := (i + 8)) (lv' := [(4, .int (i + 8)), (6, .int r121), (5, .int r119), (0, .ref b), (1, .ref (L 0)), (2, .ref (M 0)), (3, .ref (L 14))]) dL_law_1212 rfl rfl rfl (by decide) rfl ?_
        refine x_goto C (tgt := 53) dL_law_1215 rfl (by decide) ?_
        refine x_lv [3, 4, 5, 6, 0] rfl ?_
        exact ih (i + 8) u120 v124 _ _ (by omega) (by omega) hw
      · have hw := hw.2 c128
        refine x_iconst C (v := (0 : Int32)) dL_law_824 rfl (by decide) ?_
        exact hw.elim
  · have hw := hw.2 c125
    refine x_iconst C (v := (0 : Int32)) dL_law_807 rfl (by decide) ?_
    exact hw.elim
def jn_law_829 (cap L9 : Nat) (xs9 : Nat → Int32) (Ks : Int32 → XS → MS → Prop) (i : Int32) (u : XS) (v : MS) : Prop :=
  vp_in (i + (1 : Int32)) L9 ∧ (wp_L_hardware cap (xs9 (Int32.toNatClampNeg (i + (1 : Int32)))) u (fun r130 u131 => wp_X8_hardware (xs9 (Int32.toNatClampNeg (i + (1 : Int32)))) v (fun r132 v133 => wp_X8_thrown v133 (fun r134 v135 => ((r134 = r130 → ((¬ (r130 = 0) → Ks (i + 8) u131 v135) ∧ (r130 = 0 → vp_in (0 : Int32) 1 ∧ ((((X_out u131 (Int32.toNatClampNeg (0 : Int32))) = r132 → Ks (i + 8) u131 v135) ∧ (¬ ((X_out u131 (Int32.toNatClampNeg (0 : Int32))) = r132) → False)))))) ∧ (¬ (r134 = r130) → False))))))
set_option maxHeartbeats 4000000 in
set_option maxRecDepth 20000 in
theorem t_law_829 (hl : l.stackTraces = false) (C : xCx p s m #[Value.ref b] meth c G K (fun q : Nat => s.heap.size ≤ q) 8 code R_law ret) (hZ : xZq (fun q : Nat => s.heap.size ≤ q) s) (hN : xNc s) (hX : va_X b L9 xs9 s s.heap) (hbl : b < s.heap.size) (hbA : ¬ (fun q : Nat => s.heap.size ≤ q) b) {f : Nat} {Ks : Int32 → XS → MS → Prop} (ih : ∀ (i : Int32) (u : XS) (v : MS) (cells slots : Nat), cells + 10 * f ≤ 600000 → slots + 100 * f ≤ 7300000 → Ks i u v → xV p l e room_1 s m #[Value.ref b] below meth c G (fun q : Nat => s.heap.size ≤ q) 8 (lw_Z below #[Value.ref b] s) cells slots (xw L K cap u (mw M K v [])) 53 [(0, .ref b), (1, .ref (L 0)), (2, .ref (M 0)), (3, .ref (L 14)), (4, .int i)] []) (hc : cells + 10 * (f + 1) ≤ 600000) (hs : slots + 100 * (f + 1) ≤ 7300000) (i : Int32) (u : XS) (v : MS) (hw : jn_law_829 cap L9 xs9 Ks i u v) : xV p l e room_1 s m #[Value.ref b] below meth c G (fun q : Nat => s.heap.size ≤ q) 8 (lw_Z below #[Value.ref b] s) cells slots (xw L K cap u (mw M K v [])) 829 [(0, .ref b), (1, .ref (L 0)), (2, .ref (M 0)), (3, .ref (L 14)), (4, .int i)] [] := by
  have hgv := trivial
  unfold jn_law_829 at hw
  refine x_aload_n C dL_law_829 rfl rfl 1 rfl ?_
  refine x_aload_n C dL_law_830 rfl rfl 0 rfl ?_
  refine x_iload C dL_law_831 rfl 4 rfl ?_
  refine x_iconst C (v := (1 : Int32)) dL_law_833 rfl (by decide) ?_
  refine x_iadd C dL_law_834 rfl ?_
  obtain ⟨h129, hw⟩ := hw
  refine x_sld C hX hbl hbA h129 dL_law_835 rfl ?_
  refine x_aload_n C dL_law_836 rfl rfl 3 rfl ?_
  refine k_L_hardware hl C hZ hN i_553 ⟨Nat.le_of_ble_eq_true rfl, Nat.le_of_ble_eq_true rfl⟩ ⟨by show _ ≤ 600096; omega, by show _ ≤ 7301352; omega⟩ (Nat.le_of_ble_eq_true rfl) hw dL_law_837 rfl (fun r130 u131 hw => ?_)
  refine x_istore C (lv' := [(5, .int r130), (0, .ref b), (1, .ref (L 0)), (2, .ref (M 0)), (3, .ref (L 14)), (4, .int i)]) dL_law_840 rfl (by decide) rfl ?_
  refine x_aload_n C dL_law_842 rfl rfl 3 rfl ?_
  refine x_aload_n C dL_law_843 rfl rfl 1 rfl ?_
  refine x_iload C dL_law_844 rfl 5 rfl ?_
  refine x_iconst C (v := (1 : Int32)) dL_law_846 rfl (by decide) ?_
  refine x_iadd C dL_law_847 rfl ?_
  refine x_sld C hX hbl hbA h129 dL_law_848 rfl ?_
  refine x_toM ?_
  refine k_X8_hardware C i_839 ⟨Nat.le_of_ble_eq_true rfl, Nat.le_of_ble_eq_true rfl⟩ ⟨by show _ ≤ 600096; omega, by show _ ≤ 7301352; omega⟩ (Nat.le_of_ble_eq_true rfl) hw dL_law_849 rfl (fun r132 v133 hw => ?_)
  refine x_toX ?_
  refine x_lstore C (lv' := [(6, .long r132), (5, .int r130), (0, .ref b), (1, .ref (L 0)), (2, .ref (M 0)), (3, .ref (L 14)), (4, .int i)]) dL_law_852 rfl (by decide) rfl ?_
  refine x_aload_n C dL_law_854 rfl rfl 4 rfl ?_
  refine x_toM ?_
  refine k_X8_thrown C i_702 ⟨Nat.le_of_ble_eq_true rfl, Nat.le_of_ble_eq_true rfl⟩ ⟨by show _ ≤ 600096; omega, by show _ ≤ 7301352; omega⟩ (Nat.le_of_ble_eq_true rfl) hw dL_law_855 rfl (fun r134 v135 hw => ?_)
  refine x_toX ?_
  refine x_iload C dL_law_858 rfl 1 rfl ?_
  refine x_icmp_eq C 865 dL_law_860 rfl (by decide) (fun c136 => ?_) (fun c136 => ?_)
  · have hw := hw.1 c136
    refine x_iload C dL_law_865 rfl 1 rfl ?_
    refine x_if_ne C 881 dL_law_867 rfl (by decide) (fun c137 => ?_) (fun c137 => ?_)
    · have hw := hw.1 c137
      refine x_goto C (tgt := 1212) dL_law_881 rfl (by decide) ?_
      refine x_iinc C (k := 6) (v := (i + 8)) (lv' := [(4, .int (i + 8)), (6, .long r132), (5, .int r130), (0, .ref b), (1, .ref (L 0)), (2, .ref (M 0)), (3, .ref (L 14))]) dL_law_1212 rfl rfl rfl (by decide) rfl ?_
      refine x_goto C (tgt := 53) dL_law_1215 rfl (by decide) ?_
      refine x_lv [3, 4, 5, 6, 0] rfl ?_
      exact ih (i + 8) u131 v135 _ _ (by omega) (by omega) hw
    · have hw := hw.2 c137
      refine x_aload_n C dL_law_870 rfl rfl 5 rfl ?_
      refine x_iconst C (v := (0 : Int32)) dL_law_871 rfl (by decide) ?_
      obtain ⟨h138, hw⟩ := hw
      refine gX14_at C h138 dL_law_872 rfl ?_
      refine x_lload C dL_law_873 rfl 0 rfl ?_
      refine x_lc_eq C 881 dL_law_875 dL_law_876 rfl (by decide) (fun c139 => ?_) (fun c139 => ?_)
      · have hw := hw.1 c139
        refine x_goto C (tgt := 1212) dL_law_881 rfl (by decide) ?_
        refine x_iinc C (k := 6) (v := (i + 8)) (lv' := [(4, .int (i + 8)), (6, .long r132), (5, .int r130), (0, .ref b), (1, .ref (L 0)), (2, .ref (M 0)), (3, .ref (L 14))]) dL_law_1212 rfl rfl rfl (by decide) rfl ?_
        refine x_goto C (tgt := 53) dL_law_1215 rfl (by decide) ?_
        refine x_lv [3, 4, 5, 6, 0] rfl ?_
        exact ih (i + 8) u131 v135 _ _ (by omega) (by omega) hw
      · have hw := hw.2 c139
        refine x_iconst C (v := (0 : Int32)) dL_law_879 rfl (by decide) ?_
        exact hw.elim
  · have hw := hw.2 c136
    refine x_iconst C (v := (0 : Int32)) dL_law_863 rfl (by decide) ?_
    exact hw.elim
def jn_law_884 (cap L9 : Nat) (xs9 : Nat → Int32) (Ks : Int32 → XS → MS → Prop) (i : Int32) (u : XS) (v : MS) : Prop :=
  vp_in (i + (1 : Int32)) L9 ∧ (wp_X7_knows cap (xs9 (Int32.toNatClampNeg (i + (1 : Int32)))) u (fun r141 u142 => wp_X8_knows (xs9 (Int32.toNatClampNeg (i + (1 : Int32)))) v (fun r143 v144 => ((r141 = r143 → Ks (i + 8) u142 v144) ∧ (¬ (r141 = r143) → False)))))
set_option maxHeartbeats 4000000 in
set_option maxRecDepth 20000 in
theorem t_law_884 (hl : l.stackTraces = false) (C : xCx p s m #[Value.ref b] meth c G K (fun q : Nat => s.heap.size ≤ q) 8 code R_law ret) (hZ : xZq (fun q : Nat => s.heap.size ≤ q) s) (hN : xNc s) (hX : va_X b L9 xs9 s s.heap) (hbl : b < s.heap.size) (hbA : ¬ (fun q : Nat => s.heap.size ≤ q) b) {f : Nat} {Ks : Int32 → XS → MS → Prop} (ih : ∀ (i : Int32) (u : XS) (v : MS) (cells slots : Nat), cells + 10 * f ≤ 600000 → slots + 100 * f ≤ 7300000 → Ks i u v → xV p l e room_1 s m #[Value.ref b] below meth c G (fun q : Nat => s.heap.size ≤ q) 8 (lw_Z below #[Value.ref b] s) cells slots (xw L K cap u (mw M K v [])) 53 [(0, .ref b), (1, .ref (L 0)), (2, .ref (M 0)), (3, .ref (L 14)), (4, .int i)] []) (hc : cells + 10 * (f + 1) ≤ 600000) (hs : slots + 100 * (f + 1) ≤ 7300000) (i : Int32) (u : XS) (v : MS) (hw : jn_law_884 cap L9 xs9 Ks i u v) : xV p l e room_1 s m #[Value.ref b] below meth c G (fun q : Nat => s.heap.size ≤ q) 8 (lw_Z below #[Value.ref b] s) cells slots (xw L K cap u (mw M K v [])) 884 [(0, .ref b), (1, .ref (L 0)), (2, .ref (M 0)), (3, .ref (L 14)), (4, .int i)] [] := by
  have hgv := trivial
  unfold jn_law_884 at hw
  refine x_aload_n C dL_law_884 rfl rfl 1 rfl ?_
  refine x_aload_n C dL_law_885 rfl rfl 0 rfl ?_
  refine x_iload C dL_law_886 rfl 4 rfl ?_
  refine x_iconst C (v := (1 : Int32)) dL_law_888 rfl (by decide) ?_
  refine x_iadd C dL_law_889 rfl ?_
  obtain ⟨h140, hw⟩ := hw
  refine x_sld C hX hbl hbA h140 dL_law_890 rfl ?_
  refine k_X7_knows C i_328 ⟨Nat.le_of_ble_eq_true rfl, Nat.le_of_ble_eq_true rfl⟩ ⟨by show _ ≤ 600096; omega, by show _ ≤ 7301352; omega⟩ (Nat.le_of_ble_eq_true rfl) hw dL_law_891 rfl (fun r141 u142 hw => ?_)
  refine x_aload_n C dL_law_894 rfl rfl 2 rfl ?_
  refine x_aload_n C dL_law_895 rfl rfl 0 rfl ?_
  refine x_iload C dL_law_896 rfl 4 rfl ?_
  refine x_iconst C (v := (1 : Int32)) dL_law_898 rfl (by decide) ?_
  refine x_iadd C dL_law_899 rfl ?_
  refine x_sld C hX hbl hbA h140 dL_law_900 rfl ?_
  refine x_toM ?_
  refine k_X8_knows C i_843 ⟨Nat.le_of_ble_eq_true rfl, Nat.le_of_ble_eq_true rfl⟩ ⟨by show _ ≤ 600096; omega, by show _ ≤ 7301352; omega⟩ (Nat.le_of_ble_eq_true rfl) hw dL_law_901 rfl (fun r143 v144 hw => ?_)
  refine x_toX ?_
  refine x_icmp_eq C 1212 dL_law_904 rfl (by decide) (fun c145 => ?_) (fun c145 => ?_)
  · have hw := hw.1 c145
    refine x_iinc C (k := 4) (v := (i + 8)) (lv' := [(4, .int (i + 8)), (0, .ref b), (1, .ref (L 0)), (2, .ref (M 0)), (3, .ref (L 14))]) dL_law_1212 rfl rfl rfl (by decide) rfl ?_
    refine x_goto C (tgt := 53) dL_law_1215 rfl (by decide) ?_
    refine x_lv [1, 2, 3, 4, 0] rfl ?_
    exact ih (i + 8) u142 v144 _ _ (by omega) (by omega) hw
  · have hw := hw.2 c145
    refine x_iconst C (v := (0 : Int32)) dL_law_907 rfl (by decide) ?_
    exact hw.elim
def jn_law_909 (cap L9 : Nat) (xs9 : Nat → Int32) (Ks : Int32 → XS → MS → Prop) (i : Int32) (u : XS) (v : MS) : Prop :=
  vp_in (i + (1 : Int32)) L9 ∧ (vp_in (i + (2 : Int32)) L9 ∧ (wp_L_waits cap (xs9 (Int32.toNatClampNeg (i + (1 : Int32)))) (xs9 (Int32.toNatClampNeg (i + (2 : Int32)))) u (fun r148 u149 => wp_X8_waits (xs9 (Int32.toNatClampNeg (i + (1 : Int32)))) (xs9 (Int32.toNatClampNeg (i + (2 : Int32)))) v (fun r150 v151 => wp_X8_thrown v151 (fun r152 v153 => ((r152 = r148 → ((¬ (r148 = 0) → Ks (i + 8) u149 v153) ∧ (r148 = 0 → vp_in (0 : Int32) 1 ∧ ((((X_out u149 (Int32.toNatClampNeg (0 : Int32))) = (Int32.toInt64 r150) → Ks (i + 8) u149 v153) ∧ (¬ ((X_out u149 (Int32.toNatClampNeg (0 : Int32))) = (Int32.toInt64 r150)) → False)))))) ∧ (¬ (r152 = r148) → False)))))))
set_option maxHeartbeats 4000000 in
set_option maxRecDepth 20000 in
theorem t_law_909 (hl : l.stackTraces = false) (C : xCx p s m #[Value.ref b] meth c G K (fun q : Nat => s.heap.size ≤ q) 8 code R_law ret) (hZ : xZq (fun q : Nat => s.heap.size ≤ q) s) (hN : xNc s) (hX : va_X b L9 xs9 s s.heap) (hbl : b < s.heap.size) (hbA : ¬ (fun q : Nat => s.heap.size ≤ q) b) {f : Nat} {Ks : Int32 → XS → MS → Prop} (ih : ∀ (i : Int32) (u : XS) (v : MS) (cells slots : Nat), cells + 10 * f ≤ 600000 → slots + 100 * f ≤ 7300000 → Ks i u v → xV p l e room_1 s m #[Value.ref b] below meth c G (fun q : Nat => s.heap.size ≤ q) 8 (lw_Z below #[Value.ref b] s) cells slots (xw L K cap u (mw M K v [])) 53 [(0, .ref b), (1, .ref (L 0)), (2, .ref (M 0)), (3, .ref (L 14)), (4, .int i)] []) (hc : cells + 10 * (f + 1) ≤ 600000) (hs : slots + 100 * (f + 1) ≤ 7300000) (i : Int32) (u : XS) (v : MS) (hw : jn_law_909 cap L9 xs9 Ks i u v) : xV p l e room_1 s m #[Value.ref b] below meth c G (fun q : Nat => s.heap.size ≤ q) 8 (lw_Z below #[Value.ref b] s) cells slots (xw L K cap u (mw M K v [])) 909 [(0, .ref b), (1, .ref (L 0)), (2, .ref (M 0)), (3, .ref (L 14)), (4, .int i)] [] := by
  have hgv := trivial
  unfold jn_law_909 at hw
  refine x_aload_n C dL_law_909 rfl rfl 1 rfl ?_
  refine x_aload_n C dL_law_910 rfl rfl 0 rfl ?_
  refine x_iload C dL_law_911 rfl 4 rfl ?_
  refine x_iconst C (v := (1 : Int32)) dL_law_913 rfl (by decide) ?_
  refine x_iadd C dL_law_914 rfl ?_
  obtain ⟨h146, hw⟩ := hw
  refine x_sld C hX hbl hbA h146 dL_law_915 rfl ?_
  refine x_aload_n C dL_law_916 rfl rfl 0 rfl ?_
  refine x_iload C dL_law_917 rfl 4 rfl ?_
  refine x_iconst C (v := (2 : Int32)) dL_law_919 rfl (by decide) ?_
  refine x_iadd C dL_law_920 rfl ?_
  obtain ⟨h147, hw⟩ := hw
  refine x_sld C hX hbl hbA h147 dL_law_921 rfl ?_
  refine x_aload_n C dL_law_922 rfl rfl 3 rfl ?_
  refine k_L_waits hl C hZ hN i_560 ⟨Nat.le_of_ble_eq_true rfl, Nat.le_of_ble_eq_true rfl⟩ ⟨by show _ ≤ 600096; omega, by show _ ≤ 7301352; omega⟩ (Nat.le_of_ble_eq_true rfl) hw dL_law_923 rfl (fun r148 u149 hw => ?_)
  refine x_istore C (lv' := [(5, .int r148), (0, .ref b), (1, .ref (L 0)), (2, .ref (M 0)), (3, .ref (L 14)), (4, .int i)]) dL_law_926 rfl (by decide) rfl ?_
  refine x_aload_n C dL_law_928 rfl rfl 3 rfl ?_
  refine x_aload_n C dL_law_929 rfl rfl 1 rfl ?_
  refine x_iload C dL_law_930 rfl 5 rfl ?_
  refine x_iconst C (v := (1 : Int32)) dL_law_932 rfl (by decide) ?_
  refine x_iadd C dL_law_933 rfl ?_
  refine x_sld C hX hbl hbA h146 dL_law_934 rfl ?_
  refine x_aload_n C dL_law_935 rfl rfl 1 rfl ?_
  refine x_iload C dL_law_936 rfl 5 rfl ?_
  refine x_iconst C (v := (2 : Int32)) dL_law_938 rfl (by decide) ?_
  refine x_iadd C dL_law_939 rfl ?_
  refine x_sld C hX hbl hbA h147 dL_law_940 rfl ?_
  refine x_toM ?_
  refine k_X8_waits C i_847 ⟨Nat.le_of_ble_eq_true rfl, Nat.le_of_ble_eq_true rfl⟩ ⟨by show _ ≤ 600096; omega, by show _ ≤ 7301352; omega⟩ (Nat.le_of_ble_eq_true rfl) hw dL_law_941 rfl (fun r150 v151 hw => ?_)
  refine x_toX ?_
  refine x_istore C (lv' := [(6, .int r150), (5, .int r148), (0, .ref b), (1, .ref (L 0)), (2, .ref (M 0)), (3, .ref (L 14)), (4, .int i)]) dL_law_944 rfl (by decide) rfl ?_
  refine x_aload_n C dL_law_946 rfl rfl 4 rfl ?_
  refine x_toM ?_
  refine k_X8_thrown C i_702 ⟨Nat.le_of_ble_eq_true rfl, Nat.le_of_ble_eq_true rfl⟩ ⟨by show _ ≤ 600096; omega, by show _ ≤ 7301352; omega⟩ (Nat.le_of_ble_eq_true rfl) hw dL_law_947 rfl (fun r152 v153 hw => ?_)
  refine x_toX ?_
  refine x_iload C dL_law_950 rfl 1 rfl ?_
  refine x_icmp_eq C 957 dL_law_952 rfl (by decide) (fun c154 => ?_) (fun c154 => ?_)
  · have hw := hw.1 c154
    refine x_iload C dL_law_957 rfl 1 rfl ?_
    refine x_if_ne C 974 dL_law_959 rfl (by decide) (fun c155 => ?_) (fun c155 => ?_)
    · have hw := hw.1 c155
      refine x_goto C (tgt := 1212) dL_law_974 rfl (by decide) ?_
      refine x_iinc C (k := 6) (v := (i + 8)) (lv' := [(4, .int (i + 8)), (6, .int r150), (5, .int r148), (0, .ref b), (1, .ref (L 0)), (2, .ref (M 0)), (3, .ref (L 14))]) dL_law_1212 rfl rfl rfl (by decide) rfl ?_
      refine x_goto C (tgt := 53) dL_law_1215 rfl (by decide) ?_
      refine x_lv [3, 4, 5, 6, 0] rfl ?_
      exact ih (i + 8) u149 v153 _ _ (by omega) (by omega) hw
    · have hw := hw.2 c155
      refine x_aload_n C dL_law_962 rfl rfl 5 rfl ?_
      refine x_iconst C (v := (0 : Int32)) dL_law_963 rfl (by decide) ?_
      obtain ⟨h156, hw⟩ := hw
      refine gX14_at C h156 dL_law_964 rfl ?_
      refine x_iload C dL_law_965 rfl 0 rfl ?_
      refine x_i2l C dL_law_967 rfl ?_
      refine x_lc_eq C 974 dL_law_968 dL_law_969 rfl (by decide) (fun c157 => ?_) (fun c157 => ?_)
      · have hw := hw.1 c157
        refine x_goto C (tgt := 1212) dL_law_974 rfl (by decide) ?_
        refine x_iinc C (k := 6) (v := (i + 8)) (lv' := [(4, .int (i + 8)), (6, .int r150), (5, .int r148), (0, .ref b), (1, .ref (L 0)), (2, .ref (M 0)), (3, .ref (L 14))]) dL_law_1212 rfl rfl rfl (by decide) rfl ?_
        refine x_goto C (tgt := 53) dL_law_1215 rfl (by decide) ?_
        refine x_lv [3, 4, 5, 6, 0] rfl ?_
        exact ih (i + 8) u149 v153 _ _ (by omega) (by omega) hw
      · have hw := hw.2 c157
        refine x_iconst C (v := (0 : Int32)) dL_law_972 rfl (by decide) ?_
        exact hw.elim
  · have hw := hw.2 c154
    refine x_iconst C (v := (0 : Int32)) dL_law_955 rfl (by decide) ?_
    exact hw.elim
def jn_law_977 (cap L9 : Nat) (xs9 : Nat → Int32) (Ks : Int32 → XS → MS → Prop) (i : Int32) (u : XS) (v : MS) : Prop :=
  vp_in (i + (1 : Int32)) L9 ∧ (wp_L_to cap (xs9 (Int32.toNatClampNeg (i + (1 : Int32)))) u (fun r159 u160 => wp_X8_to (xs9 (Int32.toNatClampNeg (i + (1 : Int32)))) v (fun r161 v162 => wp_X8_thrown v162 (fun r163 v164 => ((r163 = r159 → ((¬ (r159 = 0) → Ks (i + 8) u160 v164) ∧ (r159 = 0 → vp_in (0 : Int32) 1 ∧ ((((X_out u160 (Int32.toNatClampNeg (0 : Int32))) = r161 → Ks (i + 8) u160 v164) ∧ (¬ ((X_out u160 (Int32.toNatClampNeg (0 : Int32))) = r161) → False)))))) ∧ (¬ (r163 = r159) → False))))))
set_option maxHeartbeats 4000000 in
set_option maxRecDepth 20000 in
theorem t_law_977 (hl : l.stackTraces = false) (C : xCx p s m #[Value.ref b] meth c G K (fun q : Nat => s.heap.size ≤ q) 8 code R_law ret) (hZ : xZq (fun q : Nat => s.heap.size ≤ q) s) (hN : xNc s) (hX : va_X b L9 xs9 s s.heap) (hbl : b < s.heap.size) (hbA : ¬ (fun q : Nat => s.heap.size ≤ q) b) {f : Nat} {Ks : Int32 → XS → MS → Prop} (ih : ∀ (i : Int32) (u : XS) (v : MS) (cells slots : Nat), cells + 10 * f ≤ 600000 → slots + 100 * f ≤ 7300000 → Ks i u v → xV p l e room_1 s m #[Value.ref b] below meth c G (fun q : Nat => s.heap.size ≤ q) 8 (lw_Z below #[Value.ref b] s) cells slots (xw L K cap u (mw M K v [])) 53 [(0, .ref b), (1, .ref (L 0)), (2, .ref (M 0)), (3, .ref (L 14)), (4, .int i)] []) (hc : cells + 10 * (f + 1) ≤ 600000) (hs : slots + 100 * (f + 1) ≤ 7300000) (i : Int32) (u : XS) (v : MS) (hw : jn_law_977 cap L9 xs9 Ks i u v) : xV p l e room_1 s m #[Value.ref b] below meth c G (fun q : Nat => s.heap.size ≤ q) 8 (lw_Z below #[Value.ref b] s) cells slots (xw L K cap u (mw M K v [])) 977 [(0, .ref b), (1, .ref (L 0)), (2, .ref (M 0)), (3, .ref (L 14)), (4, .int i)] [] := by
  have hgv := trivial
  unfold jn_law_977 at hw
  refine x_aload_n C dL_law_977 rfl rfl 1 rfl ?_
  refine x_aload_n C dL_law_978 rfl rfl 0 rfl ?_
  refine x_iload C dL_law_979 rfl 4 rfl ?_
  refine x_iconst C (v := (1 : Int32)) dL_law_981 rfl (by decide) ?_
  refine x_iadd C dL_law_982 rfl ?_
  obtain ⟨h158, hw⟩ := hw
  refine x_sld C hX hbl hbA h158 dL_law_983 rfl ?_
  refine x_aload_n C dL_law_984 rfl rfl 3 rfl ?_
  refine k_L_to hl C hZ hN i_567 ⟨Nat.le_of_ble_eq_true rfl, Nat.le_of_ble_eq_true rfl⟩ ⟨by show _ ≤ 600096; omega, by show _ ≤ 7301352; omega⟩ (Nat.le_of_ble_eq_true rfl) hw dL_law_985 rfl (fun r159 u160 hw => ?_)
  refine x_istore C (lv' := [(5, .int r159), (0, .ref b), (1, .ref (L 0)), (2, .ref (M 0)), (3, .ref (L 14)), (4, .int i)]) dL_law_988 rfl (by decide) rfl ?_
  refine x_aload_n C dL_law_990 rfl rfl 3 rfl ?_
  refine x_aload_n C dL_law_991 rfl rfl 1 rfl ?_
  refine x_iload C dL_law_992 rfl 5 rfl ?_
  refine x_iconst C (v := (1 : Int32)) dL_law_994 rfl (by decide) ?_
  refine x_iadd C dL_law_995 rfl ?_
  refine x_sld C hX hbl hbA h158 dL_law_996 rfl ?_
  refine x_toM ?_
  refine k_X8_to C i_851 ⟨Nat.le_of_ble_eq_true rfl, Nat.le_of_ble_eq_true rfl⟩ ⟨by show _ ≤ 600096; omega, by show _ ≤ 7301352; omega⟩ (Nat.le_of_ble_eq_true rfl) hw dL_law_997 rfl (fun r161 v162 hw => ?_)
  refine x_toX ?_
  refine x_lstore C (lv' := [(6, .long r161), (5, .int r159), (0, .ref b), (1, .ref (L 0)), (2, .ref (M 0)), (3, .ref (L 14)), (4, .int i)]) dL_law_1000 rfl (by decide) rfl ?_
  refine x_aload_n C dL_law_1002 rfl rfl 4 rfl ?_
  refine x_toM ?_
  refine k_X8_thrown C i_702 ⟨Nat.le_of_ble_eq_true rfl, Nat.le_of_ble_eq_true rfl⟩ ⟨by show _ ≤ 600096; omega, by show _ ≤ 7301352; omega⟩ (Nat.le_of_ble_eq_true rfl) hw dL_law_1003 rfl (fun r163 v164 hw => ?_)
  refine x_toX ?_
  refine x_iload C dL_law_1006 rfl 1 rfl ?_
  refine x_icmp_eq C 1013 dL_law_1008 rfl (by decide) (fun c165 => ?_) (fun c165 => ?_)
  · have hw := hw.1 c165
    refine x_iload C dL_law_1013 rfl 1 rfl ?_
    refine x_if_ne C 1029 dL_law_1015 rfl (by decide) (fun c166 => ?_) (fun c166 => ?_)
    · have hw := hw.1 c166
      refine x_goto C (tgt := 1212) dL_law_1029 rfl (by decide) ?_
      refine x_iinc C (k := 6) (v := (i + 8)) (lv' := [(4, .int (i + 8)), (6, .long r161), (5, .int r159), (0, .ref b), (1, .ref (L 0)), (2, .ref (M 0)), (3, .ref (L 14))]) dL_law_1212 rfl rfl rfl (by decide) rfl ?_
      refine x_goto C (tgt := 53) dL_law_1215 rfl (by decide) ?_
      refine x_lv [3, 4, 5, 6, 0] rfl ?_
      exact ih (i + 8) u160 v164 _ _ (by omega) (by omega) hw
    · have hw := hw.2 c166
      refine x_aload_n C dL_law_1018 rfl rfl 5 rfl ?_
      refine x_iconst C (v := (0 : Int32)) dL_law_1019 rfl (by decide) ?_
      obtain ⟨h167, hw⟩ := hw
      refine gX14_at C h167 dL_law_1020 rfl ?_
      refine x_lload C dL_law_1021 rfl 0 rfl ?_
      refine x_lc_eq C 1029 dL_law_1023 dL_law_1024 rfl (by decide) (fun c168 => ?_) (fun c168 => ?_)
      · have hw := hw.1 c168
        refine x_goto C (tgt := 1212) dL_law_1029 rfl (by decide) ?_
        refine x_iinc C (k := 6) (v := (i + 8)) (lv' := [(4, .int (i + 8)), (6, .long r161), (5, .int r159), (0, .ref b), (1, .ref (L 0)), (2, .ref (M 0)), (3, .ref (L 14))]) dL_law_1212 rfl rfl rfl (by decide) rfl ?_
        refine x_goto C (tgt := 53) dL_law_1215 rfl (by decide) ?_
        refine x_lv [3, 4, 5, 6, 0] rfl ?_
        exact ih (i + 8) u160 v164 _ _ (by omega) (by omega) hw
      · have hw := hw.2 c168
        refine x_iconst C (v := (0 : Int32)) dL_law_1027 rfl (by decide) ?_
        exact hw.elim
  · have hw := hw.2 c165
    refine x_iconst C (v := (0 : Int32)) dL_law_1011 rfl (by decide) ?_
    exact hw.elim
def jn_law_1032 (cap L9 : Nat) (xs9 : Nat → Int32) (Ks : Int32 → XS → MS → Prop) (i : Int32) (u : XS) (v : MS) : Prop :=
  vp_in (i + (1 : Int32)) L9 ∧ (wp_L_data cap (xs9 (Int32.toNatClampNeg (i + (1 : Int32)))) u (fun r170 u171 => wp_X8_data (xs9 (Int32.toNatClampNeg (i + (1 : Int32)))) v (fun r172 v173 => wp_X8_thrown v173 (fun r174 v175 => ((r174 = r170 → ((¬ (r170 = 0) → Ks (i + 8) u171 v175) ∧ (r170 = 0 → vp_in (0 : Int32) 1 ∧ ((((X_out u171 (Int32.toNatClampNeg (0 : Int32))) = (Int32.toInt64 r172) → Ks (i + 8) u171 v175) ∧ (¬ ((X_out u171 (Int32.toNatClampNeg (0 : Int32))) = (Int32.toInt64 r172)) → False)))))) ∧ (¬ (r174 = r170) → False))))))
set_option maxHeartbeats 4000000 in
set_option maxRecDepth 20000 in
theorem t_law_1032 (hl : l.stackTraces = false) (C : xCx p s m #[Value.ref b] meth c G K (fun q : Nat => s.heap.size ≤ q) 8 code R_law ret) (hZ : xZq (fun q : Nat => s.heap.size ≤ q) s) (hN : xNc s) (hX : va_X b L9 xs9 s s.heap) (hbl : b < s.heap.size) (hbA : ¬ (fun q : Nat => s.heap.size ≤ q) b) {f : Nat} {Ks : Int32 → XS → MS → Prop} (ih : ∀ (i : Int32) (u : XS) (v : MS) (cells slots : Nat), cells + 10 * f ≤ 600000 → slots + 100 * f ≤ 7300000 → Ks i u v → xV p l e room_1 s m #[Value.ref b] below meth c G (fun q : Nat => s.heap.size ≤ q) 8 (lw_Z below #[Value.ref b] s) cells slots (xw L K cap u (mw M K v [])) 53 [(0, .ref b), (1, .ref (L 0)), (2, .ref (M 0)), (3, .ref (L 14)), (4, .int i)] []) (hc : cells + 10 * (f + 1) ≤ 600000) (hs : slots + 100 * (f + 1) ≤ 7300000) (i : Int32) (u : XS) (v : MS) (hw : jn_law_1032 cap L9 xs9 Ks i u v) : xV p l e room_1 s m #[Value.ref b] below meth c G (fun q : Nat => s.heap.size ≤ q) 8 (lw_Z below #[Value.ref b] s) cells slots (xw L K cap u (mw M K v [])) 1032 [(0, .ref b), (1, .ref (L 0)), (2, .ref (M 0)), (3, .ref (L 14)), (4, .int i)] [] := by
  have hgv := trivial
  unfold jn_law_1032 at hw
  refine x_aload_n C dL_law_1032 rfl rfl 1 rfl ?_
  refine x_aload_n C dL_law_1033 rfl rfl 0 rfl ?_
  refine x_iload C dL_law_1034 rfl 4 rfl ?_
  refine x_iconst C (v := (1 : Int32)) dL_law_1036 rfl (by decide) ?_
  refine x_iadd C dL_law_1037 rfl ?_
  obtain ⟨h169, hw⟩ := hw
  refine x_sld C hX hbl hbA h169 dL_law_1038 rfl ?_
  refine x_aload_n C dL_law_1039 rfl rfl 3 rfl ?_
  refine k_L_data hl C hZ hN i_583 ⟨Nat.le_of_ble_eq_true rfl, Nat.le_of_ble_eq_true rfl⟩ ⟨by show _ ≤ 600096; omega, by show _ ≤ 7301352; omega⟩ (Nat.le_of_ble_eq_true rfl) hw dL_law_1040 rfl (fun r170 u171 hw => ?_)
  refine x_istore C (lv' := [(5, .int r170), (0, .ref b), (1, .ref (L 0)), (2, .ref (M 0)), (3, .ref (L 14)), (4, .int i)]) dL_law_1043 rfl (by decide) rfl ?_
  refine x_aload_n C dL_law_1045 rfl rfl 3 rfl ?_
  refine x_aload_n C dL_law_1046 rfl rfl 1 rfl ?_
  refine x_iload C dL_law_1047 rfl 5 rfl ?_
  refine x_iconst C (v := (1 : Int32)) dL_law_1049 rfl (by decide) ?_
  refine x_iadd C dL_law_1050 rfl ?_
  refine x_sld C hX hbl hbA h169 dL_law_1051 rfl ?_
  refine x_toM ?_
  refine k_X8_data C i_859 ⟨Nat.le_of_ble_eq_true rfl, Nat.le_of_ble_eq_true rfl⟩ ⟨by show _ ≤ 600096; omega, by show _ ≤ 7301352; omega⟩ (Nat.le_of_ble_eq_true rfl) hw dL_law_1052 rfl (fun r172 v173 hw => ?_)
  refine x_toX ?_
  refine x_istore C (lv' := [(6, .int r172), (5, .int r170), (0, .ref b), (1, .ref (L 0)), (2, .ref (M 0)), (3, .ref (L 14)), (4, .int i)]) dL_law_1055 rfl (by decide) rfl ?_
  refine x_aload_n C dL_law_1057 rfl rfl 4 rfl ?_
  refine x_toM ?_
  refine k_X8_thrown C i_702 ⟨Nat.le_of_ble_eq_true rfl, Nat.le_of_ble_eq_true rfl⟩ ⟨by show _ ≤ 600096; omega, by show _ ≤ 7301352; omega⟩ (Nat.le_of_ble_eq_true rfl) hw dL_law_1058 rfl (fun r174 v175 hw => ?_)
  refine x_toX ?_
  refine x_iload C dL_law_1061 rfl 1 rfl ?_
  refine x_icmp_eq C 1068 dL_law_1063 rfl (by decide) (fun c176 => ?_) (fun c176 => ?_)
  · have hw := hw.1 c176
    refine x_iload C dL_law_1068 rfl 1 rfl ?_
    refine x_if_ne C 1085 dL_law_1070 rfl (by decide) (fun c177 => ?_) (fun c177 => ?_)
    · have hw := hw.1 c177
      refine x_goto C (tgt := 1212) dL_law_1085 rfl (by decide) ?_
      refine x_iinc C (k := 6) (v := (i + 8)) (lv' := [(4, .int (i + 8)), (6, .int r172), (5, .int r170), (0, .ref b), (1, .ref (L 0)), (2, .ref (M 0)), (3, .ref (L 14))]) dL_law_1212 rfl rfl rfl (by decide) rfl ?_
      refine x_goto C (tgt := 53) dL_law_1215 rfl (by decide) ?_
      refine x_lv [3, 4, 5, 6, 0] rfl ?_
      exact ih (i + 8) u171 v175 _ _ (by omega) (by omega) hw
    · have hw := hw.2 c177
      refine x_aload_n C dL_law_1073 rfl rfl 5 rfl ?_
      refine x_iconst C (v := (0 : Int32)) dL_law_1074 rfl (by decide) ?_
      obtain ⟨h178, hw⟩ := hw
      refine gX14_at C h178 dL_law_1075 rfl ?_
      refine x_iload C dL_law_1076 rfl 0 rfl ?_
      refine x_i2l C dL_law_1078 rfl ?_
      refine x_lc_eq C 1085 dL_law_1079 dL_law_1080 rfl (by decide) (fun c179 => ?_) (fun c179 => ?_)
      · have hw := hw.1 c179
        refine x_goto C (tgt := 1212) dL_law_1085 rfl (by decide) ?_
        refine x_iinc C (k := 6) (v := (i + 8)) (lv' := [(4, .int (i + 8)), (6, .int r172), (5, .int r170), (0, .ref b), (1, .ref (L 0)), (2, .ref (M 0)), (3, .ref (L 14))]) dL_law_1212 rfl rfl rfl (by decide) rfl ?_
        refine x_goto C (tgt := 53) dL_law_1215 rfl (by decide) ?_
        refine x_lv [3, 4, 5, 6, 0] rfl ?_
        exact ih (i + 8) u171 v175 _ _ (by omega) (by omega) hw
      · have hw := hw.2 c179
        refine x_iconst C (v := (0 : Int32)) dL_law_1083 rfl (by decide) ?_
        exact hw.elim
  · have hw := hw.2 c176
    refine x_iconst C (v := (0 : Int32)) dL_law_1066 rfl (by decide) ?_
    exact hw.elim
def jn_law_1088 (cap L9 : Nat) (xs9 : Nat → Int32) (Ks : Int32 → XS → MS → Prop) (i : Int32) (u : XS) (v : MS) : Prop :=
  vp_in (i + (1 : Int32)) L9 ∧ (vp_in (i + (2 : Int32)) L9 ∧ (wp_L_out cap (xs9 (Int32.toNatClampNeg (i + (1 : Int32)))) (xs9 (Int32.toNatClampNeg (i + (2 : Int32)))) u (fun r182 u183 => wp_X8_out (xs9 (Int32.toNatClampNeg (i + (1 : Int32)))) (xs9 (Int32.toNatClampNeg (i + (2 : Int32)))) v (fun r184 v185 => wp_X8_thrown v185 (fun r186 v187 => ((r186 = r182 → ((¬ (r182 = 0) → Ks (i + 8) u183 v187) ∧ (r182 = 0 → vp_in (0 : Int32) 1 ∧ ((((X_out u183 (Int32.toNatClampNeg (0 : Int32))) = (Int32.toInt64 r184) → Ks (i + 8) u183 v187) ∧ (¬ ((X_out u183 (Int32.toNatClampNeg (0 : Int32))) = (Int32.toInt64 r184)) → False)))))) ∧ (¬ (r186 = r182) → False)))))))
set_option maxHeartbeats 4000000 in
set_option maxRecDepth 20000 in
theorem t_law_1088 (hl : l.stackTraces = false) (C : xCx p s m #[Value.ref b] meth c G K (fun q : Nat => s.heap.size ≤ q) 8 code R_law ret) (hZ : xZq (fun q : Nat => s.heap.size ≤ q) s) (hN : xNc s) (hX : va_X b L9 xs9 s s.heap) (hbl : b < s.heap.size) (hbA : ¬ (fun q : Nat => s.heap.size ≤ q) b) {f : Nat} {Ks : Int32 → XS → MS → Prop} (ih : ∀ (i : Int32) (u : XS) (v : MS) (cells slots : Nat), cells + 10 * f ≤ 600000 → slots + 100 * f ≤ 7300000 → Ks i u v → xV p l e room_1 s m #[Value.ref b] below meth c G (fun q : Nat => s.heap.size ≤ q) 8 (lw_Z below #[Value.ref b] s) cells slots (xw L K cap u (mw M K v [])) 53 [(0, .ref b), (1, .ref (L 0)), (2, .ref (M 0)), (3, .ref (L 14)), (4, .int i)] []) (hc : cells + 10 * (f + 1) ≤ 600000) (hs : slots + 100 * (f + 1) ≤ 7300000) (i : Int32) (u : XS) (v : MS) (hw : jn_law_1088 cap L9 xs9 Ks i u v) : xV p l e room_1 s m #[Value.ref b] below meth c G (fun q : Nat => s.heap.size ≤ q) 8 (lw_Z below #[Value.ref b] s) cells slots (xw L K cap u (mw M K v [])) 1088 [(0, .ref b), (1, .ref (L 0)), (2, .ref (M 0)), (3, .ref (L 14)), (4, .int i)] [] := by
  have hgv := trivial
  unfold jn_law_1088 at hw
  refine x_aload_n C dL_law_1088 rfl rfl 1 rfl ?_
  refine x_aload_n C dL_law_1089 rfl rfl 0 rfl ?_
  refine x_iload C dL_law_1090 rfl 4 rfl ?_
  refine x_iconst C (v := (1 : Int32)) dL_law_1092 rfl (by decide) ?_
  refine x_iadd C dL_law_1093 rfl ?_
  obtain ⟨h180, hw⟩ := hw
  refine x_sld C hX hbl hbA h180 dL_law_1094 rfl ?_
  refine x_aload_n C dL_law_1095 rfl rfl 0 rfl ?_
  refine x_iload C dL_law_1096 rfl 4 rfl ?_
  refine x_iconst C (v := (2 : Int32)) dL_law_1098 rfl (by decide) ?_
  refine x_iadd C dL_law_1099 rfl ?_
  obtain ⟨h181, hw⟩ := hw
  refine x_sld C hX hbl hbA h181 dL_law_1100 rfl ?_
  refine x_aload_n C dL_law_1101 rfl rfl 3 rfl ?_
  refine k_L_out hl C hZ hN i_590 ⟨Nat.le_of_ble_eq_true rfl, Nat.le_of_ble_eq_true rfl⟩ ⟨by show _ ≤ 600096; omega, by show _ ≤ 7301352; omega⟩ (Nat.le_of_ble_eq_true rfl) hw dL_law_1102 rfl (fun r182 u183 hw => ?_)
  refine x_istore C (lv' := [(5, .int r182), (0, .ref b), (1, .ref (L 0)), (2, .ref (M 0)), (3, .ref (L 14)), (4, .int i)]) dL_law_1105 rfl (by decide) rfl ?_
  refine x_aload_n C dL_law_1107 rfl rfl 3 rfl ?_
  refine x_aload_n C dL_law_1108 rfl rfl 1 rfl ?_
  refine x_iload C dL_law_1109 rfl 5 rfl ?_
  refine x_iconst C (v := (1 : Int32)) dL_law_1111 rfl (by decide) ?_
  refine x_iadd C dL_law_1112 rfl ?_
  refine x_sld C hX hbl hbA h180 dL_law_1113 rfl ?_
  refine x_aload_n C dL_law_1114 rfl rfl 1 rfl ?_
  refine x_iload C dL_law_1115 rfl 5 rfl ?_
  refine x_iconst C (v := (2 : Int32)) dL_law_1117 rfl (by decide) ?_
  refine x_iadd C dL_law_1118 rfl ?_
  refine x_sld C hX hbl hbA h181 dL_law_1119 rfl ?_
  refine x_toM ?_
  refine k_X8_out C i_863 ⟨Nat.le_of_ble_eq_true rfl, Nat.le_of_ble_eq_true rfl⟩ ⟨by show _ ≤ 600096; omega, by show _ ≤ 7301352; omega⟩ (Nat.le_of_ble_eq_true rfl) hw dL_law_1120 rfl (fun r184 v185 hw => ?_)
  refine x_toX ?_
  refine x_istore C (lv' := [(6, .int r184), (5, .int r182), (0, .ref b), (1, .ref (L 0)), (2, .ref (M 0)), (3, .ref (L 14)), (4, .int i)]) dL_law_1123 rfl (by decide) rfl ?_
  refine x_aload_n C dL_law_1125 rfl rfl 4 rfl ?_
  refine x_toM ?_
  refine k_X8_thrown C i_702 ⟨Nat.le_of_ble_eq_true rfl, Nat.le_of_ble_eq_true rfl⟩ ⟨by show _ ≤ 600096; omega, by show _ ≤ 7301352; omega⟩ (Nat.le_of_ble_eq_true rfl) hw dL_law_1126 rfl (fun r186 v187 hw => ?_)
  refine x_toX ?_
  refine x_iload C dL_law_1129 rfl 1 rfl ?_
  refine x_icmp_eq C 1136 dL_law_1131 rfl (by decide) (fun c188 => ?_) (fun c188 => ?_)
  · have hw := hw.1 c188
    refine x_iload C dL_law_1136 rfl 1 rfl ?_
    refine x_if_ne C 1153 dL_law_1138 rfl (by decide) (fun c189 => ?_) (fun c189 => ?_)
    · have hw := hw.1 c189
      refine x_goto C (tgt := 1212) dL_law_1153 rfl (by decide) ?_
      refine x_iinc C (k := 6) (v := (i + 8)) (lv' := [(4, .int (i + 8)), (6, .int r184), (5, .int r182), (0, .ref b), (1, .ref (L 0)), (2, .ref (M 0)), (3, .ref (L 14))]) dL_law_1212 rfl rfl rfl (by decide) rfl ?_
      refine x_goto C (tgt := 53) dL_law_1215 rfl (by decide) ?_
      refine x_lv [3, 4, 5, 6, 0] rfl ?_
      exact ih (i + 8) u183 v187 _ _ (by omega) (by omega) hw
    · have hw := hw.2 c189
      refine x_aload_n C dL_law_1141 rfl rfl 5 rfl ?_
      refine x_iconst C (v := (0 : Int32)) dL_law_1142 rfl (by decide) ?_
      obtain ⟨h190, hw⟩ := hw
      refine gX14_at C h190 dL_law_1143 rfl ?_
      refine x_iload C dL_law_1144 rfl 0 rfl ?_
      refine x_i2l C dL_law_1146 rfl ?_
      refine x_lc_eq C 1153 dL_law_1147 dL_law_1148 rfl (by decide) (fun c191 => ?_) (fun c191 => ?_)
      · have hw := hw.1 c191
        refine x_goto C (tgt := 1212) dL_law_1153 rfl (by decide) ?_
        refine x_iinc C (k := 6) (v := (i + 8)) (lv' := [(4, .int (i + 8)), (6, .int r184), (5, .int r182), (0, .ref b), (1, .ref (L 0)), (2, .ref (M 0)), (3, .ref (L 14))]) dL_law_1212 rfl rfl rfl (by decide) rfl ?_
        refine x_goto C (tgt := 53) dL_law_1215 rfl (by decide) ?_
        refine x_lv [3, 4, 5, 6, 0] rfl ?_
        exact ih (i + 8) u183 v187 _ _ (by omega) (by omega) hw
      · have hw := hw.2 c191
        refine x_iconst C (v := (0 : Int32)) dL_law_1151 rfl (by decide) ?_
        exact hw.elim
  · have hw := hw.2 c188
    refine x_iconst C (v := (0 : Int32)) dL_law_1134 rfl (by decide) ?_
    exact hw.elim
def jn_law_1156 (cap L9 : Nat) (xs9 : Nat → Int32) (Ks : Int32 → XS → MS → Prop) (i : Int32) (u : XS) (v : MS) : Prop :=
  vp_in (i + (1 : Int32)) L9 ∧ (wp_L_lost cap (xs9 (Int32.toNatClampNeg (i + (1 : Int32)))) u (fun r193 u194 => wp_X8_lost (xs9 (Int32.toNatClampNeg (i + (1 : Int32)))) v (fun r195 v196 => wp_X8_thrown v196 (fun r197 v198 => ((r197 = r193 → ((¬ (r193 = 0) → Ks (i + 8) u194 v198) ∧ (r193 = 0 → vp_in (0 : Int32) 1 ∧ ((((X_out u194 (Int32.toNatClampNeg (0 : Int32))) = (Int32.toInt64 r195) → Ks (i + 8) u194 v198) ∧ (¬ ((X_out u194 (Int32.toNatClampNeg (0 : Int32))) = (Int32.toInt64 r195)) → False)))))) ∧ (¬ (r197 = r193) → False))))))
set_option maxHeartbeats 4000000 in
set_option maxRecDepth 20000 in
theorem t_law_1156 (hl : l.stackTraces = false) (C : xCx p s m #[Value.ref b] meth c G K (fun q : Nat => s.heap.size ≤ q) 8 code R_law ret) (hZ : xZq (fun q : Nat => s.heap.size ≤ q) s) (hN : xNc s) (hX : va_X b L9 xs9 s s.heap) (hbl : b < s.heap.size) (hbA : ¬ (fun q : Nat => s.heap.size ≤ q) b) {f : Nat} {Ks : Int32 → XS → MS → Prop} (ih : ∀ (i : Int32) (u : XS) (v : MS) (cells slots : Nat), cells + 10 * f ≤ 600000 → slots + 100 * f ≤ 7300000 → Ks i u v → xV p l e room_1 s m #[Value.ref b] below meth c G (fun q : Nat => s.heap.size ≤ q) 8 (lw_Z below #[Value.ref b] s) cells slots (xw L K cap u (mw M K v [])) 53 [(0, .ref b), (1, .ref (L 0)), (2, .ref (M 0)), (3, .ref (L 14)), (4, .int i)] []) (hc : cells + 10 * (f + 1) ≤ 600000) (hs : slots + 100 * (f + 1) ≤ 7300000) (i : Int32) (u : XS) (v : MS) (hw : jn_law_1156 cap L9 xs9 Ks i u v) : xV p l e room_1 s m #[Value.ref b] below meth c G (fun q : Nat => s.heap.size ≤ q) 8 (lw_Z below #[Value.ref b] s) cells slots (xw L K cap u (mw M K v [])) 1156 [(0, .ref b), (1, .ref (L 0)), (2, .ref (M 0)), (3, .ref (L 14)), (4, .int i)] [] := by
  have hgv := trivial
  unfold jn_law_1156 at hw
  refine x_aload_n C dL_law_1156 rfl rfl 1 rfl ?_
  refine x_aload_n C dL_law_1157 rfl rfl 0 rfl ?_
  refine x_iload C dL_law_1158 rfl 4 rfl ?_
  refine x_iconst C (v := (1 : Int32)) dL_law_1160 rfl (by decide) ?_
  refine x_iadd C dL_law_1161 rfl ?_
  obtain ⟨h192, hw⟩ := hw
  refine x_sld C hX hbl hbA h192 dL_law_1162 rfl ?_
  refine x_aload_n C dL_law_1163 rfl rfl 3 rfl ?_
  refine k_L_lost hl C hZ hN i_606 ⟨Nat.le_of_ble_eq_true rfl, Nat.le_of_ble_eq_true rfl⟩ ⟨by show _ ≤ 600096; omega, by show _ ≤ 7301352; omega⟩ (Nat.le_of_ble_eq_true rfl) hw dL_law_1164 rfl (fun r193 u194 hw => ?_)
  refine x_istore C (lv' := [(5, .int r193), (0, .ref b), (1, .ref (L 0)), (2, .ref (M 0)), (3, .ref (L 14)), (4, .int i)]) dL_law_1167 rfl (by decide) rfl ?_
  refine x_aload_n C dL_law_1169 rfl rfl 3 rfl ?_
  refine x_aload_n C dL_law_1170 rfl rfl 1 rfl ?_
  refine x_iload C dL_law_1171 rfl 5 rfl ?_
  refine x_iconst C (v := (1 : Int32)) dL_law_1173 rfl (by decide) ?_
  refine x_iadd C dL_law_1174 rfl ?_
  refine x_sld C hX hbl hbA h192 dL_law_1175 rfl ?_
  refine x_toM ?_
  refine k_X8_lost C i_867 ⟨Nat.le_of_ble_eq_true rfl, Nat.le_of_ble_eq_true rfl⟩ ⟨by show _ ≤ 600096; omega, by show _ ≤ 7301352; omega⟩ (Nat.le_of_ble_eq_true rfl) hw dL_law_1176 rfl (fun r195 v196 hw => ?_)
  refine x_toX ?_
  refine x_istore C (lv' := [(6, .int r195), (5, .int r193), (0, .ref b), (1, .ref (L 0)), (2, .ref (M 0)), (3, .ref (L 14)), (4, .int i)]) dL_law_1179 rfl (by decide) rfl ?_
  refine x_aload_n C dL_law_1181 rfl rfl 4 rfl ?_
  refine x_toM ?_
  refine k_X8_thrown C i_702 ⟨Nat.le_of_ble_eq_true rfl, Nat.le_of_ble_eq_true rfl⟩ ⟨by show _ ≤ 600096; omega, by show _ ≤ 7301352; omega⟩ (Nat.le_of_ble_eq_true rfl) hw dL_law_1182 rfl (fun r197 v198 hw => ?_)
  refine x_toX ?_
  refine x_iload C dL_law_1185 rfl 1 rfl ?_
  refine x_icmp_eq C 1192 dL_law_1187 rfl (by decide) (fun c199 => ?_) (fun c199 => ?_)
  · have hw := hw.1 c199
    refine x_iload C dL_law_1192 rfl 1 rfl ?_
    refine x_if_ne C 1209 dL_law_1194 rfl (by decide) (fun c200 => ?_) (fun c200 => ?_)
    · have hw := hw.1 c200
      refine x_goto C (tgt := 1212) dL_law_1209 rfl (by decide) ?_
      refine x_iinc C (k := 6) (v := (i + 8)) (lv' := [(4, .int (i + 8)), (6, .int r195), (5, .int r193), (0, .ref b), (1, .ref (L 0)), (2, .ref (M 0)), (3, .ref (L 14))]) dL_law_1212 rfl rfl rfl (by decide) rfl ?_
      refine x_goto C (tgt := 53) dL_law_1215 rfl (by decide) ?_
      refine x_lv [3, 4, 5, 6, 0] rfl ?_
      exact ih (i + 8) u194 v198 _ _ (by omega) (by omega) hw
    · have hw := hw.2 c200
      refine x_aload_n C dL_law_1197 rfl rfl 5 rfl ?_
      refine x_iconst C (v := (0 : Int32)) dL_law_1198 rfl (by decide) ?_
      obtain ⟨h201, hw⟩ := hw
      refine gX14_at C h201 dL_law_1199 rfl ?_
      refine x_iload C dL_law_1200 rfl 0 rfl ?_
      refine x_i2l C dL_law_1202 rfl ?_
      refine x_lc_eq C 1209 dL_law_1203 dL_law_1204 rfl (by decide) (fun c202 => ?_) (fun c202 => ?_)
      · have hw := hw.1 c202
        refine x_goto C (tgt := 1212) dL_law_1209 rfl (by decide) ?_
        refine x_iinc C (k := 6) (v := (i + 8)) (lv' := [(4, .int (i + 8)), (6, .int r195), (5, .int r193), (0, .ref b), (1, .ref (L 0)), (2, .ref (M 0)), (3, .ref (L 14))]) dL_law_1212 rfl rfl rfl (by decide) rfl ?_
        refine x_goto C (tgt := 53) dL_law_1215 rfl (by decide) ?_
        refine x_lv [3, 4, 5, 6, 0] rfl ?_
        exact ih (i + 8) u194 v198 _ _ (by omega) (by omega) hw
      · have hw := hw.2 c202
        refine x_iconst C (v := (0 : Int32)) dL_law_1207 rfl (by decide) ?_
        exact hw.elim
  · have hw := hw.2 c199
    refine x_iconst C (v := (0 : Int32)) dL_law_1190 rfl (by decide) ?_
    exact hw.elim
def lb_law (cap L9 : Nat) (xs9 : Nat → Int32) (Ks : Int32 → XS → MS → Prop) (i : Int32) (u : XS) (v : MS) : Prop :=
  ((((nI L9) - (8 : Int32)) < i → True) ∧ (¬ (((nI L9) - (8 : Int32)) < i) → vp_in i L9 ∧ (((((xs9 (Int32.toNatClampNeg i)) &&& (31 : Int32)) = 0 → jn_law_156 cap L9 xs9 Ks i u v) ∧ (((xs9 (Int32.toNatClampNeg i)) &&& (31 : Int32)) = 1 → jn_law_224 cap L9 xs9 Ks i u v) ∧ (((xs9 (Int32.toNatClampNeg i)) &&& (31 : Int32)) = 2 → jn_law_324 cap L9 xs9 Ks i u v) ∧ (((xs9 (Int32.toNatClampNeg i)) &&& (31 : Int32)) = 3 → jn_law_463 cap L9 xs9 Ks i u v) ∧ (((xs9 (Int32.toNatClampNeg i)) &&& (31 : Int32)) = 4 → jn_law_476 cap L9 xs9 Ks i u v) ∧ (((xs9 (Int32.toNatClampNeg i)) &&& (31 : Int32)) = 5 → jn_law_512 cap L9 xs9 Ks i u v) ∧ (((xs9 (Int32.toNatClampNeg i)) &&& (31 : Int32)) = 6 → jn_law_525 cap L9 xs9 Ks i u v) ∧ (((xs9 (Int32.toNatClampNeg i)) &&& (31 : Int32)) = 7 → jn_law_593 cap L9 xs9 Ks i u v) ∧ (((xs9 (Int32.toNatClampNeg i)) &&& (31 : Int32)) = 8 → jn_law_649 cap L9 xs9 Ks i u v) ∧ (((xs9 (Int32.toNatClampNeg i)) &&& (31 : Int32)) = 9 → jn_law_705 cap L9 xs9 Ks i u v) ∧ (((xs9 (Int32.toNatClampNeg i)) &&& (31 : Int32)) = 10 → jn_law_761 cap L9 xs9 Ks i u v) ∧ (((xs9 (Int32.toNatClampNeg i)) &&& (31 : Int32)) = 11 → jn_law_829 cap L9 xs9 Ks i u v) ∧ (((xs9 (Int32.toNatClampNeg i)) &&& (31 : Int32)) = 12 → jn_law_884 cap L9 xs9 Ks i u v) ∧ (((xs9 (Int32.toNatClampNeg i)) &&& (31 : Int32)) = 13 → jn_law_909 cap L9 xs9 Ks i u v) ∧ (((xs9 (Int32.toNatClampNeg i)) &&& (31 : Int32)) = 14 → jn_law_977 cap L9 xs9 Ks i u v) ∧ (((xs9 (Int32.toNatClampNeg i)) &&& (31 : Int32)) = 15 → jn_law_1032 cap L9 xs9 Ks i u v) ∧ (((xs9 (Int32.toNatClampNeg i)) &&& (31 : Int32)) = 16 → jn_law_1088 cap L9 xs9 Ks i u v) ∧ (((xs9 (Int32.toNatClampNeg i)) &&& (31 : Int32)) = 17 → jn_law_1156 cap L9 xs9 Ks i u v) ∧ (¬ ((xs9 (Int32.toNatClampNeg i)) &&& (31 : Int32)) = 0 ∧ ¬ ((xs9 (Int32.toNatClampNeg i)) &&& (31 : Int32)) = 1 ∧ ¬ ((xs9 (Int32.toNatClampNeg i)) &&& (31 : Int32)) = 2 ∧ ¬ ((xs9 (Int32.toNatClampNeg i)) &&& (31 : Int32)) = 3 ∧ ¬ ((xs9 (Int32.toNatClampNeg i)) &&& (31 : Int32)) = 4 ∧ ¬ ((xs9 (Int32.toNatClampNeg i)) &&& (31 : Int32)) = 5 ∧ ¬ ((xs9 (Int32.toNatClampNeg i)) &&& (31 : Int32)) = 6 ∧ ¬ ((xs9 (Int32.toNatClampNeg i)) &&& (31 : Int32)) = 7 ∧ ¬ ((xs9 (Int32.toNatClampNeg i)) &&& (31 : Int32)) = 8 ∧ ¬ ((xs9 (Int32.toNatClampNeg i)) &&& (31 : Int32)) = 9 ∧ ¬ ((xs9 (Int32.toNatClampNeg i)) &&& (31 : Int32)) = 10 ∧ ¬ ((xs9 (Int32.toNatClampNeg i)) &&& (31 : Int32)) = 11 ∧ ¬ ((xs9 (Int32.toNatClampNeg i)) &&& (31 : Int32)) = 12 ∧ ¬ ((xs9 (Int32.toNatClampNeg i)) &&& (31 : Int32)) = 13 ∧ ¬ ((xs9 (Int32.toNatClampNeg i)) &&& (31 : Int32)) = 14 ∧ ¬ ((xs9 (Int32.toNatClampNeg i)) &&& (31 : Int32)) = 15 ∧ ¬ ((xs9 (Int32.toNatClampNeg i)) &&& (31 : Int32)) = 16 ∧ ¬ ((xs9 (Int32.toNatClampNeg i)) &&& (31 : Int32)) = 17 → Ks (i + 8) u v)))))
def lp_law (cap L9 : Nat) (xs9 : Nat → Int32) : Nat → Int32 → XS → MS → Prop
  | 0 => fun _ _ _ => False
  | f + 1 => fun i u v => lb_law cap L9 xs9 (lp_law cap L9 xs9 f) i u v
set_option maxHeartbeats 4000000 in
set_option maxRecDepth 20000 in
theorem t_law_53 (hl : l.stackTraces = false) (C : xCx p s m #[Value.ref b] meth c G K (fun q : Nat => s.heap.size ≤ q) 8 code R_law ret) (hZ : xZq (fun q : Nat => s.heap.size ≤ q) s) (hN : xNc s) (hX : va_X b L9 xs9 s s.heap) (hbl : b < s.heap.size) (hbA : ¬ (fun q : Nat => s.heap.size ≤ q) b) : ∀ (f : Nat) (i : Int32) (u : XS) (v : MS) (cells slots : Nat), cells + 10 * f ≤ 600000 → slots + 100 * f ≤ 7300000 → lp_law cap L9 xs9 f i u v → xV p l e room_1 s m #[Value.ref b] below meth c G (fun q : Nat => s.heap.size ≤ q) 8 (lw_Z below #[Value.ref b] s) cells slots (xw L K cap u (mw M K v [])) 53 [(0, .ref b), (1, .ref (L 0)), (2, .ref (M 0)), (3, .ref (L 14)), (4, .int i)] [] := by
  have hgv := trivial
  intro f
  induction f with
  | zero => intro i u v cells slots hc hs hw; exact hw.elim
  | succ f ih =>
    intro i u v cells slots hc hs hw
    have hw : lb_law cap L9 xs9 (lp_law cap L9 xs9 f) i u v := hw
    unfold lb_law at hw
    refine x_iload C dL_law_53 rfl 4 rfl ?_
    refine x_aload_n C dL_law_55 rfl rfl 0 rfl ?_
    refine x_slen C hX hbl hbA dL_law_56 rfl ?_
    refine x_bipush C (v := (8 : Int32)) dL_law_57 rfl (by decide) ?_
    refine x_isub C dL_law_59 rfl ?_
    refine x_icmp_gt C 1218 dL_law_60 rfl (by decide) (fun c1 => ?_) (fun c1 => ?_)
    · have hw := hw.1 c1
      refine x_iconst C (v := (1 : Int32)) dL_law_1218 rfl (by decide) ?_
      exact xL_ret C hgv dL_law_1219 rfl (by omega) (by omega)
    · have hw := hw.2 c1
      refine x_aload_n C dL_law_63 rfl rfl 0 rfl ?_
      refine x_iload C dL_law_64 rfl 4 rfl ?_
      obtain ⟨h2, hw⟩ := hw
      refine x_sld C hX hbl hbA h2 dL_law_66 rfl ?_
      refine x_bipush C (v := (31 : Int32)) dL_law_67 rfl (by decide) ?_
      refine x_iand C dL_law_69 rfl ?_
      by_cases c3 : ((xs9 (Int32.toNatClampNeg i)) &&& (31 : Int32)) = 0
      · have hw := hw.1 c3
        refine x_tableIn C 156 dL_law_70 rfl (by rw [c3]; decide) (by rw [c3]; decide) (by rw [c3]; rfl) (by decide) ?_
        exact t_law_156 hl C hZ hN hX hbl hbA ih (by omega) (by omega) i u v hw
      by_cases c4 : ((xs9 (Int32.toNatClampNeg i)) &&& (31 : Int32)) = 1
      · have hw := hw.2.1 c4
        refine x_tableIn C 224 dL_law_70 rfl (by rw [c4]; decide) (by rw [c4]; decide) (by rw [c4]; rfl) (by decide) ?_
        exact t_law_224 hl C hZ hN hX hbl hbA ih (by omega) (by omega) i u v hw
      by_cases c5 : ((xs9 (Int32.toNatClampNeg i)) &&& (31 : Int32)) = 2
      · have hw := hw.2.2.1 c5
        refine x_tableIn C 324 dL_law_70 rfl (by rw [c5]; decide) (by rw [c5]; decide) (by rw [c5]; rfl) (by decide) ?_
        exact t_law_324 hl C hZ hN hX hbl hbA ih (by omega) (by omega) i u v hw
      by_cases c6 : ((xs9 (Int32.toNatClampNeg i)) &&& (31 : Int32)) = 3
      · have hw := hw.2.2.2.1 c6
        refine x_tableIn C 463 dL_law_70 rfl (by rw [c6]; decide) (by rw [c6]; decide) (by rw [c6]; rfl) (by decide) ?_
        exact t_law_463 hl C hZ hN hX hbl hbA ih (by omega) (by omega) i u v hw
      by_cases c7 : ((xs9 (Int32.toNatClampNeg i)) &&& (31 : Int32)) = 4
      · have hw := hw.2.2.2.2.1 c7
        refine x_tableIn C 476 dL_law_70 rfl (by rw [c7]; decide) (by rw [c7]; decide) (by rw [c7]; rfl) (by decide) ?_
        exact t_law_476 hl C hZ hN hX hbl hbA ih (by omega) (by omega) i u v hw
      by_cases c8 : ((xs9 (Int32.toNatClampNeg i)) &&& (31 : Int32)) = 5
      · have hw := hw.2.2.2.2.2.1 c8
        refine x_tableIn C 512 dL_law_70 rfl (by rw [c8]; decide) (by rw [c8]; decide) (by rw [c8]; rfl) (by decide) ?_
        exact t_law_512 hl C hZ hN hX hbl hbA ih (by omega) (by omega) i u v hw
      by_cases c9 : ((xs9 (Int32.toNatClampNeg i)) &&& (31 : Int32)) = 6
      · have hw := hw.2.2.2.2.2.2.1 c9
        refine x_tableIn C 525 dL_law_70 rfl (by rw [c9]; decide) (by rw [c9]; decide) (by rw [c9]; rfl) (by decide) ?_
        exact t_law_525 hl C hZ hN hX hbl hbA ih (by omega) (by omega) i u v hw
      by_cases c10 : ((xs9 (Int32.toNatClampNeg i)) &&& (31 : Int32)) = 7
      · have hw := hw.2.2.2.2.2.2.2.1 c10
        refine x_tableIn C 593 dL_law_70 rfl (by rw [c10]; decide) (by rw [c10]; decide) (by rw [c10]; rfl) (by decide) ?_
        exact t_law_593 hl C hZ hN hX hbl hbA ih (by omega) (by omega) i u v hw
      by_cases c11 : ((xs9 (Int32.toNatClampNeg i)) &&& (31 : Int32)) = 8
      · have hw := hw.2.2.2.2.2.2.2.2.1 c11
        refine x_tableIn C 649 dL_law_70 rfl (by rw [c11]; decide) (by rw [c11]; decide) (by rw [c11]; rfl) (by decide) ?_
        exact t_law_649 hl C hZ hN hX hbl hbA ih (by omega) (by omega) i u v hw
      by_cases c12 : ((xs9 (Int32.toNatClampNeg i)) &&& (31 : Int32)) = 9
      · have hw := hw.2.2.2.2.2.2.2.2.2.1 c12
        refine x_tableIn C 705 dL_law_70 rfl (by rw [c12]; decide) (by rw [c12]; decide) (by rw [c12]; rfl) (by decide) ?_
        exact t_law_705 hl C hZ hN hX hbl hbA ih (by omega) (by omega) i u v hw
      by_cases c13 : ((xs9 (Int32.toNatClampNeg i)) &&& (31 : Int32)) = 10
      · have hw := hw.2.2.2.2.2.2.2.2.2.2.1 c13
        refine x_tableIn C 761 dL_law_70 rfl (by rw [c13]; decide) (by rw [c13]; decide) (by rw [c13]; rfl) (by decide) ?_
        exact t_law_761 hl C hZ hN hX hbl hbA ih (by omega) (by omega) i u v hw
      by_cases c14 : ((xs9 (Int32.toNatClampNeg i)) &&& (31 : Int32)) = 11
      · have hw := hw.2.2.2.2.2.2.2.2.2.2.2.1 c14
        refine x_tableIn C 829 dL_law_70 rfl (by rw [c14]; decide) (by rw [c14]; decide) (by rw [c14]; rfl) (by decide) ?_
        exact t_law_829 hl C hZ hN hX hbl hbA ih (by omega) (by omega) i u v hw
      by_cases c15 : ((xs9 (Int32.toNatClampNeg i)) &&& (31 : Int32)) = 12
      · have hw := hw.2.2.2.2.2.2.2.2.2.2.2.2.1 c15
        refine x_tableIn C 884 dL_law_70 rfl (by rw [c15]; decide) (by rw [c15]; decide) (by rw [c15]; rfl) (by decide) ?_
        exact t_law_884 hl C hZ hN hX hbl hbA ih (by omega) (by omega) i u v hw
      by_cases c16 : ((xs9 (Int32.toNatClampNeg i)) &&& (31 : Int32)) = 13
      · have hw := hw.2.2.2.2.2.2.2.2.2.2.2.2.2.1 c16
        refine x_tableIn C 909 dL_law_70 rfl (by rw [c16]; decide) (by rw [c16]; decide) (by rw [c16]; rfl) (by decide) ?_
        exact t_law_909 hl C hZ hN hX hbl hbA ih (by omega) (by omega) i u v hw
      by_cases c17 : ((xs9 (Int32.toNatClampNeg i)) &&& (31 : Int32)) = 14
      · have hw := hw.2.2.2.2.2.2.2.2.2.2.2.2.2.2.1 c17
        refine x_tableIn C 977 dL_law_70 rfl (by rw [c17]; decide) (by rw [c17]; decide) (by rw [c17]; rfl) (by decide) ?_
        exact t_law_977 hl C hZ hN hX hbl hbA ih (by omega) (by omega) i u v hw
      by_cases c18 : ((xs9 (Int32.toNatClampNeg i)) &&& (31 : Int32)) = 15
      · have hw := hw.2.2.2.2.2.2.2.2.2.2.2.2.2.2.2.1 c18
        refine x_tableIn C 1032 dL_law_70 rfl (by rw [c18]; decide) (by rw [c18]; decide) (by rw [c18]; rfl) (by decide) ?_
        exact t_law_1032 hl C hZ hN hX hbl hbA ih (by omega) (by omega) i u v hw
      by_cases c19 : ((xs9 (Int32.toNatClampNeg i)) &&& (31 : Int32)) = 16
      · have hw := hw.2.2.2.2.2.2.2.2.2.2.2.2.2.2.2.2.1 c19
        refine x_tableIn C 1088 dL_law_70 rfl (by rw [c19]; decide) (by rw [c19]; decide) (by rw [c19]; rfl) (by decide) ?_
        exact t_law_1088 hl C hZ hN hX hbl hbA ih (by omega) (by omega) i u v hw
      by_cases c20 : ((xs9 (Int32.toNatClampNeg i)) &&& (31 : Int32)) = 17
      · have hw := hw.2.2.2.2.2.2.2.2.2.2.2.2.2.2.2.2.2.1 c20
        refine x_tableIn C 1156 dL_law_70 rfl (by rw [c20]; decide) (by rw [c20]; decide) (by rw [c20]; rfl) (by decide) ?_
        exact t_law_1156 hl C hZ hN hX hbl hbA ih (by omega) (by omega) i u v hw
      have hw := hw.2.2.2.2.2.2.2.2.2.2.2.2.2.2.2.2.2.2 ⟨c3, c4, c5, c6, c7, c8, c9, c10, c11, c12, c13, c14, c15, c16, c17, c18, c19, c20⟩
      refine x_tableOut C 1212 dL_law_70 rfl (x_out0_17 c3 c4 c5 c6 c7 c8 c9 c10 c11 c12 c13 c14 c15 c16 c17 c18 c19 c20) (by decide) ?_
      refine x_iinc C (k := 4) (v := (i + 8)) (lv' := [(4, .int (i + 8)), (0, .ref b), (1, .ref (L 0)), (2, .ref (M 0)), (3, .ref (L 14))]) dL_law_1212 rfl rfl rfl (by decide) rfl ?_
      refine x_goto C (tgt := 53) dL_law_1215 rfl (by decide) ?_
      refine x_lv [1, 2, 3, 4, 0] rfl ?_
      exact ih (i + 8) u v _ _ (by omega) (by omega) hw
end XLW
