/-! constructors: worlds that grow -/
def yQc (G : va_G) (A : Nat → Prop) (Po : Option Value → va_W → Prop) : Array Value → State → Outcome → State → Prop := fun _ s0 o t => (∃ (v : Option Value) (w' : va_W), o = .returned v ∧ Po v w' ∧ va_P G vwCl w' t.heap ∧ va_D A w') ∧ va_F A s0 t
def yPre (G : va_G) (K : Nat → ClassId) (av : List Value) (ws : va_W) (sz : Nat) (Ex : State → Prop) : Array Value → State → Prop := va_Pc av (fun U => (U.heap.size = sz ∧ va_P G vwCl ws U.heap ∧ va_K G vwCl (xty K) U ∧ va_D (fun _ => True) ws) ∧ Ex U)
def yMet (l : Launch) (y : MethodName) (cc : ByteArray) (n : Nat) (ret : Option FieldType) (fr lo mc ms : Nat) (G : va_G) (K : Nat → ClassId) (av : List Value) (ws : va_W) (Po : Option Value → va_W → Prop) (Ex : State → Prop) : Prop :=
  ∀ sz : Nat, Met l y (Cond.code y cc n ret :: gw_tbl) (xRm fr lo mc ms) (yPre G K av ws sz Ex) (yQc G (va_A ws sz) Po) mc ms (va_A ws sz)
abbrev yQ (G : va_G) (A : Nat → Prop) (Po : Option Value → va_W → Prop) (below : List Frame) (args : Array Value) (s : State) (mc ms : Nat) : State → Prop := MQ below (yQc G A Po) args s mc ms A
/-- the words of nest mates' private constructors -/
abbrev xnest : List Cond := [.methodLinkNest RX7 9 yX5_init RX7, .methodLinkNest RX7 18 yX2_init RX7, .methodLinkNest RX2 11 yX4_init RX7, .methodLinkNest RX7 25 yX3_init RX7, .methodLinkNest RX3 9 yX4_init RX7, .methodLinkNest RX0 21 yX1_init RX7]
def xCw (U : State) : Prop := (∀ w ∈ xnest, va_Nw w U) ∧ va_AO "NeighbourDesk$Entry" U
theorem xCw.warm {s U : State} (hW : s.WarmedH U.vm) (h : xCw s) : xCw U := by
  refine ⟨fun w hw => ?_, h.2.moved hW.alike⟩
  have h1 := h.1 w hw
  simp only [xnest, List.mem_cons, List.not_mem_nil, or_false] at hw
  rcases hw with rfl | rfl | rfl | rfl | rfl | rfl <;> exact va_Nw.warmM hW h1
theorem xCw.same {s U : State} (hvm : s.vm = U.vm) (h : xCw s) : xCw U := by
  refine ⟨fun w hw => ?_, h.2.moved (hvm ▸ Vm.Alike.refl _)⟩
  have h1 := h.1 w hw
  simp only [xnest, List.mem_cons, List.not_mem_nil, or_false] at hw
  rcases hw with rfl | rfl | rfl | rfl | rfl | rfl <;> exact va_Nw.same rfl hvm h1
section XMK
variable {p : Program} {l : Launch} {e : Env} {R : Room} {s : State} {m : MethodId} {args : Array Value} {below : List Frame} {meth : Method} {c : Code} {G : va_G} {A : Nat → Prop} {nL : Nat} {Q : State → Prop} {cells slots : Nat} {K : Nat → ClassId} {cc : ByteArray} {own : String} {ret : Option FieldType} {pc n : Nat} {lv : List (Nat × Value)} {st : List Value} {L : Nat → Nat} {cap : Nat} {T ws : va_W} {Po : Option Value → va_W → Prop} {Ex : State → Prop} {mc ms : Nat}
theorem yMet.intro {l : Launch} {y : MethodName} {fr lo mc ms : Nat} {av : List Value} {Po : Option Value → va_W → Prop} {Ex : State → Prop} (hy : plainFor y = true) (ho : y.cls = own) (hn : (lg_sl av).length ≤ n) (hlv : lv_args 0 av = lv)
    (body : ∀ (p : Program) (e : Env) (s : State) (m : MethodId) (args : Array Value) (below : List Frame) (meth : Method) (c : Code) (A : Nat → Prop), xCx p s m args meth c G K A n cc own ret → Ex s → A = va_A ws s.heap.size → meth.name = y.name → xV p l e (xRm fr lo mc ms) s m args below meth c G A n (yQ G A Po below args s mc ms) 0 0 ws 0 lv []) : yMet l y cc n ret fr lo mc ms G K av ws Po Ex := by
  intro sz
  refine xMet.ofWF (cc := cc) (maxL := n) (ret := ret) hy rfl ?_
  intro p e s m args below meth c s₁ B hml hv
  obtain ⟨rfl, ⟨hsz, hP, hK, hD0⟩, hE⟩ := hv
  have hts := atoms_spec (ws := Cond.code y cc n ret :: gw_tbl) B.pre
  have hown : s.vm.findClass y.cls = some m.cls := findClass_of_methodNamed B.named
  have hnm : meth.name = y.name := (name_of_methodNamed B.named B.method).1
  subst hsz
  have hl := lv_entry av (n := n) hn
  rw [lg_entry_eq]
  rw [hlv] at hl
  exact body p e s m _ below meth c (va_A ws s.heap.size) ⟨B.exec, B.bytes, B.returns, B.notSynchronized, hml, ho ▸ hown, fun w h => hts w (List.mem_cons_of_mem _ h), hK, fun q h => Or.inr h⟩ hE rfl hnm s.heap [] _ hP hD0.self va_S.rf hl
theorem x_ws {ws' : va_W} (h : ws = ws') (kk : xV p l e R s m args below meth c G A nL Q cells slots ws' pc lv (st)) : xV p l e R s m args below meth c G A nL Q cells slots ws pc lv (st) := h ▸ kk

theorem y_vret  (C : xCx p s m args meth c G K A nL cc own none) (hdg : decode cc n = .ok (.return_, 1)) (hp : pc = n) (hc : cells ≤ mc) (hs : slots ≤ ms) (hPo : Po none ws) : xV p l e R s m args below meth c G A nL (yQ G A Po below args s mc ms) cells slots ws pc lv [] := by
  obtain ⟨hx, hb, hr, hlo, hml, hown, hts, hK, hA⟩ := C
  subst hp
  intro H locs ls hP hD hS hl
  exact W.widen hc hs (W.vret hx hb hr (fun t ht hW => ⟨⟨_, ws, rfl, hPo, by rw [ht]; exact hP, hD⟩, hS.F ht⟩) hS.2.2 hdg hlo)
theorem y_iret {v : Int32} (C : xCx p s m args meth c G K A nL cc own (some .int)) (hdg : decode cc n = .ok (.ireturn, 1)) (hp : pc = n) (hc : cells ≤ mc) (hs : slots ≤ ms) (hPo : Po (some (.int v)) ws) : xV p l e R s m args below meth c G A nL (yQ G A Po below args s mc ms) cells slots ws pc lv ([.int v]) := by
  obtain ⟨hx, hb, hr, hlo, hml, hown, hts, hK, hA⟩ := C
  subst hp
  intro H locs ls hP hD hS hl
  exact W.widen hc hs (W.iret hx hb hr (fun t ht hW => ⟨⟨_, ws, rfl, hPo, by rw [ht]; exact hP, hD⟩, hS.F ht⟩) hS.2.2 hdg hlo)
theorem x_putF (C : xCx p s m args meth c G K A nL cc own ret) {ref C9 : String} {T : u_T} {N ci index a : Nat} (q0 : Nat) {fs : List Value} {ws' : va_W} (ty0 : Nat → FieldType) (hty : ∀ k, k < N → parseFieldDescriptor (T k).2.2.1 = some (ty0 k)) (hnm : ∀ a, a < N → ∀ b, b < N → a ≠ b → (T a).2.1 ≠ (T b).2.1) (hc : vwCl[ci]? = some (C9, T, N)) (hin : ∀ w ∈ u_ws C9 T N, w ∈ gw_tbl) (k : Nat) (hk : k < N) (hsame : (T k).1 = ref) (hfin : (T k).2.2.2 = true) (hin2 : meth.name = "<init>") (hdecl : (T k).1 = own) (he : ws[q0]? = some (a, .inr (ci, fs))) {ty : FieldType} {v : Value} (hd : parseFieldDescriptor (T k).2.2.1 = some ty) (hn : narrow ty v = v) (hfit : fits ty v = true) (hl : k < fs.length) (hws : ws.set q0 (a, .inr (ci, fs.set k v)) = ws') (hlink : Cond.fieldLink own index ref (T k).2.1 (T k).2.2.1 ∈ gw_tbl) (hdg : decode cc n = .ok (.putfield index, 3)) (hp : pc = n) (kk : xV p l e R s m args below meth c G A nL Q cells slots ws' (n + 3) lv (st)) : xV p l e R s m args below meth c G A nL Q cells slots ws pc lv (v :: .ref a :: st) := by
  obtain ⟨hx, hb, hr, hlo, hml, hown, hts, hK, hA⟩ := C
  subst hp; subst hws
  intro H locs ls hP hD hS hl0
  exact va_putF hx hb hts hin ty0 hty hnm hown hK hP hD hS q0 he hc k hk (hts _ hlink) (fun x h => by rw [← hsame]; exact h) hfin hin2 hdecl hd hn hfit hl hdg (fun H1 locs1 hP1 hD1 hS1 => kk H1 locs1 ls hP1 hD1 hS1 hl0)
theorem x_new (C : xCx p s m args meth c G K A nL cc own ret) {C9 : String} {T : u_T} {N ci index : Nat} {fs : List Value} (ty0 : Nat → FieldType) (hty : ∀ k, k < N → parseFieldDescriptor (T k).2.2.1 = some (ty0 k)) (hc : vwCl[ci]? = some (C9, T, N)) (hin : ∀ w ∈ u_ws C9 T N, w ∈ gw_tbl) (hfs : ∀ j, j < N → defaultValue (ty0 j) = vp_V fs j) (hw : Cond.classLink own index C9 ∈ gw_tbl ∧ Cond.instantiable C9 N ∈ gw_tbl ∧ Cond.initialized C9 ∈ gw_tbl) (hcells : cells + 1 ≤ R.cells) (hslots : slots + N ≤ R.slots) (hdg : decode cc n = .ok (.new index, 3)) (hp : pc = n) (kk : ∀ q : Nat, xV p l e R s m args below meth c G A nL Q (cells + 1) (slots + N) (ws ++ [(q, .inr (ci, fs))]) (n + 3) lv (.ref q :: st)) : xV p l e R s m args below meth c G A nL Q cells slots ws pc lv (st) := by
  obtain ⟨hx, hb, hr, hlo, hml, hown, hts, hK, hA⟩ := C
  subst hp
  intro H locs ls hP hD hS hl0
  exact va_new hx hb hts hin ty0 hty hown (hts _ hw.1) (hts _ hw.2.1) (hts _ hw.2.2) hK hP hD hS hA hc hfs hcells hslots hdg (fun q H1 hP1 hD1 hS1 => kk q H1 locs ls hP1 hD1 hS1 hl0)
theorem x_newa (C : xCx p s m args meth c G K A nL cc own ret) (atype : ArrayType) {ty : FieldType} (k : Nat) {n9 : Int32} {N9 : Nat} {a0 : vp_A} (harr : Cond.arrayClass (newarray.typeOf atype) ∈ gw_tbl) (hty : newarray.typeOf atype = ty) (hk : (xty K)[k]? = some (K k, ty)) (hra : ∀ U : State, ∀ cA : ClassId, va_RA U cA ty → U.vm.findClass ("[" ++ ty.toString) = some cA) (ha : ∀ cA : ClassId, vp_cell cA a0 = arrV cA N9 (fun _ => defaultValue ty)) (hn : ¬ n9 < 0) (hN : n9.toNatClampNeg = N9) (hbytes : N9 * componentBytes ty ≤ 536870912) (hcells : cells + 1 ≤ R.cells) (hslots : slots + N9 ≤ R.slots) (hdg : decode cc n = .ok (.newarray atype, 2)) (hp : pc = n) (kk : ∀ q : Nat, xV p l e R s m args below meth c G A nL Q (cells + 1) (slots + N9) (ws ++ [(q, .inl (K k, a0))]) (n + 2) lv (.ref q :: st)) : xV p l e R s m args below meth c G A nL Q cells slots ws pc lv (.int n9 :: st) := by
  obtain ⟨hx, hb, hr, hlo, hml, hown, hts, hK, hA⟩ := C
  subst hp
  intro H locs ls hP hD hS hl0
  refine va_newa hx hb (hts _ harr) hty hK hP hD hS hA ha hn hN hbytes hcells hslots hdg (fun q cA H1 hK1 hP1 hD1 hS1 => ?_)
  have e1 := hra s _ (hK.2 k _ hk).2
  have e2 := hra s _ (hK1.2 (xty K).length (cA, ty) (by rw [List.getElem?_append_right (Nat.le_refl _)]; simp)).2
  have e3 : cA = K k := Option.some.inj (e2.symm.trans e1)
  subst e3
  exact kk q H1 locs ls hP1 hD1 hS1 hl0
theorem x_newq (C : xCx p s m args meth c G K A nL cc own ret) {index : Nat} {n9 : Int32} {N9 : Nat} (hcl : Cond.classLink own index "NeighbourDesk$Entry" ∈ gw_tbl) (hover : va_AO "NeighbourDesk$Entry" s) (hn : ¬ n9 < 0) (hN : n9.toNatClampNeg = N9) (hbytes : N9 * 4 ≤ 536870912) (hcells : cells + 1 ≤ R.cells) (hslots : slots + N9 ≤ R.slots) (hdg : decode cc n = .ok (.anewarray index, 3)) (hp : pc = n) (kk : ∀ q : Nat, xV p l e R s m args below meth c G A nL Q (cells + 1) (slots + N9) (ws ++ [(q, .inl (K 4, N9, .inr (.inr (.inr (.inr (fun _ => none))))))]) (n + 3) lv (.ref q :: st)) : xV p l e R s m args below meth c G A nL Q cells slots ws pc lv (.int n9 :: st) := by
  obtain ⟨hx, hb, hr, hlo, hml, hown, hts, hK, hA⟩ := C
  subst hp
  intro H locs ls hP hD hS hl0
  refine va_newq hx hb hown (hts _ hcl) hover hK hP hD hS hA hn hN hbytes hcells hslots hdg (fun q cA H1 hK1 hP1 hD1 hS1 => ?_)
  obtain ⟨kA, comp, a1, a2, a3, e1⟩ := (hK.2 4 (K 4, .object "NeighbourDesk$Entry") rfl).2
  obtain ⟨kA2, comp2, b1, b2, b3, e2⟩ := (hK1.2 (xty K).length (cA, .object "NeighbourDesk$Entry") (by rw [List.getElem?_append_right (Nat.le_refl _)]; simp)).2
  have e3 : cA = K 4 := Option.some.inj (e2.symm.trans e1)
  subst e3
  exact kk q H1 locs ls hP1 hD1 hS1 hl0
theorem x_objInit (C : xCx p s m args meth c G K A nL cc own ret) {idx a : Nat} (hw : Cond.methodLink own idx objectInit ∈ gw_tbl ∧ Cond.instanceMethod objectInit ∈ gw_tbl ∧ Cond.code objectInit ⟨#[0xb1]⟩ 1 none ∈ gw_tbl) (hR : 1 ≤ R.frames) (hl9 : (st.map fun v => v.category).sum + 12 ≤ R.locals) (hdg : decode cc n = .ok (.invokespecial idx, 3)) (hp : pc = n) (kk : xV p l e R s m args below meth c G A nL Q cells slots ws (n + 3) lv (st)) : xV p l e R s m args below meth c G A nL Q cells slots ws pc lv (.ref a :: st) := by
  obtain ⟨hx, hb, hr, hlo, hml, hown, hts, hK, hA⟩ := C
  subst hp
  intro H locs ls hP hD hS hl0
  exact W.objInit hx hb hown (hts _ hw.1) (hts _ hw.2.1) (hts _ hw.2.2) rfl (by rw [hml]; exact hl0.1) rfl hdg hR (by show 2 * 0 + _ + 12 ≤ _; omega) (kk H locs ls hP hD hS hl0)
/-- behind a call that had a part of the world -/
theorem x_runN {wc pre : va_W} {rest : List Value} (hws : ws = pre ++ wc) (hp : pc = n) (hA : ∀ q : Nat, s.heap.size ≤ q → A q)
    (hr : ∀ (H : Heap) (locs : List Loc) (ls : Array Slot), va_P G vwCl wc H → va_D A wc → va_S A s.heap H locs → lv_has ls nL lv → va_Run p l e R s m args below meth c H locs cells slots mc ms (F0 m n ls st) rest (yQc G (va_A wc H.size) Po #[]) (va_A wc H.size))
    (kk : ∀ (v : Option Value) (w' : va_W), Po v w' → xV p l e R s m args below meth c G A nL Q (cells + mc) (slots + ms) (pre ++ w') (n + 3) lv (v.toList ++ rest)) : xV p l e R s m args below meth c G A nL Q cells slots ws pc lv (st) := by
  subst hp; subst hws
  intro H locs ls hP hD hS hl T hT X
  have hPc : va_P G vwCl wc H := fun k q hk => hP (pre.length + k) q (by rw [List.getElem?_append_right (by omega), Nat.add_sub_cancel_left]; exact hk)
  have hPp : va_P G vwCl pre H := fun k q hk => hP k q (by rw [List.getElem?_append_left (List.getElem?_eq_some_iff.mp hk).1]; exact hk)
  have hDc : va_D A wc := by
    refine hD.by (fun k => pre.length + k) (fun k q hk => ?_) (fun i j _ _ h => by have h : pre.length + i = pre.length + j := h; omega)
    show (pre ++ wc)[pre.length + k]? = some q
    rw [List.getElem?_append_right (by omega), Nat.add_sub_cancel_left]; exact hk
  have hDp : va_D A pre := by
    refine hD.by id (fun k q hk => ?_) (fun i j _ _ h => h)
    show (pre ++ wc)[k]? = some q
    rw [List.getElem?_append_left (List.getElem?_eq_some_iff.mp hk).1]; exact hk
  obtain ⟨v, st₀, t, T', L, h0, X', hL, e1, e2, ⟨⟨v', w', hv, hPo, hP', hD'⟩, hF⟩, go⟩ := hr H locs ls hPc hDc hS hl T hT X
  have hv' : v = v' := by injection hv
  subst hv'
  obtain ⟨hF1, hF2⟩ := hF
  rw [h0] at hF1 hF2
  have hA1 : ∀ q, va_A wc H.size q → A q := by
    intro q hq
    rcases hq with ⟨k, e9, hk⟩ | hq
    · exact hDc.2 k _ hk
    · exact hA q (Nat.le_trans hS.1 hq)
  have hS' : va_S A s.heap T'.heap (locs ++ L) := ⟨Nat.le_trans hS.1 (by rw [e1]; exact hF1), fun q h1 h2 => by rw [e1, hF2 q (Nat.lt_of_lt_of_le h1 hS.1) (fun z => h2 (hA1 q z))]; exact hS.2.1 q h1 h2, fun q hq => by
      rcases List.mem_append.mp hq with h | h
      · exact hS.2.2 q h
      · exact hA1 _ (hL q h)⟩
  have hnot : ∀ (k : Nat) (q : Nat × va_E), pre[k]? = some q → q.1 < H.size ∧ ¬ va_A wc H.size q.1 := by
    intro k q hk
    have hlt := (hPp k q hk).lt
    refine ⟨hlt, fun hq => ?_⟩
    rcases hq with ⟨j, e9, hj⟩ | hq
    · have hk' : (pre ++ wc)[k]? = some q := by rw [List.getElem?_append_left (List.getElem?_eq_some_iff.mp hk).1]; exact hk
      have hj' : (pre ++ wc)[pre.length + j]? = some (q.1, e9) := by rw [List.getElem?_append_right (by omega), Nat.add_sub_cancel_left]; exact hj
      have := hD.1 _ _ _ _ hk' hj' rfl
      have hlk := (List.getElem?_eq_some_iff.mp hk).1
      omega
    · omega
  have hP2 : va_P G vwCl (pre ++ w') T'.heap := va_P.app (hPp.kept (fun k q hk => by rw [e1]; exact hF2 q.1 (hnot k q hk).1 (hnot k q hk).2)) (by rw [e1]; exact hP')
  have hD2 : va_D A (pre ++ w') := va_D.app hDp (hD'.weaken (fun k q _ h => hA1 q.1 h)) (fun i j x y hx hy hxy => (hnot i x hx).2 (by rw [hxy]; exact hD'.2 j y hy))
  obtain ⟨t2, a1, b1⟩ := kk v w' hPo T'.heap (locs ++ L) ls hP2 hD2 hS' hl T' rfl X'
  exact ⟨t2, go t2 a1, b1⟩
theorem yPre.blind {av : List Value} {sz : Nat} (hb : ∀ (U : State) (g : JFrame) (mk : MethodId) (a : Array Value), Ex U → Ex (U.calling g mk a)) : FrameBlind (yPre G K av ws sz Ex) := fun a U g mk q => by
  obtain ⟨q0, ⟨q1, qP, qK, qD⟩, qE⟩ := q
  exact ⟨q0, ⟨q1, qP, va_K.moved (u := U) (U := U.calling g mk a) (Vm.Alike.refl U.vm) qK, qD⟩, hb U g mk a qE⟩
theorem yPre.mk' {av : List Value} {H : Heap} (hP : va_P G vwCl ws H) (hK : va_K G vwCl (xty K) s) (hD : va_D A ws) (hE : ∀ U : State, U.heap = H → s.WarmedH U.vm → Ex U) : ∀ U : State, U.heap = H → s.WarmedH U.vm → yPre G K av ws H.size Ex av.toArray U := fun U hU hW => ⟨rfl, ⟨by rw [hU], by rw [hU]; exact hP, va_K.moved hW.alike hK, hD.weaken (fun _ _ _ _ => trivial)⟩, hE U hU hW⟩
theorem y_callI (C : xCx p s m args meth c G K A nL cc own ret) {y : MethodName} {cc9 : ByteArray} {n9 : Nat} {fr lo idx k : Nat} {b : Nat} {As rest : List Value} {wc : va_W} (pre : va_W) (hM : yMet l y cc9 n9 none fr lo mc ms G K (.ref b :: As) wc Po Ex) (hws : ws = pre ++ wc) (hw : Cond.methodLink own idx y ∈ gw_tbl ∧ Cond.instanceMethod y ∈ gw_tbl ∧ Cond.initialized y.cls ∈ gw_tbl ∧ Cond.code y cc9 n9 none ∈ gw_tbl) (hy1 : y.name = "<init>") (hd : y.cls ≠ "java/lang/invoke/MethodHandle" ∧ y.cls ≠ "java/lang/invoke/VarHandle" ∧ (parseMethodDescriptor y.desc).map (fun d => d.parameters.length) = some k) (hEb : ∀ (U : State) (g : JFrame) (mk : MethodId) (a : Array Value), Ex U → Ex (U.calling g mk a)) (hE : ∀ (H : Heap) (locs : List Loc), va_S A s.heap H locs → ∀ U : State, U.heap = H → s.WarmedH U.vm → Ex U) (hk : As.length = k) (hR : fr + 1 ≤ R.frames ∧ 8 + (n9 + 11) + lo ≤ R.locals) (hf : cells + mc ≤ R.cells ∧ slots + ms ≤ R.slots) (hW : (rest.map fun v => v.category).sum ≤ 8) (hst : st = As.reverse ++ .ref b :: rest) (hdg : decode cc n = .ok (.invokespecial idx, 3)) (hp : pc = n) (kk : ∀ (v : Option Value) (w' : va_W), Po v w' → xV p l e R s m args below meth c G A nL Q (cells + mc) (slots + ms) (pre ++ w') (n + 3) lv (v.toList ++ rest)) : xV p l e R s m args below meth c G A nL Q cells slots ws pc lv (st) := by
  obtain ⟨hx, hb, hr, hlo, hml, hown, hts, hK, hA⟩ := C
  refine x_runN hws hp hA (fun H locs ls hP hD hS hl => ?_) kk
  exact va_runI (As := As) (rest := rest) (Ts := gw_tbl) (own := own) (b := b) ⟨hx, hb, hml, hown, hts⟩ (hM H.size) (cwI k hts (x_goodI hw.2.2.2) rfl rfl rfl (hts _ hw.2.2.1) (hts _ hw.1) (hts _ hw.2.1) hy1 hd hR) ⟨yPre.blind hEb, yPre.mk' (av := .ref b :: As) hP hK hD (fun U hU hW => hE H locs hS U hU hW)⟩ rfl hk hl.1 hst (lv_room hW) hdg hf
theorem y_callIN (C : xCx p s m args meth c G K A nL cc own ret) {y : MethodName} {cc9 : ByteArray} {n9 : Nat} {fr lo idx k : Nat} {b : Nat} {host : String} {As rest : List Value} {wc : va_W} (pre : va_W) (hM : yMet l y cc9 n9 none fr lo mc ms G K (.ref b :: As) wc Po Ex) (hws : ws = pre ++ wc) (hw : Cond.instanceMethod y ∈ gw_tbl ∧ Cond.initialized y.cls ∈ gw_tbl ∧ Cond.code y cc9 n9 none ∈ gw_tbl) (hnl : va_Nw (.methodLinkNest own idx y host) s) (hy1 : y.name = "<init>") (hd : y.cls ≠ "java/lang/invoke/MethodHandle" ∧ y.cls ≠ "java/lang/invoke/VarHandle" ∧ (parseMethodDescriptor y.desc).map (fun d => d.parameters.length) = some k) (hEb : ∀ (U : State) (g : JFrame) (mk : MethodId) (a : Array Value), Ex U → Ex (U.calling g mk a)) (hE : ∀ (H : Heap) (locs : List Loc), va_S A s.heap H locs → ∀ U : State, U.heap = H → s.WarmedH U.vm → Ex U) (hk : As.length = k) (hR : fr + 1 ≤ R.frames ∧ 8 + (n9 + 11) + lo ≤ R.locals) (hf : cells + mc ≤ R.cells ∧ slots + ms ≤ R.slots) (hW : (rest.map fun v => v.category).sum ≤ 8) (hst : st = As.reverse ++ .ref b :: rest) (hdg : decode cc n = .ok (.invokespecial idx, 3)) (hp : pc = n) (kk : ∀ (v : Option Value) (w' : va_W), Po v w' → xV p l e R s m args below meth c G A nL Q (cells + mc) (slots + ms) (pre ++ w') (n + 3) lv (v.toList ++ rest)) : xV p l e R s m args below meth c G A nL Q cells slots ws pc lv (st) := by
  obtain ⟨hx, hb, hr, hlo, hml, hown, hts, hK, hA⟩ := C
  refine x_runN hws hp hA (fun H locs ls hP hD hS hl => ?_) kk
  exact va_runIN (As := As) (rest := rest) (Ts := gw_tbl) (own := own) (host := host) (b := b) ⟨hx, hb, hml, hown, hts⟩ (hM H.size) ⟨va_cnB k hts (x_goodI hw.2.2) rfl rfl rfl hnl (hts _ hw.2.1) hd hR, hy1, hts _ hw.1⟩ ⟨yPre.blind hEb, yPre.mk' (av := .ref b :: As) hP hK hD (fun U hU hW => hE H locs hS U hU hW)⟩ rfl hk hl.1 hst (lv_room hW) hdg hf
theorem y_callS (C : xCx p s m args meth c G K A nL cc own ret) {y : MethodName} {cc9 : ByteArray} {n9 : Nat} {ret9 : Option FieldType} {fr lo idx k : Nat} {As rest : List Value} {wc : va_W} (pre : va_W) (hM : yMet l y cc9 n9 ret9 fr lo mc ms G K As wc Po Ex) (hws : ws = pre ++ wc) (hw : Cond.methodLink own idx y ∈ gw_tbl ∧ Cond.static y ∈ gw_tbl ∧ Cond.initialized y.cls ∈ gw_tbl ∧ Cond.code y cc9 n9 ret9 ∈ gw_tbl) (hd : y.cls ≠ "java/lang/invoke/MethodHandle" ∧ y.cls ≠ "java/lang/invoke/VarHandle" ∧ (parseMethodDescriptor y.desc).map (fun d => d.parameters.length) = some k) (hEb : ∀ (U : State) (g : JFrame) (mk : MethodId) (a : Array Value), Ex U → Ex (U.calling g mk a)) (hE : ∀ (H : Heap) (locs : List Loc), va_S A s.heap H locs → ∀ U : State, U.heap = H → s.WarmedH U.vm → Ex U) (hk : As.length = k) (hR : fr + 1 ≤ R.frames ∧ 8 + (n9 + 11) + lo ≤ R.locals) (hf : cells + mc ≤ R.cells ∧ slots + ms ≤ R.slots) (hW : (rest.map fun v => v.category).sum ≤ 8) (hst : st = As.reverse ++ rest) (hdg : decode cc n = .ok (.invokestatic idx, 3)) (hp : pc = n) (kk : ∀ (v : Option Value) (w' : va_W), Po v w' → xV p l e R s m args below meth c G A nL Q (cells + mc) (slots + ms) (pre ++ w') (n + 3) lv (v.toList ++ rest)) : xV p l e R s m args below meth c G A nL Q cells slots ws pc lv (st) := by
  obtain ⟨hx, hb, hr, hlo, hml, hown, hts, hK, hA⟩ := C
  refine x_runN hws hp hA (fun H locs ls hP hD hS hl => ?_) kk
  exact va_runS (As := As) (rest := rest) (Ts := gw_tbl) (own := own) ⟨hx, hb, hml, hown, hts⟩ (hM H.size) (va_cwS k hts (x_goodS hw) rfl rfl rfl hd hR) ⟨yPre.blind hEb, yPre.mk' hP hK hD (fun U hU hW => hE H locs hS U hU hW)⟩ rfl hk hl.1 hst (lv_room hW) hdg hf
theorem x_sld (C : xCx p s m args meth c G K A nL cc own ret) {b9 L9 : Nat} {xs9 : Nat → Int32} {i : Int32} (hX : va_X b9 L9 xs9 s s.heap) (hbl : b9 < s.heap.size) (hbA : ¬ A b9) (hin : vp_in i L9) (hdg : decode cc n = .ok (.iaload, 1)) (hp : pc = n) (kk : xV p l e R s m args below meth c G A nL Q cells slots ws (n + 1) lv (.int (xs9 i.toNatClampNeg) :: st)) : xV p l e R s m args below meth c G A nL Q cells slots ws pc lv (.int i :: .ref b9 :: st) := by
  obtain ⟨hx, hb, hr, hlo, hml, hown, hts, hK, hA⟩ := C
  subst hp
  intro H locs ls hP hD hS hl0
  exact va_sld hx hb hX hbl hbA hS hin hdg (kk H locs ls hP hD hS hl0)
theorem x_slen (C : xCx p s m args meth c G K A nL cc own ret) {b9 L9 : Nat} {xs9 : Nat → Int32} (hX : va_X b9 L9 xs9 s s.heap) (hbl : b9 < s.heap.size) (hbA : ¬ A b9) (hdg : decode cc n = .ok (.arraylength, 1)) (hp : pc = n) (kk : xV p l e R s m args below meth c G A nL Q cells slots ws (n + 1) lv (.int (nI L9) :: st)) : xV p l e R s m args below meth c G A nL Q cells slots ws pc lv (.ref b9 :: st) := by
  obtain ⟨hx, hb, hr, hlo, hml, hown, hts, hK, hA⟩ := C
  subst hp
  intro H locs ls hP hD hS hl0
  exact va_slen hx hb hX hbl hbA hS hdg (kk H locs ls hP hD hS hl0)
end XMK
section XMC
variable {p : Program} {l : Launch} {e : Env} {R : Room} {s : State} {m : MethodId} {args : Array Value} {below : List Frame} {meth : Method} {c : Code} {G : va_G} {A : Nat → Prop} {nL : Nat} {Q : State → Prop} {cells slots : Nat} {K : Nat → ClassId} {cc : ByteArray} {own : String} {ret : Option FieldType} {pc n : Nat} {lv : List (Nat × Value)} {st : List Value} {L : Nat → Nat} {cap : Nat} {T ws : va_W} {Po : Option Value → va_W → Prop} {Ex : State → Prop} {mc ms : Nat}
set_option maxHeartbeats 4000000 in
set_option maxRecDepth 20000 in
theorem c_X4_init (b : Nat) : yMet l yX4_init cX4_init 1 none 1 20 0 0 G K [.ref b] [(b, .inr (4, [.int 0]))] (fun v w' => v = none ∧ w' = [(b, .inr (4, [.int (0 : Int32)]))]) xCw := by
  refine yMet.intro (lv := [(0, .ref b)]) (by decide) rfl (Nat.le_of_ble_eq_true rfl) rfl (fun p e s m args below meth c A C E hAe hnm => ?_)
  refine x_aload_n C dX4_init_0 rfl rfl 0 rfl ?_
  refine x_objInit C ⟨i_53, i_24, i_25⟩ (Nat.le_of_ble_eq_true rfl) (Nat.le_of_ble_eq_true rfl) dX4_init_1 rfl ?_
  refine x_aload_n C dX4_init_4 rfl rfl 0 rfl ?_
  refine x_iconst C (v := (0 : Int32)) dX4_init_5 rfl (by decide) ?_
  refine x_put C 0 (ws' := [(b, .inr (4, [.int (0 : Int32)]))]) tyX4 tyX4_ok nmX4 rfl inX4 0 (by decide) rfl rfl rfl (ty := .int) rfl rfl rfl (Nat.le_of_ble_eq_true rfl) rfl i_54 dX4_init_6 rfl ?_
  exact y_vret C dX4_init_9 rfl (Nat.le_of_ble_eq_true rfl) (Nat.le_of_ble_eq_true rfl) ⟨rfl, rfl⟩
set_option maxHeartbeats 4000000 in
set_option maxRecDepth 20000 in
theorem c_X5_init (b : Nat) : yMet l yX5_init cX5_init 1 none 1 20 1 40 G K [.ref b] [(b, .inr (5, [.null, .int 0]))] (fun v w' => ∃ (q1 : Nat), v = none ∧ w' = [(b, .inr (5, [.ref q1, .int (0 : Int32)])), (q1, .inl (K 3, 40, .inl (fun _ => 0)))]) xCw := by
  refine yMet.intro (lv := [(0, .ref b)]) (by decide) rfl (Nat.le_of_ble_eq_true rfl) rfl (fun p e s m args below meth c A C E hAe hnm => ?_)
  refine x_aload_n C dX5_init_0 rfl rfl 0 rfl ?_
  refine x_objInit C ⟨i_31, i_24, i_25⟩ (Nat.le_of_ble_eq_true rfl) (Nat.le_of_ble_eq_true rfl) dX5_init_1 rfl ?_
  refine x_aload_n C dX5_init_4 rfl rfl 0 rfl ?_
  refine x_bipush C (v := (40 : Int32)) dX5_init_5 rfl (by decide) ?_
  refine x_newa C .byte (ty := .byte) 3 (N9 := 40) (a0 := (40, .inl (fun _ => 0))) i_41 rfl rfl (fun U cA h => h) (fun cA => rfl) (by decide) (by decide) (Nat.le_of_ble_eq_true rfl) (Nat.le_of_ble_eq_true rfl) (Nat.le_of_ble_eq_true rfl) dX5_init_7 rfl (fun q1 => ?_)
  refine x_ws (ws' := [(b, .inr (5, [.null, .int 0])), (q1, .inl (K 3, 40, .inl (fun _ => 0)))]) rfl ?_
  refine x_putF C 0 (ws' := [(b, .inr (5, [.ref q1, .int 0])), (q1, .inl (K 3, 40, .inl (fun _ => 0)))]) tyX5 tyX5_ok nmX5 rfl inX5 0 (by decide) rfl rfl hnm rfl rfl (ty := (tyX5 0)) rfl rfl rfl (Nat.le_of_ble_eq_true rfl) rfl i_32 dX5_init_9 rfl ?_
  refine x_aload_n C dX5_init_12 rfl rfl 0 rfl ?_
  refine x_iconst C (v := (0 : Int32)) dX5_init_13 rfl (by decide) ?_
  refine x_put C 0 (ws' := [(b, .inr (5, [.ref q1, .int (0 : Int32)])), (q1, .inl (K 3, 40, .inl (fun _ => 0)))]) tyX5 tyX5_ok nmX5 rfl inX5 1 (by decide) rfl rfl rfl (ty := .int) rfl rfl rfl (Nat.le_of_ble_eq_true rfl) rfl i_34 dX5_init_14 rfl ?_
  exact y_vret C dX5_init_17 rfl (Nat.le_of_ble_eq_true rfl) (Nat.le_of_ble_eq_true rfl) ⟨_, rfl, rfl⟩
set_option maxHeartbeats 4000000 in
set_option maxRecDepth 20000 in
theorem c_X1_init (b : Nat) : yMet l yX1_init cX1_init 1 none 1 20 1 4 G K [.ref b] [(b, .inr (1, [.null, .int 0, .int 0, .long 0, .int 0, .int 0, .int 0]))] (fun v w' => ∃ (q1 : Nat), v = none ∧ w' = [(b, .inr (1, [.ref q1, .int (0 : Int32), .int (0 : Int32), .long (0 : Int64), .int (1 : Int32), .int (0 : Int32), .int (0 : Int32)])), (q1, .inl (K 0, 4, .inl (fun _ => 0)))]) xCw := by
  refine yMet.intro (lv := [(0, .ref b)]) (by decide) rfl (Nat.le_of_ble_eq_true rfl) rfl (fun p e s m args below meth c A C E hAe hnm => ?_)
  refine x_aload_n C dX1_init_0 rfl rfl 0 rfl ?_
  refine x_objInit C ⟨i_117, i_24, i_25⟩ (Nat.le_of_ble_eq_true rfl) (Nat.le_of_ble_eq_true rfl) dX1_init_1 rfl ?_
  refine x_aload_n C dX1_init_4 rfl rfl 0 rfl ?_
  refine x_iconst C (v := (4 : Int32)) dX1_init_5 rfl (by decide) ?_
  refine x_newa C .int (ty := .int) 0 (N9 := 4) (a0 := (4, .inl (fun _ => 0))) i_79 rfl rfl (fun U cA h => h) (fun cA => rfl) (by decide) (by decide) (Nat.le_of_ble_eq_true rfl) (Nat.le_of_ble_eq_true rfl) (Nat.le_of_ble_eq_true rfl) dX1_init_6 rfl (fun q1 => ?_)
  refine x_ws (ws' := [(b, .inr (1, [.null, .int 0, .int 0, .long 0, .int 0, .int 0, .int 0])), (q1, .inl (K 0, 4, .inl (fun _ => 0)))]) rfl ?_
  refine x_putF C 0 (ws' := [(b, .inr (1, [.ref q1, .int 0, .int 0, .long 0, .int 0, .int 0, .int 0])), (q1, .inl (K 0, 4, .inl (fun _ => 0)))]) tyX1 tyX1_ok nmX1 rfl inX1 0 (by decide) rfl rfl hnm rfl rfl (ty := (tyX1 0)) rfl rfl rfl (Nat.le_of_ble_eq_true rfl) rfl i_118 dX1_init_8 rfl ?_
  refine x_aload_n C dX1_init_11 rfl rfl 0 rfl ?_
  refine x_iconst C (v := (0 : Int32)) dX1_init_12 rfl (by decide) ?_
  refine x_put C 0 (ws' := [(b, .inr (1, [.ref q1, .int (0 : Int32), .int 0, .long 0, .int 0, .int 0, .int 0])), (q1, .inl (K 0, 4, .inl (fun _ => 0)))]) tyX1 tyX1_ok nmX1 rfl inX1 1 (by decide) rfl rfl rfl (ty := .int) rfl rfl rfl (Nat.le_of_ble_eq_true rfl) rfl i_120 dX1_init_13 rfl ?_
  refine x_aload_n C dX1_init_16 rfl rfl 0 rfl ?_
  refine x_iconst C (v := (0 : Int32)) dX1_init_17 rfl (by decide) ?_
  refine x_put C 0 (ws' := [(b, .inr (1, [.ref q1, .int (0 : Int32), .int (0 : Int32), .long 0, .int 0, .int 0, .int 0])), (q1, .inl (K 0, 4, .inl (fun _ => 0)))]) tyX1 tyX1_ok nmX1 rfl inX1 2 (by decide) rfl rfl rfl (ty := .int) rfl rfl rfl (Nat.le_of_ble_eq_true rfl) rfl i_123 dX1_init_18 rfl ?_
  refine x_aload_n C dX1_init_21 rfl rfl 0 rfl ?_
  refine x_lconst C (v := (0 : Int64)) dX1_init_22 rfl (by decide) ?_
  refine x_put C 0 (ws' := [(b, .inr (1, [.ref q1, .int (0 : Int32), .int (0 : Int32), .long (0 : Int64), .int 0, .int 0, .int 0])), (q1, .inl (K 0, 4, .inl (fun _ => 0)))]) tyX1 tyX1_ok nmX1 rfl inX1 3 (by decide) rfl rfl rfl (ty := .long) rfl rfl rfl (Nat.le_of_ble_eq_true rfl) rfl i_126 dX1_init_23 rfl ?_
  refine x_aload_n C dX1_init_26 rfl rfl 0 rfl ?_
  refine x_iconst C (v := (1 : Int32)) dX1_init_27 rfl (by decide) ?_
  refine x_put C 0 (ws' := [(b, .inr (1, [.ref q1, .int (0 : Int32), .int (0 : Int32), .long (0 : Int64), .int (1 : Int32), .int 0, .int 0])), (q1, .inl (K 0, 4, .inl (fun _ => 0)))]) tyX1 tyX1_ok nmX1 rfl inX1 4 (by decide) rfl rfl rfl (ty := .int) rfl rfl rfl (Nat.le_of_ble_eq_true rfl) rfl i_129 dX1_init_28 rfl ?_
  refine x_aload_n C dX1_init_31 rfl rfl 0 rfl ?_
  refine x_iconst C (v := (0 : Int32)) dX1_init_32 rfl (by decide) ?_
  refine x_put C 0 (ws' := [(b, .inr (1, [.ref q1, .int (0 : Int32), .int (0 : Int32), .long (0 : Int64), .int (1 : Int32), .int (0 : Int32), .int 0])), (q1, .inl (K 0, 4, .inl (fun _ => 0)))]) tyX1 tyX1_ok nmX1 rfl inX1 5 (by decide) rfl rfl rfl (ty := .int) rfl rfl rfl (Nat.le_of_ble_eq_true rfl) rfl i_132 dX1_init_33 rfl ?_
  refine x_aload_n C dX1_init_36 rfl rfl 0 rfl ?_
  refine x_iconst C (v := (0 : Int32)) dX1_init_37 rfl (by decide) ?_
  refine x_put C 0 (ws' := [(b, .inr (1, [.ref q1, .int (0 : Int32), .int (0 : Int32), .long (0 : Int64), .int (1 : Int32), .int (0 : Int32), .int (0 : Int32)])), (q1, .inl (K 0, 4, .inl (fun _ => 0)))]) tyX1 tyX1_ok nmX1 rfl inX1 6 (by decide) rfl rfl rfl (ty := .int) rfl rfl rfl (Nat.le_of_ble_eq_true rfl) rfl i_134 dX1_init_38 rfl ?_
  exact y_vret C dX1_init_41 rfl (Nat.le_of_ble_eq_true rfl) (Nat.le_of_ble_eq_true rfl) ⟨_, rfl, rfl⟩
set_option maxHeartbeats 4000000 in
set_option maxRecDepth 20000 in
theorem c_X3_init (b : Nat) : yMet l yX3_init cX3_init 1 none 2 40 2 101 G K [.ref b] [(b, .inr (3, [.null, .null]))] (fun v w' => ∃ (q1 : Nat) (q2 : Nat), v = none ∧ w' = [(b, .inr (3, [.ref q1, .ref q2])), (q1, .inr (4, [.int (0 : Int32)])), (q2, .inl (K 0, 100, .inl (fun _ => 0)))]) xCw := by
  refine yMet.intro (lv := [(0, .ref b)]) (by decide) rfl (Nat.le_of_ble_eq_true rfl) rfl (fun p e s m args below meth c A C E hAe hnm => ?_)
  refine x_aload_n C dX3_init_0 rfl rfl 0 rfl ?_
  refine x_objInit C ⟨i_86, i_24, i_25⟩ (Nat.le_of_ble_eq_true rfl) (Nat.le_of_ble_eq_true rfl) dX3_init_1 rfl ?_
  refine x_aload_n C dX3_init_4 rfl rfl 0 rfl ?_
  refine x_new C (ci := 4) (fs := [.int 0]) tyX4 tyX4_ok rfl inX4 (fun j hj => by rcases (show j = 0 by omega) with rfl <;> rfl) ⟨i_87, i_49, i_4⟩ (Nat.le_of_ble_eq_true rfl) (Nat.le_of_ble_eq_true rfl) dX3_init_5 rfl (fun q1 => ?_)
  refine x_ws (ws' := [(b, .inr (3, [.null, .null])), (q1, .inr (4, [.int 0]))]) rfl ?_
  refine x_dup C dX3_init_8 rfl rfl ?_
  refine y_callIN C (As := []) (b := q1) [(b, .inr (3, [.null, .null]))] (c_X4_init q1) rfl ⟨i_51, i_4, i_52⟩ (E.1 _ (List.mem_of_getElem? (i := 4) rfl)) rfl (k := 0) (by decide +kernel) (fun U g mk a h => xCw.same (s := U) (U := U.calling g mk a) rfl h) (fun H locs hS U hU hW => E.warm hW) rfl ⟨Nat.le_of_ble_eq_true rfl, Nat.le_of_ble_eq_true rfl⟩ ⟨Nat.le_of_ble_eq_true rfl, Nat.le_of_ble_eq_true rfl⟩ (Nat.le_of_ble_eq_true rfl) rfl dX3_init_9 rfl (fun v w1 hw1 => ?_)
  obtain ⟨rfl, rfl⟩ := hw1
  refine x_ws (ws' := [(b, .inr (3, [.null, .null])), (q1, .inr (4, [.int (0 : Int32)]))]) rfl ?_
  refine x_putF C 0 (ws' := [(b, .inr (3, [.ref q1, .null])), (q1, .inr (4, [.int (0 : Int32)]))]) tyX3 tyX3_ok nmX3 rfl inX3 0 (by decide) rfl rfl hnm rfl rfl (ty := (tyX3 0)) rfl rfl rfl (Nat.le_of_ble_eq_true rfl) rfl i_89 dX3_init_12 rfl ?_
  refine x_aload_n C dX3_init_15 rfl rfl 0 rfl ?_
  refine x_bipush C (v := (100 : Int32)) dX3_init_16 rfl (by decide) ?_
  refine x_newa C .int (ty := .int) 0 (N9 := 100) (a0 := (100, .inl (fun _ => 0))) i_79 rfl rfl (fun U cA h => h) (fun cA => rfl) (by decide) (by decide) (Nat.le_of_ble_eq_true rfl) (Nat.le_of_ble_eq_true rfl) (Nat.le_of_ble_eq_true rfl) dX3_init_18 rfl (fun q2 => ?_)
  refine x_ws (ws' := [(b, .inr (3, [.ref q1, .null])), (q1, .inr (4, [.int (0 : Int32)])), (q2, .inl (K 0, 100, .inl (fun _ => 0)))]) rfl ?_
  refine x_putF C 0 (ws' := [(b, .inr (3, [.ref q1, .ref q2])), (q1, .inr (4, [.int (0 : Int32)])), (q2, .inl (K 0, 100, .inl (fun _ => 0)))]) tyX3 tyX3_ok nmX3 rfl inX3 1 (by decide) rfl rfl hnm rfl rfl (ty := (tyX3 1)) rfl rfl rfl (Nat.le_of_ble_eq_true rfl) rfl i_91 dX3_init_20 rfl ?_
  exact y_vret C dX3_init_23 rfl (Nat.le_of_ble_eq_true rfl) (Nat.le_of_ble_eq_true rfl) ⟨_, _, rfl, rfl⟩
set_option maxHeartbeats 4000000 in
set_option maxRecDepth 20000 in
theorem c_X2_init (b : Nat) : yMet l yX2_init cX2_init 1 none 2 40 5 3101 G K [.ref b] [(b, .inr (2, [.null, .null, .null, .null, .null]))] (fun v w' => ∃ (q1 : Nat) (q2 : Nat) (q3 : Nat) (q4 : Nat) (q5 : Nat), v = none ∧ w' = [(b, .inr (2, [.ref q1, .ref q2, .ref q3, .ref q4, .ref q5])), (q1, .inr (4, [.int (0 : Int32)])), (q2, .inl (K 1, 100, .inr (.inl (fun _ => 0)))), (q3, .inl (K 0, 100, .inl (fun _ => 0))), (q4, .inl (K 2, 100, .inl (fun _ => 0))), (q5, .inl (K 3, 2800, .inl (fun _ => 0)))]) xCw := by
  refine yMet.intro (lv := [(0, .ref b)]) (by decide) rfl (Nat.le_of_ble_eq_true rfl) rfl (fun p e s m args below meth c A C E hAe hnm => ?_)
  refine x_aload_n C dX2_init_0 rfl rfl 0 rfl ?_
  refine x_objInit C ⟨i_47, i_24, i_25⟩ (Nat.le_of_ble_eq_true rfl) (Nat.le_of_ble_eq_true rfl) dX2_init_1 rfl ?_
  refine x_aload_n C dX2_init_4 rfl rfl 0 rfl ?_
  refine x_new C (ci := 4) (fs := [.int 0]) tyX4 tyX4_ok rfl inX4 (fun j hj => by rcases (show j = 0 by omega) with rfl <;> rfl) ⟨i_48, i_49, i_4⟩ (Nat.le_of_ble_eq_true rfl) (Nat.le_of_ble_eq_true rfl) dX2_init_5 rfl (fun q1 => ?_)
  refine x_ws (ws' := [(b, .inr (2, [.null, .null, .null, .null, .null])), (q1, .inr (4, [.int 0]))]) rfl ?_
  refine x_dup C dX2_init_8 rfl rfl ?_
  refine y_callIN C (As := []) (b := q1) [(b, .inr (2, [.null, .null, .null, .null, .null]))] (c_X4_init q1) rfl ⟨i_51, i_4, i_52⟩ (E.1 _ (List.mem_of_getElem? (i := 2) rfl)) rfl (k := 0) (by decide +kernel) (fun U g mk a h => xCw.same (s := U) (U := U.calling g mk a) rfl h) (fun H locs hS U hU hW => E.warm hW) rfl ⟨Nat.le_of_ble_eq_true rfl, Nat.le_of_ble_eq_true rfl⟩ ⟨Nat.le_of_ble_eq_true rfl, Nat.le_of_ble_eq_true rfl⟩ (Nat.le_of_ble_eq_true rfl) rfl dX2_init_9 rfl (fun v w1 hw1 => ?_)
  obtain ⟨rfl, rfl⟩ := hw1
  refine x_ws (ws' := [(b, .inr (2, [.null, .null, .null, .null, .null])), (q1, .inr (4, [.int (0 : Int32)]))]) rfl ?_
  refine x_putF C 0 (ws' := [(b, .inr (2, [.ref q1, .null, .null, .null, .null])), (q1, .inr (4, [.int (0 : Int32)]))]) tyX2 tyX2_ok nmX2 rfl inX2 0 (by decide) rfl rfl hnm rfl rfl (ty := (tyX2 0)) rfl rfl rfl (Nat.le_of_ble_eq_true rfl) rfl i_59 dX2_init_12 rfl ?_
  refine x_aload_n C dX2_init_15 rfl rfl 0 rfl ?_
  refine x_bipush C (v := (100 : Int32)) dX2_init_16 rfl (by decide) ?_
  refine x_newa C .long (ty := .long) 1 (N9 := 100) (a0 := (100, .inr (.inl (fun _ => 0)))) i_78 rfl rfl (fun U cA h => h) (fun cA => rfl) (by decide) (by decide) (Nat.le_of_ble_eq_true rfl) (Nat.le_of_ble_eq_true rfl) (Nat.le_of_ble_eq_true rfl) dX2_init_18 rfl (fun q2 => ?_)
  refine x_ws (ws' := [(b, .inr (2, [.ref q1, .null, .null, .null, .null])), (q1, .inr (4, [.int (0 : Int32)])), (q2, .inl (K 1, 100, .inr (.inl (fun _ => 0))))]) rfl ?_
  refine x_putF C 0 (ws' := [(b, .inr (2, [.ref q1, .ref q2, .null, .null, .null])), (q1, .inr (4, [.int (0 : Int32)])), (q2, .inl (K 1, 100, .inr (.inl (fun _ => 0))))]) tyX2 tyX2_ok nmX2 rfl inX2 1 (by decide) rfl rfl hnm rfl rfl (ty := (tyX2 1)) rfl rfl rfl (Nat.le_of_ble_eq_true rfl) rfl i_61 dX2_init_20 rfl ?_
  refine x_aload_n C dX2_init_23 rfl rfl 0 rfl ?_
  refine x_bipush C (v := (100 : Int32)) dX2_init_24 rfl (by decide) ?_
  refine x_newa C .int (ty := .int) 0 (N9 := 100) (a0 := (100, .inl (fun _ => 0))) i_79 rfl rfl (fun U cA h => h) (fun cA => rfl) (by decide) (by decide) (Nat.le_of_ble_eq_true rfl) (Nat.le_of_ble_eq_true rfl) (Nat.le_of_ble_eq_true rfl) dX2_init_26 rfl (fun q3 => ?_)
  refine x_ws (ws' := [(b, .inr (2, [.ref q1, .ref q2, .null, .null, .null])), (q1, .inr (4, [.int (0 : Int32)])), (q2, .inl (K 1, 100, .inr (.inl (fun _ => 0)))), (q3, .inl (K 0, 100, .inl (fun _ => 0)))]) rfl ?_
  refine x_putF C 0 (ws' := [(b, .inr (2, [.ref q1, .ref q2, .ref q3, .null, .null])), (q1, .inr (4, [.int (0 : Int32)])), (q2, .inl (K 1, 100, .inr (.inl (fun _ => 0)))), (q3, .inl (K 0, 100, .inl (fun _ => 0)))]) tyX2 tyX2_ok nmX2 rfl inX2 2 (by decide) rfl rfl hnm rfl rfl (ty := (tyX2 2)) rfl rfl rfl (Nat.le_of_ble_eq_true rfl) rfl i_63 dX2_init_28 rfl ?_
  refine x_aload_n C dX2_init_31 rfl rfl 0 rfl ?_
  refine x_bipush C (v := (100 : Int32)) dX2_init_32 rfl (by decide) ?_
  refine x_newa C .boolean (ty := .boolean) 2 (N9 := 100) (a0 := (100, .inl (fun _ => 0))) i_80 rfl rfl (fun U cA h => h) (fun cA => rfl) (by decide) (by decide) (Nat.le_of_ble_eq_true rfl) (Nat.le_of_ble_eq_true rfl) (Nat.le_of_ble_eq_true rfl) dX2_init_34 rfl (fun q4 => ?_)
  refine x_ws (ws' := [(b, .inr (2, [.ref q1, .ref q2, .ref q3, .null, .null])), (q1, .inr (4, [.int (0 : Int32)])), (q2, .inl (K 1, 100, .inr (.inl (fun _ => 0)))), (q3, .inl (K 0, 100, .inl (fun _ => 0))), (q4, .inl (K 2, 100, .inl (fun _ => 0)))]) rfl ?_
  refine x_putF C 0 (ws' := [(b, .inr (2, [.ref q1, .ref q2, .ref q3, .ref q4, .null])), (q1, .inr (4, [.int (0 : Int32)])), (q2, .inl (K 1, 100, .inr (.inl (fun _ => 0)))), (q3, .inl (K 0, 100, .inl (fun _ => 0))), (q4, .inl (K 2, 100, .inl (fun _ => 0)))]) tyX2 tyX2_ok nmX2 rfl inX2 3 (by decide) rfl rfl hnm rfl rfl (ty := (tyX2 3)) rfl rfl rfl (Nat.le_of_ble_eq_true rfl) rfl i_65 dX2_init_36 rfl ?_
  refine x_aload_n C dX2_init_39 rfl rfl 0 rfl ?_
  refine x_sipush C (v := (2800 : Int32)) dX2_init_40 rfl (by decide) ?_
  refine x_newa C .byte (ty := .byte) 3 (N9 := 2800) (a0 := (2800, .inl (fun _ => 0))) i_41 rfl rfl (fun U cA h => h) (fun cA => rfl) (by decide) (by decide) (Nat.le_of_ble_eq_true rfl) (Nat.le_of_ble_eq_true rfl) (Nat.le_of_ble_eq_true rfl) dX2_init_43 rfl (fun q5 => ?_)
  refine x_ws (ws' := [(b, .inr (2, [.ref q1, .ref q2, .ref q3, .ref q4, .null])), (q1, .inr (4, [.int (0 : Int32)])), (q2, .inl (K 1, 100, .inr (.inl (fun _ => 0)))), (q3, .inl (K 0, 100, .inl (fun _ => 0))), (q4, .inl (K 2, 100, .inl (fun _ => 0))), (q5, .inl (K 3, 2800, .inl (fun _ => 0)))]) rfl ?_
  refine x_putF C 0 (ws' := [(b, .inr (2, [.ref q1, .ref q2, .ref q3, .ref q4, .ref q5])), (q1, .inr (4, [.int (0 : Int32)])), (q2, .inl (K 1, 100, .inr (.inl (fun _ => 0)))), (q3, .inl (K 0, 100, .inl (fun _ => 0))), (q4, .inl (K 2, 100, .inl (fun _ => 0))), (q5, .inl (K 3, 2800, .inl (fun _ => 0)))]) tyX2 tyX2_ok nmX2 rfl inX2 4 (by decide) rfl rfl hnm rfl rfl (ty := (tyX2 4)) rfl rfl rfl (Nat.le_of_ble_eq_true rfl) rfl i_66 dX2_init_45 rfl ?_
  exact y_vret C dX2_init_48 rfl (Nat.le_of_ble_eq_true rfl) (Nat.le_of_ble_eq_true rfl) ⟨_, _, _, _, _, rfl, rfl⟩
def zrow (ad : Nat → Nat) (k : Nat) : Nat → Option Nat := fun i => if i < k then some (ad (2 * i)) else none
def zpe (K : Nat → ClassId) (ad : Nat → Nat) (k : Nat) : va_E := if k % 2 = 0 then .inr (1, [.ref (ad (k + 1)), .int 0, .int 0, .long 0, .int 1, .int 0, .int 0]) else .inl (K 0, 4, .inl (fun _ => 0))
def zpl (K : Nat → ClassId) (ad : Nat → Nat) (i : Nat) : va_W := (List.range (2 * i)).map (fun k => (ad k, zpe K ad k))
theorem zpl_push (K : Nat → ClassId) (ad : Nat → Nat) (i q q2 : Nat) : zpl K ad i ++ [(q, .inr (1, [.ref q2, .int 0, .int 0, .long 0, .int 1, .int 0, .int 0])), (q2, .inl (K 0, 4, .inl (fun _ => 0)))] = zpl K (va_up (va_up ad (2 * i) q) (2 * i + 1) q2) (i + 1) := by
  unfold zpl
  rw [show 2 * (i + 1) = 2 * i + 1 + 1 by omega, List.range_succ, List.range_succ]
  simp only [List.map_append, List.map_cons, List.map_nil, List.append_assoc, List.cons_append, List.nil_append]
  congr 1
  · apply List.map_congr_left
    intro k hk
    have hk := List.mem_range.mp hk
    have h1 : va_up (va_up ad (2 * i) q) (2 * i + 1) q2 k = ad k := by rw [va_up_ne _ _ (by omega), va_up_ne _ _ (by omega)]
    by_cases h : k % 2 = 0
    · have h2 : va_up (va_up ad (2 * i) q) (2 * i + 1) q2 (k + 1) = ad (k + 1) := by rw [va_up_ne _ _ (by omega), va_up_ne _ _ (by omega)]
      simp only [h1, zpe, h, if_true, h2]
    · simp only [h1, zpe, h, if_false]
  · have h1 : va_up (va_up ad (2 * i) q) (2 * i + 1) q2 (2 * i) = q := by rw [va_up_ne _ _ (by omega), va_up_self]
    have h2 : va_up (va_up ad (2 * i) q) (2 * i + 1) q2 (2 * i + 1) = q2 := by rw [va_up_self]
    have h3 : 2 * i % 2 = 0 := by omega
    have h4 : ¬ (2 * i + 1) % 2 = 0 := by omega
    simp only [zpe, h1, h2, h3, h4, if_true, if_false]
theorem zrow_push (ad : Nat → Nat) (i q q2 : Nat) : va_up (zrow ad i) i (some q) = zrow (va_up (va_up ad (2 * i) q) (2 * i + 1) q2) (i + 1) := by
  funext j
  by_cases h : j = i
  · subst h
    simp only [zrow, va_up_self]
    rw [if_pos (Nat.lt_succ_self j), va_up_ne _ _ (by omega), va_up_self]
  · rw [va_up_ne _ _ h]
    unfold zrow
    by_cases h2 : j < i
    · rw [if_pos h2, if_pos (by omega), va_up_ne _ _ (by omega), va_up_ne _ _ (by omega)]
    · rw [if_neg h2, if_neg (by omega)]
theorem zpl_len (K : Nat → ClassId) (ad : Nat → Nat) (i : Nat) : (zpl K ad i).length = 2 * i := by simp [zpl]
set_option maxHeartbeats 4000000 in
set_option maxRecDepth 20000 in
theorem t_X0_init_19 (C : xCx p s m args meth c G K A 3 cX0_init RX0 none) (E : xCw s) {b r : Nat} {a1 : Int32} (hcap : 1 ≤ cap ∧ cap ≤ 32 ∧ a1 = nI cap) : ∀ (f i : Nat) (ad : Nat → Nat) (k9 n9 : Nat), i + f = cap → k9 ≤ 1 + 2 * i → n9 ≤ cap + 11 * i → xV p l e (xRm 3 50 65 384) s m args below meth c G A 3 (yQ G A (fun v w' => ∃ (r : Nat) (ad : Nat → Nat), v = none ∧ w' = [(b, .inr (0, [.ref r, .int 0])), (r, .inl (K 4, cap, .inr (.inr (.inr (.inr (zrow ad cap))))))] ++ zpl K ad cap) below args s 65 384) k9 n9 ([(b, .inr (0, [.ref r, .int 0])), (r, .inl (K 4, cap, .inr (.inr (.inr (.inr (zrow ad i))))))] ++ zpl K ad i) 19 [(0, .ref b), (1, .int a1), (2, .int (nI i))] [] := by
  obtain ⟨hc1, hc2, hc3⟩ := hcap
  intro f
  induction f with
  | zero =>
    intro i ad k9 n9 hi hk hn
    have hi : i = cap := by omega
    subst hi
    refine x_iload_n C dX0_init_19 rfl rfl 2 rfl ?_
    refine x_iload_n C dX0_init_20 rfl rfl 1 rfl ?_
    refine x_icmp_ge C 43 dX0_init_21 rfl (by decide) (fun c1 => ?_) (fun c1 => ?_)
    · exact y_vret C dX0_init_43 rfl (by omega) (by omega) ⟨r, ad, rfl, rfl⟩
    · exact absurd (by rw [hc3]; exact nI_le (Nat.le_refl i) (by omega)) c1
  | succ f ih =>
    intro i ad k9 n9 hi hk hn
    refine x_iload_n C dX0_init_19 rfl rfl 2 rfl ?_
    refine x_iload_n C dX0_init_20 rfl rfl 1 rfl ?_
    refine x_icmp_ge C 43 dX0_init_21 rfl (by decide) (fun c1 => ?_) (fun c1 => ?_)
    · exact absurd (by rw [hc3] at c1; exact c1) (nI_ge (by omega) (by omega))
    · refine x_aload_n C dX0_init_24 rfl rfl 0 rfl ?_
      refine x_get C 0 rfl inX0 0 (by decide) rfl rfl rfl i_152 dX0_init_25 rfl ?_
      refine x_iload_n C dX0_init_28 rfl rfl 2 rfl ?_
      refine x_new C (ci := 1) (fs := [.null, .int 0, .int 0, .long 0, .int 0, .int 0, .int 0]) tyX1 tyX1_ok rfl inX1 (fun j hj => by rcases (show j = 0 ∨ j = 1 ∨ j = 2 ∨ j = 3 ∨ j = 4 ∨ j = 5 ∨ j = 6 by omega) with rfl | rfl | rfl | rfl | rfl | rfl | rfl <;> rfl) ⟨i_111, i_113, i_8⟩ (by show k9 + 1 ≤ 65; omega) (by show n9 + 7 ≤ 384; omega) dX0_init_29 rfl (fun q => ?_)
      refine x_dup C dX0_init_32 rfl rfl ?_
      refine y_callIN C (As := []) (b := q) ([(b, .inr (0, [.ref r, .int 0])), (r, .inl (K 4, cap, .inr (.inr (.inr (.inr (zrow ad i))))))] ++ zpl K ad i) (c_X1_init q) rfl ⟨i_115, i_8, i_116⟩ (E.1 _ (List.mem_of_getElem? (i := 5) rfl)) rfl (k := 0) (by decide +kernel) (fun U g mk a h => xCw.same (s := U) (U := U.calling g mk a) rfl h) (fun H locs hS U hU hW => E.warm hW) rfl ⟨Nat.le_of_ble_eq_true rfl, Nat.le_of_ble_eq_true rfl⟩ ⟨by show k9 + 1 + 1 ≤ 65; omega, by show n9 + 7 + 4 ≤ 384; omega⟩ (Nat.le_of_ble_eq_true rfl) rfl dX0_init_33 rfl (fun v w1 hw1 => ?_)
      obtain ⟨q2, rfl, rfl⟩ := hw1
      have hpos : (([(b, .inr (0, [.ref r, .int 0])), (r, .inl (K 4, cap, .inr (.inr (.inr (.inr (zrow ad i))))))] ++ zpl K ad i) ++ [(q, .inr (1, [.ref q2, .int 0, .int 0, .long 0, .int 1, .int 0, .int 0])), (q2, .inl (K 0, 4, .inl (fun _ => 0)))] : va_W)[2 + 2 * i]? = some (q, .inr (1, [.ref q2, .int 0, .int 0, .long 0, .int 1, .int 0, .int 0])) := by
        rw [List.getElem?_append_right (by simp only [List.length_append, List.length_cons, List.length_nil, zpl_len]; omega)]
        simp only [List.length_append, List.length_cons, List.length_nil, zpl_len]
        rw [show 2 + 2 * i - (0 + 1 + 1 + 2 * i) = 0 by omega]
        rfl
      have hin : vp_in (nI i) cap := vp_in_nI (by omega) (by omega)
      have hcl : (nI i).toNatClampNeg = i := nI_clamp (by omega)
      refine x_astq C 1 (2 + 2 * i) (ci := 1) (ws' := [(b, .inr (0, [.ref r, .int 0])), (r, .inl (K 4, cap, .inr (.inr (.inr (.inr (zrow (va_up (va_up ad (2 * i) q) (2 * i + 1) q2) (i + 1)))))))] ++ zpl K (va_up (va_up ad (2 * i) q) (2 * i + 1) q2) (i + 1)) rfl hpos rfl rfl hin ?_ dX0_init_36 rfl ?_
      · rw [hcl, zrow_push ad i q q2, ← zpl_push K ad i q q2]
        rfl
      · refine x_iinc C (k := 2) (v := nI (i + 1)) (lv' := [(2, .int (nI (i + 1))), (0, .ref b), (1, .int a1)]) dX0_init_37 rfl rfl (nI_1 i) (by decide) rfl ?_
        refine x_goto C (tgt := 19) dX0_init_40 rfl (by decide) ?_
        refine x_lv [1, 2, 0] rfl ?_
        exact ih (i + 1) _ _ _ (by omega) (by omega) (by omega)
set_option maxHeartbeats 4000000 in
set_option maxRecDepth 20000 in
theorem c_X0_init (b : Nat) (a1 : Int32) (hcap : 1 ≤ cap ∧ cap ≤ 32 ∧ a1 = nI cap) : yMet l yX0_init cX0_init 3 none 3 50 65 384 G K [.ref b, .int a1] [(b, .inr (0, [.null, .int 0]))] (fun v w' => ∃ (r : Nat) (ad : Nat → Nat), v = none ∧ w' = [(b, .inr (0, [.ref r, .int 0])), (r, .inl (K 4, cap, .inr (.inr (.inr (.inr (zrow ad cap))))))] ++ zpl K ad cap) xCw := by
  refine yMet.intro (lv := [(0, .ref b), (1, .int a1)]) (by decide) rfl (Nat.le_of_ble_eq_true rfl) rfl (fun p e s m args below meth c A C E hAe hnm => ?_)
  refine x_aload_n C dX0_init_0 rfl rfl 0 rfl ?_
  refine x_objInit C ⟨i_110, i_24, i_25⟩ (Nat.le_of_ble_eq_true rfl) (Nat.le_of_ble_eq_true rfl) dX0_init_1 rfl ?_
  refine x_aload_n C dX0_init_4 rfl rfl 0 rfl ?_
  refine x_iconst C (v := (0 : Int32)) dX0_init_5 rfl (by decide) ?_
  refine x_put C 0 (ws' := [(b, .inr (0, [.null, .int 0]))]) tyX0 tyX0_ok nmX0 rfl inX0 1 (by decide) rfl rfl rfl (ty := .int) rfl rfl rfl (Nat.le_of_ble_eq_true rfl) rfl i_154 dX0_init_6 rfl ?_
  refine x_aload_n C dX0_init_9 rfl rfl 0 rfl ?_
  refine x_iload_n C dX0_init_10 rfl rfl 1 rfl ?_
  refine x_newq C (N9 := cap) i_111 E.2 (by rw [hcap.2.2]; exact nI_pos (by omega)) (by rw [hcap.2.2]; exact nI_clamp (by omega)) (by omega) (Nat.le_of_ble_eq_true rfl) (by show 0 + cap ≤ 384; omega) dX0_init_11 rfl (fun r => ?_)
  refine x_ws (ws' := [(b, .inr (0, [.null, .int 0])), (r, .inl (K 4, cap, .inr (.inr (.inr (.inr (fun _ => none))))))]) rfl ?_
  refine x_putF C 0 (ws' := [(b, .inr (0, [.ref r, .int 0])), (r, .inl (K 4, cap, .inr (.inr (.inr (.inr (fun _ => none))))))]) tyX0 tyX0_ok nmX0 rfl inX0 0 (by decide) rfl rfl hnm rfl rfl (ty := (tyX0 0)) rfl rfl rfl (Nat.le_of_ble_eq_true rfl) rfl i_152 dX0_init_14 rfl ?_
  refine x_iconst C (v := (0 : Int32)) dX0_init_17 rfl (by decide) ?_
  refine x_istore_n C (lv' := [(2, .int (nI 0)), (0, .ref b), (1, .int a1)]) dX0_init_18 rfl rfl (by decide) rfl ?_
  refine x_lv [1, 2, 0] rfl ?_
  refine x_ws (ws' := [(b, .inr (0, [.ref r, .int 0])), (r, .inl (K 4, cap, .inr (.inr (.inr (.inr (zrow (fun _ => 0) 0))))))] ++ zpl K (fun _ => 0) 0) (by
    have h : zrow (fun _ => 0) 0 = fun _ => none := by funext i; simp [zrow]
    rw [h]; simp [zpl]) ?_
  exact t_X0_init_19 C E hcap cap 0 _ _ _ (by omega) (by omega) (by show 0 + cap ≤ _; omega)
set_option maxHeartbeats 4000000 in
set_option maxRecDepth 20000 in
theorem c_X7_init (b : Nat) (a1 : Int32) (a2 : Int32) (a3 : Int32) (hcap : 1 ≤ cap ∧ cap ≤ 32 ∧ (if (1 : Int32) < (if a1 < (32 : Int32) then a1 else (32 : Int32)) then (if a1 < (32 : Int32) then a1 else (32 : Int32)) else (1 : Int32)) = nI cap) : yMet l yX7_init cX7_init 4 none 4 72 82 3757 G K [.ref b, .int a1, .int a2, .int a3] [(b, .inr (6, [.int 0, .int 0, .null, .null, .null, .null, .long 0, .int 0, .int 0, .int 0, .int 0, .int 0]))] (fun v w' => ∃ (q1 : Nat) (q2 : Nat) (q3 : Nat) (q4 : Nat) (q5 : Nat) (q6 : Nat) (q7 : Nat) (q8 : Nat) (q9 : Nat) (q10 : Nat) (q11 : Nat) (q12 : Nat) (q13 : Nat) (ad : Nat → Nat), v = none ∧ w' = [(b, .inr (6, [.int (if (1 : Int32) < (if a2 < (1000 : Int32) then a2 else (1000 : Int32)) then (if a2 < (1000 : Int32) then a2 else (1000 : Int32)) else (1 : Int32)), .int (if (1 : Int32) < (if a3 < (1000 : Int32) then a3 else (1000 : Int32)) then (if a3 < (1000 : Int32) then a3 else (1000 : Int32)) else (1 : Int32)), .ref q12, .ref q1, .ref q3, .ref q9, .long (2 : Int64), .int (0 : Int32), .int (0 : Int32), .int (0 : Int32), .int (0 : Int32), .int (-1 : Int32)])), (q1, .inr (5, [.ref q2, .int (0 : Int32)])), (q2, .inl (K 3, 40, .inl (fun _ => 0))), (q3, .inr (2, [.ref q4, .ref q5, .ref q6, .ref q7, .ref q8])), (q4, .inr (4, [.int (0 : Int32)])), (q5, .inl (K 1, 100, .inr (.inl (fun _ => 0)))), (q6, .inl (K 0, 100, .inl (fun _ => 0))), (q7, .inl (K 2, 100, .inl (fun _ => 0))), (q8, .inl (K 3, 2800, .inl (fun _ => 0))), (q9, .inr (3, [.ref q10, .ref q11])), (q10, .inr (4, [.int (0 : Int32)])), (q11, .inl (K 0, 100, .inl (fun _ => 0))), (q12, .inr (0, [.ref q13, .int 0])), (q13, .inl (K 4, cap, .inr (.inr (.inr (.inr (zrow ad cap))))))] ++ zpl K ad cap) xCw := by
  refine yMet.intro (lv := [(0, .ref b), (1, .int a1), (2, .int a2), (3, .int a3)]) (by decide) rfl (Nat.le_of_ble_eq_true rfl) rfl (fun p e s m args below meth c A C E hAe hnm => ?_)
  refine x_aload_n C dX7_init_0 rfl rfl 0 rfl ?_
  refine x_objInit C ⟨i_23, i_24, i_25⟩ (Nat.le_of_ble_eq_true rfl) (Nat.le_of_ble_eq_true rfl) dX7_init_1 rfl ?_
  refine x_aload_n C dX7_init_4 rfl rfl 0 rfl ?_
  refine x_new C (ci := 5) (fs := [.null, .int 0]) tyX5 tyX5_ok rfl inX5 (fun j hj => by rcases (show j = 0 ∨ j = 1 by omega) with rfl | rfl <;> rfl) ⟨i_26, i_27, i_2⟩ (Nat.le_of_ble_eq_true rfl) (Nat.le_of_ble_eq_true rfl) dX7_init_5 rfl (fun q1 => ?_)
  refine x_ws (ws' := [(b, .inr (6, [.int 0, .int 0, .null, .null, .null, .null, .long 0, .int 0, .int 0, .int 0, .int 0, .int 0])), (q1, .inr (5, [.null, .int 0]))]) rfl ?_
  refine x_dup C dX7_init_8 rfl rfl ?_
  refine y_callIN C (As := []) (b := q1) [(b, .inr (6, [.int 0, .int 0, .null, .null, .null, .null, .long 0, .int 0, .int 0, .int 0, .int 0, .int 0]))] (c_X5_init q1) rfl ⟨i_29, i_2, i_30⟩ (E.1 _ (List.mem_of_getElem? (i := 0) rfl)) rfl (k := 0) (by decide +kernel) (fun U g mk a h => xCw.same (s := U) (U := U.calling g mk a) rfl h) (fun H locs hS U hU hW => E.warm hW) rfl ⟨Nat.le_of_ble_eq_true rfl, Nat.le_of_ble_eq_true rfl⟩ ⟨Nat.le_of_ble_eq_true rfl, Nat.le_of_ble_eq_true rfl⟩ (Nat.le_of_ble_eq_true rfl) rfl dX7_init_9 rfl (fun v w1 hw1 => ?_)
  obtain ⟨q2, rfl, rfl⟩ := hw1
  refine x_ws (ws' := [(b, .inr (6, [.int 0, .int 0, .null, .null, .null, .null, .long 0, .int 0, .int 0, .int 0, .int 0, .int 0])), (q1, .inr (5, [.ref q2, .int (0 : Int32)])), (q2, .inl (K 3, 40, .inl (fun _ => 0)))]) rfl ?_
  refine x_putF C 0 (ws' := [(b, .inr (6, [.int 0, .int 0, .null, .ref q1, .null, .null, .long 0, .int 0, .int 0, .int 0, .int 0, .int 0])), (q1, .inr (5, [.ref q2, .int (0 : Int32)])), (q2, .inl (K 3, 40, .inl (fun _ => 0)))]) tyX7 tyX7_ok nmX7 rfl inX7 3 (by decide) rfl rfl hnm rfl rfl (ty := (tyX7 3)) rfl rfl rfl (Nat.le_of_ble_eq_true rfl) rfl i_164 dX7_init_12 rfl ?_
  refine x_aload_n C dX7_init_15 rfl rfl 0 rfl ?_
  refine x_new C (ci := 2) (fs := [.null, .null, .null, .null, .null]) tyX2 tyX2_ok rfl inX2 (fun j hj => by rcases (show j = 0 ∨ j = 1 ∨ j = 2 ∨ j = 3 ∨ j = 4 by omega) with rfl | rfl | rfl | rfl | rfl <;> rfl) ⟨i_42, i_43, i_3⟩ (Nat.le_of_ble_eq_true rfl) (Nat.le_of_ble_eq_true rfl) dX7_init_16 rfl (fun q3 => ?_)
  refine x_ws (ws' := [(b, .inr (6, [.int 0, .int 0, .null, .ref q1, .null, .null, .long 0, .int 0, .int 0, .int 0, .int 0, .int 0])), (q1, .inr (5, [.ref q2, .int (0 : Int32)])), (q2, .inl (K 3, 40, .inl (fun _ => 0))), (q3, .inr (2, [.null, .null, .null, .null, .null]))]) rfl ?_
  refine x_dup C dX7_init_19 rfl rfl ?_
  refine y_callIN C (As := []) (b := q3) [(b, .inr (6, [.int 0, .int 0, .null, .ref q1, .null, .null, .long 0, .int 0, .int 0, .int 0, .int 0, .int 0])), (q1, .inr (5, [.ref q2, .int (0 : Int32)])), (q2, .inl (K 3, 40, .inl (fun _ => 0)))] (c_X2_init q3) rfl ⟨i_45, i_3, i_46⟩ (E.1 _ (List.mem_of_getElem? (i := 1) rfl)) rfl (k := 0) (by decide +kernel) (fun U g mk a h => xCw.same (s := U) (U := U.calling g mk a) rfl h) (fun H locs hS U hU hW => E.warm hW) rfl ⟨Nat.le_of_ble_eq_true rfl, Nat.le_of_ble_eq_true rfl⟩ ⟨Nat.le_of_ble_eq_true rfl, Nat.le_of_ble_eq_true rfl⟩ (Nat.le_of_ble_eq_true rfl) rfl dX7_init_20 rfl (fun v w1 hw1 => ?_)
  obtain ⟨q4, q5, q6, q7, q8, rfl, rfl⟩ := hw1
  refine x_ws (ws' := [(b, .inr (6, [.int 0, .int 0, .null, .ref q1, .null, .null, .long 0, .int 0, .int 0, .int 0, .int 0, .int 0])), (q1, .inr (5, [.ref q2, .int (0 : Int32)])), (q2, .inl (K 3, 40, .inl (fun _ => 0))), (q3, .inr (2, [.ref q4, .ref q5, .ref q6, .ref q7, .ref q8])), (q4, .inr (4, [.int (0 : Int32)])), (q5, .inl (K 1, 100, .inr (.inl (fun _ => 0)))), (q6, .inl (K 0, 100, .inl (fun _ => 0))), (q7, .inl (K 2, 100, .inl (fun _ => 0))), (q8, .inl (K 3, 2800, .inl (fun _ => 0)))]) rfl ?_
  refine x_putF C 0 (ws' := [(b, .inr (6, [.int 0, .int 0, .null, .ref q1, .ref q3, .null, .long 0, .int 0, .int 0, .int 0, .int 0, .int 0])), (q1, .inr (5, [.ref q2, .int (0 : Int32)])), (q2, .inl (K 3, 40, .inl (fun _ => 0))), (q3, .inr (2, [.ref q4, .ref q5, .ref q6, .ref q7, .ref q8])), (q4, .inr (4, [.int (0 : Int32)])), (q5, .inl (K 1, 100, .inr (.inl (fun _ => 0)))), (q6, .inl (K 0, 100, .inl (fun _ => 0))), (q7, .inl (K 2, 100, .inl (fun _ => 0))), (q8, .inl (K 3, 2800, .inl (fun _ => 0)))]) tyX7 tyX7_ok nmX7 rfl inX7 4 (by decide) rfl rfl hnm rfl rfl (ty := (tyX7 4)) rfl rfl rfl (Nat.le_of_ble_eq_true rfl) rfl i_165 dX7_init_23 rfl ?_
  refine x_aload_n C dX7_init_26 rfl rfl 0 rfl ?_
  refine x_new C (ci := 3) (fs := [.null, .null]) tyX3 tyX3_ok rfl inX3 (fun j hj => by rcases (show j = 0 ∨ j = 1 by omega) with rfl | rfl <;> rfl) ⟨i_81, i_82, i_5⟩ (Nat.le_of_ble_eq_true rfl) (Nat.le_of_ble_eq_true rfl) dX7_init_27 rfl (fun q9 => ?_)
  refine x_ws (ws' := [(b, .inr (6, [.int 0, .int 0, .null, .ref q1, .ref q3, .null, .long 0, .int 0, .int 0, .int 0, .int 0, .int 0])), (q1, .inr (5, [.ref q2, .int (0 : Int32)])), (q2, .inl (K 3, 40, .inl (fun _ => 0))), (q3, .inr (2, [.ref q4, .ref q5, .ref q6, .ref q7, .ref q8])), (q4, .inr (4, [.int (0 : Int32)])), (q5, .inl (K 1, 100, .inr (.inl (fun _ => 0)))), (q6, .inl (K 0, 100, .inl (fun _ => 0))), (q7, .inl (K 2, 100, .inl (fun _ => 0))), (q8, .inl (K 3, 2800, .inl (fun _ => 0))), (q9, .inr (3, [.null, .null]))]) rfl ?_
  refine x_dup C dX7_init_30 rfl rfl ?_
  refine y_callIN C (As := []) (b := q9) [(b, .inr (6, [.int 0, .int 0, .null, .ref q1, .ref q3, .null, .long 0, .int 0, .int 0, .int 0, .int 0, .int 0])), (q1, .inr (5, [.ref q2, .int (0 : Int32)])), (q2, .inl (K 3, 40, .inl (fun _ => 0))), (q3, .inr (2, [.ref q4, .ref q5, .ref q6, .ref q7, .ref q8])), (q4, .inr (4, [.int (0 : Int32)])), (q5, .inl (K 1, 100, .inr (.inl (fun _ => 0)))), (q6, .inl (K 0, 100, .inl (fun _ => 0))), (q7, .inl (K 2, 100, .inl (fun _ => 0))), (q8, .inl (K 3, 2800, .inl (fun _ => 0)))] (c_X3_init q9) rfl ⟨i_84, i_5, i_85⟩ (E.1 _ (List.mem_of_getElem? (i := 3) rfl)) rfl (k := 0) (by decide +kernel) (fun U g mk a h => xCw.same (s := U) (U := U.calling g mk a) rfl h) (fun H locs hS U hU hW => E.warm hW) rfl ⟨Nat.le_of_ble_eq_true rfl, Nat.le_of_ble_eq_true rfl⟩ ⟨Nat.le_of_ble_eq_true rfl, Nat.le_of_ble_eq_true rfl⟩ (Nat.le_of_ble_eq_true rfl) rfl dX7_init_31 rfl (fun v w1 hw1 => ?_)
  obtain ⟨q10, q11, rfl, rfl⟩ := hw1
  refine x_ws (ws' := [(b, .inr (6, [.int 0, .int 0, .null, .ref q1, .ref q3, .null, .long 0, .int 0, .int 0, .int 0, .int 0, .int 0])), (q1, .inr (5, [.ref q2, .int (0 : Int32)])), (q2, .inl (K 3, 40, .inl (fun _ => 0))), (q3, .inr (2, [.ref q4, .ref q5, .ref q6, .ref q7, .ref q8])), (q4, .inr (4, [.int (0 : Int32)])), (q5, .inl (K 1, 100, .inr (.inl (fun _ => 0)))), (q6, .inl (K 0, 100, .inl (fun _ => 0))), (q7, .inl (K 2, 100, .inl (fun _ => 0))), (q8, .inl (K 3, 2800, .inl (fun _ => 0))), (q9, .inr (3, [.ref q10, .ref q11])), (q10, .inr (4, [.int (0 : Int32)])), (q11, .inl (K 0, 100, .inl (fun _ => 0)))]) rfl ?_
  refine x_putF C 0 (ws' := [(b, .inr (6, [.int 0, .int 0, .null, .ref q1, .ref q3, .ref q9, .long 0, .int 0, .int 0, .int 0, .int 0, .int 0])), (q1, .inr (5, [.ref q2, .int (0 : Int32)])), (q2, .inl (K 3, 40, .inl (fun _ => 0))), (q3, .inr (2, [.ref q4, .ref q5, .ref q6, .ref q7, .ref q8])), (q4, .inr (4, [.int (0 : Int32)])), (q5, .inl (K 1, 100, .inr (.inl (fun _ => 0)))), (q6, .inl (K 0, 100, .inl (fun _ => 0))), (q7, .inl (K 2, 100, .inl (fun _ => 0))), (q8, .inl (K 3, 2800, .inl (fun _ => 0))), (q9, .inr (3, [.ref q10, .ref q11])), (q10, .inr (4, [.int (0 : Int32)])), (q11, .inl (K 0, 100, .inl (fun _ => 0)))]) tyX7 tyX7_ok nmX7 rfl inX7 5 (by decide) rfl rfl hnm rfl rfl (ty := (tyX7 5)) rfl rfl rfl (Nat.le_of_ble_eq_true rfl) rfl i_166 dX7_init_34 rfl ?_
  refine x_aload_n C dX7_init_37 rfl rfl 0 rfl ?_
  refine x_ldc2 C dX7_init_38 rfl i_98 ?_
  refine x_put C 0 (ws' := [(b, .inr (6, [.int 0, .int 0, .null, .ref q1, .ref q3, .ref q9, .long (2 : Int64), .int 0, .int 0, .int 0, .int 0, .int 0])), (q1, .inr (5, [.ref q2, .int (0 : Int32)])), (q2, .inl (K 3, 40, .inl (fun _ => 0))), (q3, .inr (2, [.ref q4, .ref q5, .ref q6, .ref q7, .ref q8])), (q4, .inr (4, [.int (0 : Int32)])), (q5, .inl (K 1, 100, .inr (.inl (fun _ => 0)))), (q6, .inl (K 0, 100, .inl (fun _ => 0))), (q7, .inl (K 2, 100, .inl (fun _ => 0))), (q8, .inl (K 3, 2800, .inl (fun _ => 0))), (q9, .inr (3, [.ref q10, .ref q11])), (q10, .inr (4, [.int (0 : Int32)])), (q11, .inl (K 0, 100, .inl (fun _ => 0)))]) tyX7 tyX7_ok nmX7 rfl inX7 6 (by decide) rfl rfl rfl (ty := .long) rfl rfl rfl (Nat.le_of_ble_eq_true rfl) rfl i_167 dX7_init_41 rfl ?_
  refine x_aload_n C dX7_init_44 rfl rfl 0 rfl ?_
  refine x_iconst C (v := (0 : Int32)) dX7_init_45 rfl (by decide) ?_
  refine x_put C 0 (ws' := [(b, .inr (6, [.int 0, .int 0, .null, .ref q1, .ref q3, .ref q9, .long (2 : Int64), .int (0 : Int32), .int 0, .int 0, .int 0, .int 0])), (q1, .inr (5, [.ref q2, .int (0 : Int32)])), (q2, .inl (K 3, 40, .inl (fun _ => 0))), (q3, .inr (2, [.ref q4, .ref q5, .ref q6, .ref q7, .ref q8])), (q4, .inr (4, [.int (0 : Int32)])), (q5, .inl (K 1, 100, .inr (.inl (fun _ => 0)))), (q6, .inl (K 0, 100, .inl (fun _ => 0))), (q7, .inl (K 2, 100, .inl (fun _ => 0))), (q8, .inl (K 3, 2800, .inl (fun _ => 0))), (q9, .inr (3, [.ref q10, .ref q11])), (q10, .inr (4, [.int (0 : Int32)])), (q11, .inl (K 0, 100, .inl (fun _ => 0)))]) tyX7 tyX7_ok nmX7 rfl inX7 7 (by decide) rfl rfl rfl (ty := .int) rfl rfl rfl (Nat.le_of_ble_eq_true rfl) rfl i_168 dX7_init_46 rfl ?_
  refine x_aload_n C dX7_init_49 rfl rfl 0 rfl ?_
  refine x_iconst C (v := (0 : Int32)) dX7_init_50 rfl (by decide) ?_
  refine x_put C 0 (ws' := [(b, .inr (6, [.int 0, .int 0, .null, .ref q1, .ref q3, .ref q9, .long (2 : Int64), .int (0 : Int32), .int (0 : Int32), .int 0, .int 0, .int 0])), (q1, .inr (5, [.ref q2, .int (0 : Int32)])), (q2, .inl (K 3, 40, .inl (fun _ => 0))), (q3, .inr (2, [.ref q4, .ref q5, .ref q6, .ref q7, .ref q8])), (q4, .inr (4, [.int (0 : Int32)])), (q5, .inl (K 1, 100, .inr (.inl (fun _ => 0)))), (q6, .inl (K 0, 100, .inl (fun _ => 0))), (q7, .inl (K 2, 100, .inl (fun _ => 0))), (q8, .inl (K 3, 2800, .inl (fun _ => 0))), (q9, .inr (3, [.ref q10, .ref q11])), (q10, .inr (4, [.int (0 : Int32)])), (q11, .inl (K 0, 100, .inl (fun _ => 0)))]) tyX7 tyX7_ok nmX7 rfl inX7 8 (by decide) rfl rfl rfl (ty := .int) rfl rfl rfl (Nat.le_of_ble_eq_true rfl) rfl i_169 dX7_init_51 rfl ?_
  refine x_aload_n C dX7_init_54 rfl rfl 0 rfl ?_
  refine x_iconst C (v := (0 : Int32)) dX7_init_55 rfl (by decide) ?_
  refine x_put C 0 (ws' := [(b, .inr (6, [.int 0, .int 0, .null, .ref q1, .ref q3, .ref q9, .long (2 : Int64), .int (0 : Int32), .int (0 : Int32), .int (0 : Int32), .int 0, .int 0])), (q1, .inr (5, [.ref q2, .int (0 : Int32)])), (q2, .inl (K 3, 40, .inl (fun _ => 0))), (q3, .inr (2, [.ref q4, .ref q5, .ref q6, .ref q7, .ref q8])), (q4, .inr (4, [.int (0 : Int32)])), (q5, .inl (K 1, 100, .inr (.inl (fun _ => 0)))), (q6, .inl (K 0, 100, .inl (fun _ => 0))), (q7, .inl (K 2, 100, .inl (fun _ => 0))), (q8, .inl (K 3, 2800, .inl (fun _ => 0))), (q9, .inr (3, [.ref q10, .ref q11])), (q10, .inr (4, [.int (0 : Int32)])), (q11, .inl (K 0, 100, .inl (fun _ => 0)))]) tyX7 tyX7_ok nmX7 rfl inX7 9 (by decide) rfl rfl rfl (ty := .int) rfl rfl rfl (Nat.le_of_ble_eq_true rfl) rfl i_170 dX7_init_56 rfl ?_
  refine x_aload_n C dX7_init_59 rfl rfl 0 rfl ?_
  refine x_iconst C (v := (0 : Int32)) dX7_init_60 rfl (by decide) ?_
  refine x_put C 0 (ws' := [(b, .inr (6, [.int 0, .int 0, .null, .ref q1, .ref q3, .ref q9, .long (2 : Int64), .int (0 : Int32), .int (0 : Int32), .int (0 : Int32), .int (0 : Int32), .int 0])), (q1, .inr (5, [.ref q2, .int (0 : Int32)])), (q2, .inl (K 3, 40, .inl (fun _ => 0))), (q3, .inr (2, [.ref q4, .ref q5, .ref q6, .ref q7, .ref q8])), (q4, .inr (4, [.int (0 : Int32)])), (q5, .inl (K 1, 100, .inr (.inl (fun _ => 0)))), (q6, .inl (K 0, 100, .inl (fun _ => 0))), (q7, .inl (K 2, 100, .inl (fun _ => 0))), (q8, .inl (K 3, 2800, .inl (fun _ => 0))), (q9, .inr (3, [.ref q10, .ref q11])), (q10, .inr (4, [.int (0 : Int32)])), (q11, .inl (K 0, 100, .inl (fun _ => 0)))]) tyX7 tyX7_ok nmX7 rfl inX7 10 (by decide) rfl rfl rfl (ty := .int) rfl rfl rfl (Nat.le_of_ble_eq_true rfl) rfl i_171 dX7_init_61 rfl ?_
  refine x_aload_n C dX7_init_64 rfl rfl 0 rfl ?_
  refine x_iconst C (v := (-1 : Int32)) dX7_init_65 rfl (by decide) ?_
  refine x_put C 0 (ws' := [(b, .inr (6, [.int 0, .int 0, .null, .ref q1, .ref q3, .ref q9, .long (2 : Int64), .int (0 : Int32), .int (0 : Int32), .int (0 : Int32), .int (0 : Int32), .int (-1 : Int32)])), (q1, .inr (5, [.ref q2, .int (0 : Int32)])), (q2, .inl (K 3, 40, .inl (fun _ => 0))), (q3, .inr (2, [.ref q4, .ref q5, .ref q6, .ref q7, .ref q8])), (q4, .inr (4, [.int (0 : Int32)])), (q5, .inl (K 1, 100, .inr (.inl (fun _ => 0)))), (q6, .inl (K 0, 100, .inl (fun _ => 0))), (q7, .inl (K 2, 100, .inl (fun _ => 0))), (q8, .inl (K 3, 2800, .inl (fun _ => 0))), (q9, .inr (3, [.ref q10, .ref q11])), (q10, .inr (4, [.int (0 : Int32)])), (q11, .inl (K 0, 100, .inl (fun _ => 0)))]) tyX7 tyX7_ok nmX7 rfl inX7 11 (by decide) rfl rfl rfl (ty := .int) rfl rfl rfl (Nat.le_of_ble_eq_true rfl) rfl i_172 dX7_init_66 rfl ?_
  refine x_aload_n C dX7_init_69 rfl rfl 0 rfl ?_
  refine x_new C (ci := 0) (fs := [.null, .int 0]) tyX0 tyX0_ok rfl inX0 (fun j hj => by rcases (show j = 0 ∨ j = 1 by omega) with rfl | rfl <;> rfl) ⟨i_99, i_100, i_6⟩ (Nat.le_of_ble_eq_true rfl) (Nat.le_of_ble_eq_true rfl) dX7_init_70 rfl (fun q12 => ?_)
  refine x_ws (ws' := [(b, .inr (6, [.int 0, .int 0, .null, .ref q1, .ref q3, .ref q9, .long (2 : Int64), .int (0 : Int32), .int (0 : Int32), .int (0 : Int32), .int (0 : Int32), .int (-1 : Int32)])), (q1, .inr (5, [.ref q2, .int (0 : Int32)])), (q2, .inl (K 3, 40, .inl (fun _ => 0))), (q3, .inr (2, [.ref q4, .ref q5, .ref q6, .ref q7, .ref q8])), (q4, .inr (4, [.int (0 : Int32)])), (q5, .inl (K 1, 100, .inr (.inl (fun _ => 0)))), (q6, .inl (K 0, 100, .inl (fun _ => 0))), (q7, .inl (K 2, 100, .inl (fun _ => 0))), (q8, .inl (K 3, 2800, .inl (fun _ => 0))), (q9, .inr (3, [.ref q10, .ref q11])), (q10, .inr (4, [.int (0 : Int32)])), (q11, .inl (K 0, 100, .inl (fun _ => 0))), (q12, .inr (0, [.null, .int 0]))]) rfl ?_
  refine x_dup C dX7_init_73 rfl rfl ?_
  refine x_iconst C (v := (1 : Int32)) dX7_init_74 rfl (by decide) ?_
  refine x_bipush C (v := (32 : Int32)) dX7_init_75 rfl (by decide) ?_
  refine x_iload_n C dX7_init_77 rfl rfl 1 rfl ?_
  refine x_min C ⟨i_101, i_102, i_7, i_103⟩ ⟨Nat.le_of_ble_eq_true rfl, Nat.le_of_ble_eq_true rfl⟩ ⟨Nat.le_of_ble_eq_true rfl, Nat.le_of_ble_eq_true rfl⟩ dX7_init_78 rfl ?_
  refine x_max C ⟨i_104, i_105, i_7, i_106⟩ ⟨Nat.le_of_ble_eq_true rfl, Nat.le_of_ble_eq_true rfl⟩ ⟨Nat.le_of_ble_eq_true rfl, Nat.le_of_ble_eq_true rfl⟩ dX7_init_81 rfl ?_
  refine y_callI C (As := [.int (if (1 : Int32) < (if a1 < (32 : Int32) then a1 else (32 : Int32)) then (if a1 < (32 : Int32) then a1 else (32 : Int32)) else (1 : Int32))]) (b := q12) [(b, .inr (6, [.int 0, .int 0, .null, .ref q1, .ref q3, .ref q9, .long (2 : Int64), .int (0 : Int32), .int (0 : Int32), .int (0 : Int32), .int (0 : Int32), .int (-1 : Int32)])), (q1, .inr (5, [.ref q2, .int (0 : Int32)])), (q2, .inl (K 3, 40, .inl (fun _ => 0))), (q3, .inr (2, [.ref q4, .ref q5, .ref q6, .ref q7, .ref q8])), (q4, .inr (4, [.int (0 : Int32)])), (q5, .inl (K 1, 100, .inr (.inl (fun _ => 0)))), (q6, .inl (K 0, 100, .inl (fun _ => 0))), (q7, .inl (K 2, 100, .inl (fun _ => 0))), (q8, .inl (K 3, 2800, .inl (fun _ => 0))), (q9, .inr (3, [.ref q10, .ref q11])), (q10, .inr (4, [.int (0 : Int32)])), (q11, .inl (K 0, 100, .inl (fun _ => 0)))] (c_X0_init q12 (if (1 : Int32) < (if a1 < (32 : Int32) then a1 else (32 : Int32)) then (if a1 < (32 : Int32) then a1 else (32 : Int32)) else (1 : Int32)) hcap) rfl ⟨i_107, i_108, i_6, i_109⟩ rfl (k := 1) (by decide +kernel) (fun U g mk a h => xCw.same (s := U) (U := U.calling g mk a) rfl h) (fun H locs hS U hU hW => E.warm hW) rfl ⟨Nat.le_of_ble_eq_true rfl, Nat.le_of_ble_eq_true rfl⟩ ⟨Nat.le_of_ble_eq_true rfl, Nat.le_of_ble_eq_true rfl⟩ (Nat.le_of_ble_eq_true rfl) rfl dX7_init_84 rfl (fun v w1 hw1 => ?_)
  obtain ⟨q13, ad, rfl, rfl⟩ := hw1
  refine x_ws (ws' := [(b, .inr (6, [.int 0, .int 0, .null, .ref q1, .ref q3, .ref q9, .long (2 : Int64), .int (0 : Int32), .int (0 : Int32), .int (0 : Int32), .int (0 : Int32), .int (-1 : Int32)])), (q1, .inr (5, [.ref q2, .int (0 : Int32)])), (q2, .inl (K 3, 40, .inl (fun _ => 0))), (q3, .inr (2, [.ref q4, .ref q5, .ref q6, .ref q7, .ref q8])), (q4, .inr (4, [.int (0 : Int32)])), (q5, .inl (K 1, 100, .inr (.inl (fun _ => 0)))), (q6, .inl (K 0, 100, .inl (fun _ => 0))), (q7, .inl (K 2, 100, .inl (fun _ => 0))), (q8, .inl (K 3, 2800, .inl (fun _ => 0))), (q9, .inr (3, [.ref q10, .ref q11])), (q10, .inr (4, [.int (0 : Int32)])), (q11, .inl (K 0, 100, .inl (fun _ => 0))), (q12, .inr (0, [.ref q13, .int 0])), (q13, .inl (K 4, cap, .inr (.inr (.inr (.inr (zrow ad cap))))))] ++ zpl K ad cap) rfl ?_
  refine x_putF C 0 (ws' := [(b, .inr (6, [.int 0, .int 0, .ref q12, .ref q1, .ref q3, .ref q9, .long (2 : Int64), .int (0 : Int32), .int (0 : Int32), .int (0 : Int32), .int (0 : Int32), .int (-1 : Int32)])), (q1, .inr (5, [.ref q2, .int (0 : Int32)])), (q2, .inl (K 3, 40, .inl (fun _ => 0))), (q3, .inr (2, [.ref q4, .ref q5, .ref q6, .ref q7, .ref q8])), (q4, .inr (4, [.int (0 : Int32)])), (q5, .inl (K 1, 100, .inr (.inl (fun _ => 0)))), (q6, .inl (K 0, 100, .inl (fun _ => 0))), (q7, .inl (K 2, 100, .inl (fun _ => 0))), (q8, .inl (K 3, 2800, .inl (fun _ => 0))), (q9, .inr (3, [.ref q10, .ref q11])), (q10, .inr (4, [.int (0 : Int32)])), (q11, .inl (K 0, 100, .inl (fun _ => 0))), (q12, .inr (0, [.ref q13, .int 0])), (q13, .inl (K 4, cap, .inr (.inr (.inr (.inr (zrow ad cap))))))] ++ zpl K ad cap) tyX7 tyX7_ok nmX7 rfl inX7 2 (by decide) rfl rfl hnm rfl rfl (ty := (tyX7 2)) rfl rfl rfl (Nat.le_of_ble_eq_true rfl) rfl i_163 dX7_init_87 rfl ?_
  refine x_aload_n C dX7_init_90 rfl rfl 0 rfl ?_
  refine x_iconst C (v := (1 : Int32)) dX7_init_91 rfl (by decide) ?_
  refine x_sipush C (v := (1000 : Int32)) dX7_init_92 rfl (by decide) ?_
  refine x_iload_n C dX7_init_95 rfl rfl 2 rfl ?_
  refine x_min C ⟨i_101, i_102, i_7, i_103⟩ ⟨Nat.le_of_ble_eq_true rfl, Nat.le_of_ble_eq_true rfl⟩ ⟨Nat.le_of_ble_eq_true rfl, Nat.le_of_ble_eq_true rfl⟩ dX7_init_96 rfl ?_
  refine x_max C ⟨i_104, i_105, i_7, i_106⟩ ⟨Nat.le_of_ble_eq_true rfl, Nat.le_of_ble_eq_true rfl⟩ ⟨Nat.le_of_ble_eq_true rfl, Nat.le_of_ble_eq_true rfl⟩ dX7_init_99 rfl ?_
  refine x_putF C 0 (ws' := [(b, .inr (6, [.int (if (1 : Int32) < (if a2 < (1000 : Int32) then a2 else (1000 : Int32)) then (if a2 < (1000 : Int32) then a2 else (1000 : Int32)) else (1 : Int32)), .int 0, .ref q12, .ref q1, .ref q3, .ref q9, .long (2 : Int64), .int (0 : Int32), .int (0 : Int32), .int (0 : Int32), .int (0 : Int32), .int (-1 : Int32)])), (q1, .inr (5, [.ref q2, .int (0 : Int32)])), (q2, .inl (K 3, 40, .inl (fun _ => 0))), (q3, .inr (2, [.ref q4, .ref q5, .ref q6, .ref q7, .ref q8])), (q4, .inr (4, [.int (0 : Int32)])), (q5, .inl (K 1, 100, .inr (.inl (fun _ => 0)))), (q6, .inl (K 0, 100, .inl (fun _ => 0))), (q7, .inl (K 2, 100, .inl (fun _ => 0))), (q8, .inl (K 3, 2800, .inl (fun _ => 0))), (q9, .inr (3, [.ref q10, .ref q11])), (q10, .inr (4, [.int (0 : Int32)])), (q11, .inl (K 0, 100, .inl (fun _ => 0))), (q12, .inr (0, [.ref q13, .int 0])), (q13, .inl (K 4, cap, .inr (.inr (.inr (.inr (zrow ad cap))))))] ++ zpl K ad cap) tyX7 tyX7_ok nmX7 rfl inX7 0 (by decide) rfl rfl hnm rfl rfl (ty := .int) rfl rfl rfl (Nat.le_of_ble_eq_true rfl) rfl i_161 dX7_init_102 rfl ?_
  refine x_aload_n C dX7_init_105 rfl rfl 0 rfl ?_
  refine x_iconst C (v := (1 : Int32)) dX7_init_106 rfl (by decide) ?_
  refine x_sipush C (v := (1000 : Int32)) dX7_init_107 rfl (by decide) ?_
  refine x_iload_n C dX7_init_110 rfl rfl 3 rfl ?_
  refine x_min C ⟨i_101, i_102, i_7, i_103⟩ ⟨Nat.le_of_ble_eq_true rfl, Nat.le_of_ble_eq_true rfl⟩ ⟨Nat.le_of_ble_eq_true rfl, Nat.le_of_ble_eq_true rfl⟩ dX7_init_111 rfl ?_
  refine x_max C ⟨i_104, i_105, i_7, i_106⟩ ⟨Nat.le_of_ble_eq_true rfl, Nat.le_of_ble_eq_true rfl⟩ ⟨Nat.le_of_ble_eq_true rfl, Nat.le_of_ble_eq_true rfl⟩ dX7_init_114 rfl ?_
  refine x_putF C 0 (ws' := [(b, .inr (6, [.int (if (1 : Int32) < (if a2 < (1000 : Int32) then a2 else (1000 : Int32)) then (if a2 < (1000 : Int32) then a2 else (1000 : Int32)) else (1 : Int32)), .int (if (1 : Int32) < (if a3 < (1000 : Int32) then a3 else (1000 : Int32)) then (if a3 < (1000 : Int32) then a3 else (1000 : Int32)) else (1 : Int32)), .ref q12, .ref q1, .ref q3, .ref q9, .long (2 : Int64), .int (0 : Int32), .int (0 : Int32), .int (0 : Int32), .int (0 : Int32), .int (-1 : Int32)])), (q1, .inr (5, [.ref q2, .int (0 : Int32)])), (q2, .inl (K 3, 40, .inl (fun _ => 0))), (q3, .inr (2, [.ref q4, .ref q5, .ref q6, .ref q7, .ref q8])), (q4, .inr (4, [.int (0 : Int32)])), (q5, .inl (K 1, 100, .inr (.inl (fun _ => 0)))), (q6, .inl (K 0, 100, .inl (fun _ => 0))), (q7, .inl (K 2, 100, .inl (fun _ => 0))), (q8, .inl (K 3, 2800, .inl (fun _ => 0))), (q9, .inr (3, [.ref q10, .ref q11])), (q10, .inr (4, [.int (0 : Int32)])), (q11, .inl (K 0, 100, .inl (fun _ => 0))), (q12, .inr (0, [.ref q13, .int 0])), (q13, .inl (K 4, cap, .inr (.inr (.inr (.inr (zrow ad cap))))))] ++ zpl K ad cap) tyX7 tyX7_ok nmX7 rfl inX7 1 (by decide) rfl rfl hnm rfl rfl (ty := .int) rfl rfl rfl (Nat.le_of_ble_eq_true rfl) rfl i_162 dX7_init_117 rfl ?_
  exact y_vret C dX7_init_120 rfl (Nat.le_of_ble_eq_true rfl) (Nat.le_of_ble_eq_true rfl) ⟨_, _, _, _, _, _, _, _, _, _, _, _, _, _, rfl, rfl⟩
theorem c_ge {a b : Int32} (h : a ≤ b) : ¬ b < a := by rw [Int32.lt_iff_toInt_lt]; rw [Int32.le_iff_toInt_le] at h; omega
theorem c_nle {a b : Int32} (h : ¬ a ≤ b) : b < a := by rw [Int32.lt_iff_toInt_lt]; rw [Int32.le_iff_toInt_le] at h; omega
set_option maxHeartbeats 4000000 in
set_option maxRecDepth 20000 in
theorem c_X8_init (b : Nat) (a1 : Int32) (a2 : Int32) (a3 : Int32) : yMet l yX8_init cX8_init 4 none 1 20 13 3597 G K [.ref b, .int a1, .int a2, .int a3] [(b, .inr (7, [.int 0, .int 0, .int 0, .int 0, .long 0, .int 0, .int 0, .int 0, .int 0, .int 0, .null, .int 0, .int 0, .null, .null, .null, .null, .null, .null, .null, .int 0, .null, .null, .null, .null, .int 0, .null]))] (fun v w' => ∃ (q1 : Nat) (q2 : Nat) (q3 : Nat) (q4 : Nat) (q5 : Nat) (q6 : Nat) (q7 : Nat) (q8 : Nat) (q9 : Nat) (q10 : Nat) (q11 : Nat) (q12 : Nat) (q13 : Nat), v = none ∧ w' = [(b, .inr (7, [.int 0, .int (if a1 < (1 : Int32) then (1 : Int32) else if (32 : Int32) < a1 then (32 : Int32) else a1), .int (if a2 < (1 : Int32) then (1 : Int32) else if (1000 : Int32) < a2 then (1000 : Int32) else a2), .int (if a3 < (1 : Int32) then (1 : Int32) else if (1000 : Int32) < a3 then (1000 : Int32) else a3), .long (2 : Int64), .int 0, .int 0, .int 0, .int 0, .int (-1 : Int32), .ref q1, .int 0, .int 0, .ref q2, .ref q3, .ref q4, .ref q5, .ref q6, .ref q7, .ref q8, .int 0, .ref q9, .ref q10, .ref q11, .ref q12, .int 0, .ref q13])), (q1, .inl (K 0, 40, .inl (fun _ => 0))), (q2, .inl (K 0, 33, .inl (fun _ => 0))), (q3, .inl (K 0, 33, .inl (fun _ => 0))), (q4, .inl (K 1, 33, .inr (.inl (fun _ => 0)))), (q5, .inl (K 0, 33, .inl (fun _ => 0))), (q6, .inl (K 0, 33, .inl (fun _ => 0))), (q7, .inl (K 0, 33, .inl (fun _ => 0))), (q8, .inl (K 0, 132, .inl (fun _ => 0))), (q9, .inl (K 1, 100, .inr (.inl (fun _ => 0)))), (q10, .inl (K 0, 100, .inl (fun _ => 0))), (q11, .inl (K 2, 100, .inl (fun _ => 0))), (q12, .inl (K 0, 2800, .inl (fun _ => 0))), (q13, .inl (K 0, 100, .inl (fun _ => 0)))]) xCw := by
  refine yMet.intro (lv := [(0, .ref b), (1, .int a1), (2, .int a2), (3, .int a3)]) (by decide) rfl (Nat.le_of_ble_eq_true rfl) rfl (fun p e s m args below meth c A C E hAe hnm => ?_)
  refine x_aload_n C dX8_init_0 rfl rfl 0 rfl ?_
  refine x_objInit C ⟨i_618, i_24, i_25⟩ (Nat.le_of_ble_eq_true rfl) (Nat.le_of_ble_eq_true rfl) dX8_init_1 rfl ?_
  refine x_aload_n C dX8_init_4 rfl rfl 0 rfl ?_
  refine x_ldc2 C dX8_init_5 rfl i_619 ?_
  refine x_put C 0 (ws' := [(b, .inr (7, [.int 0, .int 0, .int 0, .int 0, .long (2 : Int64), .int 0, .int 0, .int 0, .int 0, .int 0, .null, .int 0, .int 0, .null, .null, .null, .null, .null, .null, .null, .int 0, .null, .null, .null, .null, .int 0, .null]))]) tyX8 tyX8_ok nmX8 rfl inX8 4 (by decide) rfl rfl rfl (ty := .long) rfl rfl rfl (Nat.le_of_ble_eq_true rfl) rfl i_624 dX8_init_8 rfl ?_
  refine x_aload_n C dX8_init_11 rfl rfl 0 rfl ?_
  refine x_iconst C (v := (-1 : Int32)) dX8_init_12 rfl (by decide) ?_
  refine x_put C 0 (ws' := [(b, .inr (7, [.int 0, .int 0, .int 0, .int 0, .long (2 : Int64), .int 0, .int 0, .int 0, .int 0, .int (-1 : Int32), .null, .int 0, .int 0, .null, .null, .null, .null, .null, .null, .null, .int 0, .null, .null, .null, .null, .int 0, .null]))]) tyX8 tyX8_ok nmX8 rfl inX8 9 (by decide) rfl rfl rfl (ty := .int) rfl rfl rfl (Nat.le_of_ble_eq_true rfl) rfl i_629 dX8_init_13 rfl ?_
  refine x_aload_n C dX8_init_16 rfl rfl 0 rfl ?_
  refine x_bipush C (v := (40 : Int32)) dX8_init_17 rfl (by decide) ?_
  refine x_newa C .int (ty := .int) 0 (N9 := 40) (a0 := (40, .inl (fun _ => 0))) i_79 rfl rfl (fun U cA h => h) (fun cA => rfl) (by decide) (by decide) (Nat.le_of_ble_eq_true rfl) (Nat.le_of_ble_eq_true rfl) (Nat.le_of_ble_eq_true rfl) dX8_init_19 rfl (fun q1 => ?_)
  refine x_ws (ws' := [(b, .inr (7, [.int 0, .int 0, .int 0, .int 0, .long (2 : Int64), .int 0, .int 0, .int 0, .int 0, .int (-1 : Int32), .null, .int 0, .int 0, .null, .null, .null, .null, .null, .null, .null, .int 0, .null, .null, .null, .null, .int 0, .null])), (q1, .inl (K 0, 40, .inl (fun _ => 0)))]) rfl ?_
  refine x_putF C 0 (ws' := [(b, .inr (7, [.int 0, .int 0, .int 0, .int 0, .long (2 : Int64), .int 0, .int 0, .int 0, .int 0, .int (-1 : Int32), .ref q1, .int 0, .int 0, .null, .null, .null, .null, .null, .null, .null, .int 0, .null, .null, .null, .null, .int 0, .null])), (q1, .inl (K 0, 40, .inl (fun _ => 0)))]) tyX8 tyX8_ok nmX8 rfl inX8 10 (by decide) rfl rfl hnm rfl rfl (ty := (tyX8 10)) rfl rfl rfl (Nat.le_of_ble_eq_true rfl) rfl i_630 dX8_init_21 rfl ?_
  refine x_aload_n C dX8_init_24 rfl rfl 0 rfl ?_
  refine x_bipush C (v := (33 : Int32)) dX8_init_25 rfl (by decide) ?_
  refine x_newa C .int (ty := .int) 0 (N9 := 33) (a0 := (33, .inl (fun _ => 0))) i_79 rfl rfl (fun U cA h => h) (fun cA => rfl) (by decide) (by decide) (Nat.le_of_ble_eq_true rfl) (Nat.le_of_ble_eq_true rfl) (Nat.le_of_ble_eq_true rfl) dX8_init_27 rfl (fun q2 => ?_)
  refine x_ws (ws' := [(b, .inr (7, [.int 0, .int 0, .int 0, .int 0, .long (2 : Int64), .int 0, .int 0, .int 0, .int 0, .int (-1 : Int32), .ref q1, .int 0, .int 0, .null, .null, .null, .null, .null, .null, .null, .int 0, .null, .null, .null, .null, .int 0, .null])), (q1, .inl (K 0, 40, .inl (fun _ => 0))), (q2, .inl (K 0, 33, .inl (fun _ => 0)))]) rfl ?_
  refine x_putF C 0 (ws' := [(b, .inr (7, [.int 0, .int 0, .int 0, .int 0, .long (2 : Int64), .int 0, .int 0, .int 0, .int 0, .int (-1 : Int32), .ref q1, .int 0, .int 0, .ref q2, .null, .null, .null, .null, .null, .null, .int 0, .null, .null, .null, .null, .int 0, .null])), (q1, .inl (K 0, 40, .inl (fun _ => 0))), (q2, .inl (K 0, 33, .inl (fun _ => 0)))]) tyX8 tyX8_ok nmX8 rfl inX8 13 (by decide) rfl rfl hnm rfl rfl (ty := (tyX8 13)) rfl rfl rfl (Nat.le_of_ble_eq_true rfl) rfl i_633 dX8_init_29 rfl ?_
  refine x_aload_n C dX8_init_32 rfl rfl 0 rfl ?_
  refine x_bipush C (v := (33 : Int32)) dX8_init_33 rfl (by decide) ?_
  refine x_newa C .int (ty := .int) 0 (N9 := 33) (a0 := (33, .inl (fun _ => 0))) i_79 rfl rfl (fun U cA h => h) (fun cA => rfl) (by decide) (by decide) (Nat.le_of_ble_eq_true rfl) (Nat.le_of_ble_eq_true rfl) (Nat.le_of_ble_eq_true rfl) dX8_init_35 rfl (fun q3 => ?_)
  refine x_ws (ws' := [(b, .inr (7, [.int 0, .int 0, .int 0, .int 0, .long (2 : Int64), .int 0, .int 0, .int 0, .int 0, .int (-1 : Int32), .ref q1, .int 0, .int 0, .ref q2, .null, .null, .null, .null, .null, .null, .int 0, .null, .null, .null, .null, .int 0, .null])), (q1, .inl (K 0, 40, .inl (fun _ => 0))), (q2, .inl (K 0, 33, .inl (fun _ => 0))), (q3, .inl (K 0, 33, .inl (fun _ => 0)))]) rfl ?_
  refine x_putF C 0 (ws' := [(b, .inr (7, [.int 0, .int 0, .int 0, .int 0, .long (2 : Int64), .int 0, .int 0, .int 0, .int 0, .int (-1 : Int32), .ref q1, .int 0, .int 0, .ref q2, .ref q3, .null, .null, .null, .null, .null, .int 0, .null, .null, .null, .null, .int 0, .null])), (q1, .inl (K 0, 40, .inl (fun _ => 0))), (q2, .inl (K 0, 33, .inl (fun _ => 0))), (q3, .inl (K 0, 33, .inl (fun _ => 0)))]) tyX8 tyX8_ok nmX8 rfl inX8 14 (by decide) rfl rfl hnm rfl rfl (ty := (tyX8 14)) rfl rfl rfl (Nat.le_of_ble_eq_true rfl) rfl i_634 dX8_init_37 rfl ?_
  refine x_aload_n C dX8_init_40 rfl rfl 0 rfl ?_
  refine x_bipush C (v := (33 : Int32)) dX8_init_41 rfl (by decide) ?_
  refine x_newa C .long (ty := .long) 1 (N9 := 33) (a0 := (33, .inr (.inl (fun _ => 0)))) i_78 rfl rfl (fun U cA h => h) (fun cA => rfl) (by decide) (by decide) (Nat.le_of_ble_eq_true rfl) (Nat.le_of_ble_eq_true rfl) (Nat.le_of_ble_eq_true rfl) dX8_init_43 rfl (fun q4 => ?_)
  refine x_ws (ws' := [(b, .inr (7, [.int 0, .int 0, .int 0, .int 0, .long (2 : Int64), .int 0, .int 0, .int 0, .int 0, .int (-1 : Int32), .ref q1, .int 0, .int 0, .ref q2, .ref q3, .null, .null, .null, .null, .null, .int 0, .null, .null, .null, .null, .int 0, .null])), (q1, .inl (K 0, 40, .inl (fun _ => 0))), (q2, .inl (K 0, 33, .inl (fun _ => 0))), (q3, .inl (K 0, 33, .inl (fun _ => 0))), (q4, .inl (K 1, 33, .inr (.inl (fun _ => 0))))]) rfl ?_
  refine x_putF C 0 (ws' := [(b, .inr (7, [.int 0, .int 0, .int 0, .int 0, .long (2 : Int64), .int 0, .int 0, .int 0, .int 0, .int (-1 : Int32), .ref q1, .int 0, .int 0, .ref q2, .ref q3, .ref q4, .null, .null, .null, .null, .int 0, .null, .null, .null, .null, .int 0, .null])), (q1, .inl (K 0, 40, .inl (fun _ => 0))), (q2, .inl (K 0, 33, .inl (fun _ => 0))), (q3, .inl (K 0, 33, .inl (fun _ => 0))), (q4, .inl (K 1, 33, .inr (.inl (fun _ => 0))))]) tyX8 tyX8_ok nmX8 rfl inX8 15 (by decide) rfl rfl hnm rfl rfl (ty := (tyX8 15)) rfl rfl rfl (Nat.le_of_ble_eq_true rfl) rfl i_635 dX8_init_45 rfl ?_
  refine x_aload_n C dX8_init_48 rfl rfl 0 rfl ?_
  refine x_bipush C (v := (33 : Int32)) dX8_init_49 rfl (by decide) ?_
  refine x_newa C .int (ty := .int) 0 (N9 := 33) (a0 := (33, .inl (fun _ => 0))) i_79 rfl rfl (fun U cA h => h) (fun cA => rfl) (by decide) (by decide) (Nat.le_of_ble_eq_true rfl) (Nat.le_of_ble_eq_true rfl) (Nat.le_of_ble_eq_true rfl) dX8_init_51 rfl (fun q5 => ?_)
  refine x_ws (ws' := [(b, .inr (7, [.int 0, .int 0, .int 0, .int 0, .long (2 : Int64), .int 0, .int 0, .int 0, .int 0, .int (-1 : Int32), .ref q1, .int 0, .int 0, .ref q2, .ref q3, .ref q4, .null, .null, .null, .null, .int 0, .null, .null, .null, .null, .int 0, .null])), (q1, .inl (K 0, 40, .inl (fun _ => 0))), (q2, .inl (K 0, 33, .inl (fun _ => 0))), (q3, .inl (K 0, 33, .inl (fun _ => 0))), (q4, .inl (K 1, 33, .inr (.inl (fun _ => 0)))), (q5, .inl (K 0, 33, .inl (fun _ => 0)))]) rfl ?_
  refine x_putF C 0 (ws' := [(b, .inr (7, [.int 0, .int 0, .int 0, .int 0, .long (2 : Int64), .int 0, .int 0, .int 0, .int 0, .int (-1 : Int32), .ref q1, .int 0, .int 0, .ref q2, .ref q3, .ref q4, .ref q5, .null, .null, .null, .int 0, .null, .null, .null, .null, .int 0, .null])), (q1, .inl (K 0, 40, .inl (fun _ => 0))), (q2, .inl (K 0, 33, .inl (fun _ => 0))), (q3, .inl (K 0, 33, .inl (fun _ => 0))), (q4, .inl (K 1, 33, .inr (.inl (fun _ => 0)))), (q5, .inl (K 0, 33, .inl (fun _ => 0)))]) tyX8 tyX8_ok nmX8 rfl inX8 16 (by decide) rfl rfl hnm rfl rfl (ty := (tyX8 16)) rfl rfl rfl (Nat.le_of_ble_eq_true rfl) rfl i_636 dX8_init_53 rfl ?_
  refine x_aload_n C dX8_init_56 rfl rfl 0 rfl ?_
  refine x_bipush C (v := (33 : Int32)) dX8_init_57 rfl (by decide) ?_
  refine x_newa C .int (ty := .int) 0 (N9 := 33) (a0 := (33, .inl (fun _ => 0))) i_79 rfl rfl (fun U cA h => h) (fun cA => rfl) (by decide) (by decide) (Nat.le_of_ble_eq_true rfl) (Nat.le_of_ble_eq_true rfl) (Nat.le_of_ble_eq_true rfl) dX8_init_59 rfl (fun q6 => ?_)
  refine x_ws (ws' := [(b, .inr (7, [.int 0, .int 0, .int 0, .int 0, .long (2 : Int64), .int 0, .int 0, .int 0, .int 0, .int (-1 : Int32), .ref q1, .int 0, .int 0, .ref q2, .ref q3, .ref q4, .ref q5, .null, .null, .null, .int 0, .null, .null, .null, .null, .int 0, .null])), (q1, .inl (K 0, 40, .inl (fun _ => 0))), (q2, .inl (K 0, 33, .inl (fun _ => 0))), (q3, .inl (K 0, 33, .inl (fun _ => 0))), (q4, .inl (K 1, 33, .inr (.inl (fun _ => 0)))), (q5, .inl (K 0, 33, .inl (fun _ => 0))), (q6, .inl (K 0, 33, .inl (fun _ => 0)))]) rfl ?_
  refine x_putF C 0 (ws' := [(b, .inr (7, [.int 0, .int 0, .int 0, .int 0, .long (2 : Int64), .int 0, .int 0, .int 0, .int 0, .int (-1 : Int32), .ref q1, .int 0, .int 0, .ref q2, .ref q3, .ref q4, .ref q5, .ref q6, .null, .null, .int 0, .null, .null, .null, .null, .int 0, .null])), (q1, .inl (K 0, 40, .inl (fun _ => 0))), (q2, .inl (K 0, 33, .inl (fun _ => 0))), (q3, .inl (K 0, 33, .inl (fun _ => 0))), (q4, .inl (K 1, 33, .inr (.inl (fun _ => 0)))), (q5, .inl (K 0, 33, .inl (fun _ => 0))), (q6, .inl (K 0, 33, .inl (fun _ => 0)))]) tyX8 tyX8_ok nmX8 rfl inX8 17 (by decide) rfl rfl hnm rfl rfl (ty := (tyX8 17)) rfl rfl rfl (Nat.le_of_ble_eq_true rfl) rfl i_637 dX8_init_61 rfl ?_
  refine x_aload_n C dX8_init_64 rfl rfl 0 rfl ?_
  refine x_bipush C (v := (33 : Int32)) dX8_init_65 rfl (by decide) ?_
  refine x_newa C .int (ty := .int) 0 (N9 := 33) (a0 := (33, .inl (fun _ => 0))) i_79 rfl rfl (fun U cA h => h) (fun cA => rfl) (by decide) (by decide) (Nat.le_of_ble_eq_true rfl) (Nat.le_of_ble_eq_true rfl) (Nat.le_of_ble_eq_true rfl) dX8_init_67 rfl (fun q7 => ?_)
  refine x_ws (ws' := [(b, .inr (7, [.int 0, .int 0, .int 0, .int 0, .long (2 : Int64), .int 0, .int 0, .int 0, .int 0, .int (-1 : Int32), .ref q1, .int 0, .int 0, .ref q2, .ref q3, .ref q4, .ref q5, .ref q6, .null, .null, .int 0, .null, .null, .null, .null, .int 0, .null])), (q1, .inl (K 0, 40, .inl (fun _ => 0))), (q2, .inl (K 0, 33, .inl (fun _ => 0))), (q3, .inl (K 0, 33, .inl (fun _ => 0))), (q4, .inl (K 1, 33, .inr (.inl (fun _ => 0)))), (q5, .inl (K 0, 33, .inl (fun _ => 0))), (q6, .inl (K 0, 33, .inl (fun _ => 0))), (q7, .inl (K 0, 33, .inl (fun _ => 0)))]) rfl ?_
  refine x_putF C 0 (ws' := [(b, .inr (7, [.int 0, .int 0, .int 0, .int 0, .long (2 : Int64), .int 0, .int 0, .int 0, .int 0, .int (-1 : Int32), .ref q1, .int 0, .int 0, .ref q2, .ref q3, .ref q4, .ref q5, .ref q6, .ref q7, .null, .int 0, .null, .null, .null, .null, .int 0, .null])), (q1, .inl (K 0, 40, .inl (fun _ => 0))), (q2, .inl (K 0, 33, .inl (fun _ => 0))), (q3, .inl (K 0, 33, .inl (fun _ => 0))), (q4, .inl (K 1, 33, .inr (.inl (fun _ => 0)))), (q5, .inl (K 0, 33, .inl (fun _ => 0))), (q6, .inl (K 0, 33, .inl (fun _ => 0))), (q7, .inl (K 0, 33, .inl (fun _ => 0)))]) tyX8 tyX8_ok nmX8 rfl inX8 18 (by decide) rfl rfl hnm rfl rfl (ty := (tyX8 18)) rfl rfl rfl (Nat.le_of_ble_eq_true rfl) rfl i_638 dX8_init_69 rfl ?_
  refine x_aload_n C dX8_init_72 rfl rfl 0 rfl ?_
  refine x_sipush C (v := (132 : Int32)) dX8_init_73 rfl (by decide) ?_
  refine x_newa C .int (ty := .int) 0 (N9 := 132) (a0 := (132, .inl (fun _ => 0))) i_79 rfl rfl (fun U cA h => h) (fun cA => rfl) (by decide) (by decide) (Nat.le_of_ble_eq_true rfl) (Nat.le_of_ble_eq_true rfl) (Nat.le_of_ble_eq_true rfl) dX8_init_76 rfl (fun q8 => ?_)
  refine x_ws (ws' := [(b, .inr (7, [.int 0, .int 0, .int 0, .int 0, .long (2 : Int64), .int 0, .int 0, .int 0, .int 0, .int (-1 : Int32), .ref q1, .int 0, .int 0, .ref q2, .ref q3, .ref q4, .ref q5, .ref q6, .ref q7, .null, .int 0, .null, .null, .null, .null, .int 0, .null])), (q1, .inl (K 0, 40, .inl (fun _ => 0))), (q2, .inl (K 0, 33, .inl (fun _ => 0))), (q3, .inl (K 0, 33, .inl (fun _ => 0))), (q4, .inl (K 1, 33, .inr (.inl (fun _ => 0)))), (q5, .inl (K 0, 33, .inl (fun _ => 0))), (q6, .inl (K 0, 33, .inl (fun _ => 0))), (q7, .inl (K 0, 33, .inl (fun _ => 0))), (q8, .inl (K 0, 132, .inl (fun _ => 0)))]) rfl ?_
  refine x_putF C 0 (ws' := [(b, .inr (7, [.int 0, .int 0, .int 0, .int 0, .long (2 : Int64), .int 0, .int 0, .int 0, .int 0, .int (-1 : Int32), .ref q1, .int 0, .int 0, .ref q2, .ref q3, .ref q4, .ref q5, .ref q6, .ref q7, .ref q8, .int 0, .null, .null, .null, .null, .int 0, .null])), (q1, .inl (K 0, 40, .inl (fun _ => 0))), (q2, .inl (K 0, 33, .inl (fun _ => 0))), (q3, .inl (K 0, 33, .inl (fun _ => 0))), (q4, .inl (K 1, 33, .inr (.inl (fun _ => 0)))), (q5, .inl (K 0, 33, .inl (fun _ => 0))), (q6, .inl (K 0, 33, .inl (fun _ => 0))), (q7, .inl (K 0, 33, .inl (fun _ => 0))), (q8, .inl (K 0, 132, .inl (fun _ => 0)))]) tyX8 tyX8_ok nmX8 rfl inX8 19 (by decide) rfl rfl hnm rfl rfl (ty := (tyX8 19)) rfl rfl rfl (Nat.le_of_ble_eq_true rfl) rfl i_639 dX8_init_78 rfl ?_
  refine x_aload_n C dX8_init_81 rfl rfl 0 rfl ?_
  refine x_bipush C (v := (100 : Int32)) dX8_init_82 rfl (by decide) ?_
  refine x_newa C .long (ty := .long) 1 (N9 := 100) (a0 := (100, .inr (.inl (fun _ => 0)))) i_78 rfl rfl (fun U cA h => h) (fun cA => rfl) (by decide) (by decide) (Nat.le_of_ble_eq_true rfl) (Nat.le_of_ble_eq_true rfl) (Nat.le_of_ble_eq_true rfl) dX8_init_84 rfl (fun q9 => ?_)
  refine x_ws (ws' := [(b, .inr (7, [.int 0, .int 0, .int 0, .int 0, .long (2 : Int64), .int 0, .int 0, .int 0, .int 0, .int (-1 : Int32), .ref q1, .int 0, .int 0, .ref q2, .ref q3, .ref q4, .ref q5, .ref q6, .ref q7, .ref q8, .int 0, .null, .null, .null, .null, .int 0, .null])), (q1, .inl (K 0, 40, .inl (fun _ => 0))), (q2, .inl (K 0, 33, .inl (fun _ => 0))), (q3, .inl (K 0, 33, .inl (fun _ => 0))), (q4, .inl (K 1, 33, .inr (.inl (fun _ => 0)))), (q5, .inl (K 0, 33, .inl (fun _ => 0))), (q6, .inl (K 0, 33, .inl (fun _ => 0))), (q7, .inl (K 0, 33, .inl (fun _ => 0))), (q8, .inl (K 0, 132, .inl (fun _ => 0))), (q9, .inl (K 1, 100, .inr (.inl (fun _ => 0))))]) rfl ?_
  refine x_putF C 0 (ws' := [(b, .inr (7, [.int 0, .int 0, .int 0, .int 0, .long (2 : Int64), .int 0, .int 0, .int 0, .int 0, .int (-1 : Int32), .ref q1, .int 0, .int 0, .ref q2, .ref q3, .ref q4, .ref q5, .ref q6, .ref q7, .ref q8, .int 0, .ref q9, .null, .null, .null, .int 0, .null])), (q1, .inl (K 0, 40, .inl (fun _ => 0))), (q2, .inl (K 0, 33, .inl (fun _ => 0))), (q3, .inl (K 0, 33, .inl (fun _ => 0))), (q4, .inl (K 1, 33, .inr (.inl (fun _ => 0)))), (q5, .inl (K 0, 33, .inl (fun _ => 0))), (q6, .inl (K 0, 33, .inl (fun _ => 0))), (q7, .inl (K 0, 33, .inl (fun _ => 0))), (q8, .inl (K 0, 132, .inl (fun _ => 0))), (q9, .inl (K 1, 100, .inr (.inl (fun _ => 0))))]) tyX8 tyX8_ok nmX8 rfl inX8 21 (by decide) rfl rfl hnm rfl rfl (ty := (tyX8 21)) rfl rfl rfl (Nat.le_of_ble_eq_true rfl) rfl i_641 dX8_init_86 rfl ?_
  refine x_aload_n C dX8_init_89 rfl rfl 0 rfl ?_
  refine x_bipush C (v := (100 : Int32)) dX8_init_90 rfl (by decide) ?_
  refine x_newa C .int (ty := .int) 0 (N9 := 100) (a0 := (100, .inl (fun _ => 0))) i_79 rfl rfl (fun U cA h => h) (fun cA => rfl) (by decide) (by decide) (Nat.le_of_ble_eq_true rfl) (Nat.le_of_ble_eq_true rfl) (Nat.le_of_ble_eq_true rfl) dX8_init_92 rfl (fun q10 => ?_)
  refine x_ws (ws' := [(b, .inr (7, [.int 0, .int 0, .int 0, .int 0, .long (2 : Int64), .int 0, .int 0, .int 0, .int 0, .int (-1 : Int32), .ref q1, .int 0, .int 0, .ref q2, .ref q3, .ref q4, .ref q5, .ref q6, .ref q7, .ref q8, .int 0, .ref q9, .null, .null, .null, .int 0, .null])), (q1, .inl (K 0, 40, .inl (fun _ => 0))), (q2, .inl (K 0, 33, .inl (fun _ => 0))), (q3, .inl (K 0, 33, .inl (fun _ => 0))), (q4, .inl (K 1, 33, .inr (.inl (fun _ => 0)))), (q5, .inl (K 0, 33, .inl (fun _ => 0))), (q6, .inl (K 0, 33, .inl (fun _ => 0))), (q7, .inl (K 0, 33, .inl (fun _ => 0))), (q8, .inl (K 0, 132, .inl (fun _ => 0))), (q9, .inl (K 1, 100, .inr (.inl (fun _ => 0)))), (q10, .inl (K 0, 100, .inl (fun _ => 0)))]) rfl ?_
  refine x_putF C 0 (ws' := [(b, .inr (7, [.int 0, .int 0, .int 0, .int 0, .long (2 : Int64), .int 0, .int 0, .int 0, .int 0, .int (-1 : Int32), .ref q1, .int 0, .int 0, .ref q2, .ref q3, .ref q4, .ref q5, .ref q6, .ref q7, .ref q8, .int 0, .ref q9, .ref q10, .null, .null, .int 0, .null])), (q1, .inl (K 0, 40, .inl (fun _ => 0))), (q2, .inl (K 0, 33, .inl (fun _ => 0))), (q3, .inl (K 0, 33, .inl (fun _ => 0))), (q4, .inl (K 1, 33, .inr (.inl (fun _ => 0)))), (q5, .inl (K 0, 33, .inl (fun _ => 0))), (q6, .inl (K 0, 33, .inl (fun _ => 0))), (q7, .inl (K 0, 33, .inl (fun _ => 0))), (q8, .inl (K 0, 132, .inl (fun _ => 0))), (q9, .inl (K 1, 100, .inr (.inl (fun _ => 0)))), (q10, .inl (K 0, 100, .inl (fun _ => 0)))]) tyX8 tyX8_ok nmX8 rfl inX8 22 (by decide) rfl rfl hnm rfl rfl (ty := (tyX8 22)) rfl rfl rfl (Nat.le_of_ble_eq_true rfl) rfl i_642 dX8_init_94 rfl ?_
  refine x_aload_n C dX8_init_97 rfl rfl 0 rfl ?_
  refine x_bipush C (v := (100 : Int32)) dX8_init_98 rfl (by decide) ?_
  refine x_newa C .boolean (ty := .boolean) 2 (N9 := 100) (a0 := (100, .inl (fun _ => 0))) i_80 rfl rfl (fun U cA h => h) (fun cA => rfl) (by decide) (by decide) (Nat.le_of_ble_eq_true rfl) (Nat.le_of_ble_eq_true rfl) (Nat.le_of_ble_eq_true rfl) dX8_init_100 rfl (fun q11 => ?_)
  refine x_ws (ws' := [(b, .inr (7, [.int 0, .int 0, .int 0, .int 0, .long (2 : Int64), .int 0, .int 0, .int 0, .int 0, .int (-1 : Int32), .ref q1, .int 0, .int 0, .ref q2, .ref q3, .ref q4, .ref q5, .ref q6, .ref q7, .ref q8, .int 0, .ref q9, .ref q10, .null, .null, .int 0, .null])), (q1, .inl (K 0, 40, .inl (fun _ => 0))), (q2, .inl (K 0, 33, .inl (fun _ => 0))), (q3, .inl (K 0, 33, .inl (fun _ => 0))), (q4, .inl (K 1, 33, .inr (.inl (fun _ => 0)))), (q5, .inl (K 0, 33, .inl (fun _ => 0))), (q6, .inl (K 0, 33, .inl (fun _ => 0))), (q7, .inl (K 0, 33, .inl (fun _ => 0))), (q8, .inl (K 0, 132, .inl (fun _ => 0))), (q9, .inl (K 1, 100, .inr (.inl (fun _ => 0)))), (q10, .inl (K 0, 100, .inl (fun _ => 0))), (q11, .inl (K 2, 100, .inl (fun _ => 0)))]) rfl ?_
  refine x_putF C 0 (ws' := [(b, .inr (7, [.int 0, .int 0, .int 0, .int 0, .long (2 : Int64), .int 0, .int 0, .int 0, .int 0, .int (-1 : Int32), .ref q1, .int 0, .int 0, .ref q2, .ref q3, .ref q4, .ref q5, .ref q6, .ref q7, .ref q8, .int 0, .ref q9, .ref q10, .ref q11, .null, .int 0, .null])), (q1, .inl (K 0, 40, .inl (fun _ => 0))), (q2, .inl (K 0, 33, .inl (fun _ => 0))), (q3, .inl (K 0, 33, .inl (fun _ => 0))), (q4, .inl (K 1, 33, .inr (.inl (fun _ => 0)))), (q5, .inl (K 0, 33, .inl (fun _ => 0))), (q6, .inl (K 0, 33, .inl (fun _ => 0))), (q7, .inl (K 0, 33, .inl (fun _ => 0))), (q8, .inl (K 0, 132, .inl (fun _ => 0))), (q9, .inl (K 1, 100, .inr (.inl (fun _ => 0)))), (q10, .inl (K 0, 100, .inl (fun _ => 0))), (q11, .inl (K 2, 100, .inl (fun _ => 0)))]) tyX8 tyX8_ok nmX8 rfl inX8 23 (by decide) rfl rfl hnm rfl rfl (ty := (tyX8 23)) rfl rfl rfl (Nat.le_of_ble_eq_true rfl) rfl i_643 dX8_init_102 rfl ?_
  refine x_aload_n C dX8_init_105 rfl rfl 0 rfl ?_
  refine x_sipush C (v := (2800 : Int32)) dX8_init_106 rfl (by decide) ?_
  refine x_newa C .int (ty := .int) 0 (N9 := 2800) (a0 := (2800, .inl (fun _ => 0))) i_79 rfl rfl (fun U cA h => h) (fun cA => rfl) (by decide) (by decide) (Nat.le_of_ble_eq_true rfl) (Nat.le_of_ble_eq_true rfl) (Nat.le_of_ble_eq_true rfl) dX8_init_109 rfl (fun q12 => ?_)
  refine x_ws (ws' := [(b, .inr (7, [.int 0, .int 0, .int 0, .int 0, .long (2 : Int64), .int 0, .int 0, .int 0, .int 0, .int (-1 : Int32), .ref q1, .int 0, .int 0, .ref q2, .ref q3, .ref q4, .ref q5, .ref q6, .ref q7, .ref q8, .int 0, .ref q9, .ref q10, .ref q11, .null, .int 0, .null])), (q1, .inl (K 0, 40, .inl (fun _ => 0))), (q2, .inl (K 0, 33, .inl (fun _ => 0))), (q3, .inl (K 0, 33, .inl (fun _ => 0))), (q4, .inl (K 1, 33, .inr (.inl (fun _ => 0)))), (q5, .inl (K 0, 33, .inl (fun _ => 0))), (q6, .inl (K 0, 33, .inl (fun _ => 0))), (q7, .inl (K 0, 33, .inl (fun _ => 0))), (q8, .inl (K 0, 132, .inl (fun _ => 0))), (q9, .inl (K 1, 100, .inr (.inl (fun _ => 0)))), (q10, .inl (K 0, 100, .inl (fun _ => 0))), (q11, .inl (K 2, 100, .inl (fun _ => 0))), (q12, .inl (K 0, 2800, .inl (fun _ => 0)))]) rfl ?_
  refine x_putF C 0 (ws' := [(b, .inr (7, [.int 0, .int 0, .int 0, .int 0, .long (2 : Int64), .int 0, .int 0, .int 0, .int 0, .int (-1 : Int32), .ref q1, .int 0, .int 0, .ref q2, .ref q3, .ref q4, .ref q5, .ref q6, .ref q7, .ref q8, .int 0, .ref q9, .ref q10, .ref q11, .ref q12, .int 0, .null])), (q1, .inl (K 0, 40, .inl (fun _ => 0))), (q2, .inl (K 0, 33, .inl (fun _ => 0))), (q3, .inl (K 0, 33, .inl (fun _ => 0))), (q4, .inl (K 1, 33, .inr (.inl (fun _ => 0)))), (q5, .inl (K 0, 33, .inl (fun _ => 0))), (q6, .inl (K 0, 33, .inl (fun _ => 0))), (q7, .inl (K 0, 33, .inl (fun _ => 0))), (q8, .inl (K 0, 132, .inl (fun _ => 0))), (q9, .inl (K 1, 100, .inr (.inl (fun _ => 0)))), (q10, .inl (K 0, 100, .inl (fun _ => 0))), (q11, .inl (K 2, 100, .inl (fun _ => 0))), (q12, .inl (K 0, 2800, .inl (fun _ => 0)))]) tyX8 tyX8_ok nmX8 rfl inX8 24 (by decide) rfl rfl hnm rfl rfl (ty := (tyX8 24)) rfl rfl rfl (Nat.le_of_ble_eq_true rfl) rfl i_644 dX8_init_111 rfl ?_
  refine x_aload_n C dX8_init_114 rfl rfl 0 rfl ?_
  refine x_bipush C (v := (100 : Int32)) dX8_init_115 rfl (by decide) ?_
  refine x_newa C .int (ty := .int) 0 (N9 := 100) (a0 := (100, .inl (fun _ => 0))) i_79 rfl rfl (fun U cA h => h) (fun cA => rfl) (by decide) (by decide) (Nat.le_of_ble_eq_true rfl) (Nat.le_of_ble_eq_true rfl) (Nat.le_of_ble_eq_true rfl) dX8_init_117 rfl (fun q13 => ?_)
  refine x_ws (ws' := [(b, .inr (7, [.int 0, .int 0, .int 0, .int 0, .long (2 : Int64), .int 0, .int 0, .int 0, .int 0, .int (-1 : Int32), .ref q1, .int 0, .int 0, .ref q2, .ref q3, .ref q4, .ref q5, .ref q6, .ref q7, .ref q8, .int 0, .ref q9, .ref q10, .ref q11, .ref q12, .int 0, .null])), (q1, .inl (K 0, 40, .inl (fun _ => 0))), (q2, .inl (K 0, 33, .inl (fun _ => 0))), (q3, .inl (K 0, 33, .inl (fun _ => 0))), (q4, .inl (K 1, 33, .inr (.inl (fun _ => 0)))), (q5, .inl (K 0, 33, .inl (fun _ => 0))), (q6, .inl (K 0, 33, .inl (fun _ => 0))), (q7, .inl (K 0, 33, .inl (fun _ => 0))), (q8, .inl (K 0, 132, .inl (fun _ => 0))), (q9, .inl (K 1, 100, .inr (.inl (fun _ => 0)))), (q10, .inl (K 0, 100, .inl (fun _ => 0))), (q11, .inl (K 2, 100, .inl (fun _ => 0))), (q12, .inl (K 0, 2800, .inl (fun _ => 0))), (q13, .inl (K 0, 100, .inl (fun _ => 0)))]) rfl ?_
  refine x_putF C 0 (ws' := [(b, .inr (7, [.int 0, .int 0, .int 0, .int 0, .long (2 : Int64), .int 0, .int 0, .int 0, .int 0, .int (-1 : Int32), .ref q1, .int 0, .int 0, .ref q2, .ref q3, .ref q4, .ref q5, .ref q6, .ref q7, .ref q8, .int 0, .ref q9, .ref q10, .ref q11, .ref q12, .int 0, .ref q13])), (q1, .inl (K 0, 40, .inl (fun _ => 0))), (q2, .inl (K 0, 33, .inl (fun _ => 0))), (q3, .inl (K 0, 33, .inl (fun _ => 0))), (q4, .inl (K 1, 33, .inr (.inl (fun _ => 0)))), (q5, .inl (K 0, 33, .inl (fun _ => 0))), (q6, .inl (K 0, 33, .inl (fun _ => 0))), (q7, .inl (K 0, 33, .inl (fun _ => 0))), (q8, .inl (K 0, 132, .inl (fun _ => 0))), (q9, .inl (K 1, 100, .inr (.inl (fun _ => 0)))), (q10, .inl (K 0, 100, .inl (fun _ => 0))), (q11, .inl (K 2, 100, .inl (fun _ => 0))), (q12, .inl (K 0, 2800, .inl (fun _ => 0))), (q13, .inl (K 0, 100, .inl (fun _ => 0)))]) tyX8 tyX8_ok nmX8 rfl inX8 26 (by decide) rfl rfl hnm rfl rfl (ty := (tyX8 26)) rfl rfl rfl (Nat.le_of_ble_eq_true rfl) rfl i_646 dX8_init_119 rfl ?_
  refine x_aload_n C dX8_init_122 rfl rfl 0 rfl ?_
  have k1 : ∀ v9 : Int32, v9 = (if a1 < (1 : Int32) then (1 : Int32) else if (32 : Int32) < a1 then (32 : Int32) else a1) → xV p l e (xRm 1 20 13 3597) s m args below meth c G A 4 (yQ G A (fun v w' => ∃ (q1 : Nat) (q2 : Nat) (q3 : Nat) (q4 : Nat) (q5 : Nat) (q6 : Nat) (q7 : Nat) (q8 : Nat) (q9 : Nat) (q10 : Nat) (q11 : Nat) (q12 : Nat) (q13 : Nat), v = none ∧ w' = [(b, .inr (7, [.int 0, .int (if a1 < (1 : Int32) then (1 : Int32) else if (32 : Int32) < a1 then (32 : Int32) else a1), .int (if a2 < (1 : Int32) then (1 : Int32) else if (1000 : Int32) < a2 then (1000 : Int32) else a2), .int (if a3 < (1 : Int32) then (1 : Int32) else if (1000 : Int32) < a3 then (1000 : Int32) else a3), .long (2 : Int64), .int 0, .int 0, .int 0, .int 0, .int (-1 : Int32), .ref q1, .int 0, .int 0, .ref q2, .ref q3, .ref q4, .ref q5, .ref q6, .ref q7, .ref q8, .int 0, .ref q9, .ref q10, .ref q11, .ref q12, .int 0, .ref q13])), (q1, .inl (K 0, 40, .inl (fun _ => 0))), (q2, .inl (K 0, 33, .inl (fun _ => 0))), (q3, .inl (K 0, 33, .inl (fun _ => 0))), (q4, .inl (K 1, 33, .inr (.inl (fun _ => 0)))), (q5, .inl (K 0, 33, .inl (fun _ => 0))), (q6, .inl (K 0, 33, .inl (fun _ => 0))), (q7, .inl (K 0, 33, .inl (fun _ => 0))), (q8, .inl (K 0, 132, .inl (fun _ => 0))), (q9, .inl (K 1, 100, .inr (.inl (fun _ => 0)))), (q10, .inl (K 0, 100, .inl (fun _ => 0))), (q11, .inl (K 2, 100, .inl (fun _ => 0))), (q12, .inl (K 0, 2800, .inl (fun _ => 0))), (q13, .inl (K 0, 100, .inl (fun _ => 0)))]) below args s 13 3597) (((((((((((((0 + 1) + 1) + 1) + 1) + 1) + 1) + 1) + 1) + 1) + 1) + 1) + 1) + 1) (((((((((((((0 + 40) + 33) + 33) + 33) + 33) + 33) + 33) + 132) + 100) + 100) + 100) + 2800) + 100) [(b, .inr (7, [.int 0, .int 0, .int 0, .int 0, .long (2 : Int64), .int 0, .int 0, .int 0, .int 0, .int (-1 : Int32), .ref q1, .int 0, .int 0, .ref q2, .ref q3, .ref q4, .ref q5, .ref q6, .ref q7, .ref q8, .int 0, .ref q9, .ref q10, .ref q11, .ref q12, .int 0, .ref q13])), (q1, .inl (K 0, 40, .inl (fun _ => 0))), (q2, .inl (K 0, 33, .inl (fun _ => 0))), (q3, .inl (K 0, 33, .inl (fun _ => 0))), (q4, .inl (K 1, 33, .inr (.inl (fun _ => 0)))), (q5, .inl (K 0, 33, .inl (fun _ => 0))), (q6, .inl (K 0, 33, .inl (fun _ => 0))), (q7, .inl (K 0, 33, .inl (fun _ => 0))), (q8, .inl (K 0, 132, .inl (fun _ => 0))), (q9, .inl (K 1, 100, .inr (.inl (fun _ => 0)))), (q10, .inl (K 0, 100, .inl (fun _ => 0))), (q11, .inl (K 2, 100, .inl (fun _ => 0))), (q12, .inl (K 0, 2800, .inl (fun _ => 0))), (q13, .inl (K 0, 100, .inl (fun _ => 0)))] 144 [(0, .ref b), (1, .int a1), (2, .int a2), (3, .int a3)] [.int v9, .ref b] := by
    intro v9 hv9
    subst hv9
    refine x_put C 0 (ws' := [(b, .inr (7, [.int 0, .int (if a1 < (1 : Int32) then (1 : Int32) else if (32 : Int32) < a1 then (32 : Int32) else a1), .int 0, .int 0, .long (2 : Int64), .int 0, .int 0, .int 0, .int 0, .int (-1 : Int32), .ref q1, .int 0, .int 0, .ref q2, .ref q3, .ref q4, .ref q5, .ref q6, .ref q7, .ref q8, .int 0, .ref q9, .ref q10, .ref q11, .ref q12, .int 0, .ref q13])), (q1, .inl (K 0, 40, .inl (fun _ => 0))), (q2, .inl (K 0, 33, .inl (fun _ => 0))), (q3, .inl (K 0, 33, .inl (fun _ => 0))), (q4, .inl (K 1, 33, .inr (.inl (fun _ => 0)))), (q5, .inl (K 0, 33, .inl (fun _ => 0))), (q6, .inl (K 0, 33, .inl (fun _ => 0))), (q7, .inl (K 0, 33, .inl (fun _ => 0))), (q8, .inl (K 0, 132, .inl (fun _ => 0))), (q9, .inl (K 1, 100, .inr (.inl (fun _ => 0)))), (q10, .inl (K 0, 100, .inl (fun _ => 0))), (q11, .inl (K 2, 100, .inl (fun _ => 0))), (q12, .inl (K 0, 2800, .inl (fun _ => 0))), (q13, .inl (K 0, 100, .inl (fun _ => 0)))]) tyX8 tyX8_ok nmX8 rfl inX8 1 (by decide) rfl rfl rfl (ty := .int) rfl rfl rfl (Nat.le_of_ble_eq_true rfl) rfl i_621 dX8_init_144 rfl ?_
    refine x_aload_n C dX8_init_147 rfl rfl 0 rfl ?_
    have k2 : ∀ v9 : Int32, v9 = (if a2 < (1 : Int32) then (1 : Int32) else if (1000 : Int32) < a2 then (1000 : Int32) else a2) → xV p l e (xRm 1 20 13 3597) s m args below meth c G A 4 (yQ G A (fun v w' => ∃ (q1 : Nat) (q2 : Nat) (q3 : Nat) (q4 : Nat) (q5 : Nat) (q6 : Nat) (q7 : Nat) (q8 : Nat) (q9 : Nat) (q10 : Nat) (q11 : Nat) (q12 : Nat) (q13 : Nat), v = none ∧ w' = [(b, .inr (7, [.int 0, .int (if a1 < (1 : Int32) then (1 : Int32) else if (32 : Int32) < a1 then (32 : Int32) else a1), .int (if a2 < (1 : Int32) then (1 : Int32) else if (1000 : Int32) < a2 then (1000 : Int32) else a2), .int (if a3 < (1 : Int32) then (1 : Int32) else if (1000 : Int32) < a3 then (1000 : Int32) else a3), .long (2 : Int64), .int 0, .int 0, .int 0, .int 0, .int (-1 : Int32), .ref q1, .int 0, .int 0, .ref q2, .ref q3, .ref q4, .ref q5, .ref q6, .ref q7, .ref q8, .int 0, .ref q9, .ref q10, .ref q11, .ref q12, .int 0, .ref q13])), (q1, .inl (K 0, 40, .inl (fun _ => 0))), (q2, .inl (K 0, 33, .inl (fun _ => 0))), (q3, .inl (K 0, 33, .inl (fun _ => 0))), (q4, .inl (K 1, 33, .inr (.inl (fun _ => 0)))), (q5, .inl (K 0, 33, .inl (fun _ => 0))), (q6, .inl (K 0, 33, .inl (fun _ => 0))), (q7, .inl (K 0, 33, .inl (fun _ => 0))), (q8, .inl (K 0, 132, .inl (fun _ => 0))), (q9, .inl (K 1, 100, .inr (.inl (fun _ => 0)))), (q10, .inl (K 0, 100, .inl (fun _ => 0))), (q11, .inl (K 2, 100, .inl (fun _ => 0))), (q12, .inl (K 0, 2800, .inl (fun _ => 0))), (q13, .inl (K 0, 100, .inl (fun _ => 0)))]) below args s 13 3597) (((((((((((((0 + 1) + 1) + 1) + 1) + 1) + 1) + 1) + 1) + 1) + 1) + 1) + 1) + 1) (((((((((((((0 + 40) + 33) + 33) + 33) + 33) + 33) + 33) + 132) + 100) + 100) + 100) + 2800) + 100) [(b, .inr (7, [.int 0, .int (if a1 < (1 : Int32) then (1 : Int32) else if (32 : Int32) < a1 then (32 : Int32) else a1), .int 0, .int 0, .long (2 : Int64), .int 0, .int 0, .int 0, .int 0, .int (-1 : Int32), .ref q1, .int 0, .int 0, .ref q2, .ref q3, .ref q4, .ref q5, .ref q6, .ref q7, .ref q8, .int 0, .ref q9, .ref q10, .ref q11, .ref q12, .int 0, .ref q13])), (q1, .inl (K 0, 40, .inl (fun _ => 0))), (q2, .inl (K 0, 33, .inl (fun _ => 0))), (q3, .inl (K 0, 33, .inl (fun _ => 0))), (q4, .inl (K 1, 33, .inr (.inl (fun _ => 0)))), (q5, .inl (K 0, 33, .inl (fun _ => 0))), (q6, .inl (K 0, 33, .inl (fun _ => 0))), (q7, .inl (K 0, 33, .inl (fun _ => 0))), (q8, .inl (K 0, 132, .inl (fun _ => 0))), (q9, .inl (K 1, 100, .inr (.inl (fun _ => 0)))), (q10, .inl (K 0, 100, .inl (fun _ => 0))), (q11, .inl (K 2, 100, .inl (fun _ => 0))), (q12, .inl (K 0, 2800, .inl (fun _ => 0))), (q13, .inl (K 0, 100, .inl (fun _ => 0)))] 171 [(0, .ref b), (1, .int a1), (2, .int a2), (3, .int a3)] [.int v9, .ref b] := by
      intro v9 hv9
      subst hv9
      refine x_put C 0 (ws' := [(b, .inr (7, [.int 0, .int (if a1 < (1 : Int32) then (1 : Int32) else if (32 : Int32) < a1 then (32 : Int32) else a1), .int (if a2 < (1 : Int32) then (1 : Int32) else if (1000 : Int32) < a2 then (1000 : Int32) else a2), .int 0, .long (2 : Int64), .int 0, .int 0, .int 0, .int 0, .int (-1 : Int32), .ref q1, .int 0, .int 0, .ref q2, .ref q3, .ref q4, .ref q5, .ref q6, .ref q7, .ref q8, .int 0, .ref q9, .ref q10, .ref q11, .ref q12, .int 0, .ref q13])), (q1, .inl (K 0, 40, .inl (fun _ => 0))), (q2, .inl (K 0, 33, .inl (fun _ => 0))), (q3, .inl (K 0, 33, .inl (fun _ => 0))), (q4, .inl (K 1, 33, .inr (.inl (fun _ => 0)))), (q5, .inl (K 0, 33, .inl (fun _ => 0))), (q6, .inl (K 0, 33, .inl (fun _ => 0))), (q7, .inl (K 0, 33, .inl (fun _ => 0))), (q8, .inl (K 0, 132, .inl (fun _ => 0))), (q9, .inl (K 1, 100, .inr (.inl (fun _ => 0)))), (q10, .inl (K 0, 100, .inl (fun _ => 0))), (q11, .inl (K 2, 100, .inl (fun _ => 0))), (q12, .inl (K 0, 2800, .inl (fun _ => 0))), (q13, .inl (K 0, 100, .inl (fun _ => 0)))]) tyX8 tyX8_ok nmX8 rfl inX8 2 (by decide) rfl rfl rfl (ty := .int) rfl rfl rfl (Nat.le_of_ble_eq_true rfl) rfl i_622 dX8_init_171 rfl ?_
      refine x_aload_n C dX8_init_174 rfl rfl 0 rfl ?_
      have k3 : ∀ v9 : Int32, v9 = (if a3 < (1 : Int32) then (1 : Int32) else if (1000 : Int32) < a3 then (1000 : Int32) else a3) → xV p l e (xRm 1 20 13 3597) s m args below meth c G A 4 (yQ G A (fun v w' => ∃ (q1 : Nat) (q2 : Nat) (q3 : Nat) (q4 : Nat) (q5 : Nat) (q6 : Nat) (q7 : Nat) (q8 : Nat) (q9 : Nat) (q10 : Nat) (q11 : Nat) (q12 : Nat) (q13 : Nat), v = none ∧ w' = [(b, .inr (7, [.int 0, .int (if a1 < (1 : Int32) then (1 : Int32) else if (32 : Int32) < a1 then (32 : Int32) else a1), .int (if a2 < (1 : Int32) then (1 : Int32) else if (1000 : Int32) < a2 then (1000 : Int32) else a2), .int (if a3 < (1 : Int32) then (1 : Int32) else if (1000 : Int32) < a3 then (1000 : Int32) else a3), .long (2 : Int64), .int 0, .int 0, .int 0, .int 0, .int (-1 : Int32), .ref q1, .int 0, .int 0, .ref q2, .ref q3, .ref q4, .ref q5, .ref q6, .ref q7, .ref q8, .int 0, .ref q9, .ref q10, .ref q11, .ref q12, .int 0, .ref q13])), (q1, .inl (K 0, 40, .inl (fun _ => 0))), (q2, .inl (K 0, 33, .inl (fun _ => 0))), (q3, .inl (K 0, 33, .inl (fun _ => 0))), (q4, .inl (K 1, 33, .inr (.inl (fun _ => 0)))), (q5, .inl (K 0, 33, .inl (fun _ => 0))), (q6, .inl (K 0, 33, .inl (fun _ => 0))), (q7, .inl (K 0, 33, .inl (fun _ => 0))), (q8, .inl (K 0, 132, .inl (fun _ => 0))), (q9, .inl (K 1, 100, .inr (.inl (fun _ => 0)))), (q10, .inl (K 0, 100, .inl (fun _ => 0))), (q11, .inl (K 2, 100, .inl (fun _ => 0))), (q12, .inl (K 0, 2800, .inl (fun _ => 0))), (q13, .inl (K 0, 100, .inl (fun _ => 0)))]) below args s 13 3597) (((((((((((((0 + 1) + 1) + 1) + 1) + 1) + 1) + 1) + 1) + 1) + 1) + 1) + 1) + 1) (((((((((((((0 + 40) + 33) + 33) + 33) + 33) + 33) + 33) + 132) + 100) + 100) + 100) + 2800) + 100) [(b, .inr (7, [.int 0, .int (if a1 < (1 : Int32) then (1 : Int32) else if (32 : Int32) < a1 then (32 : Int32) else a1), .int (if a2 < (1 : Int32) then (1 : Int32) else if (1000 : Int32) < a2 then (1000 : Int32) else a2), .int 0, .long (2 : Int64), .int 0, .int 0, .int 0, .int 0, .int (-1 : Int32), .ref q1, .int 0, .int 0, .ref q2, .ref q3, .ref q4, .ref q5, .ref q6, .ref q7, .ref q8, .int 0, .ref q9, .ref q10, .ref q11, .ref q12, .int 0, .ref q13])), (q1, .inl (K 0, 40, .inl (fun _ => 0))), (q2, .inl (K 0, 33, .inl (fun _ => 0))), (q3, .inl (K 0, 33, .inl (fun _ => 0))), (q4, .inl (K 1, 33, .inr (.inl (fun _ => 0)))), (q5, .inl (K 0, 33, .inl (fun _ => 0))), (q6, .inl (K 0, 33, .inl (fun _ => 0))), (q7, .inl (K 0, 33, .inl (fun _ => 0))), (q8, .inl (K 0, 132, .inl (fun _ => 0))), (q9, .inl (K 1, 100, .inr (.inl (fun _ => 0)))), (q10, .inl (K 0, 100, .inl (fun _ => 0))), (q11, .inl (K 2, 100, .inl (fun _ => 0))), (q12, .inl (K 0, 2800, .inl (fun _ => 0))), (q13, .inl (K 0, 100, .inl (fun _ => 0)))] 198 [(0, .ref b), (1, .int a1), (2, .int a2), (3, .int a3)] [.int v9, .ref b] := by
        intro v9 hv9
        subst hv9
        refine x_put C 0 (ws' := [(b, .inr (7, [.int 0, .int (if a1 < (1 : Int32) then (1 : Int32) else if (32 : Int32) < a1 then (32 : Int32) else a1), .int (if a2 < (1 : Int32) then (1 : Int32) else if (1000 : Int32) < a2 then (1000 : Int32) else a2), .int (if a3 < (1 : Int32) then (1 : Int32) else if (1000 : Int32) < a3 then (1000 : Int32) else a3), .long (2 : Int64), .int 0, .int 0, .int 0, .int 0, .int (-1 : Int32), .ref q1, .int 0, .int 0, .ref q2, .ref q3, .ref q4, .ref q5, .ref q6, .ref q7, .ref q8, .int 0, .ref q9, .ref q10, .ref q11, .ref q12, .int 0, .ref q13])), (q1, .inl (K 0, 40, .inl (fun _ => 0))), (q2, .inl (K 0, 33, .inl (fun _ => 0))), (q3, .inl (K 0, 33, .inl (fun _ => 0))), (q4, .inl (K 1, 33, .inr (.inl (fun _ => 0)))), (q5, .inl (K 0, 33, .inl (fun _ => 0))), (q6, .inl (K 0, 33, .inl (fun _ => 0))), (q7, .inl (K 0, 33, .inl (fun _ => 0))), (q8, .inl (K 0, 132, .inl (fun _ => 0))), (q9, .inl (K 1, 100, .inr (.inl (fun _ => 0)))), (q10, .inl (K 0, 100, .inl (fun _ => 0))), (q11, .inl (K 2, 100, .inl (fun _ => 0))), (q12, .inl (K 0, 2800, .inl (fun _ => 0))), (q13, .inl (K 0, 100, .inl (fun _ => 0)))]) tyX8 tyX8_ok nmX8 rfl inX8 3 (by decide) rfl rfl rfl (ty := .int) rfl rfl rfl (Nat.le_of_ble_eq_true rfl) rfl i_623 dX8_init_198 rfl ?_
        exact y_vret C dX8_init_201 rfl (Nat.le_of_ble_eq_true rfl) (Nat.le_of_ble_eq_true rfl) ⟨_, _, _, _, _, _, _, _, _, _, _, _, _, rfl, rfl⟩
      refine x_iload_n C dX8_init_175 rfl rfl 3 rfl ?_
      refine x_iconst C (v := (1 : Int32)) dX8_init_176 rfl (by decide) ?_
      refine x_icmp_ge C 184 dX8_init_177 rfl (by decide) (fun c1 => ?_) (fun c1 => ?_)
      · refine x_iload_n C dX8_init_184 rfl rfl 3 rfl ?_
        refine x_sipush C (v := (1000 : Int32)) dX8_init_185 rfl (by decide) ?_
        refine x_icmp_le C 197 dX8_init_188 rfl (by decide) (fun c2 => ?_) (fun c2 => ?_)
        · refine x_iload_n C dX8_init_197 rfl rfl 3 rfl ?_
          exact x_pc rfl (k3 _ (by rw [if_neg (fun h => c_ge c1 h), if_neg (fun h => c_ge c2 h)]))
        · refine x_sipush C (v := (1000 : Int32)) dX8_init_191 rfl (by decide) ?_
          refine x_goto C (tgt := 198) dX8_init_194 rfl (by decide) ?_
          exact k3 _ (by rw [if_neg (fun h => c_ge c1 h), if_pos (c_nle c2)])
      · refine x_iconst C (v := (1 : Int32)) dX8_init_180 rfl (by decide) ?_
        refine x_goto C (tgt := 198) dX8_init_181 rfl (by decide) ?_
        exact k3 _ (by rw [if_pos (c_nle c1)])
    refine x_iload_n C dX8_init_148 rfl rfl 2 rfl ?_
    refine x_iconst C (v := (1 : Int32)) dX8_init_149 rfl (by decide) ?_
    refine x_icmp_ge C 157 dX8_init_150 rfl (by decide) (fun c1 => ?_) (fun c1 => ?_)
    · refine x_iload_n C dX8_init_157 rfl rfl 2 rfl ?_
      refine x_sipush C (v := (1000 : Int32)) dX8_init_158 rfl (by decide) ?_
      refine x_icmp_le C 170 dX8_init_161 rfl (by decide) (fun c2 => ?_) (fun c2 => ?_)
      · refine x_iload_n C dX8_init_170 rfl rfl 2 rfl ?_
        exact x_pc rfl (k2 _ (by rw [if_neg (fun h => c_ge c1 h), if_neg (fun h => c_ge c2 h)]))
      · refine x_sipush C (v := (1000 : Int32)) dX8_init_164 rfl (by decide) ?_
        refine x_goto C (tgt := 171) dX8_init_167 rfl (by decide) ?_
        exact k2 _ (by rw [if_neg (fun h => c_ge c1 h), if_pos (c_nle c2)])
    · refine x_iconst C (v := (1 : Int32)) dX8_init_153 rfl (by decide) ?_
      refine x_goto C (tgt := 171) dX8_init_154 rfl (by decide) ?_
      exact k2 _ (by rw [if_pos (c_nle c1)])
  refine x_iload_n C dX8_init_123 rfl rfl 1 rfl ?_
  refine x_iconst C (v := (1 : Int32)) dX8_init_124 rfl (by decide) ?_
  refine x_icmp_ge C 132 dX8_init_125 rfl (by decide) (fun c1 => ?_) (fun c1 => ?_)
  · refine x_iload_n C dX8_init_132 rfl rfl 1 rfl ?_
    refine x_bipush C (v := (32 : Int32)) dX8_init_133 rfl (by decide) ?_
    refine x_icmp_le C 143 dX8_init_135 rfl (by decide) (fun c2 => ?_) (fun c2 => ?_)
    · refine x_iload_n C dX8_init_143 rfl rfl 1 rfl ?_
      exact x_pc rfl (k1 _ (by rw [if_neg (fun h => c_ge c1 h), if_neg (fun h => c_ge c2 h)]))
    · refine x_bipush C (v := (32 : Int32)) dX8_init_138 rfl (by decide) ?_
      refine x_goto C (tgt := 144) dX8_init_140 rfl (by decide) ?_
      exact k1 _ (by rw [if_neg (fun h => c_ge c1 h), if_pos (c_nle c2)])
  · refine x_iconst C (v := (1 : Int32)) dX8_init_128 rfl (by decide) ?_
    refine x_goto C (tgt := 144) dX8_init_129 rfl (by decide) ?_
    exact k1 _ (by rw [if_pos (c_nle c1)])
def xSc (b9 L9 : Nat) (xs9 : Nat → Int32) (U : State) : Prop := va_X b9 L9 xs9 U U.heap ∧ b9 < U.heap.size
def xcell (L9 : Nat) (xs9 : Nat → Int32) (k : Int32) : Int32 := if k < nI L9 then xs9 k.toNatClampNeg else 0
set_option maxHeartbeats 4000000 in
set_option maxRecDepth 20000 in
theorem c_L_cell (b9 L9 : Nat) (xs9 : Nat → Int32) (hL9 : L9 < 2 ^ 31) (a1 : Int32) (ha : ¬ a1 < 0) : yMet l yL_cell cL_cell 2 (some .int) 0 0 0 0 G K [.ref b9, .int a1] [] (fun v w' => v = some (.int (xcell L9 xs9 a1)) ∧ w' = []) (xSc b9 L9 xs9) := by
  refine yMet.intro (lv := [(0, .ref b9), (1, .int a1)]) (by decide) rfl (Nat.le_of_ble_eq_true rfl) rfl (fun p e s m args below meth c A C E hAe hnm => ?_)
  have hbA : ¬ A b9 := by
    rw [hAe]
    intro h
    rcases h with ⟨k, e9, hk⟩ | h
    · simp at hk
    · exact absurd E.2 (by omega)
  refine x_iload_n C dL_cell_0 rfl rfl 1 rfl ?_
  refine x_aload_n C dL_cell_1 rfl rfl 0 rfl ?_
  refine x_slen C E.1 E.2 hbA dL_cell_2 rfl ?_
  refine x_icmp_ge C 12 dL_cell_3 rfl (by decide) (fun c1 => ?_) (fun c1 => ?_)
  · refine x_iconst C (v := (0 : Int32)) dL_cell_12 rfl (by decide) ?_
    exact y_iret C dL_cell_13 rfl (Nat.le_refl _) (Nat.le_refl _) ⟨by rw [xcell, if_neg (fun h => c_ge c1 h)], rfl⟩
  · have hin : vp_in a1 L9 := by
      obtain ⟨j, hj, rfl⟩ := nI_of ha
      exact vp_in_nI (Nat.lt_of_not_le (fun h => c1 (nI_le h hj))) hL9
    refine x_aload_n C dL_cell_6 rfl rfl 0 rfl ?_
    refine x_iload_n C dL_cell_7 rfl rfl 1 rfl ?_
    refine x_sld C E.1 E.2 hbA hin dL_cell_8 rfl ?_
    refine x_goto C (tgt := 13) dL_cell_9 rfl (by decide) ?_
    exact y_iret C dL_cell_13 rfl (Nat.le_refl _) (Nat.le_refl _) ⟨by rw [xcell, if_pos (c_nle c1)], rfl⟩
end XMC
