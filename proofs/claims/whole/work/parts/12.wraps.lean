/-! the law's private methods that catch: their contracts xwMet, calls of what throws, handlers -/
def xNc (U : State) : Prop := va_Nc "java/lang/IllegalStateException" "java/lang/IllegalArgumentException" U ∧ va_Nc "java/util/NoSuchElementException" "java/lang/IllegalArgumentException" U ∧ va_Nc "java/lang/IndexOutOfBoundsException" "java/util/NoSuchElementException" U
theorem xNc.moved {u U : State} (hvm : u.vm.Alike U.vm) (h : xNc u) : xNc U := ⟨h.1.moved hvm, h.2.1.moved hvm, h.2.2.moved hvm⟩
section XWX
variable {p : Program} {l : Launch} {e : Env} {R : Room} {s : State} {m : MethodId} {args : Array Value} {below : List Frame} {meth : Method} {c : Code} {G : va_G} {A : Nat → Prop} {nL : Nat} {Q : State → Prop} {cells slots : Nat} {K : Nat → ClassId} {cc : ByteArray} {own : String} {ret : Option FieldType} {pc n : Nat} {lv : List (Nat × Value)} {st : List Value} {L : Nat → Nat} {cap : Nat} {T ws : va_W} {hh : List (Nat × Nat × Nat × Nat)} {Po : Option Value → va_W → Prop} {PoX : String → va_W → Prop} {E : String}
def xwFx (l : Launch) (s : State) (c : Code) (A : Nat → Prop) (hh : List (Nat × Nat × Nat × Nat)) : Prop := l.stackTraces = false ∧ xZq A s ∧ xNc s ∧ c.exceptionTable.toList = tableOf hh
def xwPre (G : va_G) (K : Nat → ClassId) (av : List Value) (ws : va_W) (sz : Nat) : Array Value → State → Prop := va_Pc av (fun U => (U.heap.size = sz ∧ va_P G vwCl ws U.heap ∧ va_K G vwCl (xty K) U ∧ va_D (fun _ => True) ws) ∧ xZq (va_A ws sz) U ∧ xNc U)
def xwMet (l : Launch) (y : MethodName) (cc : ByteArray) (n : Nat) (ret : Option FieldType) (hh : List (Nat × Nat × Nat × Nat)) (fr lo : Nat) (G : va_G) (K : Nat → ClassId) (av : List Value) (ws : va_W) (Po : Option Value → va_W → Prop) : Prop :=
  ∀ sz : Nat, Met l y (Cond.codeWith y cc n ret hh :: gw_tbl) (xRm fr lo 1 6) (xwPre G K av ws sz) (xQc G (va_A ws sz) ws Po) 1 6 (va_A ws sz)
theorem xwMet.intro {l : Launch} (hl : l.stackTraces = false) {y : MethodName} {fr lo : Nat} {av : List Value} {Po : Option Value → va_W → Prop} (hy : plainName y.cls = true) (ho : y.cls = own) (hn : (lg_sl av).length ≤ n) (hlv : lv_args 0 av = lv)
    (body : ∀ (p : Program) (e : Env) (s : State) (m : MethodId) (args : Array Value) (below : List Frame) (meth : Method) (c : Code) (A : Nat → Prop), xCx p s m args meth c G K A n cc own ret → xwFx l s c A hh → xV p l e (xRm fr lo 1 6) s m args below meth c G A n (xQ G A ws Po below args s 1 6) 0 0 ws 0 lv []) : xwMet l y cc n ret hh fr lo G K av ws Po := by
  intro sz
  refine va_MetW (cc := cc) (maxL := n) (ret := ret) (hh := hh) hy rfl ?_
  intro p e s m args below meth c s₁ B hml hv
  obtain ⟨rfl, ⟨hsz, hP, hK, hD0⟩, hZ, hN⟩ := hv
  have hts := atoms_spec (ws := Cond.codeWith y cc n ret hh :: gw_tbl) B.pre
  have htab := vx_table (x := y) B (hts _ List.mem_cons_self)
  have hown : s.vm.findClass y.cls = some m.cls := findClass_of_methodNamed B.named
  subst hsz
  have hlv0 := lv_entry av (n := n) hn
  rw [lg_entry_eq]
  rw [hlv] at hlv0
  exact body p e s m _ below meth c (va_A ws s.heap.size) ⟨B.exec, B.bytes, B.returns, B.notSynchronized, hml, ho ▸ hown, fun w h => hts w (List.mem_cons_of_mem _ h), hK, fun q h => Or.inr h⟩ ⟨hl, hZ, hN, htab⟩ s.heap [] _ hP hD0.self va_S.rf hlv0
def xVX (E : String) (p : Program) (l : Launch) (e : Env) (R : Room) (s : State) (m : MethodId) (args : Array Value) (below : List Frame) (meth : Method) (c : Code) (G : va_G) (A : Nat → Prop) (nL : Nat) (Q : State → Prop) (cells slots : Nat) (ws : va_W) (pc : Nat) (lv : List (Nat × Value)) (st : List Value) : Prop :=
  ∀ (H : Heap) (locs : List Loc) (ls : Array Slot) (q : Addr) (ce : Cell), va_P G vwCl ws H → va_D A ws → va_S A s.heap H locs → lv_has ls nL lv → H[q]? = some ce → ce.vm = .none → s.vm.findClass E = some ce.cls → vx_W p l e R s m args below meth c H locs cells slots Q (F0 m pc ls st) q
theorem x_catch (C : xCx p s m args meth c G K A nL cc own ret) (hcast : va_Nw (.castable E E) s) (pre : List ExceptionTableEntry) (x9 : ExceptionTableEntry) (suf : List ExceptionTableEntry) (hsplit : c.exceptionTable.toList = pre ++ x9 :: suf) (hpass : ∀ z ∈ pre, covers z pc = false ∨ (z.catchType ≠ 0 ∧ ∃ nm : String, (Cond.classLink own z.catchType nm).before args s = true ∧ va_Nc E nm s)) (hx9 : covers x9 pc = true) (h0 : x9.catchType ≠ 0) (hlink : Cond.classLink own x9.catchType E ∈ gw_tbl)
    (kk : ∀ q : Nat, xV p l e R s m args below meth c G A nL Q cells slots ws x9.handlerPc lv [.ref q]) : xVX E p l e R s m args below meth c G A nL Q cells slots ws pc lv st := by
  obtain ⟨hx, hb, hr, hlo, hml, hown, hts, hK, hA⟩ := C
  intro H locs ls q ce hP hD hS hl hce hv hcl
  exact vx_catch hown pre x9 suf hsplit hpass hx9 h0 (hts _ hlink) (va_Nw.use rfl hcast) hce hv hcl (kk q H locs ls hP hD hS hl)
theorem x_runX {mc ms : Nat} {rest : List Value} (hp : pc = n) (hA : ∀ q : Nat, s.heap.size ≤ q → A q)
    (hr : ∀ (H : Heap) (locs : List Loc) (ls : Array Slot), va_P G vwCl ws H → va_D A ws → va_S A s.heap H locs → lv_has ls nL lv → vx_Run p l e R s m args below meth c H locs cells slots mc ms (F0 m n ls st) rest (xQc G (va_A ws H.size) ws Po #[]) (xXc G (va_A ws H.size) ws PoX) (va_A ws H.size))
    (kk : ∀ (v : Option Value) (ws' : va_W), Po v ws' → ws'.map Prod.fst = ws.map Prod.fst → xV p l e R s m args below meth c G A nL Q (cells + mc) (slots + ms) ws' (n + 3) lv (v.toList ++ rest))
    (kx : ∀ (E : String) (ws' : va_W), PoX E ws' → ws'.map Prod.fst = ws.map Prod.fst → xVX E p l e R s m args below meth c G A nL Q (cells + mc) (slots + ms) ws' n lv rest) : xV p l e R s m args below meth c G A nL Q cells slots ws pc lv st := by
  subst hp
  intro H locs ls hP hD hS hl T hT X
  have hA1 : ∀ q, va_A ws H.size q → A q := by
    intro q hq
    rcases hq with ⟨k, e9, hk⟩ | hq
    · exact hD.2 k _ hk
    · exact hA q (Nat.le_trans hS.1 hq)
  have keep : ∀ {st₀ t T' : State} {L : List Loc}, st₀.heap = H → T'.heap = t.heap → (∀ q ∈ L, va_A ws H.size q.base) → va_F (va_A ws H.size) st₀ t → va_S A s.heap T'.heap (locs ++ L) := by
    intro st₀ t T' L h0 e1 hL hF
    obtain ⟨hF1, hF2⟩ := hF
    rw [h0] at hF1 hF2
    exact ⟨Nat.le_trans hS.1 (by rw [e1]; exact hF1), fun q h1 h2 => by rw [e1, hF2 q (Nat.lt_of_lt_of_le h1 hS.1) (fun z => h2 (hA1 q z))]; exact hS.2.1 q h1 h2, fun q hq => by
      rcases List.mem_append.mp hq with h | h
      · exact hS.2.2 q h
      · exact hA1 _ (hL q h)⟩
  rcases hr H locs ls hP hD hS hl T hT X with ⟨v, st₀, t, T', L, h0, X', hL, e1, e2, ⟨⟨v', ws', hv, hPo, hP', hs⟩, hF⟩, go⟩ | ⟨q, st₀, t, T', L, E, ce, h0, X', hL, e1, e2, ⟨⟨ws', hPo, hP', hs⟩, hF⟩, hce, hcv, hcl, go⟩
  · have hv' : v = v' := by injection hv
    subst hv'
    obtain ⟨t2, a1, b1⟩ := kk v ws' hPo hs T'.heap (locs ++ L) ls (by rw [e1]; exact hP') (x_sameD hs hD) (keep h0 e1 hL hF) hl T' rfl X'
    exact ⟨t2, go t2 a1, b1⟩
  · obtain ⟨t2, a1, b1⟩ := kx E ws' hPo hs T'.heap (locs ++ L) ls q ce (by rw [e1]; exact hP') (x_sameD hs hD) (keep h0 e1 hL hF) hl (by rw [e1]; exact hce) hcv hcl T' rfl X'
    exact ⟨t2, go.trans a1, b1⟩
theorem xZq.calls {A : Nat → Prop} {U : State} {g : JFrame} {mk : MethodId} {a : Array Value} (h : xZq A U) : xZq A (U.calling g mk a) := ⟨vx_Zq.moved (u := U) (U := U.calling g mk a) (Vm.Alike.refl U.vm) h.1, vx_Zq.moved (u := U) (U := U.calling g mk a) (Vm.Alike.refl U.vm) h.2.1, xFw.same (s := U) (U := U.calling g mk a) rfl h.2.2⟩
theorem xxPre.blind {av : List Value} {sz : Nat} : FrameBlind (xxPre G K av ws sz) := fun a U g mk q => by
  obtain ⟨q0, ⟨q1, qP, qK, qD⟩, qZ⟩ := q
  exact ⟨q0, ⟨q1, qP, va_K.moved (u := U) (U := U.calling g mk a) (Vm.Alike.refl U.vm) qK, qD⟩, qZ.calls⟩
theorem xwPre.blind {av : List Value} {sz : Nat} : FrameBlind (xwPre G K av ws sz) := fun a U g mk q => by
  obtain ⟨q0, ⟨q1, qP, qK, qD⟩, qZ, qN⟩ := q
  exact ⟨q0, ⟨q1, qP, va_K.moved (u := U) (U := U.calling g mk a) (Vm.Alike.refl U.vm) qK, qD⟩, qZ.calls, xNc.moved (u := U) (U := U.calling g mk a) (Vm.Alike.refl U.vm) qN⟩
theorem xZq.at {H : Heap} {locs : List Loc} (hZ : xZq A s) (hD : va_D A ws) (hS : va_S A s.heap H locs) (hA : ∀ q : Nat, s.heap.size ≤ q → A q) {U : State} (hU : U.heap = H) (hW : s.WarmedH U.vm) : xZq (va_A ws H.size) U := by
  have hA1 : ∀ q, va_A ws H.size q → A q := by
    intro q hq
    rcases hq with ⟨k, e9, hk⟩ | hq
    · exact hD.2 k _ hk
    · exact hA q (Nat.le_trans hS.1 hq)
  refine ⟨?_, ?_, hZ.2.2.warm hW⟩
  · rw [hU]; exact ((hZ.1.kept hS.2.1).narrow hA1).moved hW.alike
  · rw [hU]; exact ((hZ.2.1.kept hS.2.1).narrow hA1).moved hW.alike
theorem x_callVX (C : xCx p s m args meth c G K A nL cc own ret) (F : xwFx l s c A hh) {y : MethodName} {cc9 : ByteArray} {n9 : Nat} {ret9 : Option FieldType} {fr lo mc ms idx k : Nat} {b : Nat} {C9 : String} {As rest : List Value} (hM : xxMet l y cc9 n9 ret9 fr lo mc ms G K (.ref b :: As) ws Po PoX) (hw : Cond.methodLink own idx y ∈ gw_tbl ∧ Cond.instanceMethod y ∈ gw_tbl ∧ Cond.selects C9 y y ∈ gw_tbl ∧ Cond.initialized C9 ∈ gw_tbl ∧ Cond.code y cc9 n9 ret9 ∈ gw_tbl) (q0 : Nat) {ci : Nat} {q : vw_C} {fs : List Value} (hci : vwCl[ci]? = some q) (hq : q.1 = C9) (he : ws[q0]? = some (b, .inr (ci, fs))) (hd : y.cls = C9 ∧ y.cls ≠ "java/lang/invoke/MethodHandle" ∧ y.cls ≠ "java/lang/invoke/VarHandle" ∧ (parseMethodDescriptor y.desc).map (fun d => d.parameters.length) = some k) (hk : As.length = k) (hR : fr + 1 ≤ R.frames ∧ 8 + (n9 + 11) + lo ≤ R.locals) (hf : cells + mc ≤ R.cells ∧ slots + ms ≤ R.slots) (hW : (rest.map fun v => v.category).sum ≤ 8) (hst : st = As.reverse ++ .ref b :: rest) (hdg : decode cc n = .ok (.invokevirtual idx, 3)) (hp : pc = n)
    (kk : ∀ (v : Option Value) (ws' : va_W), Po v ws' → ws'.map Prod.fst = ws.map Prod.fst → xV p l e R s m args below meth c G A nL Q (cells + mc) (slots + ms) ws' (n + 3) lv (v.toList ++ rest))
    (kx : ∀ (E : String) (ws' : va_W), PoX E ws' → ws'.map Prod.fst = ws.map Prod.fst → xVX E p l e R s m args below meth c G A nL Q (cells + mc) (slots + ms) ws' n lv rest) : xV p l e R s m args below meth c G A nL Q cells slots ws pc lv st := by
  obtain ⟨hx, hb, hr, hlo, hml, hown, hts, hK, hA⟩ := C
  refine x_runX hp hA (fun H locs ls hP hD hS hl => ?_) kk kx
  exact vx_runV (As := As) (rest := rest) (Ts := gw_tbl) (own := own) (C := C9) (b := b) ⟨hx, hb, hml, hown, hts⟩ (hM H.size) (cwV k hts (x_goodV hw) rfl rfl rfl hd hR) ⟨xxPre.blind, hq ▸ va_recv hK hP hci he, fun U hU hW9 => ⟨rfl, (xPre.mk' (av := .ref b :: As) hP hK hD U hU hW9).2, F.2.1.at hD hS hA hU hW9⟩⟩ rfl hk hl.1 hst (lv_room hW) hdg hf
theorem x_goodSW {own9 : String} {idx : Nat} {y : MethodName} {cc9 : ByteArray} {n9 : Nat} {ret9 : Option FieldType} (h : Cond.methodLink own9 idx y ∈ gw_tbl ∧ Cond.static y ∈ gw_tbl ∧ Cond.initialized y.cls ∈ gw_tbl ∧ Cond.codeWith y cc9 n9 ret9 hh ∈ gw_tbl) : GoodIn gw_tbl (va_wsS own9 idx y (Cond.codeWith y cc9 n9 ret9 hh :: gw_tbl)) := by
  refine xr_goodC ?_ xr_goodIn
  intro w hw
  unfold va_wsS at hw
  rcases List.mem_append.mp hw with h9 | h9
  · simp only [List.mem_cons, List.not_mem_nil, or_false] at h9
    rcases h9 with rfl | rfl | rfl
    · exact h.1
    · exact h.2.1
    · exact h.2.2.1
  · rcases List.mem_cons.mp h9 with rfl | h9
    · exact h.2.2.2
    · exact h9
/-- the law calls one of its own that catches -/
theorem x_callSW (C : xCx p s m args meth c G K A nL cc own ret) (hZ : xZq A s) (hN : xNc s) {y : MethodName} {cc9 : ByteArray} {n9 : Nat} {ret9 : Option FieldType} {fr lo idx k : Nat} {As rest : List Value} (hM : xwMet l y cc9 n9 ret9 hh fr lo G K As ws Po) (hw : Cond.methodLink own idx y ∈ gw_tbl ∧ Cond.static y ∈ gw_tbl ∧ Cond.initialized y.cls ∈ gw_tbl ∧ Cond.codeWith y cc9 n9 ret9 hh ∈ gw_tbl) (hd : y.cls ≠ "java/lang/invoke/MethodHandle" ∧ y.cls ≠ "java/lang/invoke/VarHandle" ∧ (parseMethodDescriptor y.desc).map (fun d => d.parameters.length) = some k) (hk : As.length = k) (hR : fr + 1 ≤ R.frames ∧ 8 + (n9 + 11) + lo ≤ R.locals) (hf : cells + 1 ≤ R.cells ∧ slots + 6 ≤ R.slots) (hW : (rest.map fun v => v.category).sum ≤ 8) (hst : st = As.reverse ++ rest) (hdg : decode cc n = .ok (.invokestatic idx, 3)) (hp : pc = n)
    (kk : ∀ (v : Option Value) (ws' : va_W), Po v ws' → ws'.map Prod.fst = ws.map Prod.fst → xV p l e R s m args below meth c G A nL Q (cells + 1) (slots + 6) ws' (n + 3) lv (v.toList ++ rest)) : xV p l e R s m args below meth c G A nL Q cells slots ws pc lv st := by
  obtain ⟨hx, hb, hr, hlo, hml, hown, hts, hK, hA⟩ := C
  refine x_run hp hA (fun H locs ls hP hD hS hl => ?_) kk
  exact vx_runSW (As := As) (rest := rest) (Ts := gw_tbl) (own := own) ⟨hx, hb, hml, hown, hts⟩ (hM H.size) (vx_cwSW k hts (x_goodSW hw) rfl rfl rfl hd hR) ⟨xwPre.blind, fun U hU hW9 => ⟨rfl, (xPre.mk' (av := As) hP hK hD U hU hW9).2, hZ.at hD hS hA hU hW9, hN.moved hW9.alike⟩⟩ rfl hk hl.1 hst (lv_room hW) hdg hf

theorem kx_X7_here (C : xCx p s m args meth c G K A nL cc own ret) (F : xwFx l s c A hh) {a1 : Int64} {u : XS} {idx : Nat} {rest : List Value} {Post : XS → Prop} {PX : String → XS → Prop} (hlink : Cond.methodLink own idx yX7_here ∈ gw_tbl) (hR : 8 + 1 ≤ R.frames ∧ 8 + (3 + 11) + 150 ≤ R.locals) (hf : cells + 1 ≤ R.cells ∧ slots + 6 ≤ R.slots) (hW : (rest.map fun v => v.category).sum ≤ 8) (hw : wp_X7_here cap a1 u Post PX) (hdg : decode cc n = .ok (.invokevirtual idx, 3)) (hp : pc = n)
    (kk : ∀ (u' : XS), Post u' → xV p l e R s m args below meth c G A nL Q (cells + 1) (slots + 6) (xw L K cap u' T) (n + 3) lv rest)
    (kx : ∀ (E : String) (u' : XS), PX E u' → xVX E p l e R s m args below meth c G A nL Q (cells + 1) (slots + 6) (xw L K cap u' T) n lv rest) : xV p l e R s m args below meth c G A nL Q cells slots (xw L K cap u T) pc lv (.long a1 :: .ref (L 0) :: rest) :=
  x_callVX C F (As := [.long a1]) (c_X7_here F.1 hw) ⟨hlink, i_341, i_342, i_1, i_343⟩ 0 rfl rfl rfl (k := 1) (by decide +kernel) rfl hR hf hW rfl hdg hp (fun v ws' ⟨u', hv, hws, hPo⟩ _ => by subst hv; subst hws; exact kk u' hPo) (fun E ws' ⟨u', hws, hPo⟩ _ => by subst hws; exact kx E u' hPo)
theorem kx_X7_type (C : xCx p s m args meth c G K A nL cc own ret) (F : xwFx l s c A hh) {a1 : Int64} {a3 : Int32} {u : XS} {idx : Nat} {rest : List Value} {Post : Int32 → XS → Prop} {PX : String → XS → Prop} (hlink : Cond.methodLink own idx yX7_type ∈ gw_tbl) (hR : 8 + 1 ≤ R.frames ∧ 8 + (4 + 11) + 150 ≤ R.locals) (hf : cells + 1 ≤ R.cells ∧ slots + 6 ≤ R.slots) (hW : (rest.map fun v => v.category).sum ≤ 8) (hw : wp_X7_type cap a1 a3 u Post PX) (hdg : decode cc n = .ok (.invokevirtual idx, 3)) (hp : pc = n)
    (kk : ∀ (r : Int32) (u' : XS), Post r u' → xV p l e R s m args below meth c G A nL Q (cells + 1) (slots + 6) (xw L K cap u' T) (n + 3) lv (.int r :: rest))
    (kx : ∀ (E : String) (u' : XS), PX E u' → xVX E p l e R s m args below meth c G A nL Q (cells + 1) (slots + 6) (xw L K cap u' T) n lv rest) : xV p l e R s m args below meth c G A nL Q cells slots (xw L K cap u T) pc lv (.int a3 :: .long a1 :: .ref (L 0) :: rest) :=
  x_callVX C F (As := [.long a1, .int a3]) (c_X7_type F.1 hw) ⟨hlink, i_427, i_428, i_1, i_429⟩ 0 rfl rfl rfl (k := 2) (by decide +kernel) rfl hR hf hW rfl hdg hp (fun v ws' ⟨r, u', hv, hws, hPo⟩ _ => by subst hv; subst hws; exact kk r u' hPo) (fun E ws' ⟨u', hws, hPo⟩ _ => by subst hws; exact kx E u' hPo)
theorem kx_X7_claim (C : xCx p s m args meth c G K A nL cc own ret) (F : xwFx l s c A hh) {a1 : Int32} {u : XS} {idx : Nat} {rest : List Value} {Post : XS → Prop} {PX : String → XS → Prop} (hlink : Cond.methodLink own idx yX7_claim ∈ gw_tbl) (hR : 8 + 1 ≤ R.frames ∧ 8 + (2 + 11) + 150 ≤ R.locals) (hf : cells + 1 ≤ R.cells ∧ slots + 6 ≤ R.slots) (hW : (rest.map fun v => v.category).sum ≤ 8) (hw : wp_X7_claim cap a1 u Post PX) (hdg : decode cc n = .ok (.invokevirtual idx, 3)) (hp : pc = n)
    (kk : ∀ (u' : XS), Post u' → xV p l e R s m args below meth c G A nL Q (cells + 1) (slots + 6) (xw L K cap u' T) (n + 3) lv rest)
    (kx : ∀ (E : String) (u' : XS), PX E u' → xVX E p l e R s m args below meth c G A nL Q (cells + 1) (slots + 6) (xw L K cap u' T) n lv rest) : xV p l e R s m args below meth c G A nL Q cells slots (xw L K cap u T) pc lv (.int a1 :: .ref (L 0) :: rest) :=
  x_callVX C F (As := [.int a1]) (c_X7_claim F.1 hw) ⟨hlink, i_442, i_443, i_1, i_444⟩ 0 rfl rfl rfl (k := 1) (by decide +kernel) rfl hR hf hW rfl hdg hp (fun v ws' ⟨u', hv, hws, hPo⟩ _ => by subst hv; subst hws; exact kk u' hPo) (fun E ws' ⟨u', hws, hPo⟩ _ => by subst hws; exact kx E u' hPo)
theorem kx_X7_send (C : xCx p s m args meth c G K A nL cc own ret) (F : xwFx l s c A hh) {a1 : Int32} {a2 : Int32} {u : XS} {idx : Nat} {rest : List Value} {Post : Int32 → XS → Prop} {PX : String → XS → Prop} (hlink : Cond.methodLink own idx yX7_send ∈ gw_tbl) (hR : 8 + 1 ≤ R.frames ∧ 8 + (4 + 11) + 150 ≤ R.locals) (hf : cells + 1 ≤ R.cells ∧ slots + 6 ≤ R.slots) (hW : (rest.map fun v => v.category).sum ≤ 8) (hw : wp_X7_send cap a1 a2 u Post PX) (hdg : decode cc n = .ok (.invokevirtual idx, 3)) (hp : pc = n)
    (kk : ∀ (r : Int32) (u' : XS), Post r u' → xV p l e R s m args below meth c G A nL Q (cells + 1) (slots + 6) (xw L K cap u' T) (n + 3) lv (.int r :: rest))
    (kx : ∀ (E : String) (u' : XS), PX E u' → xVX E p l e R s m args below meth c G A nL Q (cells + 1) (slots + 6) (xw L K cap u' T) n lv rest) : xV p l e R s m args below meth c G A nL Q cells slots (xw L K cap u T) pc lv (.int a2 :: .int a1 :: .ref (L 0) :: rest) :=
  x_callVX C F (As := [.int a1, .int a2]) (c_X7_send F.1 hw) ⟨hlink, i_453, i_454, i_1, i_455⟩ 0 rfl rfl rfl (k := 2) (by decide +kernel) rfl hR hf hW rfl hdg hp (fun v ws' ⟨r, u', hv, hws, hPo⟩ _ => by subst hv; subst hws; exact kk r u' hPo) (fun E ws' ⟨u', hws, hPo⟩ _ => by subst hws; exact kx E u' hPo)
theorem kx_X7_tick (C : xCx p s m args meth c G K A nL cc own ret) (F : xwFx l s c A hh) {a1 : Int32} {u : XS} {idx : Nat} {rest : List Value} {Post : Int32 → XS → Prop} {PX : String → XS → Prop} (hlink : Cond.methodLink own idx yX7_tick ∈ gw_tbl) (hR : 8 + 1 ≤ R.frames ∧ 8 + (3 + 11) + 154 ≤ R.locals) (hf : cells + 1 ≤ R.cells ∧ slots + 6 ≤ R.slots) (hW : (rest.map fun v => v.category).sum ≤ 8) (hw : wp_X7_tick cap a1 u Post PX) (hdg : decode cc n = .ok (.invokevirtual idx, 3)) (hp : pc = n)
    (kk : ∀ (r : Int32) (u' : XS), Post r u' → xV p l e R s m args below meth c G A nL Q (cells + 1) (slots + 6) (xw L K cap u' T) (n + 3) lv (.int r :: rest))
    (kx : ∀ (E : String) (u' : XS), PX E u' → xVX E p l e R s m args below meth c G A nL Q (cells + 1) (slots + 6) (xw L K cap u' T) n lv rest) : xV p l e R s m args below meth c G A nL Q cells slots (xw L K cap u T) pc lv (.int a1 :: .ref (L 0) :: rest) :=
  x_callVX C F (As := [.int a1]) (c_X7_tick F.1 hw) ⟨hlink, i_476, i_477, i_1, i_478⟩ 0 rfl rfl rfl (k := 1) (by decide +kernel) rfl hR hf hW rfl hdg hp (fun v ws' ⟨r, u', hv, hws, hPo⟩ _ => by subst hv; subst hws; exact kk r u' hPo) (fun E ws' ⟨u', hws, hPo⟩ _ => by subst hws; exact kx E u' hPo)
theorem kx_X7_count (C : xCx p s m args meth c G K A nL cc own ret) (F : xwFx l s c A hh) {a1 : Int32} {u : XS} {idx : Nat} {rest : List Value} {Post : Int32 → XS → Prop} {PX : String → XS → Prop} (hlink : Cond.methodLink own idx yX7_count ∈ gw_tbl) (hR : 8 + 1 ≤ R.frames ∧ 8 + (2 + 11) + 150 ≤ R.locals) (hf : cells + 1 ≤ R.cells ∧ slots + 6 ≤ R.slots) (hW : (rest.map fun v => v.category).sum ≤ 8) (hw : wp_X7_count cap a1 u Post PX) (hdg : decode cc n = .ok (.invokevirtual idx, 3)) (hp : pc = n)
    (kk : ∀ (r : Int32) (u' : XS), Post r u' → xV p l e R s m args below meth c G A nL Q (cells + 1) (slots + 6) (xw L K cap u' T) (n + 3) lv (.int r :: rest))
    (kx : ∀ (E : String) (u' : XS), PX E u' → xVX E p l e R s m args below meth c G A nL Q (cells + 1) (slots + 6) (xw L K cap u' T) n lv rest) : xV p l e R s m args below meth c G A nL Q cells slots (xw L K cap u T) pc lv (.int a1 :: .ref (L 0) :: rest) :=
  x_callVX C F (As := [.int a1]) (c_X7_count F.1 hw) ⟨hlink, i_500, i_501, i_1, i_502⟩ 0 rfl rfl rfl (k := 1) (by decide +kernel) rfl hR hf hW rfl hdg hp (fun v ws' ⟨r, u', hv, hws, hPo⟩ _ => by subst hv; subst hws; exact kk r u' hPo) (fun E ws' ⟨u', hws, hPo⟩ _ => by subst hws; exact kx E u' hPo)
theorem kx_X7_entry (C : xCx p s m args meth c G K A nL cc own ret) (F : xwFx l s c A hh) {a1 : Int32} {u : XS} {idx : Nat} {rest : List Value} {Post : Int32 → XS → Prop} {PX : String → XS → Prop} (hlink : Cond.methodLink own idx yX7_entry ∈ gw_tbl) (hR : 8 + 1 ≤ R.frames ∧ 8 + (2 + 11) + 150 ≤ R.locals) (hf : cells + 1 ≤ R.cells ∧ slots + 6 ≤ R.slots) (hW : (rest.map fun v => v.category).sum ≤ 8) (hw : wp_X7_entry cap a1 u Post PX) (hdg : decode cc n = .ok (.invokevirtual idx, 3)) (hp : pc = n)
    (kk : ∀ (r : Int32) (u' : XS), Post r u' → xV p l e R s m args below meth c G A nL Q (cells + 1) (slots + 6) (xw L K cap u' T) (n + 3) lv (.int r :: rest))
    (kx : ∀ (E : String) (u' : XS), PX E u' → xVX E p l e R s m args below meth c G A nL Q (cells + 1) (slots + 6) (xw L K cap u' T) n lv rest) : xV p l e R s m args below meth c G A nL Q cells slots (xw L K cap u T) pc lv (.int a1 :: .ref (L 0) :: rest) :=
  x_callVX C F (As := [.int a1]) (c_X7_entry F.1 hw) ⟨hlink, i_512, i_513, i_1, i_514⟩ 0 rfl rfl rfl (k := 1) (by decide +kernel) rfl hR hf hW rfl hdg hp (fun v ws' ⟨r, u', hv, hws, hPo⟩ _ => by subst hv; subst hws; exact kk r u' hPo) (fun E ws' ⟨u', hws, hPo⟩ _ => by subst hws; exact kx E u' hPo)
theorem kx_X7_about (C : xCx p s m args meth c G K A nL cc own ret) (F : xwFx l s c A hh) {a1 : Int32} {a2 : Int32} {u : XS} {idx : Nat} {rest : List Value} {Post : Int32 → XS → Prop} {PX : String → XS → Prop} (hlink : Cond.methodLink own idx yX7_about ∈ gw_tbl) (hR : 8 + 1 ≤ R.frames ∧ 8 + (5 + 11) + 150 ≤ R.locals) (hf : cells + 1 ≤ R.cells ∧ slots + 6 ≤ R.slots) (hW : (rest.map fun v => v.category).sum ≤ 8) (hw : wp_X7_about cap a1 a2 u Post PX) (hdg : decode cc n = .ok (.invokevirtual idx, 3)) (hp : pc = n)
    (kk : ∀ (r : Int32) (u' : XS), Post r u' → xV p l e R s m args below meth c G A nL Q (cells + 1) (slots + 6) (xw L K cap u' T) (n + 3) lv (.int r :: rest))
    (kx : ∀ (E : String) (u' : XS), PX E u' → xVX E p l e R s m args below meth c G A nL Q (cells + 1) (slots + 6) (xw L K cap u' T) n lv rest) : xV p l e R s m args below meth c G A nL Q cells slots (xw L K cap u T) pc lv (.int a2 :: .int a1 :: .ref (L 0) :: rest) :=
  x_callVX C F (As := [.int a1, .int a2]) (c_X7_about F.1 hw) ⟨hlink, i_535, i_536, i_1, i_537⟩ 0 rfl rfl rfl (k := 2) (by decide +kernel) rfl hR hf hW rfl hdg hp (fun v ws' ⟨r, u', hv, hws, hPo⟩ _ => by subst hv; subst hws; exact kk r u' hPo) (fun E ws' ⟨u', hws, hPo⟩ _ => by subst hws; exact kx E u' hPo)
theorem kx_X7_hardware (C : xCx p s m args meth c G K A nL cc own ret) (F : xwFx l s c A hh) {a1 : Int32} {u : XS} {idx : Nat} {rest : List Value} {Post : Int64 → XS → Prop} {PX : String → XS → Prop} (hlink : Cond.methodLink own idx yX7_hardware ∈ gw_tbl) (hR : 8 + 1 ≤ R.frames ∧ 8 + (3 + 11) + 150 ≤ R.locals) (hf : cells + 1 ≤ R.cells ∧ slots + 6 ≤ R.slots) (hW : (rest.map fun v => v.category).sum ≤ 8) (hw : wp_X7_hardware cap a1 u Post PX) (hdg : decode cc n = .ok (.invokevirtual idx, 3)) (hp : pc = n)
    (kk : ∀ (r : Int64) (u' : XS), Post r u' → xV p l e R s m args below meth c G A nL Q (cells + 1) (slots + 6) (xw L K cap u' T) (n + 3) lv (.long r :: rest))
    (kx : ∀ (E : String) (u' : XS), PX E u' → xVX E p l e R s m args below meth c G A nL Q (cells + 1) (slots + 6) (xw L K cap u' T) n lv rest) : xV p l e R s m args below meth c G A nL Q cells slots (xw L K cap u T) pc lv (.int a1 :: .ref (L 0) :: rest) :=
  x_callVX C F (As := [.int a1]) (c_X7_hardware F.1 hw) ⟨hlink, i_557, i_558, i_1, i_559⟩ 0 rfl rfl rfl (k := 1) (by decide +kernel) rfl hR hf hW rfl hdg hp (fun v ws' ⟨r, u', hv, hws, hPo⟩ _ => by subst hv; subst hws; exact kk r u' hPo) (fun E ws' ⟨u', hws, hPo⟩ _ => by subst hws; exact kx E u' hPo)
theorem kx_X7_waits (C : xCx p s m args meth c G K A nL cc own ret) (F : xwFx l s c A hh) {a1 : Int32} {a2 : Int32} {u : XS} {idx : Nat} {rest : List Value} {Post : Int32 → XS → Prop} {PX : String → XS → Prop} (hlink : Cond.methodLink own idx yX7_waits ∈ gw_tbl) (hR : 8 + 1 ≤ R.frames ∧ 8 + (5 + 11) + 150 ≤ R.locals) (hf : cells + 1 ≤ R.cells ∧ slots + 6 ≤ R.slots) (hW : (rest.map fun v => v.category).sum ≤ 8) (hw : wp_X7_waits cap a1 a2 u Post PX) (hdg : decode cc n = .ok (.invokevirtual idx, 3)) (hp : pc = n)
    (kk : ∀ (r : Int32) (u' : XS), Post r u' → xV p l e R s m args below meth c G A nL Q (cells + 1) (slots + 6) (xw L K cap u' T) (n + 3) lv (.int r :: rest))
    (kx : ∀ (E : String) (u' : XS), PX E u' → xVX E p l e R s m args below meth c G A nL Q (cells + 1) (slots + 6) (xw L K cap u' T) n lv rest) : xV p l e R s m args below meth c G A nL Q cells slots (xw L K cap u T) pc lv (.int a2 :: .int a1 :: .ref (L 0) :: rest) :=
  x_callVX C F (As := [.int a1, .int a2]) (c_X7_waits F.1 hw) ⟨hlink, i_564, i_565, i_1, i_566⟩ 0 rfl rfl rfl (k := 2) (by decide +kernel) rfl hR hf hW rfl hdg hp (fun v ws' ⟨r, u', hv, hws, hPo⟩ _ => by subst hv; subst hws; exact kk r u' hPo) (fun E ws' ⟨u', hws, hPo⟩ _ => by subst hws; exact kx E u' hPo)
theorem kx_X7_to (C : xCx p s m args meth c G K A nL cc own ret) (F : xwFx l s c A hh) {a1 : Int32} {u : XS} {idx : Nat} {rest : List Value} {Post : Int64 → XS → Prop} {PX : String → XS → Prop} (hlink : Cond.methodLink own idx yX7_to ∈ gw_tbl) (hR : 8 + 1 ≤ R.frames ∧ 8 + (2 + 11) + 150 ≤ R.locals) (hf : cells + 1 ≤ R.cells ∧ slots + 6 ≤ R.slots) (hW : (rest.map fun v => v.category).sum ≤ 8) (hw : wp_X7_to cap a1 u Post PX) (hdg : decode cc n = .ok (.invokevirtual idx, 3)) (hp : pc = n)
    (kk : ∀ (r : Int64) (u' : XS), Post r u' → xV p l e R s m args below meth c G A nL Q (cells + 1) (slots + 6) (xw L K cap u' T) (n + 3) lv (.long r :: rest))
    (kx : ∀ (E : String) (u' : XS), PX E u' → xVX E p l e R s m args below meth c G A nL Q (cells + 1) (slots + 6) (xw L K cap u' T) n lv rest) : xV p l e R s m args below meth c G A nL Q cells slots (xw L K cap u T) pc lv (.int a1 :: .ref (L 0) :: rest) :=
  x_callVX C F (As := [.int a1]) (c_X7_to F.1 hw) ⟨hlink, i_571, i_572, i_1, i_573⟩ 0 rfl rfl rfl (k := 1) (by decide +kernel) rfl hR hf hW rfl hdg hp (fun v ws' ⟨r, u', hv, hws, hPo⟩ _ => by subst hv; subst hws; exact kk r u' hPo) (fun E ws' ⟨u', hws, hPo⟩ _ => by subst hws; exact kx E u' hPo)
theorem kx_X7_data (C : xCx p s m args meth c G K A nL cc own ret) (F : xwFx l s c A hh) {a1 : Int32} {u : XS} {idx : Nat} {rest : List Value} {Post : Int32 → XS → Prop} {PX : String → XS → Prop} (hlink : Cond.methodLink own idx yX7_data ∈ gw_tbl) (hR : 8 + 1 ≤ R.frames ∧ 8 + (2 + 11) + 150 ≤ R.locals) (hf : cells + 1 ≤ R.cells ∧ slots + 6 ≤ R.slots) (hW : (rest.map fun v => v.category).sum ≤ 8) (hw : wp_X7_data cap a1 u Post PX) (hdg : decode cc n = .ok (.invokevirtual idx, 3)) (hp : pc = n)
    (kk : ∀ (r : Int32) (u' : XS), Post r u' → xV p l e R s m args below meth c G A nL Q (cells + 1) (slots + 6) (xw L K cap u' T) (n + 3) lv (.int r :: rest))
    (kx : ∀ (E : String) (u' : XS), PX E u' → xVX E p l e R s m args below meth c G A nL Q (cells + 1) (slots + 6) (xw L K cap u' T) n lv rest) : xV p l e R s m args below meth c G A nL Q cells slots (xw L K cap u T) pc lv (.int a1 :: .ref (L 0) :: rest) :=
  x_callVX C F (As := [.int a1]) (c_X7_data F.1 hw) ⟨hlink, i_587, i_588, i_1, i_589⟩ 0 rfl rfl rfl (k := 1) (by decide +kernel) rfl hR hf hW rfl hdg hp (fun v ws' ⟨r, u', hv, hws, hPo⟩ _ => by subst hv; subst hws; exact kk r u' hPo) (fun E ws' ⟨u', hws, hPo⟩ _ => by subst hws; exact kx E u' hPo)
theorem kx_X7_out (C : xCx p s m args meth c G K A nL cc own ret) (F : xwFx l s c A hh) {a1 : Int32} {a2 : Int32} {u : XS} {idx : Nat} {rest : List Value} {Post : Int32 → XS → Prop} {PX : String → XS → Prop} (hlink : Cond.methodLink own idx yX7_out ∈ gw_tbl) (hR : 8 + 1 ≤ R.frames ∧ 8 + (3 + 11) + 150 ≤ R.locals) (hf : cells + 1 ≤ R.cells ∧ slots + 6 ≤ R.slots) (hW : (rest.map fun v => v.category).sum ≤ 8) (hw : wp_X7_out cap a1 a2 u Post PX) (hdg : decode cc n = .ok (.invokevirtual idx, 3)) (hp : pc = n)
    (kk : ∀ (r : Int32) (u' : XS), Post r u' → xV p l e R s m args below meth c G A nL Q (cells + 1) (slots + 6) (xw L K cap u' T) (n + 3) lv (.int r :: rest))
    (kx : ∀ (E : String) (u' : XS), PX E u' → xVX E p l e R s m args below meth c G A nL Q (cells + 1) (slots + 6) (xw L K cap u' T) n lv rest) : xV p l e R s m args below meth c G A nL Q cells slots (xw L K cap u T) pc lv (.int a2 :: .int a1 :: .ref (L 0) :: rest) :=
  x_callVX C F (As := [.int a1, .int a2]) (c_X7_out F.1 hw) ⟨hlink, i_594, i_595, i_1, i_596⟩ 0 rfl rfl rfl (k := 2) (by decide +kernel) rfl hR hf hW rfl hdg hp (fun v ws' ⟨r, u', hv, hws, hPo⟩ _ => by subst hv; subst hws; exact kk r u' hPo) (fun E ws' ⟨u', hws, hPo⟩ _ => by subst hws; exact kx E u' hPo)
theorem kx_X7_lost (C : xCx p s m args meth c G K A nL cc own ret) (F : xwFx l s c A hh) {a1 : Int32} {u : XS} {idx : Nat} {rest : List Value} {Post : Int32 → XS → Prop} {PX : String → XS → Prop} (hlink : Cond.methodLink own idx yX7_lost ∈ gw_tbl) (hR : 8 + 1 ≤ R.frames ∧ 8 + (2 + 11) + 150 ≤ R.locals) (hf : cells + 1 ≤ R.cells ∧ slots + 6 ≤ R.slots) (hW : (rest.map fun v => v.category).sum ≤ 8) (hw : wp_X7_lost cap a1 u Post PX) (hdg : decode cc n = .ok (.invokevirtual idx, 3)) (hp : pc = n)
    (kk : ∀ (r : Int32) (u' : XS), Post r u' → xV p l e R s m args below meth c G A nL Q (cells + 1) (slots + 6) (xw L K cap u' T) (n + 3) lv (.int r :: rest))
    (kx : ∀ (E : String) (u' : XS), PX E u' → xVX E p l e R s m args below meth c G A nL Q (cells + 1) (slots + 6) (xw L K cap u' T) n lv rest) : xV p l e R s m args below meth c G A nL Q cells slots (xw L K cap u T) pc lv (.int a1 :: .ref (L 0) :: rest) :=
  x_callVX C F (As := [.int a1]) (c_X7_lost F.1 hw) ⟨hlink, i_610, i_611, i_1, i_612⟩ 0 rfl rfl rfl (k := 1) (by decide +kernel) rfl hR hf hW rfl hdg hp (fun v ws' ⟨r, u', hv, hws, hPo⟩ _ => by subst hv; subst hws; exact kk r u' hPo) (fun E ws' ⟨u', hws, hPo⟩ _ => by subst hws; exact kx E u' hPo)
def wp_L_here (cap : Nat) (a1 : Int64) (u : XS) (Post : Int32 → XS → Prop) : Prop :=
  wp_X7_here cap a1 u (fun u2 => Post (0 : Int32) u2) (fun E u2 => (E = "java/lang/IllegalArgumentException" ∧ Post (1 : Int32) u2) ∨ (E = "java/lang/IllegalStateException" ∧ Post (2 : Int32) u2))
set_option maxHeartbeats 4000000 in
set_option maxRecDepth 20000 in
theorem c_L_here (hl : l.stackTraces = false) {a1 : Int64} {u : XS} {Post : Int32 → XS → Prop} (hw : wp_L_here cap a1 u Post) : xwMet l yL_here cL_here 4 (some .int) [(0, 5, 8, 13), (0, 5, 11, 15)] 9 172 G K [.ref (L 0), .long a1] (xw L K cap u T) (fun v ws' => ∃ (r : Int32) (u' : XS), v = some (.int r) ∧ ws' = (xw L K cap u' T) ∧ Post r u') := by
  refine xwMet.intro hl (lv := [(0, .ref (L 0)), (1, .long a1)]) (by decide) rfl (Nat.le_of_ble_eq_true rfl) rfl (fun p e s m args below meth c A C F => ?_)
  unfold wp_L_here at hw
  refine x_aload_n C dL_here_0 rfl rfl 0 rfl ?_
  refine x_lload_n C dL_here_1 rfl rfl 1 rfl ?_
  refine kx_X7_here C F i_340 ⟨Nat.le_of_ble_eq_true rfl, Nat.le_of_ble_eq_true rfl⟩ ⟨Nat.le_of_ble_eq_true rfl, Nat.le_of_ble_eq_true rfl⟩ (Nat.le_of_ble_eq_true rfl) hw dL_here_2 rfl (fun u2 hw => ?_) (fun E u2 hw => ?_)
  · refine x_goto C (tgt := 14) dL_here_5 rfl (by decide) ?_
    refine x_iconst C (v := (0 : Int32)) dL_here_14 rfl (by decide) ?_
    exact x_iret C dL_here_15 rfl (xw_same _ _) ⟨_, _, rfl, rfl, hw⟩
  · rcases hw with ⟨rfl, hw⟩ | ⟨rfl, hw⟩
    · refine x_catch C (F.2.1.2.2 _ (by simp [xdec])) [] ⟨0, 5, 8, 13⟩ [⟨0, 5, 11, 15⟩] F.2.2.2 (fun z hz => by cases hz) (by decide) (by decide) i_338 (fun q9 => ?_)
      refine x_astore_n C (lv' := [(3, .ref q9), (0, .ref (L 0)), (1, .long a1)]) dL_here_8 rfl rfl (by decide) rfl ?_
      refine x_iconst C (v := (1 : Int32)) dL_here_9 rfl (by decide) ?_
      exact x_iret C dL_here_10 rfl (xw_same _ _) ⟨_, _, rfl, rfl, hw⟩
    · refine x_catch C (F.2.1.2.2 _ (by simp [xdec])) [⟨0, 5, 8, 13⟩] ⟨0, 5, 11, 15⟩ [] F.2.2.2 (fun z hz => by rcases List.mem_singleton.mp hz with rfl; exact Or.inr ⟨by decide, "java/lang/IllegalArgumentException", C.2.2.2.2.2.2.1 _ i_338, F.2.2.1.1⟩) (by decide) (by decide) i_339 (fun q9 => ?_)
      refine x_astore_n C (lv' := [(3, .ref q9), (0, .ref (L 0)), (1, .long a1)]) dL_here_11 rfl rfl (by decide) rfl ?_
      refine x_iconst C (v := (2 : Int32)) dL_here_12 rfl (by decide) ?_
      exact x_iret C dL_here_13 rfl (xw_same _ _) ⟨_, _, rfl, rfl, hw⟩
set_option maxRecDepth 20000 in
theorem k_L_here (hl : l.stackTraces = false) (C : xCx p s m args meth c G K A nL cc own ret) (hZ : xZq A s) (hN : xNc s) {a1 : Int64} {u : XS} {idx : Nat} {rest : List Value} {Post : Int32 → XS → Prop} (hlink : Cond.methodLink own idx yL_here ∈ gw_tbl) (hR : 9 + 1 ≤ R.frames ∧ 8 + (4 + 11) + 172 ≤ R.locals) (hf : cells + 1 ≤ R.cells ∧ slots + 6 ≤ R.slots) (hW : (rest.map fun v => v.category).sum ≤ 8) (hw : wp_L_here cap a1 u Post) (hdg : decode cc n = .ok (.invokestatic idx, 3)) (hp : pc = n) (kk : ∀ (r : Int32) (u' : XS), Post r u' → xV p l e R s m args below meth c G A nL Q (cells + 1) (slots + 6) (xw L K cap u' T) (n + 3) lv (.int r :: rest)) : xV p l e R s m args below meth c G A nL Q cells slots (xw L K cap u T) pc lv (.long a1 :: .ref (L 0) :: rest) :=
  x_callSW C hZ hN (As := [.ref (L 0), .long a1]) (c_L_here hl hw) ⟨hlink, i_336, i_0, i_337⟩ (k := 2) (by decide +kernel) rfl hR hf hW rfl hdg hp (fun v ws' ⟨r, u', hv, hws, hPo⟩ _ => by subst hv; subst hws; exact kk r u' hPo)
def wp_L_type (cap : Nat) (a1 : Int64) (a3 : Int32) (u : XS) (Post : Int32 → XS → Prop) : Prop :=
  wp_X7_type cap a1 a3 u (fun r u2 => vp_in (0 : Int32) 1 ∧ (∀ u3 : XS, u3 = Xs_out u2 (vp_updL (X_out u2) (Int32.toNatClampNeg (0 : Int32)) (Int32.toInt64 r)) → Post (0 : Int32) u3)) (fun E u2 => (E = "java/lang/IllegalArgumentException" ∧ Post (1 : Int32) u2) ∨ (E = "java/lang/IllegalStateException" ∧ Post (2 : Int32) u2))
set_option maxHeartbeats 4000000 in
set_option maxRecDepth 20000 in
theorem c_L_type (hl : l.stackTraces = false) {a1 : Int64} {a3 : Int32} {u : XS} {Post : Int32 → XS → Prop} (hw : wp_L_type cap a1 a3 u Post) : xwMet l yL_type cL_type 6 (some .int) [(0, 11, 14, 13), (0, 11, 18, 15)] 9 173 G K [.ref (L 0), .long a1, .int a3, .ref (L 14)] (xw L K cap u T) (fun v ws' => ∃ (r : Int32) (u' : XS), v = some (.int r) ∧ ws' = (xw L K cap u' T) ∧ Post r u') := by
  refine xwMet.intro hl (lv := [(0, .ref (L 0)), (1, .long a1), (3, .int a3), (4, .ref (L 14))]) (by decide) rfl (Nat.le_of_ble_eq_true rfl) rfl (fun p e s m args below meth c A C F => ?_)
  unfold wp_L_type at hw
  refine x_aload C dL_type_0 rfl 3 rfl ?_
  refine x_iconst C (v := (0 : Int32)) dL_type_2 rfl (by decide) ?_
  refine x_aload_n C dL_type_3 rfl rfl 0 rfl ?_
  refine x_lload_n C dL_type_4 rfl rfl 1 rfl ?_
  refine x_iload_n C dL_type_5 rfl rfl 2 rfl ?_
  refine kx_X7_type C F i_426 ⟨Nat.le_of_ble_eq_true rfl, Nat.le_of_ble_eq_true rfl⟩ ⟨Nat.le_of_ble_eq_true rfl, Nat.le_of_ble_eq_true rfl⟩ (Nat.le_of_ble_eq_true rfl) hw dL_type_6 rfl (fun r u2 hw => ?_) (fun E u2 hw => ?_)
  · refine x_i2l C dL_type_9 rfl ?_
    obtain ⟨h1, hw⟩ := hw
    refine pX14_at C h1 dL_type_10 rfl (fun u3 e3 => ?_)
    have hw := hw u3 e3
    refine x_goto C (tgt := 22) dL_type_11 rfl (by decide) ?_
    refine x_iconst C (v := (0 : Int32)) dL_type_22 rfl (by decide) ?_
    exact x_iret C dL_type_23 rfl (xw_same _ _) ⟨_, _, rfl, rfl, hw⟩
  · rcases hw with ⟨rfl, hw⟩ | ⟨rfl, hw⟩
    · refine x_catch C (F.2.1.2.2 _ (by simp [xdec])) [] ⟨0, 11, 14, 13⟩ [⟨0, 11, 18, 15⟩] F.2.2.2 (fun z hz => by cases hz) (by decide) (by decide) i_338 (fun q9 => ?_)
      refine x_astore C (lv' := [(5, .ref q9), (0, .ref (L 0)), (1, .long a1), (3, .int a3), (4, .ref (L 14))]) dL_type_14 rfl (by decide) rfl ?_
      refine x_iconst C (v := (1 : Int32)) dL_type_16 rfl (by decide) ?_
      exact x_iret C dL_type_17 rfl (xw_same _ _) ⟨_, _, rfl, rfl, hw⟩
    · refine x_catch C (F.2.1.2.2 _ (by simp [xdec])) [⟨0, 11, 14, 13⟩] ⟨0, 11, 18, 15⟩ [] F.2.2.2 (fun z hz => by rcases List.mem_singleton.mp hz with rfl; exact Or.inr ⟨by decide, "java/lang/IllegalArgumentException", C.2.2.2.2.2.2.1 _ i_338, F.2.2.1.1⟩) (by decide) (by decide) i_339 (fun q9 => ?_)
      refine x_astore C (lv' := [(5, .ref q9), (0, .ref (L 0)), (1, .long a1), (3, .int a3), (4, .ref (L 14))]) dL_type_18 rfl (by decide) rfl ?_
      refine x_iconst C (v := (2 : Int32)) dL_type_20 rfl (by decide) ?_
      exact x_iret C dL_type_21 rfl (xw_same _ _) ⟨_, _, rfl, rfl, hw⟩
set_option maxRecDepth 20000 in
theorem k_L_type (hl : l.stackTraces = false) (C : xCx p s m args meth c G K A nL cc own ret) (hZ : xZq A s) (hN : xNc s) {a1 : Int64} {a3 : Int32} {u : XS} {idx : Nat} {rest : List Value} {Post : Int32 → XS → Prop} (hlink : Cond.methodLink own idx yL_type ∈ gw_tbl) (hR : 9 + 1 ≤ R.frames ∧ 8 + (6 + 11) + 173 ≤ R.locals) (hf : cells + 1 ≤ R.cells ∧ slots + 6 ≤ R.slots) (hW : (rest.map fun v => v.category).sum ≤ 8) (hw : wp_L_type cap a1 a3 u Post) (hdg : decode cc n = .ok (.invokestatic idx, 3)) (hp : pc = n) (kk : ∀ (r : Int32) (u' : XS), Post r u' → xV p l e R s m args below meth c G A nL Q (cells + 1) (slots + 6) (xw L K cap u' T) (n + 3) lv (.int r :: rest)) : xV p l e R s m args below meth c G A nL Q cells slots (xw L K cap u T) pc lv (.ref (L 14) :: .int a3 :: .long a1 :: .ref (L 0) :: rest) :=
  x_callSW C hZ hN (As := [.ref (L 0), .long a1, .int a3, .ref (L 14)]) (c_L_type hl hw) ⟨hlink, i_424, i_0, i_425⟩ (k := 4) (by decide +kernel) rfl hR hf hW rfl hdg hp (fun v ws' ⟨r, u', hv, hws, hPo⟩ _ => by subst hv; subst hws; exact kk r u' hPo)
def wp_L_claim (cap : Nat) (a1 : Int32) (u : XS) (Post : Int32 → XS → Prop) : Prop :=
  wp_X7_claim cap a1 u (fun u2 => Post (0 : Int32) u2) (fun E u2 => (E = "java/lang/IllegalArgumentException" ∧ Post (1 : Int32) u2) ∨ (E = "java/lang/IllegalStateException" ∧ Post (2 : Int32) u2))
set_option maxHeartbeats 4000000 in
set_option maxRecDepth 20000 in
theorem c_L_claim (hl : l.stackTraces = false) {a1 : Int32} {u : XS} {Post : Int32 → XS → Prop} (hw : wp_L_claim cap a1 u Post) : xwMet l yL_claim cL_claim 3 (some .int) [(0, 5, 8, 13), (0, 5, 11, 15)] 9 171 G K [.ref (L 0), .int a1] (xw L K cap u T) (fun v ws' => ∃ (r : Int32) (u' : XS), v = some (.int r) ∧ ws' = (xw L K cap u' T) ∧ Post r u') := by
  refine xwMet.intro hl (lv := [(0, .ref (L 0)), (1, .int a1)]) (by decide) rfl (Nat.le_of_ble_eq_true rfl) rfl (fun p e s m args below meth c A C F => ?_)
  unfold wp_L_claim at hw
  refine x_aload_n C dL_claim_0 rfl rfl 0 rfl ?_
  refine x_iload_n C dL_claim_1 rfl rfl 1 rfl ?_
  refine kx_X7_claim C F i_441 ⟨Nat.le_of_ble_eq_true rfl, Nat.le_of_ble_eq_true rfl⟩ ⟨Nat.le_of_ble_eq_true rfl, Nat.le_of_ble_eq_true rfl⟩ (Nat.le_of_ble_eq_true rfl) hw dL_claim_2 rfl (fun u2 hw => ?_) (fun E u2 hw => ?_)
  · refine x_goto C (tgt := 14) dL_claim_5 rfl (by decide) ?_
    refine x_iconst C (v := (0 : Int32)) dL_claim_14 rfl (by decide) ?_
    exact x_iret C dL_claim_15 rfl (xw_same _ _) ⟨_, _, rfl, rfl, hw⟩
  · rcases hw with ⟨rfl, hw⟩ | ⟨rfl, hw⟩
    · refine x_catch C (F.2.1.2.2 _ (by simp [xdec])) [] ⟨0, 5, 8, 13⟩ [⟨0, 5, 11, 15⟩] F.2.2.2 (fun z hz => by cases hz) (by decide) (by decide) i_338 (fun q9 => ?_)
      refine x_astore_n C (lv' := [(2, .ref q9), (0, .ref (L 0)), (1, .int a1)]) dL_claim_8 rfl rfl (by decide) rfl ?_
      refine x_iconst C (v := (1 : Int32)) dL_claim_9 rfl (by decide) ?_
      exact x_iret C dL_claim_10 rfl (xw_same _ _) ⟨_, _, rfl, rfl, hw⟩
    · refine x_catch C (F.2.1.2.2 _ (by simp [xdec])) [⟨0, 5, 8, 13⟩] ⟨0, 5, 11, 15⟩ [] F.2.2.2 (fun z hz => by rcases List.mem_singleton.mp hz with rfl; exact Or.inr ⟨by decide, "java/lang/IllegalArgumentException", C.2.2.2.2.2.2.1 _ i_338, F.2.2.1.1⟩) (by decide) (by decide) i_339 (fun q9 => ?_)
      refine x_astore_n C (lv' := [(2, .ref q9), (0, .ref (L 0)), (1, .int a1)]) dL_claim_11 rfl rfl (by decide) rfl ?_
      refine x_iconst C (v := (2 : Int32)) dL_claim_12 rfl (by decide) ?_
      exact x_iret C dL_claim_13 rfl (xw_same _ _) ⟨_, _, rfl, rfl, hw⟩
set_option maxRecDepth 20000 in
theorem k_L_claim (hl : l.stackTraces = false) (C : xCx p s m args meth c G K A nL cc own ret) (hZ : xZq A s) (hN : xNc s) {a1 : Int32} {u : XS} {idx : Nat} {rest : List Value} {Post : Int32 → XS → Prop} (hlink : Cond.methodLink own idx yL_claim ∈ gw_tbl) (hR : 9 + 1 ≤ R.frames ∧ 8 + (3 + 11) + 171 ≤ R.locals) (hf : cells + 1 ≤ R.cells ∧ slots + 6 ≤ R.slots) (hW : (rest.map fun v => v.category).sum ≤ 8) (hw : wp_L_claim cap a1 u Post) (hdg : decode cc n = .ok (.invokestatic idx, 3)) (hp : pc = n) (kk : ∀ (r : Int32) (u' : XS), Post r u' → xV p l e R s m args below meth c G A nL Q (cells + 1) (slots + 6) (xw L K cap u' T) (n + 3) lv (.int r :: rest)) : xV p l e R s m args below meth c G A nL Q cells slots (xw L K cap u T) pc lv (.int a1 :: .ref (L 0) :: rest) :=
  x_callSW C hZ hN (As := [.ref (L 0), .int a1]) (c_L_claim hl hw) ⟨hlink, i_439, i_0, i_440⟩ (k := 2) (by decide +kernel) rfl hR hf hW rfl hdg hp (fun v ws' ⟨r, u', hv, hws, hPo⟩ _ => by subst hv; subst hws; exact kk r u' hPo)
def wp_L_send (cap : Nat) (a1 : Int32) (a2 : Int32) (u : XS) (Post : Int32 → XS → Prop) : Prop :=
  wp_X7_send cap a1 a2 u (fun r u2 => vp_in (0 : Int32) 1 ∧ (∀ u3 : XS, u3 = Xs_out u2 (vp_updL (X_out u2) (Int32.toNatClampNeg (0 : Int32)) (Int32.toInt64 r)) → Post (0 : Int32) u3)) (fun E u2 => (E = "java/lang/IllegalArgumentException" ∧ Post (1 : Int32) u2) ∨ (E = "java/lang/IllegalStateException" ∧ Post (2 : Int32) u2))
set_option maxHeartbeats 4000000 in
set_option maxRecDepth 20000 in
theorem c_L_send (hl : l.stackTraces = false) {a1 : Int32} {a2 : Int32} {u : XS} {Post : Int32 → XS → Prop} (hw : wp_L_send cap a1 a2 u Post) : xwMet l yL_send cL_send 5 (some .int) [(0, 10, 13, 13), (0, 10, 17, 15)] 9 173 G K [.ref (L 0), .int a1, .int a2, .ref (L 14)] (xw L K cap u T) (fun v ws' => ∃ (r : Int32) (u' : XS), v = some (.int r) ∧ ws' = (xw L K cap u' T) ∧ Post r u') := by
  refine xwMet.intro hl (lv := [(0, .ref (L 0)), (1, .int a1), (2, .int a2), (3, .ref (L 14))]) (by decide) rfl (Nat.le_of_ble_eq_true rfl) rfl (fun p e s m args below meth c A C F => ?_)
  unfold wp_L_send at hw
  refine x_aload_n C dL_send_0 rfl rfl 3 rfl ?_
  refine x_iconst C (v := (0 : Int32)) dL_send_1 rfl (by decide) ?_
  refine x_aload_n C dL_send_2 rfl rfl 0 rfl ?_
  refine x_iload_n C dL_send_3 rfl rfl 1 rfl ?_
  refine x_iload_n C dL_send_4 rfl rfl 2 rfl ?_
  refine kx_X7_send C F i_452 ⟨Nat.le_of_ble_eq_true rfl, Nat.le_of_ble_eq_true rfl⟩ ⟨Nat.le_of_ble_eq_true rfl, Nat.le_of_ble_eq_true rfl⟩ (Nat.le_of_ble_eq_true rfl) hw dL_send_5 rfl (fun r u2 hw => ?_) (fun E u2 hw => ?_)
  · refine x_i2l C dL_send_8 rfl ?_
    obtain ⟨h1, hw⟩ := hw
    refine pX14_at C h1 dL_send_9 rfl (fun u3 e3 => ?_)
    have hw := hw u3 e3
    refine x_goto C (tgt := 21) dL_send_10 rfl (by decide) ?_
    refine x_iconst C (v := (0 : Int32)) dL_send_21 rfl (by decide) ?_
    exact x_iret C dL_send_22 rfl (xw_same _ _) ⟨_, _, rfl, rfl, hw⟩
  · rcases hw with ⟨rfl, hw⟩ | ⟨rfl, hw⟩
    · refine x_catch C (F.2.1.2.2 _ (by simp [xdec])) [] ⟨0, 10, 13, 13⟩ [⟨0, 10, 17, 15⟩] F.2.2.2 (fun z hz => by cases hz) (by decide) (by decide) i_338 (fun q9 => ?_)
      refine x_astore C (lv' := [(4, .ref q9), (0, .ref (L 0)), (1, .int a1), (2, .int a2), (3, .ref (L 14))]) dL_send_13 rfl (by decide) rfl ?_
      refine x_iconst C (v := (1 : Int32)) dL_send_15 rfl (by decide) ?_
      exact x_iret C dL_send_16 rfl (xw_same _ _) ⟨_, _, rfl, rfl, hw⟩
    · refine x_catch C (F.2.1.2.2 _ (by simp [xdec])) [⟨0, 10, 13, 13⟩] ⟨0, 10, 17, 15⟩ [] F.2.2.2 (fun z hz => by rcases List.mem_singleton.mp hz with rfl; exact Or.inr ⟨by decide, "java/lang/IllegalArgumentException", C.2.2.2.2.2.2.1 _ i_338, F.2.2.1.1⟩) (by decide) (by decide) i_339 (fun q9 => ?_)
      refine x_astore C (lv' := [(4, .ref q9), (0, .ref (L 0)), (1, .int a1), (2, .int a2), (3, .ref (L 14))]) dL_send_17 rfl (by decide) rfl ?_
      refine x_iconst C (v := (2 : Int32)) dL_send_19 rfl (by decide) ?_
      exact x_iret C dL_send_20 rfl (xw_same _ _) ⟨_, _, rfl, rfl, hw⟩
set_option maxRecDepth 20000 in
theorem k_L_send (hl : l.stackTraces = false) (C : xCx p s m args meth c G K A nL cc own ret) (hZ : xZq A s) (hN : xNc s) {a1 : Int32} {a2 : Int32} {u : XS} {idx : Nat} {rest : List Value} {Post : Int32 → XS → Prop} (hlink : Cond.methodLink own idx yL_send ∈ gw_tbl) (hR : 9 + 1 ≤ R.frames ∧ 8 + (5 + 11) + 173 ≤ R.locals) (hf : cells + 1 ≤ R.cells ∧ slots + 6 ≤ R.slots) (hW : (rest.map fun v => v.category).sum ≤ 8) (hw : wp_L_send cap a1 a2 u Post) (hdg : decode cc n = .ok (.invokestatic idx, 3)) (hp : pc = n) (kk : ∀ (r : Int32) (u' : XS), Post r u' → xV p l e R s m args below meth c G A nL Q (cells + 1) (slots + 6) (xw L K cap u' T) (n + 3) lv (.int r :: rest)) : xV p l e R s m args below meth c G A nL Q cells slots (xw L K cap u T) pc lv (.ref (L 14) :: .int a2 :: .int a1 :: .ref (L 0) :: rest) :=
  x_callSW C hZ hN (As := [.ref (L 0), .int a1, .int a2, .ref (L 14)]) (c_L_send hl hw) ⟨hlink, i_450, i_0, i_451⟩ (k := 4) (by decide +kernel) rfl hR hf hW rfl hdg hp (fun v ws' ⟨r, u', hv, hws, hPo⟩ _ => by subst hv; subst hws; exact kk r u' hPo)
def wp_L_tick (cap : Nat) (a1 : Int32) (u : XS) (Post : Int32 → XS → Prop) : Prop :=
  wp_X7_tick cap a1 u (fun r u2 => vp_in (0 : Int32) 1 ∧ (∀ u3 : XS, u3 = Xs_out u2 (vp_updL (X_out u2) (Int32.toNatClampNeg (0 : Int32)) (Int32.toInt64 r)) → Post (0 : Int32) u3)) (fun E u2 => (E = "java/lang/IllegalArgumentException" ∧ Post (1 : Int32) u2))
set_option maxHeartbeats 4000000 in
set_option maxRecDepth 20000 in
theorem c_L_tick (hl : l.stackTraces = false) {a1 : Int32} {u : XS} {Post : Int32 → XS → Prop} (hw : wp_L_tick cap a1 u Post) : xwMet l yL_tick cL_tick 4 (some .int) [(0, 9, 12, 13)] 9 176 G K [.ref (L 0), .int a1, .ref (L 14)] (xw L K cap u T) (fun v ws' => ∃ (r : Int32) (u' : XS), v = some (.int r) ∧ ws' = (xw L K cap u' T) ∧ Post r u') := by
  refine xwMet.intro hl (lv := [(0, .ref (L 0)), (1, .int a1), (2, .ref (L 14))]) (by decide) rfl (Nat.le_of_ble_eq_true rfl) rfl (fun p e s m args below meth c A C F => ?_)
  unfold wp_L_tick at hw
  refine x_aload_n C dL_tick_0 rfl rfl 2 rfl ?_
  refine x_iconst C (v := (0 : Int32)) dL_tick_1 rfl (by decide) ?_
  refine x_aload_n C dL_tick_2 rfl rfl 0 rfl ?_
  refine x_iload_n C dL_tick_3 rfl rfl 1 rfl ?_
  refine kx_X7_tick C F i_475 ⟨Nat.le_of_ble_eq_true rfl, Nat.le_of_ble_eq_true rfl⟩ ⟨Nat.le_of_ble_eq_true rfl, Nat.le_of_ble_eq_true rfl⟩ (Nat.le_of_ble_eq_true rfl) hw dL_tick_4 rfl (fun r u2 hw => ?_) (fun E u2 hw => ?_)
  · refine x_i2l C dL_tick_7 rfl ?_
    obtain ⟨h1, hw⟩ := hw
    refine pX14_at C h1 dL_tick_8 rfl (fun u3 e3 => ?_)
    have hw := hw u3 e3
    refine x_goto C (tgt := 15) dL_tick_9 rfl (by decide) ?_
    refine x_iconst C (v := (0 : Int32)) dL_tick_15 rfl (by decide) ?_
    exact x_iret C dL_tick_16 rfl (xw_same _ _) ⟨_, _, rfl, rfl, hw⟩
  · obtain ⟨rfl, hw⟩ := hw
    refine x_catch C (F.2.1.2.2 _ (by simp [xdec])) [] ⟨0, 9, 12, 13⟩ [] F.2.2.2 (fun z hz => by cases hz) (by decide) (by decide) i_338 (fun q9 => ?_)
    refine x_astore_n C (lv' := [(3, .ref q9), (0, .ref (L 0)), (1, .int a1), (2, .ref (L 14))]) dL_tick_12 rfl rfl (by decide) rfl ?_
    refine x_iconst C (v := (1 : Int32)) dL_tick_13 rfl (by decide) ?_
    exact x_iret C dL_tick_14 rfl (xw_same _ _) ⟨_, _, rfl, rfl, hw⟩
set_option maxRecDepth 20000 in
theorem k_L_tick (hl : l.stackTraces = false) (C : xCx p s m args meth c G K A nL cc own ret) (hZ : xZq A s) (hN : xNc s) {a1 : Int32} {u : XS} {idx : Nat} {rest : List Value} {Post : Int32 → XS → Prop} (hlink : Cond.methodLink own idx yL_tick ∈ gw_tbl) (hR : 9 + 1 ≤ R.frames ∧ 8 + (4 + 11) + 176 ≤ R.locals) (hf : cells + 1 ≤ R.cells ∧ slots + 6 ≤ R.slots) (hW : (rest.map fun v => v.category).sum ≤ 8) (hw : wp_L_tick cap a1 u Post) (hdg : decode cc n = .ok (.invokestatic idx, 3)) (hp : pc = n) (kk : ∀ (r : Int32) (u' : XS), Post r u' → xV p l e R s m args below meth c G A nL Q (cells + 1) (slots + 6) (xw L K cap u' T) (n + 3) lv (.int r :: rest)) : xV p l e R s m args below meth c G A nL Q cells slots (xw L K cap u T) pc lv (.ref (L 14) :: .int a1 :: .ref (L 0) :: rest) :=
  x_callSW C hZ hN (As := [.ref (L 0), .int a1, .ref (L 14)]) (c_L_tick hl hw) ⟨hlink, i_473, i_0, i_474⟩ (k := 3) (by decide +kernel) rfl hR hf hW rfl hdg hp (fun v ws' ⟨r, u', hv, hws, hPo⟩ _ => by subst hv; subst hws; exact kk r u' hPo)
def wp_L_count (cap : Nat) (a1 : Int32) (u : XS) (Post : Int32 → XS → Prop) : Prop :=
  wp_X7_count cap a1 u (fun r u2 => vp_in (0 : Int32) 1 ∧ (∀ u3 : XS, u3 = Xs_out u2 (vp_updL (X_out u2) (Int32.toNatClampNeg (0 : Int32)) (Int32.toInt64 r)) → Post (0 : Int32) u3)) (fun E u2 => (E = "java/lang/IllegalArgumentException" ∧ Post (1 : Int32) u2))
set_option maxHeartbeats 4000000 in
set_option maxRecDepth 20000 in
theorem c_L_count (hl : l.stackTraces = false) {a1 : Int32} {u : XS} {Post : Int32 → XS → Prop} (hw : wp_L_count cap a1 u Post) : xwMet l yL_count cL_count 4 (some .int) [(0, 9, 12, 13)] 9 171 G K [.ref (L 0), .int a1, .ref (L 14)] (xw L K cap u T) (fun v ws' => ∃ (r : Int32) (u' : XS), v = some (.int r) ∧ ws' = (xw L K cap u' T) ∧ Post r u') := by
  refine xwMet.intro hl (lv := [(0, .ref (L 0)), (1, .int a1), (2, .ref (L 14))]) (by decide) rfl (Nat.le_of_ble_eq_true rfl) rfl (fun p e s m args below meth c A C F => ?_)
  unfold wp_L_count at hw
  refine x_aload_n C dL_count_0 rfl rfl 2 rfl ?_
  refine x_iconst C (v := (0 : Int32)) dL_count_1 rfl (by decide) ?_
  refine x_aload_n C dL_count_2 rfl rfl 0 rfl ?_
  refine x_iload_n C dL_count_3 rfl rfl 1 rfl ?_
  refine kx_X7_count C F i_499 ⟨Nat.le_of_ble_eq_true rfl, Nat.le_of_ble_eq_true rfl⟩ ⟨Nat.le_of_ble_eq_true rfl, Nat.le_of_ble_eq_true rfl⟩ (Nat.le_of_ble_eq_true rfl) hw dL_count_4 rfl (fun r u2 hw => ?_) (fun E u2 hw => ?_)
  · refine x_i2l C dL_count_7 rfl ?_
    obtain ⟨h1, hw⟩ := hw
    refine pX14_at C h1 dL_count_8 rfl (fun u3 e3 => ?_)
    have hw := hw u3 e3
    refine x_goto C (tgt := 15) dL_count_9 rfl (by decide) ?_
    refine x_iconst C (v := (0 : Int32)) dL_count_15 rfl (by decide) ?_
    exact x_iret C dL_count_16 rfl (xw_same _ _) ⟨_, _, rfl, rfl, hw⟩
  · obtain ⟨rfl, hw⟩ := hw
    refine x_catch C (F.2.1.2.2 _ (by simp [xdec])) [] ⟨0, 9, 12, 13⟩ [] F.2.2.2 (fun z hz => by cases hz) (by decide) (by decide) i_338 (fun q9 => ?_)
    refine x_astore_n C (lv' := [(3, .ref q9), (0, .ref (L 0)), (1, .int a1), (2, .ref (L 14))]) dL_count_12 rfl rfl (by decide) rfl ?_
    refine x_iconst C (v := (1 : Int32)) dL_count_13 rfl (by decide) ?_
    exact x_iret C dL_count_14 rfl (xw_same _ _) ⟨_, _, rfl, rfl, hw⟩
set_option maxRecDepth 20000 in
theorem k_L_count (hl : l.stackTraces = false) (C : xCx p s m args meth c G K A nL cc own ret) (hZ : xZq A s) (hN : xNc s) {a1 : Int32} {u : XS} {idx : Nat} {rest : List Value} {Post : Int32 → XS → Prop} (hlink : Cond.methodLink own idx yL_count ∈ gw_tbl) (hR : 9 + 1 ≤ R.frames ∧ 8 + (4 + 11) + 171 ≤ R.locals) (hf : cells + 1 ≤ R.cells ∧ slots + 6 ≤ R.slots) (hW : (rest.map fun v => v.category).sum ≤ 8) (hw : wp_L_count cap a1 u Post) (hdg : decode cc n = .ok (.invokestatic idx, 3)) (hp : pc = n) (kk : ∀ (r : Int32) (u' : XS), Post r u' → xV p l e R s m args below meth c G A nL Q (cells + 1) (slots + 6) (xw L K cap u' T) (n + 3) lv (.int r :: rest)) : xV p l e R s m args below meth c G A nL Q cells slots (xw L K cap u T) pc lv (.ref (L 14) :: .int a1 :: .ref (L 0) :: rest) :=
  x_callSW C hZ hN (As := [.ref (L 0), .int a1, .ref (L 14)]) (c_L_count hl hw) ⟨hlink, i_497, i_0, i_498⟩ (k := 3) (by decide +kernel) rfl hR hf hW rfl hdg hp (fun v ws' ⟨r, u', hv, hws, hPo⟩ _ => by subst hv; subst hws; exact kk r u' hPo)
def wp_L_entry (cap : Nat) (a1 : Int32) (u : XS) (Post : Int32 → XS → Prop) : Prop :=
  wp_X7_entry cap a1 u (fun r u2 => vp_in (0 : Int32) 1 ∧ (∀ u3 : XS, u3 = Xs_out u2 (vp_updL (X_out u2) (Int32.toNatClampNeg (0 : Int32)) (Int32.toInt64 r)) → Post (0 : Int32) u3)) (fun E u2 => (E = "java/lang/IndexOutOfBoundsException" ∧ Post (1 : Int32) u2))
set_option maxHeartbeats 4000000 in
set_option maxRecDepth 20000 in
theorem c_L_entry (hl : l.stackTraces = false) {a1 : Int32} {u : XS} {Post : Int32 → XS → Prop} (hw : wp_L_entry cap a1 u Post) : xwMet l yL_entry cL_entry 4 (some .int) [(0, 9, 12, 39)] 9 171 G K [.ref (L 0), .int a1, .ref (L 14)] (xw L K cap u T) (fun v ws' => ∃ (r : Int32) (u' : XS), v = some (.int r) ∧ ws' = (xw L K cap u' T) ∧ Post r u') := by
  refine xwMet.intro hl (lv := [(0, .ref (L 0)), (1, .int a1), (2, .ref (L 14))]) (by decide) rfl (Nat.le_of_ble_eq_true rfl) rfl (fun p e s m args below meth c A C F => ?_)
  unfold wp_L_entry at hw
  refine x_aload_n C dL_entry_0 rfl rfl 2 rfl ?_
  refine x_iconst C (v := (0 : Int32)) dL_entry_1 rfl (by decide) ?_
  refine x_aload_n C dL_entry_2 rfl rfl 0 rfl ?_
  refine x_iload_n C dL_entry_3 rfl rfl 1 rfl ?_
  refine kx_X7_entry C F i_511 ⟨Nat.le_of_ble_eq_true rfl, Nat.le_of_ble_eq_true rfl⟩ ⟨Nat.le_of_ble_eq_true rfl, Nat.le_of_ble_eq_true rfl⟩ (Nat.le_of_ble_eq_true rfl) hw dL_entry_4 rfl (fun r u2 hw => ?_) (fun E u2 hw => ?_)
  · refine x_i2l C dL_entry_7 rfl ?_
    obtain ⟨h1, hw⟩ := hw
    refine pX14_at C h1 dL_entry_8 rfl (fun u3 e3 => ?_)
    have hw := hw u3 e3
    refine x_goto C (tgt := 15) dL_entry_9 rfl (by decide) ?_
    refine x_iconst C (v := (0 : Int32)) dL_entry_15 rfl (by decide) ?_
    exact x_iret C dL_entry_16 rfl (xw_same _ _) ⟨_, _, rfl, rfl, hw⟩
  · obtain ⟨rfl, hw⟩ := hw
    refine x_catch C (F.2.1.2.2 _ (by simp [xdec])) [] ⟨0, 9, 12, 39⟩ [] F.2.2.2 (fun z hz => by cases hz) (by decide) (by decide) i_510 (fun q9 => ?_)
    refine x_astore_n C (lv' := [(3, .ref q9), (0, .ref (L 0)), (1, .int a1), (2, .ref (L 14))]) dL_entry_12 rfl rfl (by decide) rfl ?_
    refine x_iconst C (v := (1 : Int32)) dL_entry_13 rfl (by decide) ?_
    exact x_iret C dL_entry_14 rfl (xw_same _ _) ⟨_, _, rfl, rfl, hw⟩
set_option maxRecDepth 20000 in
theorem k_L_entry (hl : l.stackTraces = false) (C : xCx p s m args meth c G K A nL cc own ret) (hZ : xZq A s) (hN : xNc s) {a1 : Int32} {u : XS} {idx : Nat} {rest : List Value} {Post : Int32 → XS → Prop} (hlink : Cond.methodLink own idx yL_entry ∈ gw_tbl) (hR : 9 + 1 ≤ R.frames ∧ 8 + (4 + 11) + 171 ≤ R.locals) (hf : cells + 1 ≤ R.cells ∧ slots + 6 ≤ R.slots) (hW : (rest.map fun v => v.category).sum ≤ 8) (hw : wp_L_entry cap a1 u Post) (hdg : decode cc n = .ok (.invokestatic idx, 3)) (hp : pc = n) (kk : ∀ (r : Int32) (u' : XS), Post r u' → xV p l e R s m args below meth c G A nL Q (cells + 1) (slots + 6) (xw L K cap u' T) (n + 3) lv (.int r :: rest)) : xV p l e R s m args below meth c G A nL Q cells slots (xw L K cap u T) pc lv (.ref (L 14) :: .int a1 :: .ref (L 0) :: rest) :=
  x_callSW C hZ hN (As := [.ref (L 0), .int a1, .ref (L 14)]) (c_L_entry hl hw) ⟨hlink, i_508, i_0, i_509⟩ (k := 3) (by decide +kernel) rfl hR hf hW rfl hdg hp (fun v ws' ⟨r, u', hv, hws, hPo⟩ _ => by subst hv; subst hws; exact kk r u' hPo)
def wp_L_about (cap : Nat) (a1 : Int32) (a2 : Int32) (u : XS) (Post : Int32 → XS → Prop) : Prop :=
  wp_X7_about cap a1 a2 u (fun r u2 => vp_in (0 : Int32) 1 ∧ (∀ u3 : XS, u3 = Xs_out u2 (vp_updL (X_out u2) (Int32.toNatClampNeg (0 : Int32)) (Int32.toInt64 r)) → Post (0 : Int32) u3)) (fun E u2 => (E = "java/lang/IllegalArgumentException" ∧ Post (1 : Int32) u2) ∨ (E = "java/util/NoSuchElementException" ∧ Post (2 : Int32) u2))
set_option maxHeartbeats 4000000 in
set_option maxRecDepth 20000 in
theorem c_L_about (hl : l.stackTraces = false) {a1 : Int32} {a2 : Int32} {u : XS} {Post : Int32 → XS → Prop} (hw : wp_L_about cap a1 a2 u Post) : xwMet l yL_about cL_about 5 (some .int) [(0, 10, 13, 13), (0, 10, 17, 44)] 9 174 G K [.ref (L 0), .int a1, .int a2, .ref (L 14)] (xw L K cap u T) (fun v ws' => ∃ (r : Int32) (u' : XS), v = some (.int r) ∧ ws' = (xw L K cap u' T) ∧ Post r u') := by
  refine xwMet.intro hl (lv := [(0, .ref (L 0)), (1, .int a1), (2, .int a2), (3, .ref (L 14))]) (by decide) rfl (Nat.le_of_ble_eq_true rfl) rfl (fun p e s m args below meth c A C F => ?_)
  unfold wp_L_about at hw
  refine x_aload_n C dL_about_0 rfl rfl 3 rfl ?_
  refine x_iconst C (v := (0 : Int32)) dL_about_1 rfl (by decide) ?_
  refine x_aload_n C dL_about_2 rfl rfl 0 rfl ?_
  refine x_iload_n C dL_about_3 rfl rfl 1 rfl ?_
  refine x_iload_n C dL_about_4 rfl rfl 2 rfl ?_
  refine kx_X7_about C F i_534 ⟨Nat.le_of_ble_eq_true rfl, Nat.le_of_ble_eq_true rfl⟩ ⟨Nat.le_of_ble_eq_true rfl, Nat.le_of_ble_eq_true rfl⟩ (Nat.le_of_ble_eq_true rfl) hw dL_about_5 rfl (fun r u2 hw => ?_) (fun E u2 hw => ?_)
  · refine x_i2l C dL_about_8 rfl ?_
    obtain ⟨h1, hw⟩ := hw
    refine pX14_at C h1 dL_about_9 rfl (fun u3 e3 => ?_)
    have hw := hw u3 e3
    refine x_goto C (tgt := 21) dL_about_10 rfl (by decide) ?_
    refine x_iconst C (v := (0 : Int32)) dL_about_21 rfl (by decide) ?_
    exact x_iret C dL_about_22 rfl (xw_same _ _) ⟨_, _, rfl, rfl, hw⟩
  · rcases hw with ⟨rfl, hw⟩ | ⟨rfl, hw⟩
    · refine x_catch C (F.2.1.2.2 _ (by simp [xdec])) [] ⟨0, 10, 13, 13⟩ [⟨0, 10, 17, 44⟩] F.2.2.2 (fun z hz => by cases hz) (by decide) (by decide) i_338 (fun q9 => ?_)
      refine x_astore C (lv' := [(4, .ref q9), (0, .ref (L 0)), (1, .int a1), (2, .int a2), (3, .ref (L 14))]) dL_about_13 rfl (by decide) rfl ?_
      refine x_iconst C (v := (1 : Int32)) dL_about_15 rfl (by decide) ?_
      exact x_iret C dL_about_16 rfl (xw_same _ _) ⟨_, _, rfl, rfl, hw⟩
    · refine x_catch C (F.2.1.2.2 _ (by simp [xdec])) [⟨0, 10, 13, 13⟩] ⟨0, 10, 17, 44⟩ [] F.2.2.2 (fun z hz => by rcases List.mem_singleton.mp hz with rfl; exact Or.inr ⟨by decide, "java/lang/IllegalArgumentException", C.2.2.2.2.2.2.1 _ i_338, F.2.2.1.2.1⟩) (by decide) (by decide) i_533 (fun q9 => ?_)
      refine x_astore C (lv' := [(4, .ref q9), (0, .ref (L 0)), (1, .int a1), (2, .int a2), (3, .ref (L 14))]) dL_about_17 rfl (by decide) rfl ?_
      refine x_iconst C (v := (2 : Int32)) dL_about_19 rfl (by decide) ?_
      exact x_iret C dL_about_20 rfl (xw_same _ _) ⟨_, _, rfl, rfl, hw⟩
set_option maxRecDepth 20000 in
theorem k_L_about (hl : l.stackTraces = false) (C : xCx p s m args meth c G K A nL cc own ret) (hZ : xZq A s) (hN : xNc s) {a1 : Int32} {a2 : Int32} {u : XS} {idx : Nat} {rest : List Value} {Post : Int32 → XS → Prop} (hlink : Cond.methodLink own idx yL_about ∈ gw_tbl) (hR : 9 + 1 ≤ R.frames ∧ 8 + (5 + 11) + 174 ≤ R.locals) (hf : cells + 1 ≤ R.cells ∧ slots + 6 ≤ R.slots) (hW : (rest.map fun v => v.category).sum ≤ 8) (hw : wp_L_about cap a1 a2 u Post) (hdg : decode cc n = .ok (.invokestatic idx, 3)) (hp : pc = n) (kk : ∀ (r : Int32) (u' : XS), Post r u' → xV p l e R s m args below meth c G A nL Q (cells + 1) (slots + 6) (xw L K cap u' T) (n + 3) lv (.int r :: rest)) : xV p l e R s m args below meth c G A nL Q cells slots (xw L K cap u T) pc lv (.ref (L 14) :: .int a2 :: .int a1 :: .ref (L 0) :: rest) :=
  x_callSW C hZ hN (As := [.ref (L 0), .int a1, .int a2, .ref (L 14)]) (c_L_about hl hw) ⟨hlink, i_531, i_0, i_532⟩ (k := 4) (by decide +kernel) rfl hR hf hW rfl hdg hp (fun v ws' ⟨r, u', hv, hws, hPo⟩ _ => by subst hv; subst hws; exact kk r u' hPo)
def wp_L_hardware (cap : Nat) (a1 : Int32) (u : XS) (Post : Int32 → XS → Prop) : Prop :=
  wp_X7_hardware cap a1 u (fun r u2 => vp_in (0 : Int32) 1 ∧ (∀ u3 : XS, u3 = Xs_out u2 (vp_updL (X_out u2) (Int32.toNatClampNeg (0 : Int32)) r) → Post (0 : Int32) u3)) (fun E u2 => (E = "java/util/NoSuchElementException" ∧ Post (1 : Int32) u2))
set_option maxHeartbeats 4000000 in
set_option maxRecDepth 20000 in
theorem c_L_hardware (hl : l.stackTraces = false) {a1 : Int32} {u : XS} {Post : Int32 → XS → Prop} (hw : wp_L_hardware cap a1 u Post) : xwMet l yL_hardware cL_hardware 4 (some .int) [(0, 8, 11, 44)] 9 172 G K [.ref (L 0), .int a1, .ref (L 14)] (xw L K cap u T) (fun v ws' => ∃ (r : Int32) (u' : XS), v = some (.int r) ∧ ws' = (xw L K cap u' T) ∧ Post r u') := by
  refine xwMet.intro hl (lv := [(0, .ref (L 0)), (1, .int a1), (2, .ref (L 14))]) (by decide) rfl (Nat.le_of_ble_eq_true rfl) rfl (fun p e s m args below meth c A C F => ?_)
  unfold wp_L_hardware at hw
  refine x_aload_n C dL_hardware_0 rfl rfl 2 rfl ?_
  refine x_iconst C (v := (0 : Int32)) dL_hardware_1 rfl (by decide) ?_
  refine x_aload_n C dL_hardware_2 rfl rfl 0 rfl ?_
  refine x_iload_n C dL_hardware_3 rfl rfl 1 rfl ?_
  refine kx_X7_hardware C F i_556 ⟨Nat.le_of_ble_eq_true rfl, Nat.le_of_ble_eq_true rfl⟩ ⟨Nat.le_of_ble_eq_true rfl, Nat.le_of_ble_eq_true rfl⟩ (Nat.le_of_ble_eq_true rfl) hw dL_hardware_4 rfl (fun r u2 hw => ?_) (fun E u2 hw => ?_)
  · obtain ⟨h1, hw⟩ := hw
    refine pX14_at C h1 dL_hardware_7 rfl (fun u3 e3 => ?_)
    have hw := hw u3 e3
    refine x_goto C (tgt := 14) dL_hardware_8 rfl (by decide) ?_
    refine x_iconst C (v := (0 : Int32)) dL_hardware_14 rfl (by decide) ?_
    exact x_iret C dL_hardware_15 rfl (xw_same _ _) ⟨_, _, rfl, rfl, hw⟩
  · obtain ⟨rfl, hw⟩ := hw
    refine x_catch C (F.2.1.2.2 _ (by simp [xdec])) [] ⟨0, 8, 11, 44⟩ [] F.2.2.2 (fun z hz => by cases hz) (by decide) (by decide) i_533 (fun q9 => ?_)
    refine x_astore_n C (lv' := [(3, .ref q9), (0, .ref (L 0)), (1, .int a1), (2, .ref (L 14))]) dL_hardware_11 rfl rfl (by decide) rfl ?_
    refine x_iconst C (v := (1 : Int32)) dL_hardware_12 rfl (by decide) ?_
    exact x_iret C dL_hardware_13 rfl (xw_same _ _) ⟨_, _, rfl, rfl, hw⟩
set_option maxRecDepth 20000 in
theorem k_L_hardware (hl : l.stackTraces = false) (C : xCx p s m args meth c G K A nL cc own ret) (hZ : xZq A s) (hN : xNc s) {a1 : Int32} {u : XS} {idx : Nat} {rest : List Value} {Post : Int32 → XS → Prop} (hlink : Cond.methodLink own idx yL_hardware ∈ gw_tbl) (hR : 9 + 1 ≤ R.frames ∧ 8 + (4 + 11) + 172 ≤ R.locals) (hf : cells + 1 ≤ R.cells ∧ slots + 6 ≤ R.slots) (hW : (rest.map fun v => v.category).sum ≤ 8) (hw : wp_L_hardware cap a1 u Post) (hdg : decode cc n = .ok (.invokestatic idx, 3)) (hp : pc = n) (kk : ∀ (r : Int32) (u' : XS), Post r u' → xV p l e R s m args below meth c G A nL Q (cells + 1) (slots + 6) (xw L K cap u' T) (n + 3) lv (.int r :: rest)) : xV p l e R s m args below meth c G A nL Q cells slots (xw L K cap u T) pc lv (.ref (L 14) :: .int a1 :: .ref (L 0) :: rest) :=
  x_callSW C hZ hN (As := [.ref (L 0), .int a1, .ref (L 14)]) (c_L_hardware hl hw) ⟨hlink, i_554, i_0, i_555⟩ (k := 3) (by decide +kernel) rfl hR hf hW rfl hdg hp (fun v ws' ⟨r, u', hv, hws, hPo⟩ _ => by subst hv; subst hws; exact kk r u' hPo)
def wp_L_waits (cap : Nat) (a1 : Int32) (a2 : Int32) (u : XS) (Post : Int32 → XS → Prop) : Prop :=
  wp_X7_waits cap a1 a2 u (fun r u2 => vp_in (0 : Int32) 1 ∧ (∀ u3 : XS, u3 = Xs_out u2 (vp_updL (X_out u2) (Int32.toNatClampNeg (0 : Int32)) (Int32.toInt64 r)) → Post (0 : Int32) u3)) (fun E u2 => (E = "java/util/NoSuchElementException" ∧ Post (1 : Int32) u2) ∨ (E = "java/lang/IndexOutOfBoundsException" ∧ Post (2 : Int32) u2))
set_option maxHeartbeats 4000000 in
set_option maxRecDepth 20000 in
theorem c_L_waits (hl : l.stackTraces = false) {a1 : Int32} {a2 : Int32} {u : XS} {Post : Int32 → XS → Prop} (hw : wp_L_waits cap a1 a2 u Post) : xwMet l yL_waits cL_waits 5 (some .int) [(0, 10, 13, 44), (0, 10, 17, 39)] 9 174 G K [.ref (L 0), .int a1, .int a2, .ref (L 14)] (xw L K cap u T) (fun v ws' => ∃ (r : Int32) (u' : XS), v = some (.int r) ∧ ws' = (xw L K cap u' T) ∧ Post r u') := by
  refine xwMet.intro hl (lv := [(0, .ref (L 0)), (1, .int a1), (2, .int a2), (3, .ref (L 14))]) (by decide) rfl (Nat.le_of_ble_eq_true rfl) rfl (fun p e s m args below meth c A C F => ?_)
  unfold wp_L_waits at hw
  refine x_aload_n C dL_waits_0 rfl rfl 3 rfl ?_
  refine x_iconst C (v := (0 : Int32)) dL_waits_1 rfl (by decide) ?_
  refine x_aload_n C dL_waits_2 rfl rfl 0 rfl ?_
  refine x_iload_n C dL_waits_3 rfl rfl 1 rfl ?_
  refine x_iload_n C dL_waits_4 rfl rfl 2 rfl ?_
  refine kx_X7_waits C F i_563 ⟨Nat.le_of_ble_eq_true rfl, Nat.le_of_ble_eq_true rfl⟩ ⟨Nat.le_of_ble_eq_true rfl, Nat.le_of_ble_eq_true rfl⟩ (Nat.le_of_ble_eq_true rfl) hw dL_waits_5 rfl (fun r u2 hw => ?_) (fun E u2 hw => ?_)
  · refine x_i2l C dL_waits_8 rfl ?_
    obtain ⟨h1, hw⟩ := hw
    refine pX14_at C h1 dL_waits_9 rfl (fun u3 e3 => ?_)
    have hw := hw u3 e3
    refine x_goto C (tgt := 21) dL_waits_10 rfl (by decide) ?_
    refine x_iconst C (v := (0 : Int32)) dL_waits_21 rfl (by decide) ?_
    exact x_iret C dL_waits_22 rfl (xw_same _ _) ⟨_, _, rfl, rfl, hw⟩
  · rcases hw with ⟨rfl, hw⟩ | ⟨rfl, hw⟩
    · refine x_catch C (F.2.1.2.2 _ (by simp [xdec])) [] ⟨0, 10, 13, 44⟩ [⟨0, 10, 17, 39⟩] F.2.2.2 (fun z hz => by cases hz) (by decide) (by decide) i_533 (fun q9 => ?_)
      refine x_astore C (lv' := [(4, .ref q9), (0, .ref (L 0)), (1, .int a1), (2, .int a2), (3, .ref (L 14))]) dL_waits_13 rfl (by decide) rfl ?_
      refine x_iconst C (v := (1 : Int32)) dL_waits_15 rfl (by decide) ?_
      exact x_iret C dL_waits_16 rfl (xw_same _ _) ⟨_, _, rfl, rfl, hw⟩
    · refine x_catch C (F.2.1.2.2 _ (by simp [xdec])) [⟨0, 10, 13, 44⟩] ⟨0, 10, 17, 39⟩ [] F.2.2.2 (fun z hz => by rcases List.mem_singleton.mp hz with rfl; exact Or.inr ⟨by decide, "java/util/NoSuchElementException", C.2.2.2.2.2.2.1 _ i_533, F.2.2.1.2.2⟩) (by decide) (by decide) i_510 (fun q9 => ?_)
      refine x_astore C (lv' := [(4, .ref q9), (0, .ref (L 0)), (1, .int a1), (2, .int a2), (3, .ref (L 14))]) dL_waits_17 rfl (by decide) rfl ?_
      refine x_iconst C (v := (2 : Int32)) dL_waits_19 rfl (by decide) ?_
      exact x_iret C dL_waits_20 rfl (xw_same _ _) ⟨_, _, rfl, rfl, hw⟩
set_option maxRecDepth 20000 in
theorem k_L_waits (hl : l.stackTraces = false) (C : xCx p s m args meth c G K A nL cc own ret) (hZ : xZq A s) (hN : xNc s) {a1 : Int32} {a2 : Int32} {u : XS} {idx : Nat} {rest : List Value} {Post : Int32 → XS → Prop} (hlink : Cond.methodLink own idx yL_waits ∈ gw_tbl) (hR : 9 + 1 ≤ R.frames ∧ 8 + (5 + 11) + 174 ≤ R.locals) (hf : cells + 1 ≤ R.cells ∧ slots + 6 ≤ R.slots) (hW : (rest.map fun v => v.category).sum ≤ 8) (hw : wp_L_waits cap a1 a2 u Post) (hdg : decode cc n = .ok (.invokestatic idx, 3)) (hp : pc = n) (kk : ∀ (r : Int32) (u' : XS), Post r u' → xV p l e R s m args below meth c G A nL Q (cells + 1) (slots + 6) (xw L K cap u' T) (n + 3) lv (.int r :: rest)) : xV p l e R s m args below meth c G A nL Q cells slots (xw L K cap u T) pc lv (.ref (L 14) :: .int a2 :: .int a1 :: .ref (L 0) :: rest) :=
  x_callSW C hZ hN (As := [.ref (L 0), .int a1, .int a2, .ref (L 14)]) (c_L_waits hl hw) ⟨hlink, i_561, i_0, i_562⟩ (k := 4) (by decide +kernel) rfl hR hf hW rfl hdg hp (fun v ws' ⟨r, u', hv, hws, hPo⟩ _ => by subst hv; subst hws; exact kk r u' hPo)
def wp_L_to (cap : Nat) (a1 : Int32) (u : XS) (Post : Int32 → XS → Prop) : Prop :=
  wp_X7_to cap a1 u (fun r u2 => vp_in (0 : Int32) 1 ∧ (∀ u3 : XS, u3 = Xs_out u2 (vp_updL (X_out u2) (Int32.toNatClampNeg (0 : Int32)) r) → Post (0 : Int32) u3)) (fun E u2 => (E = "java/lang/IndexOutOfBoundsException" ∧ Post (1 : Int32) u2))
set_option maxHeartbeats 4000000 in
set_option maxRecDepth 20000 in
theorem c_L_to (hl : l.stackTraces = false) {a1 : Int32} {u : XS} {Post : Int32 → XS → Prop} (hw : wp_L_to cap a1 u Post) : xwMet l yL_to cL_to 4 (some .int) [(0, 8, 11, 39)] 9 171 G K [.ref (L 0), .int a1, .ref (L 14)] (xw L K cap u T) (fun v ws' => ∃ (r : Int32) (u' : XS), v = some (.int r) ∧ ws' = (xw L K cap u' T) ∧ Post r u') := by
  refine xwMet.intro hl (lv := [(0, .ref (L 0)), (1, .int a1), (2, .ref (L 14))]) (by decide) rfl (Nat.le_of_ble_eq_true rfl) rfl (fun p e s m args below meth c A C F => ?_)
  unfold wp_L_to at hw
  refine x_aload_n C dL_to_0 rfl rfl 2 rfl ?_
  refine x_iconst C (v := (0 : Int32)) dL_to_1 rfl (by decide) ?_
  refine x_aload_n C dL_to_2 rfl rfl 0 rfl ?_
  refine x_iload_n C dL_to_3 rfl rfl 1 rfl ?_
  refine kx_X7_to C F i_570 ⟨Nat.le_of_ble_eq_true rfl, Nat.le_of_ble_eq_true rfl⟩ ⟨Nat.le_of_ble_eq_true rfl, Nat.le_of_ble_eq_true rfl⟩ (Nat.le_of_ble_eq_true rfl) hw dL_to_4 rfl (fun r u2 hw => ?_) (fun E u2 hw => ?_)
  · obtain ⟨h1, hw⟩ := hw
    refine pX14_at C h1 dL_to_7 rfl (fun u3 e3 => ?_)
    have hw := hw u3 e3
    refine x_goto C (tgt := 14) dL_to_8 rfl (by decide) ?_
    refine x_iconst C (v := (0 : Int32)) dL_to_14 rfl (by decide) ?_
    exact x_iret C dL_to_15 rfl (xw_same _ _) ⟨_, _, rfl, rfl, hw⟩
  · obtain ⟨rfl, hw⟩ := hw
    refine x_catch C (F.2.1.2.2 _ (by simp [xdec])) [] ⟨0, 8, 11, 39⟩ [] F.2.2.2 (fun z hz => by cases hz) (by decide) (by decide) i_510 (fun q9 => ?_)
    refine x_astore_n C (lv' := [(3, .ref q9), (0, .ref (L 0)), (1, .int a1), (2, .ref (L 14))]) dL_to_11 rfl rfl (by decide) rfl ?_
    refine x_iconst C (v := (1 : Int32)) dL_to_12 rfl (by decide) ?_
    exact x_iret C dL_to_13 rfl (xw_same _ _) ⟨_, _, rfl, rfl, hw⟩
set_option maxRecDepth 20000 in
theorem k_L_to (hl : l.stackTraces = false) (C : xCx p s m args meth c G K A nL cc own ret) (hZ : xZq A s) (hN : xNc s) {a1 : Int32} {u : XS} {idx : Nat} {rest : List Value} {Post : Int32 → XS → Prop} (hlink : Cond.methodLink own idx yL_to ∈ gw_tbl) (hR : 9 + 1 ≤ R.frames ∧ 8 + (4 + 11) + 171 ≤ R.locals) (hf : cells + 1 ≤ R.cells ∧ slots + 6 ≤ R.slots) (hW : (rest.map fun v => v.category).sum ≤ 8) (hw : wp_L_to cap a1 u Post) (hdg : decode cc n = .ok (.invokestatic idx, 3)) (hp : pc = n) (kk : ∀ (r : Int32) (u' : XS), Post r u' → xV p l e R s m args below meth c G A nL Q (cells + 1) (slots + 6) (xw L K cap u' T) (n + 3) lv (.int r :: rest)) : xV p l e R s m args below meth c G A nL Q cells slots (xw L K cap u T) pc lv (.ref (L 14) :: .int a1 :: .ref (L 0) :: rest) :=
  x_callSW C hZ hN (As := [.ref (L 0), .int a1, .ref (L 14)]) (c_L_to hl hw) ⟨hlink, i_568, i_0, i_569⟩ (k := 3) (by decide +kernel) rfl hR hf hW rfl hdg hp (fun v ws' ⟨r, u', hv, hws, hPo⟩ _ => by subst hv; subst hws; exact kk r u' hPo)
def wp_L_data (cap : Nat) (a1 : Int32) (u : XS) (Post : Int32 → XS → Prop) : Prop :=
  wp_X7_data cap a1 u (fun r u2 => vp_in (0 : Int32) 1 ∧ (∀ u3 : XS, u3 = Xs_out u2 (vp_updL (X_out u2) (Int32.toNatClampNeg (0 : Int32)) (Int32.toInt64 r)) → Post (0 : Int32) u3)) (fun E u2 => (E = "java/lang/IndexOutOfBoundsException" ∧ Post (1 : Int32) u2))
set_option maxHeartbeats 4000000 in
set_option maxRecDepth 20000 in
theorem c_L_data (hl : l.stackTraces = false) {a1 : Int32} {u : XS} {Post : Int32 → XS → Prop} (hw : wp_L_data cap a1 u Post) : xwMet l yL_data cL_data 4 (some .int) [(0, 9, 12, 39)] 9 171 G K [.ref (L 0), .int a1, .ref (L 14)] (xw L K cap u T) (fun v ws' => ∃ (r : Int32) (u' : XS), v = some (.int r) ∧ ws' = (xw L K cap u' T) ∧ Post r u') := by
  refine xwMet.intro hl (lv := [(0, .ref (L 0)), (1, .int a1), (2, .ref (L 14))]) (by decide) rfl (Nat.le_of_ble_eq_true rfl) rfl (fun p e s m args below meth c A C F => ?_)
  unfold wp_L_data at hw
  refine x_aload_n C dL_data_0 rfl rfl 2 rfl ?_
  refine x_iconst C (v := (0 : Int32)) dL_data_1 rfl (by decide) ?_
  refine x_aload_n C dL_data_2 rfl rfl 0 rfl ?_
  refine x_iload_n C dL_data_3 rfl rfl 1 rfl ?_
  refine kx_X7_data C F i_586 ⟨Nat.le_of_ble_eq_true rfl, Nat.le_of_ble_eq_true rfl⟩ ⟨Nat.le_of_ble_eq_true rfl, Nat.le_of_ble_eq_true rfl⟩ (Nat.le_of_ble_eq_true rfl) hw dL_data_4 rfl (fun r u2 hw => ?_) (fun E u2 hw => ?_)
  · refine x_i2l C dL_data_7 rfl ?_
    obtain ⟨h1, hw⟩ := hw
    refine pX14_at C h1 dL_data_8 rfl (fun u3 e3 => ?_)
    have hw := hw u3 e3
    refine x_goto C (tgt := 15) dL_data_9 rfl (by decide) ?_
    refine x_iconst C (v := (0 : Int32)) dL_data_15 rfl (by decide) ?_
    exact x_iret C dL_data_16 rfl (xw_same _ _) ⟨_, _, rfl, rfl, hw⟩
  · obtain ⟨rfl, hw⟩ := hw
    refine x_catch C (F.2.1.2.2 _ (by simp [xdec])) [] ⟨0, 9, 12, 39⟩ [] F.2.2.2 (fun z hz => by cases hz) (by decide) (by decide) i_510 (fun q9 => ?_)
    refine x_astore_n C (lv' := [(3, .ref q9), (0, .ref (L 0)), (1, .int a1), (2, .ref (L 14))]) dL_data_12 rfl rfl (by decide) rfl ?_
    refine x_iconst C (v := (1 : Int32)) dL_data_13 rfl (by decide) ?_
    exact x_iret C dL_data_14 rfl (xw_same _ _) ⟨_, _, rfl, rfl, hw⟩
set_option maxRecDepth 20000 in
theorem k_L_data (hl : l.stackTraces = false) (C : xCx p s m args meth c G K A nL cc own ret) (hZ : xZq A s) (hN : xNc s) {a1 : Int32} {u : XS} {idx : Nat} {rest : List Value} {Post : Int32 → XS → Prop} (hlink : Cond.methodLink own idx yL_data ∈ gw_tbl) (hR : 9 + 1 ≤ R.frames ∧ 8 + (4 + 11) + 171 ≤ R.locals) (hf : cells + 1 ≤ R.cells ∧ slots + 6 ≤ R.slots) (hW : (rest.map fun v => v.category).sum ≤ 8) (hw : wp_L_data cap a1 u Post) (hdg : decode cc n = .ok (.invokestatic idx, 3)) (hp : pc = n) (kk : ∀ (r : Int32) (u' : XS), Post r u' → xV p l e R s m args below meth c G A nL Q (cells + 1) (slots + 6) (xw L K cap u' T) (n + 3) lv (.int r :: rest)) : xV p l e R s m args below meth c G A nL Q cells slots (xw L K cap u T) pc lv (.ref (L 14) :: .int a1 :: .ref (L 0) :: rest) :=
  x_callSW C hZ hN (As := [.ref (L 0), .int a1, .ref (L 14)]) (c_L_data hl hw) ⟨hlink, i_584, i_0, i_585⟩ (k := 3) (by decide +kernel) rfl hR hf hW rfl hdg hp (fun v ws' ⟨r, u', hv, hws, hPo⟩ _ => by subst hv; subst hws; exact kk r u' hPo)
def wp_L_out (cap : Nat) (a1 : Int32) (a2 : Int32) (u : XS) (Post : Int32 → XS → Prop) : Prop :=
  wp_X7_out cap a1 a2 u (fun r u2 => vp_in (0 : Int32) 1 ∧ (∀ u3 : XS, u3 = Xs_out u2 (vp_updL (X_out u2) (Int32.toNatClampNeg (0 : Int32)) (Int32.toInt64 r)) → Post (0 : Int32) u3)) (fun E u2 => (E = "java/lang/IndexOutOfBoundsException" ∧ Post (1 : Int32) u2))
set_option maxHeartbeats 4000000 in
set_option maxRecDepth 20000 in
theorem c_L_out (hl : l.stackTraces = false) {a1 : Int32} {a2 : Int32} {u : XS} {Post : Int32 → XS → Prop} (hw : wp_L_out cap a1 a2 u Post) : xwMet l yL_out cL_out 5 (some .int) [(0, 10, 13, 39)] 9 172 G K [.ref (L 0), .int a1, .int a2, .ref (L 14)] (xw L K cap u T) (fun v ws' => ∃ (r : Int32) (u' : XS), v = some (.int r) ∧ ws' = (xw L K cap u' T) ∧ Post r u') := by
  refine xwMet.intro hl (lv := [(0, .ref (L 0)), (1, .int a1), (2, .int a2), (3, .ref (L 14))]) (by decide) rfl (Nat.le_of_ble_eq_true rfl) rfl (fun p e s m args below meth c A C F => ?_)
  unfold wp_L_out at hw
  refine x_aload_n C dL_out_0 rfl rfl 3 rfl ?_
  refine x_iconst C (v := (0 : Int32)) dL_out_1 rfl (by decide) ?_
  refine x_aload_n C dL_out_2 rfl rfl 0 rfl ?_
  refine x_iload_n C dL_out_3 rfl rfl 1 rfl ?_
  refine x_iload_n C dL_out_4 rfl rfl 2 rfl ?_
  refine kx_X7_out C F i_593 ⟨Nat.le_of_ble_eq_true rfl, Nat.le_of_ble_eq_true rfl⟩ ⟨Nat.le_of_ble_eq_true rfl, Nat.le_of_ble_eq_true rfl⟩ (Nat.le_of_ble_eq_true rfl) hw dL_out_5 rfl (fun r u2 hw => ?_) (fun E u2 hw => ?_)
  · refine x_i2l C dL_out_8 rfl ?_
    obtain ⟨h1, hw⟩ := hw
    refine pX14_at C h1 dL_out_9 rfl (fun u3 e3 => ?_)
    have hw := hw u3 e3
    refine x_goto C (tgt := 17) dL_out_10 rfl (by decide) ?_
    refine x_iconst C (v := (0 : Int32)) dL_out_17 rfl (by decide) ?_
    exact x_iret C dL_out_18 rfl (xw_same _ _) ⟨_, _, rfl, rfl, hw⟩
  · obtain ⟨rfl, hw⟩ := hw
    refine x_catch C (F.2.1.2.2 _ (by simp [xdec])) [] ⟨0, 10, 13, 39⟩ [] F.2.2.2 (fun z hz => by cases hz) (by decide) (by decide) i_510 (fun q9 => ?_)
    refine x_astore C (lv' := [(4, .ref q9), (0, .ref (L 0)), (1, .int a1), (2, .int a2), (3, .ref (L 14))]) dL_out_13 rfl (by decide) rfl ?_
    refine x_iconst C (v := (1 : Int32)) dL_out_15 rfl (by decide) ?_
    exact x_iret C dL_out_16 rfl (xw_same _ _) ⟨_, _, rfl, rfl, hw⟩
set_option maxRecDepth 20000 in
theorem k_L_out (hl : l.stackTraces = false) (C : xCx p s m args meth c G K A nL cc own ret) (hZ : xZq A s) (hN : xNc s) {a1 : Int32} {a2 : Int32} {u : XS} {idx : Nat} {rest : List Value} {Post : Int32 → XS → Prop} (hlink : Cond.methodLink own idx yL_out ∈ gw_tbl) (hR : 9 + 1 ≤ R.frames ∧ 8 + (5 + 11) + 172 ≤ R.locals) (hf : cells + 1 ≤ R.cells ∧ slots + 6 ≤ R.slots) (hW : (rest.map fun v => v.category).sum ≤ 8) (hw : wp_L_out cap a1 a2 u Post) (hdg : decode cc n = .ok (.invokestatic idx, 3)) (hp : pc = n) (kk : ∀ (r : Int32) (u' : XS), Post r u' → xV p l e R s m args below meth c G A nL Q (cells + 1) (slots + 6) (xw L K cap u' T) (n + 3) lv (.int r :: rest)) : xV p l e R s m args below meth c G A nL Q cells slots (xw L K cap u T) pc lv (.ref (L 14) :: .int a2 :: .int a1 :: .ref (L 0) :: rest) :=
  x_callSW C hZ hN (As := [.ref (L 0), .int a1, .int a2, .ref (L 14)]) (c_L_out hl hw) ⟨hlink, i_591, i_0, i_592⟩ (k := 4) (by decide +kernel) rfl hR hf hW rfl hdg hp (fun v ws' ⟨r, u', hv, hws, hPo⟩ _ => by subst hv; subst hws; exact kk r u' hPo)
def wp_L_lost (cap : Nat) (a1 : Int32) (u : XS) (Post : Int32 → XS → Prop) : Prop :=
  wp_X7_lost cap a1 u (fun r u2 => vp_in (0 : Int32) 1 ∧ (∀ u3 : XS, u3 = Xs_out u2 (vp_updL (X_out u2) (Int32.toNatClampNeg (0 : Int32)) (Int32.toInt64 r)) → Post (0 : Int32) u3)) (fun E u2 => (E = "java/lang/IndexOutOfBoundsException" ∧ Post (1 : Int32) u2))
set_option maxHeartbeats 4000000 in
set_option maxRecDepth 20000 in
theorem c_L_lost (hl : l.stackTraces = false) {a1 : Int32} {u : XS} {Post : Int32 → XS → Prop} (hw : wp_L_lost cap a1 u Post) : xwMet l yL_lost cL_lost 4 (some .int) [(0, 9, 12, 39)] 9 171 G K [.ref (L 0), .int a1, .ref (L 14)] (xw L K cap u T) (fun v ws' => ∃ (r : Int32) (u' : XS), v = some (.int r) ∧ ws' = (xw L K cap u' T) ∧ Post r u') := by
  refine xwMet.intro hl (lv := [(0, .ref (L 0)), (1, .int a1), (2, .ref (L 14))]) (by decide) rfl (Nat.le_of_ble_eq_true rfl) rfl (fun p e s m args below meth c A C F => ?_)
  unfold wp_L_lost at hw
  refine x_aload_n C dL_lost_0 rfl rfl 2 rfl ?_
  refine x_iconst C (v := (0 : Int32)) dL_lost_1 rfl (by decide) ?_
  refine x_aload_n C dL_lost_2 rfl rfl 0 rfl ?_
  refine x_iload_n C dL_lost_3 rfl rfl 1 rfl ?_
  refine kx_X7_lost C F i_609 ⟨Nat.le_of_ble_eq_true rfl, Nat.le_of_ble_eq_true rfl⟩ ⟨Nat.le_of_ble_eq_true rfl, Nat.le_of_ble_eq_true rfl⟩ (Nat.le_of_ble_eq_true rfl) hw dL_lost_4 rfl (fun r u2 hw => ?_) (fun E u2 hw => ?_)
  · refine x_i2l C dL_lost_7 rfl ?_
    obtain ⟨h1, hw⟩ := hw
    refine pX14_at C h1 dL_lost_8 rfl (fun u3 e3 => ?_)
    have hw := hw u3 e3
    refine x_goto C (tgt := 15) dL_lost_9 rfl (by decide) ?_
    refine x_iconst C (v := (0 : Int32)) dL_lost_15 rfl (by decide) ?_
    exact x_iret C dL_lost_16 rfl (xw_same _ _) ⟨_, _, rfl, rfl, hw⟩
  · obtain ⟨rfl, hw⟩ := hw
    refine x_catch C (F.2.1.2.2 _ (by simp [xdec])) [] ⟨0, 9, 12, 39⟩ [] F.2.2.2 (fun z hz => by cases hz) (by decide) (by decide) i_510 (fun q9 => ?_)
    refine x_astore_n C (lv' := [(3, .ref q9), (0, .ref (L 0)), (1, .int a1), (2, .ref (L 14))]) dL_lost_12 rfl rfl (by decide) rfl ?_
    refine x_iconst C (v := (1 : Int32)) dL_lost_13 rfl (by decide) ?_
    exact x_iret C dL_lost_14 rfl (xw_same _ _) ⟨_, _, rfl, rfl, hw⟩
set_option maxRecDepth 20000 in
theorem k_L_lost (hl : l.stackTraces = false) (C : xCx p s m args meth c G K A nL cc own ret) (hZ : xZq A s) (hN : xNc s) {a1 : Int32} {u : XS} {idx : Nat} {rest : List Value} {Post : Int32 → XS → Prop} (hlink : Cond.methodLink own idx yL_lost ∈ gw_tbl) (hR : 9 + 1 ≤ R.frames ∧ 8 + (4 + 11) + 171 ≤ R.locals) (hf : cells + 1 ≤ R.cells ∧ slots + 6 ≤ R.slots) (hW : (rest.map fun v => v.category).sum ≤ 8) (hw : wp_L_lost cap a1 u Post) (hdg : decode cc n = .ok (.invokestatic idx, 3)) (hp : pc = n) (kk : ∀ (r : Int32) (u' : XS), Post r u' → xV p l e R s m args below meth c G A nL Q (cells + 1) (slots + 6) (xw L K cap u' T) (n + 3) lv (.int r :: rest)) : xV p l e R s m args below meth c G A nL Q cells slots (xw L K cap u T) pc lv (.ref (L 14) :: .int a1 :: .ref (L 0) :: rest) :=
  x_callSW C hZ hN (As := [.ref (L 0), .int a1, .ref (L 14)]) (c_L_lost hl hw) ⟨hlink, i_607, i_0, i_608⟩ (k := 3) (by decide +kernel) rfl hR hf hW rfl hdg hp (fun v ws' ⟨r, u', hv, hws, hPo⟩ _ => by subst hv; subst hws; exact kk r u' hPo)
end XWX
