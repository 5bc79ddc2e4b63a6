/-! methods that throw: contracts xxMet, their ends, the throwing rows -/
abbrev xdec : List Cond := [.declares ⟨"java/lang/RuntimeException", "<init>", "()V"⟩, .declares ⟨"java/lang/Exception", "<init>", "()V"⟩, .declares ⟨"java/lang/Throwable", "<init>", "()V"⟩, .castable "java/lang/IllegalArgumentException" "java/lang/IllegalArgumentException", .castable "java/lang/IllegalStateException" "java/lang/IllegalStateException", .castable "java/lang/IndexOutOfBoundsException" "java/lang/IndexOutOfBoundsException", .castable "java/util/NoSuchElementException" "java/util/NoSuchElementException"]
def xFw (U : State) : Prop := ∀ w ∈ xdec, va_Nw w U
theorem xFw.warm {s U : State} (hW : s.WarmedH U.vm) (h : xFw s) : xFw U := by
  intro w hw
  simp only [xdec, List.mem_cons, List.not_mem_nil, or_false] at hw
  rcases hw with rfl | rfl | rfl | rfl | rfl | rfl | rfl
  · exact va_Nw.warmD hW (h _ (by simp [xdec]))
  · exact va_Nw.warmD hW (h _ (by simp [xdec]))
  · exact va_Nw.warmD hW (h _ (by simp [xdec]))
  · exact va_Nw.warmC hW (h _ (by simp [xdec]))
  · exact va_Nw.warmC hW (h _ (by simp [xdec]))
  · exact va_Nw.warmC hW (h _ (by simp [xdec]))
  · exact va_Nw.warmC hW (h _ (by simp [xdec]))
theorem xFw.same {s U : State} (hvm : s.vm = U.vm) (h : xFw s) : xFw U := by
  intro w hw
  have h1 := h w hw
  simp only [xdec, List.mem_cons, List.not_mem_nil, or_false] at hw
  rcases hw with rfl | rfl | rfl | rfl | rfl | rfl | rfl <;> exact va_Nw.same rfl hvm h1
theorem xFw.use {s : State} {args : Array Value} (h : xFw s) : ∀ w ∈ xdec, w.before args s = true := by
  intro w hw
  have h1 := h w hw
  simp only [xdec, List.mem_cons, List.not_mem_nil, or_false] at hw
  rcases hw with rfl | rfl | rfl | rfl | rfl | rfl | rfl <;> exact va_Nw.use rfl h1
section XT
variable {p : Program} {l : Launch} {e : Env} {R : Room} {s : State} {m : MethodId} {args : Array Value} {below : List Frame} {meth : Method} {c : Code} {G : va_G} {A : Nat → Prop} {nL : Nat} {Q : State → Prop} {cells slots : Nat} {K : Nat → ClassId} {cc : ByteArray} {own : String} {ret : Option FieldType} {ws : va_W} {pc n : Nat} {lv : List (Nat × Value)} {st : List Value} {mc ms : Nat} {ws0 : va_W} {Po : Option Value → va_W → Prop} {PoX : String → va_W → Prop}
def xZq (A : Nat → Prop) (U : State) : Prop := vx_Zq Bundle.tN "UNASSIGNED_STACK" Bundle.steD A U U.heap ∧ vx_Zq Bundle.tN "SUPPRESSED_SENTINEL" Bundle.listD A U U.heap ∧ xFw U
def xFx (l : Launch) (s : State) (c : Code) (A : Nat → Prop) : Prop := l.stackTraces = false ∧ xZq A s ∧ ∀ x ∈ c.exceptionTable.toList, False
def xXc (G : va_G) (A : Nat → Prop) (ws0 : va_W) (PoX : String → va_W → Prop) : String → State → State → Prop := fun E s0 t => (∃ ws' : va_W, PoX E ws' ∧ va_P G vwCl ws' t.heap ∧ ws'.map Prod.fst = ws0.map Prod.fst) ∧ va_F A s0 t
def xxPre (G : va_G) (K : Nat → ClassId) (av : List Value) (ws : va_W) (sz : Nat) : Array Value → State → Prop := va_Pc av (fun U => (U.heap.size = sz ∧ va_P G vwCl ws U.heap ∧ va_K G vwCl (xty K) U ∧ va_D (fun _ => True) ws) ∧ xZq (va_A ws sz) U)
def xxMet (l : Launch) (y : MethodName) (cc : ByteArray) (n : Nat) (ret : Option FieldType) (fr lo mc ms : Nat) (G : va_G) (K : Nat → ClassId) (av : List Value) (ws : va_W) (Po : Option Value → va_W → Prop) (PoX : String → va_W → Prop) : Prop :=
  ∀ sz : Nat, vx_Met l y (Cond.code y cc n ret :: gw_tbl) (xRm fr lo mc ms) (xxPre G K av ws sz) (xQc G (va_A ws sz) ws Po) (xXc G (va_A ws sz) ws PoX) mc ms (va_A ws sz)
abbrev xxQ (G : va_G) (A : Nat → Prop) (ws0 : va_W) (Po : Option Value → va_W → Prop) (PoX : String → va_W → Prop) (below : List Frame) (args : Array Value) (s : State) (mc ms : Nat) : State → Prop := vx_MQ below (xQc G A ws0 Po) (xXc G A ws0 PoX) args s mc ms A
theorem xxMet.intro {l : Launch} (hl : l.stackTraces = false) {y : MethodName} {fr lo mc ms : Nat} {av : List Value} {Po : Option Value → va_W → Prop} {PoX : String → va_W → Prop} (hy : plainName y.cls = true) (ho : y.cls = own) (hn : (lg_sl av).length ≤ n) (hlv : lv_args 0 av = lv)
    (body : ∀ (p : Program) (e : Env) (s : State) (m : MethodId) (args : Array Value) (below : List Frame) (meth : Method) (c : Code) (A : Nat → Prop), xCx p s m args meth c G K A n cc own ret → xFx l s c A → xV p l e (xRm fr lo mc ms) s m args below meth c G A n (xxQ G A ws Po PoX below args s mc ms) 0 0 ws 0 lv []) : xxMet l y cc n ret fr lo mc ms G K av ws Po PoX := by
  intro sz
  refine vx_ofW (cc := cc) (maxL := n) (ret := ret) hy rfl ?_
  intro p e s m args below meth c s₁ B hml hex hv
  obtain ⟨rfl, ⟨hsz, hP, hK, hD0⟩, hZ⟩ := hv
  have hts := atoms_spec (ws := Cond.code y cc n ret :: gw_tbl) B.pre
  have hown : s.vm.findClass y.cls = some m.cls := findClass_of_methodNamed B.named
  subst hsz
  have hlv0 := lv_entry av (n := n) hn
  rw [lg_entry_eq]
  rw [hlv] at hlv0
  exact body p e s m _ below meth c (va_A ws s.heap.size) ⟨B.exec, B.bytes, B.returns, B.notSynchronized, hml, ho ▸ hown, fun w h => hts w (List.mem_cons_of_mem _ h), hK, fun q h => Or.inr h⟩ ⟨hl, hZ, hex⟩ s.heap [] _ hP hD0.self va_S.rf hlv0

theorem xx_iret (C : xCx p s m args meth c G K A nL cc own (some .int)) {v : Int32} (hdg : decode cc n = .ok (.ireturn, 1)) (hp : pc = n) (hs : ws.map Prod.fst = ws0.map Prod.fst) (hPo : Po (some (.int v)) ws) : xV p l e R s m args below meth c G A nL (xxQ G A ws0 Po PoX below args s mc ms) 0 0 ws pc lv ([.int v]) := by
  obtain ⟨hx, hb, hr, hlo, hml, hown, hts, hK, hA⟩ := C
  subst hp
  intro H locs ls hP hD hS hl
  exact vx_ret (W.widen (Nat.zero_le _) (Nat.zero_le _) (W.iret hx hb hr (fun t ht hW => ⟨⟨_, ws, rfl, hPo, by rw [ht]; exact hP, hs⟩, hS.F ht⟩) hS.2.2 hdg hlo))
theorem xx_zret (C : xCx p s m args meth c G K A nL cc own (some .boolean)) {v : Int32} (hdg : decode cc n = .ok (.ireturn, 1)) (hp : pc = n) (hn : narrow .boolean (.int v) = .int v) (hs : ws.map Prod.fst = ws0.map Prod.fst) (hPo : Po (some (.int v)) ws) : xV p l e R s m args below meth c G A nL (xxQ G A ws0 Po PoX below args s mc ms) 0 0 ws pc lv ([.int v]) := by
  obtain ⟨hx, hb, hr, hlo, hml, hown, hts, hK, hA⟩ := C
  subst hp
  intro H locs ls hP hD hS hl
  exact vx_ret (W.widen (Nat.zero_le _) (Nat.zero_le _) (W.zret hx hb hr hn (fun t ht hW => ⟨⟨_, ws, rfl, hPo, by rw [ht]; exact hP, hs⟩, hS.F ht⟩) hS.2.2 hdg hlo))
theorem xx_lret (C : xCx p s m args meth c G K A nL cc own (some .long)) {v : Int64} (hdg : decode cc n = .ok (.lreturn, 1)) (hp : pc = n) (hs : ws.map Prod.fst = ws0.map Prod.fst) (hPo : Po (some (.long v)) ws) : xV p l e R s m args below meth c G A nL (xxQ G A ws0 Po PoX below args s mc ms) 0 0 ws pc lv ([.long v]) := by
  obtain ⟨hx, hb, hr, hlo, hml, hown, hts, hK, hA⟩ := C
  subst hp
  intro H locs ls hP hD hS hl
  exact vx_ret (W.widen (Nat.zero_le _) (Nat.zero_le _) (W.lret hx hb hr (fun t ht hW => ⟨⟨_, ws, rfl, hPo, by rw [ht]; exact hP, hs⟩, hS.F ht⟩) hS.2.2 hdg hlo))
theorem xx_vret (C : xCx p s m args meth c G K A nL cc own none)  (hdg : decode cc n = .ok (.return_, 1)) (hp : pc = n) (hs : ws.map Prod.fst = ws0.map Prod.fst) (hPo : Po none ws) : xV p l e R s m args below meth c G A nL (xxQ G A ws0 Po PoX below args s mc ms) 0 0 ws pc lv [] := by
  obtain ⟨hx, hb, hr, hlo, hml, hown, hts, hK, hA⟩ := C
  subst hp
  intro H locs ls hP hD hS hl
  exact vx_ret (W.widen (Nat.zero_le _) (Nat.zero_le _) (W.vret hx hb hr (fun t ht hW => ⟨⟨_, ws, rfl, hPo, by rw [ht]; exact hP, hs⟩, hS.F ht⟩) hS.2.2 hdg hlo))
theorem xa_IA : ∀ w ∈ (vx_at0 RX7 80 "java/lang/IllegalArgumentException" ["java/lang/RuntimeException", "java/lang/Exception"]).filter goodWord, w ∈ gw_tbl := by decide +kernel
theorem xb_IA : ∀ w ∈ (vx_at0 RX7 80 "java/lang/IllegalArgumentException" ["java/lang/RuntimeException", "java/lang/Exception"]).filter (fun w => !goodWord w), w ∈ xdec := by decide +kernel
theorem xt_IA (C : xCx p s m args meth c G K A nL cc RX7 ret) (F : xFx l s c A) (d0 : decode cc n = .ok (.new 78, 3)) (d3 : decode cc (n + 3) = .ok (.dup, 1)) (d4 : decode cc (n + 4) = .ok (.invokespecial 80, 3)) (d7 : decode cc (n + 7) = .ok (.athrow, 1)) (hp : pc = n) (hRf : 5 < R.frames) (hRl : (st.map fun v => v.category).sum + 81 ≤ R.locals) (hRc : cells + 1 ≤ R.cells ∧ cells + 1 ≤ mc) (hRs : slots + 6 ≤ R.slots ∧ slots + 6 ≤ ms) (hs : ws.map Prod.fst = ws0.map Prod.fst) (hPo : PoX "java/lang/IllegalArgumentException" ws) : xV p l e R s m args below meth c G A nL (xxQ G A ws0 Po PoX below args s mc ms) cells slots ws pc lv st := by
  obtain ⟨hx, hb, hr, hlo, hml, hown, hts, hK, hA⟩ := C
  obtain ⟨hl0, ⟨hU, hN, hF⟩, hex⟩ := F
  subst hp
  intro H locs ls hP hD hS hl
  exact vx_throw0 hx hb hl0 (own := RX7) (cls := "java/lang/IllegalArgumentException") (names := ["java/lang/RuntimeException", "java/lang/Exception"]) (ik := 78) (ic := 80) hown (by decide +kernel) (by decide +kernel) (hts _ i_344) (hts _ i_13) (vx_hat (fun w h => hts w (xa_IA w h)) xb_IA hF.use) (by decide +kernel) hU hN hS (hl.1.trans hml.symm) d0 d3 d4 d7 (fun x h => (hex x h).elim) hRf hRl hRc.1 hRs.1 hlo
    (fun t hal hz hk => ⟨⟨ws, hPo, hP.kept (fun k q hq => hk q.1 (hP k q hq).lt), hs⟩, ⟨Nat.le_trans hS.1 hz, fun q h1 h2 => by rw [hk q (Nat.lt_of_lt_of_le h1 hS.1)]; exact hS.2.1 q h1 h2⟩⟩) hS.2.2 hRc.2 hRs.2
theorem xa_IS : ∀ w ∈ (vx_at0 RX7 83 "java/lang/IllegalStateException" ["java/lang/RuntimeException", "java/lang/Exception"]).filter goodWord, w ∈ gw_tbl := by decide +kernel
theorem xb_IS : ∀ w ∈ (vx_at0 RX7 83 "java/lang/IllegalStateException" ["java/lang/RuntimeException", "java/lang/Exception"]).filter (fun w => !goodWord w), w ∈ xdec := by decide +kernel
theorem xt_IS (C : xCx p s m args meth c G K A nL cc RX7 ret) (F : xFx l s c A) (d0 : decode cc n = .ok (.new 81, 3)) (d3 : decode cc (n + 3) = .ok (.dup, 1)) (d4 : decode cc (n + 4) = .ok (.invokespecial 83, 3)) (d7 : decode cc (n + 7) = .ok (.athrow, 1)) (hp : pc = n) (hRf : 5 < R.frames) (hRl : (st.map fun v => v.category).sum + 81 ≤ R.locals) (hRc : cells + 1 ≤ R.cells ∧ cells + 1 ≤ mc) (hRs : slots + 6 ≤ R.slots ∧ slots + 6 ≤ ms) (hs : ws.map Prod.fst = ws0.map Prod.fst) (hPo : PoX "java/lang/IllegalStateException" ws) : xV p l e R s m args below meth c G A nL (xxQ G A ws0 Po PoX below args s mc ms) cells slots ws pc lv st := by
  obtain ⟨hx, hb, hr, hlo, hml, hown, hts, hK, hA⟩ := C
  obtain ⟨hl0, ⟨hU, hN, hF⟩, hex⟩ := F
  subst hp
  intro H locs ls hP hD hS hl
  exact vx_throw0 hx hb hl0 (own := RX7) (cls := "java/lang/IllegalStateException") (names := ["java/lang/RuntimeException", "java/lang/Exception"]) (ik := 81) (ic := 83) hown (by decide +kernel) (by decide +kernel) (hts _ i_408) (hts _ i_14) (vx_hat (fun w h => hts w (xa_IS w h)) xb_IS hF.use) (by decide +kernel) hU hN hS (hl.1.trans hml.symm) d0 d3 d4 d7 (fun x h => (hex x h).elim) hRf hRl hRc.1 hRs.1 hlo
    (fun t hal hz hk => ⟨⟨ws, hPo, hP.kept (fun k q hq => hk q.1 (hP k q hq).lt), hs⟩, ⟨Nat.le_trans hS.1 hz, fun q h1 h2 => by rw [hk q (Nat.lt_of_lt_of_le h1 hS.1)]; exact hS.2.1 q h1 h2⟩⟩) hS.2.2 hRc.2 hRs.2
theorem xa_IO : ∀ w ∈ (vx_at0 RX7 158 "java/lang/IndexOutOfBoundsException" ["java/lang/RuntimeException", "java/lang/Exception"]).filter goodWord, w ∈ gw_tbl := by decide +kernel
theorem xb_IO : ∀ w ∈ (vx_at0 RX7 158 "java/lang/IndexOutOfBoundsException" ["java/lang/RuntimeException", "java/lang/Exception"]).filter (fun w => !goodWord w), w ∈ xdec := by decide +kernel
theorem xt_IO (C : xCx p s m args meth c G K A nL cc RX7 ret) (F : xFx l s c A) (d0 : decode cc n = .ok (.new 156, 3)) (d3 : decode cc (n + 3) = .ok (.dup, 1)) (d4 : decode cc (n + 4) = .ok (.invokespecial 158, 3)) (d7 : decode cc (n + 7) = .ok (.athrow, 1)) (hp : pc = n) (hRf : 5 < R.frames) (hRl : (st.map fun v => v.category).sum + 81 ≤ R.locals) (hRc : cells + 1 ≤ R.cells ∧ cells + 1 ≤ mc) (hRs : slots + 6 ≤ R.slots ∧ slots + 6 ≤ ms) (hs : ws.map Prod.fst = ws0.map Prod.fst) (hPo : PoX "java/lang/IndexOutOfBoundsException" ws) : xV p l e R s m args below meth c G A nL (xxQ G A ws0 Po PoX below args s mc ms) cells slots ws pc lv st := by
  obtain ⟨hx, hb, hr, hlo, hml, hown, hts, hK, hA⟩ := C
  obtain ⟨hl0, ⟨hU, hN, hF⟩, hex⟩ := F
  subst hp
  intro H locs ls hP hD hS hl
  exact vx_throw0 hx hb hl0 (own := RX7) (cls := "java/lang/IndexOutOfBoundsException") (names := ["java/lang/RuntimeException", "java/lang/Exception"]) (ik := 156) (ic := 158) hown (by decide +kernel) (by decide +kernel) (hts _ i_515) (hts _ i_16) (vx_hat (fun w h => hts w (xa_IO w h)) xb_IO hF.use) (by decide +kernel) hU hN hS (hl.1.trans hml.symm) d0 d3 d4 d7 (fun x h => (hex x h).elim) hRf hRl hRc.1 hRs.1 hlo
    (fun t hal hz hk => ⟨⟨ws, hPo, hP.kept (fun k q hq => hk q.1 (hP k q hq).lt), hs⟩, ⟨Nat.le_trans hS.1 hz, fun q h1 h2 => by rw [hk q (Nat.lt_of_lt_of_le h1 hS.1)]; exact hS.2.1 q h1 h2⟩⟩) hS.2.2 hRc.2 hRs.2
theorem xa_NS : ∀ w ∈ (vx_at0 RX7 170 "java/util/NoSuchElementException" ["java/lang/RuntimeException", "java/lang/Exception"]).filter goodWord, w ∈ gw_tbl := by decide +kernel
theorem xb_NS : ∀ w ∈ (vx_at0 RX7 170 "java/util/NoSuchElementException" ["java/lang/RuntimeException", "java/lang/Exception"]).filter (fun w => !goodWord w), w ∈ xdec := by decide +kernel
theorem xt_NS (C : xCx p s m args meth c G K A nL cc RX7 ret) (F : xFx l s c A) (d0 : decode cc n = .ok (.new 168, 3)) (d3 : decode cc (n + 3) = .ok (.dup, 1)) (d4 : decode cc (n + 4) = .ok (.invokespecial 170, 3)) (d7 : decode cc (n + 7) = .ok (.athrow, 1)) (hp : pc = n) (hRf : 5 < R.frames) (hRl : (st.map fun v => v.category).sum + 81 ≤ R.locals) (hRc : cells + 1 ≤ R.cells ∧ cells + 1 ≤ mc) (hRs : slots + 6 ≤ R.slots ∧ slots + 6 ≤ ms) (hs : ws.map Prod.fst = ws0.map Prod.fst) (hPo : PoX "java/util/NoSuchElementException" ws) : xV p l e R s m args below meth c G A nL (xxQ G A ws0 Po PoX below args s mc ms) cells slots ws pc lv st := by
  obtain ⟨hx, hb, hr, hlo, hml, hown, hts, hK, hA⟩ := C
  obtain ⟨hl0, ⟨hU, hN, hF⟩, hex⟩ := F
  subst hp
  intro H locs ls hP hD hS hl
  exact vx_throw0 hx hb hl0 (own := RX7) (cls := "java/util/NoSuchElementException") (names := ["java/lang/RuntimeException", "java/lang/Exception"]) (ik := 168) (ic := 170) hown (by decide +kernel) (by decide +kernel) (hts _ i_538) (hts _ i_17) (vx_hat (fun w h => hts w (xa_NS w h)) xb_NS hF.use) (by decide +kernel) hU hN hS (hl.1.trans hml.symm) d0 d3 d4 d7 (fun x h => (hex x h).elim) hRf hRl hRc.1 hRs.1 hlo
    (fun t hal hz hk => ⟨⟨ws, hPo, hP.kept (fun k q hq => hk q.1 (hP k q hq).lt), hs⟩, ⟨Nat.le_trans hS.1 hz, fun q h1 h2 => by rw [hk q (Nat.lt_of_lt_of_le h1 hS.1)]; exact hS.2.1 q h1 h2⟩⟩) hS.2.2 hRc.2 hRs.2
end XT
