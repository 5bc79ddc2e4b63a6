/-! my own frame over the kit's rows: xV, a world and a point of the code in one goal -/
theorem xr_goodIn : GoodIn gw_tbl gw_tbl := fun _ h => ⟨h, good_of_word (List.mem_filter.mp h).2⟩
theorem xr_goodC {big ws : List Cond} (h : ∀ w ∈ ws, w ∈ big) (hb : GoodIn big big) : GoodIn big ws := fun _ hw => hb _ (h _ hw)
abbrev xty (K : Nat → ClassId) : List (ClassId × FieldType) := [(K 0, .int), (K 1, .long), (K 2, .boolean), (K 3, .byte), (K 4, .object "NeighbourDesk$Entry")]
section XF
variable {p : Program} {l : Launch} {e : Env} {R : Room} {s : State} {m : MethodId} {args : Array Value} {below : List Frame} {meth : Method} {c : Code} {G : va_G} {A : Nat → Prop} {nL : Nat} {Q : State → Prop} {cells slots : Nat} {K : Nat → ClassId} {cc : ByteArray} {own : String} {ret : Option FieldType} {ws : va_W} {pc n : Nat} {lv : List (Nat × Value)} {st : List Value}
def xV (p : Program) (l : Launch) (e : Env) (R : Room) (s : State) (m : MethodId) (args : Array Value) (below : List Frame) (meth : Method) (c : Code) (G : va_G) (A : Nat → Prop) (nL : Nat) (Q : State → Prop) (cells slots : Nat) (ws : va_W) (pc : Nat) (lv : List (Nat × Value)) (st : List Value) : Prop :=
  ∀ (H : Heap) (locs : List Loc) (ls : Array Slot), va_P G vwCl ws H → va_D A ws → va_S A s.heap H locs → lv_has ls nL lv → W p l e R s m args below meth c H locs cells slots Q (F0 m pc ls st)
def xCx (p : Program) (s : State) (m : MethodId) (args : Array Value) (meth : Method) (c : Code) (G : va_G) (K : Nat → ClassId) (A : Nat → Prop) (nL : Nat) (cc : ByteArray) (own : String) (ret : Option FieldType) : Prop :=
  p.tables.exec = Jvm.exec ∧ c.code = cc ∧ meth.sig.returnType = ret ∧ meth.locks = false ∧ c.maxLocals = nL ∧ s.vm.findClass own = some m.cls ∧ (∀ w ∈ gw_tbl, w.before args s = true) ∧ va_K G vwCl (xty K) s ∧ (∀ q : Nat, s.heap.size ≤ q → A q)
/-- a value is put on the stack, nothing else -/
theorem x_lift {n' : Nat} {v : List Value} (hp : pc = n) (k0 : ∀ (H : Heap) (locs : List Loc) (ls : Array Slot), va_P G vwCl ws H → lv_has ls nL lv → W p l e R s m args below meth c H locs cells slots Q (F0 m n' ls v) → W p l e R s m args below meth c H locs cells slots Q (F0 m n ls st)) (kk : xV p l e R s m args below meth c G A nL Q cells slots ws n' lv v) : xV p l e R s m args below meth c G A nL Q cells slots ws pc lv st := by
  subst hp
  intro H locs ls hP hD hS hl
  exact k0 H locs ls hP hl (kk H locs ls hP hD hS hl)
theorem x_gen {α : Type} {x : α} {P : α → Prop} (k : ∀ y : α, y = x → P y) : P x := k x rfl
theorem x_pc {n' : Nat} (h : pc = n') (kk : xV p l e R s m args below meth c G A nL Q cells slots ws n' lv st) : xV p l e R s m args below meth c G A nL Q cells slots ws pc lv st := h ▸ kk
/-- fewer locals, in another order -/
theorem x_lv {lv' : List (Nat × Value)} (ks : List Nat) (h : lv_pick lv ks = lv') (kk : xV p l e R s m args below meth c G A nL Q cells slots ws pc lv' st) : xV p l e R s m args below meth c G A nL Q cells slots ws pc lv st := fun H locs ls hP hD hS hl => kk H locs ls hP hD hS (lv_sub hl ks h)
theorem x_widen {k n : Nat} (h1 : cells ≤ k) (h2 : slots ≤ n) (kk : xV p l e R s m args below meth c G A nL Q k n ws pc lv st) : xV p l e R s m args below meth c G A nL Q cells slots ws pc lv st := fun H locs ls hP hD hS hl => W.widen h1 h2 (kk H locs ls hP hD hS hl)

theorem x_iconst (C : xCx p s m args meth c G K A nL cc own ret) {i : Int} {v : Int32} (hdg : decode cc n = .ok (.iconst i, 1)) (hp : pc = n) (hv : Int32.ofInt i = v) (kk : xV p l e R s m args below meth c G A nL Q cells slots ws (n + 1) lv (.int v :: st)) : xV p l e R s m args below meth c G A nL Q cells slots ws pc lv st := by
  obtain ⟨hx, hb, hr, hlo, hml, hown, hts, hK, hA⟩ := C
  exact x_lift hp (fun H locs ls hP hl k => lv_iconst hx hb hdg hv k) kk
theorem x_bipush (C : xCx p s m args meth c G K A nL cc own ret) {i : Int} {v : Int32} (hdg : decode cc n = .ok (.bipush i, 2)) (hp : pc = n) (hv : (Int8.ofInt i).toInt32 = v) (kk : xV p l e R s m args below meth c G A nL Q cells slots ws (n + 2) lv (.int v :: st)) : xV p l e R s m args below meth c G A nL Q cells slots ws pc lv st := by
  obtain ⟨hx, hb, hr, hlo, hml, hown, hts, hK, hA⟩ := C
  exact x_lift hp (fun H locs ls hP hl k => lv_bipush hx hb hdg hv k) kk
theorem x_sipush (C : xCx p s m args meth c G K A nL cc own ret) {i : Int} {v : Int32} (hdg : decode cc n = .ok (.sipush i, 3)) (hp : pc = n) (hv : (Int16.ofInt i).toInt32 = v) (kk : xV p l e R s m args below meth c G A nL Q cells slots ws (n + 3) lv (.int v :: st)) : xV p l e R s m args below meth c G A nL Q cells slots ws pc lv st := by
  obtain ⟨hx, hb, hr, hlo, hml, hown, hts, hK, hA⟩ := C
  exact x_lift hp (fun H locs ls hP hl k => lv_sipush hx hb hdg hv k) kk
theorem x_lconst (C : xCx p s m args meth c G K A nL cc own ret) {i : Fin 2} {v : Int64} (hdg : decode cc n = .ok (.lconst i, 1)) (hp : pc = n) (hv : Int64.ofNat (i : Nat) = v) (kk : xV p l e R s m args below meth c G A nL Q cells slots ws (n + 1) lv (.long v :: st)) : xV p l e R s m args below meth c G A nL Q cells slots ws pc lv st := by
  obtain ⟨hx, hb, hr, hlo, hml, hown, hts, hK, hA⟩ := C
  exact x_lift hp (fun H locs ls hP hl k => lv_lconst hx hb hdg hv k) kk
theorem x_ldc (C : xCx p s m args meth c G K A nL cc own ret) {i : Nat} {v : Int32} (hdg : decode cc n = .ok (.ldc i, 2)) (hp : pc = n) (hw : Jvm.Cond.constant own i v ∈ gw_tbl) (kk : xV p l e R s m args below meth c G A nL Q cells slots ws (n + 2) lv (.int v :: st)) : xV p l e R s m args below meth c G A nL Q cells slots ws pc lv st := by
  obtain ⟨hx, hb, hr, hlo, hml, hown, hts, hK, hA⟩ := C
  exact x_lift hp (fun H locs ls hP hl k => lv_ldc hx hb hown (hts _ hw) hdg k) kk
theorem x_ldc2 (C : xCx p s m args meth c G K A nL cc own ret) {i : Nat} {v : Int64} (hdg : decode cc n = .ok (.ldc2_w i, 3)) (hp : pc = n) (hw : Jvm.Cond.constantLong own i v ∈ gw_tbl) (kk : xV p l e R s m args below meth c G A nL Q cells slots ws (n + 3) lv (.long v :: st)) : xV p l e R s m args below meth c G A nL Q cells slots ws pc lv st := by
  obtain ⟨hx, hb, hr, hlo, hml, hown, hts, hK, hA⟩ := C
  exact x_lift hp (fun H locs ls hP hl k => lv_ldc2 hx hb hown (hts _ hw) hdg k) kk
theorem x_iload_n (C : xCx p s m args meth c G K A nL cc own ret) {k4 : Fin 4} {i : Nat} {x : Int32} (hdg : decode cc n = .ok (.iload_n k4, 1)) (hp : pc = n) (hi : (k4 : Nat) = i) (q : Nat) (hq : lv[q]? = some (i, .int x)) (kk : xV p l e R s m args below meth c G A nL Q cells slots ws (n + 1) lv (.int x :: st)) : xV p l e R s m args below meth c G A nL Q cells slots ws pc lv st := by
  obtain ⟨hx, hb, hr, hlo, hml, hown, hts, hK, hA⟩ := C
  exact x_lift hp (fun H locs ls hP hl k => lv_iload_n hx hb hdg hi (lv_at hl q hq) k) kk
theorem x_iload (C : xCx p s m args meth c G K A nL cc own ret) {i : Nat} {x : Int32} (hdg : decode cc n = .ok (.iload i, 2)) (hp : pc = n) (q : Nat) (hq : lv[q]? = some (i, .int x)) (kk : xV p l e R s m args below meth c G A nL Q cells slots ws (n + 2) lv (.int x :: st)) : xV p l e R s m args below meth c G A nL Q cells slots ws pc lv st := by
  obtain ⟨hx, hb, hr, hlo, hml, hown, hts, hK, hA⟩ := C
  exact x_lift hp (fun H locs ls hP hl k => lv_iload hx hb hdg (lv_at hl q hq) k) kk
theorem x_istore_n (C : xCx p s m args meth c G K A nL cc own ret) {k4 : Fin 4} {i : Nat} {x : Int32} {lv' : List (Nat × Value)} (hdg : decode cc n = .ok (.istore_n k4, 1)) (hp : pc = n) (hi : (k4 : Nat) = i) (hn : i < nL) (hl : (i, Value.int x) :: lv.filter (fun q => !(q.1 == i) && !(q.1 + 1 == i && q.2.category == 2)) = lv') (kk : xV p l e R s m args below meth c G A nL Q cells slots ws (n + 1) lv' st) : xV p l e R s m args below meth c G A nL Q cells slots ws pc lv (.int x :: st) := by
  obtain ⟨hx, hb, hr, hlo, hml, hown, hts, hK, hA⟩ := C
  subst hp
  intro H locs ls hP hD hS hl0
  exact lv_istore_n hx hb hdg hi hl0 hn hl (fun ls2 hl2 => kk H locs ls2 hP hD hS hl2)
theorem x_istore (C : xCx p s m args meth c G K A nL cc own ret) {i : Nat} {x : Int32} {lv' : List (Nat × Value)} (hdg : decode cc n = .ok (.istore i, 2)) (hp : pc = n) (hn : i < nL) (hl : (i, Value.int x) :: lv.filter (fun q => !(q.1 == i) && !(q.1 + 1 == i && q.2.category == 2)) = lv') (kk : xV p l e R s m args below meth c G A nL Q cells slots ws (n + 2) lv' st) : xV p l e R s m args below meth c G A nL Q cells slots ws pc lv (.int x :: st) := by
  obtain ⟨hx, hb, hr, hlo, hml, hown, hts, hK, hA⟩ := C
  subst hp
  intro H locs ls hP hD hS hl0
  exact lv_istore hx hb hdg hl0 hn hl (fun ls2 hl2 => kk H locs ls2 hP hD hS hl2)
theorem x_lload_n (C : xCx p s m args meth c G K A nL cc own ret) {k4 : Fin 4} {i : Nat} {x : Int64} (hdg : decode cc n = .ok (.lload_n k4, 1)) (hp : pc = n) (hi : (k4 : Nat) = i) (q : Nat) (hq : lv[q]? = some (i, .long x)) (kk : xV p l e R s m args below meth c G A nL Q cells slots ws (n + 1) lv (.long x :: st)) : xV p l e R s m args below meth c G A nL Q cells slots ws pc lv st := by
  obtain ⟨hx, hb, hr, hlo, hml, hown, hts, hK, hA⟩ := C
  exact x_lift hp (fun H locs ls hP hl k => lv_lload_n hx hb hdg hi (lv_at hl q hq) k) kk
theorem x_lload (C : xCx p s m args meth c G K A nL cc own ret) {i : Nat} {x : Int64} (hdg : decode cc n = .ok (.lload i, 2)) (hp : pc = n) (q : Nat) (hq : lv[q]? = some (i, .long x)) (kk : xV p l e R s m args below meth c G A nL Q cells slots ws (n + 2) lv (.long x :: st)) : xV p l e R s m args below meth c G A nL Q cells slots ws pc lv st := by
  obtain ⟨hx, hb, hr, hlo, hml, hown, hts, hK, hA⟩ := C
  exact x_lift hp (fun H locs ls hP hl k => lv_lload hx hb hdg (lv_at hl q hq) k) kk
theorem x_lstore_n (C : xCx p s m args meth c G K A nL cc own ret) {k4 : Fin 4} {i : Nat} {x : Int64} {lv' : List (Nat × Value)} (hdg : decode cc n = .ok (.lstore_n k4, 1)) (hp : pc = n) (hi : (k4 : Nat) = i) (hn : i + 1 < nL) (hl : (i, Value.long x) :: lv.filter (fun q => !(q.1 == i) && (!(q.1 == i + 1) && !(q.1 + 1 == i && q.2.category == 2))) = lv') (kk : xV p l e R s m args below meth c G A nL Q cells slots ws (n + 1) lv' st) : xV p l e R s m args below meth c G A nL Q cells slots ws pc lv (.long x :: st) := by
  obtain ⟨hx, hb, hr, hlo, hml, hown, hts, hK, hA⟩ := C
  subst hp
  intro H locs ls hP hD hS hl0
  exact lv_lstore_n hx hb hdg hi hl0 hn hl (fun ls2 hl2 => kk H locs ls2 hP hD hS hl2)
theorem x_lstore (C : xCx p s m args meth c G K A nL cc own ret) {i : Nat} {x : Int64} {lv' : List (Nat × Value)} (hdg : decode cc n = .ok (.lstore i, 2)) (hp : pc = n) (hn : i + 1 < nL) (hl : (i, Value.long x) :: lv.filter (fun q => !(q.1 == i) && (!(q.1 == i + 1) && !(q.1 + 1 == i && q.2.category == 2))) = lv') (kk : xV p l e R s m args below meth c G A nL Q cells slots ws (n + 2) lv' st) : xV p l e R s m args below meth c G A nL Q cells slots ws pc lv (.long x :: st) := by
  obtain ⟨hx, hb, hr, hlo, hml, hown, hts, hK, hA⟩ := C
  subst hp
  intro H locs ls hP hD hS hl0
  exact lv_lstore hx hb hdg hl0 hn hl (fun ls2 hl2 => kk H locs ls2 hP hD hS hl2)
theorem x_aload_n (C : xCx p s m args meth c G K A nL cc own ret) {k4 : Fin 4} {i : Nat} {x : Nat} (hdg : decode cc n = .ok (.aload_n k4, 1)) (hp : pc = n) (hi : (k4 : Nat) = i) (q : Nat) (hq : lv[q]? = some (i, .ref x)) (kk : xV p l e R s m args below meth c G A nL Q cells slots ws (n + 1) lv (.ref x :: st)) : xV p l e R s m args below meth c G A nL Q cells slots ws pc lv st := by
  obtain ⟨hx, hb, hr, hlo, hml, hown, hts, hK, hA⟩ := C
  exact x_lift hp (fun H locs ls hP hl k => lv_aload_n hx hb hdg hi (lv_at hl q hq) k) kk
theorem x_aload (C : xCx p s m args meth c G K A nL cc own ret) {i : Nat} {x : Nat} (hdg : decode cc n = .ok (.aload i, 2)) (hp : pc = n) (q : Nat) (hq : lv[q]? = some (i, .ref x)) (kk : xV p l e R s m args below meth c G A nL Q cells slots ws (n + 2) lv (.ref x :: st)) : xV p l e R s m args below meth c G A nL Q cells slots ws pc lv st := by
  obtain ⟨hx, hb, hr, hlo, hml, hown, hts, hK, hA⟩ := C
  exact x_lift hp (fun H locs ls hP hl k => lv_aload hx hb hdg (lv_at hl q hq) k) kk
theorem x_astore_n (C : xCx p s m args meth c G K A nL cc own ret) {k4 : Fin 4} {i : Nat} {x : Nat} {lv' : List (Nat × Value)} (hdg : decode cc n = .ok (.astore_n k4, 1)) (hp : pc = n) (hi : (k4 : Nat) = i) (hn : i < nL) (hl : (i, Value.ref x) :: lv.filter (fun q => !(q.1 == i) && !(q.1 + 1 == i && q.2.category == 2)) = lv') (kk : xV p l e R s m args below meth c G A nL Q cells slots ws (n + 1) lv' st) : xV p l e R s m args below meth c G A nL Q cells slots ws pc lv (.ref x :: st) := by
  obtain ⟨hx, hb, hr, hlo, hml, hown, hts, hK, hA⟩ := C
  subst hp
  intro H locs ls hP hD hS hl0
  exact lv_astore_n hx hb hdg hi hl0 hn hl (fun ls2 hl2 => kk H locs ls2 hP hD hS hl2)
theorem x_astore (C : xCx p s m args meth c G K A nL cc own ret) {i : Nat} {x : Nat} {lv' : List (Nat × Value)} (hdg : decode cc n = .ok (.astore i, 2)) (hp : pc = n) (hn : i < nL) (hl : (i, Value.ref x) :: lv.filter (fun q => !(q.1 == i) && !(q.1 + 1 == i && q.2.category == 2)) = lv') (kk : xV p l e R s m args below meth c G A nL Q cells slots ws (n + 2) lv' st) : xV p l e R s m args below meth c G A nL Q cells slots ws pc lv (.ref x :: st) := by
  obtain ⟨hx, hb, hr, hlo, hml, hown, hts, hK, hA⟩ := C
  subst hp
  intro H locs ls hP hD hS hl0
  exact lv_astore hx hb hdg hl0 hn hl (fun ls2 hl2 => kk H locs ls2 hP hD hS hl2)
theorem x_iinc (C : xCx p s m args meth c G K A nL cc own ret) {i k : Nat} {n9 : Int} {x v : Int32} {lv' : List (Nat × Value)} (hdg : decode cc n = .ok (.iinc i n9, 3)) (hp : pc = n) (hk : lv[k]? = some (i, .int x)) (hv : x + Int32.ofInt n9 = v) (hn : i < nL) (hl : (i, Value.int v) :: lv.filter (fun q => !(q.1 == i) && !(q.1 + 1 == i && q.2.category == 2)) = lv') (kk : xV p l e R s m args below meth c G A nL Q cells slots ws (n + 3) lv' st) : xV p l e R s m args below meth c G A nL Q cells slots ws pc lv st := by
  obtain ⟨hx, hb, hr, hlo, hml, hown, hts, hK, hA⟩ := C
  subst hp
  intro H locs ls hP hD hS hl0
  exact lv_iinc hx hb hdg hl0 hk hv hn hl (fun ls2 hl2 => kk H locs ls2 hP hD hS hl2)
theorem x_iadd (C : xCx p s m args meth c G K A nL cc own ret) {x y : Int32} (hdg : decode cc n = .ok (.iadd, 1)) (hp : pc = n) (kk : xV p l e R s m args below meth c G A nL Q cells slots ws (n + 1) lv (.int (x + y) :: st)) : xV p l e R s m args below meth c G A nL Q cells slots ws pc lv (.int y :: .int x :: st) := by
  obtain ⟨hx, hb, hr, hlo, hml, hown, hts, hK, hA⟩ := C
  exact x_lift hp (fun H locs ls hP hl k => lv_iadd hx hb hdg k) kk
theorem x_isub (C : xCx p s m args meth c G K A nL cc own ret) {x y : Int32} (hdg : decode cc n = .ok (.isub, 1)) (hp : pc = n) (kk : xV p l e R s m args below meth c G A nL Q cells slots ws (n + 1) lv (.int (x - y) :: st)) : xV p l e R s m args below meth c G A nL Q cells slots ws pc lv (.int y :: .int x :: st) := by
  obtain ⟨hx, hb, hr, hlo, hml, hown, hts, hK, hA⟩ := C
  exact x_lift hp (fun H locs ls hP hl k => lv_isub hx hb hdg k) kk
theorem x_imul (C : xCx p s m args meth c G K A nL cc own ret) {x y : Int32} (hdg : decode cc n = .ok (.imul, 1)) (hp : pc = n) (kk : xV p l e R s m args below meth c G A nL Q cells slots ws (n + 1) lv (.int (x * y) :: st)) : xV p l e R s m args below meth c G A nL Q cells slots ws pc lv (.int y :: .int x :: st) := by
  obtain ⟨hx, hb, hr, hlo, hml, hown, hts, hK, hA⟩ := C
  exact x_lift hp (fun H locs ls hP hl k => lv_imul hx hb hdg k) kk
theorem x_iand (C : xCx p s m args meth c G K A nL cc own ret) {x y : Int32} (hdg : decode cc n = .ok (.iand, 1)) (hp : pc = n) (kk : xV p l e R s m args below meth c G A nL Q cells slots ws (n + 1) lv (.int (x &&& y) :: st)) : xV p l e R s m args below meth c G A nL Q cells slots ws pc lv (.int y :: .int x :: st) := by
  obtain ⟨hx, hb, hr, hlo, hml, hown, hts, hK, hA⟩ := C
  exact x_lift hp (fun H locs ls hP hl k => lv_iand hx hb hdg k) kk
theorem x_ixor (C : xCx p s m args meth c G K A nL cc own ret) {x y : Int32} (hdg : decode cc n = .ok (.ixor, 1)) (hp : pc = n) (kk : xV p l e R s m args below meth c G A nL Q cells slots ws (n + 1) lv (.int (x ^^^ y) :: st)) : xV p l e R s m args below meth c G A nL Q cells slots ws pc lv (.int y :: .int x :: st) := by
  obtain ⟨hx, hb, hr, hlo, hml, hown, hts, hK, hA⟩ := C
  exact x_lift hp (fun H locs ls hP hl k => lv_ixor hx hb hdg k) kk
theorem x_land (C : xCx p s m args meth c G K A nL cc own ret) {x y : Int64} (hdg : decode cc n = .ok (.land, 1)) (hp : pc = n) (kk : xV p l e R s m args below meth c G A nL Q cells slots ws (n + 1) lv (.long (x &&& y) :: st)) : xV p l e R s m args below meth c G A nL Q cells slots ws pc lv (.long y :: .long x :: st) := by
  obtain ⟨hx, hb, hr, hlo, hml, hown, hts, hK, hA⟩ := C
  exact x_lift hp (fun H locs ls hP hl k => lv_land hx hb hdg k) kk
theorem x_lor (C : xCx p s m args meth c G K A nL cc own ret) {x y : Int64} (hdg : decode cc n = .ok (.lor, 1)) (hp : pc = n) (kk : xV p l e R s m args below meth c G A nL Q cells slots ws (n + 1) lv (.long (x ||| y) :: st)) : xV p l e R s m args below meth c G A nL Q cells slots ws pc lv (.long y :: .long x :: st) := by
  obtain ⟨hx, hb, hr, hlo, hml, hown, hts, hK, hA⟩ := C
  exact x_lift hp (fun H locs ls hP hl k => lv_lor hx hb hdg k) kk
theorem x_lxor (C : xCx p s m args meth c G K A nL cc own ret) {x y : Int64} (hdg : decode cc n = .ok (.lxor, 1)) (hp : pc = n) (kk : xV p l e R s m args below meth c G A nL Q cells slots ws (n + 1) lv (.long (x ^^^ y) :: st)) : xV p l e R s m args below meth c G A nL Q cells slots ws pc lv (.long y :: .long x :: st) := by
  obtain ⟨hx, hb, hr, hlo, hml, hown, hts, hK, hA⟩ := C
  exact x_lift hp (fun H locs ls hP hl k => lv_lxor hx hb hdg k) kk
theorem x_ladd (C : xCx p s m args meth c G K A nL cc own ret) {x y : Int64} (hdg : decode cc n = .ok (.ladd, 1)) (hp : pc = n) (kk : xV p l e R s m args below meth c G A nL Q cells slots ws (n + 1) lv (.long (x + y) :: st)) : xV p l e R s m args below meth c G A nL Q cells slots ws pc lv (.long y :: .long x :: st) := by
  obtain ⟨hx, hb, hr, hlo, hml, hown, hts, hK, hA⟩ := C
  exact x_lift hp (fun H locs ls hP hl k => lv_ladd hx hb hdg k) kk
theorem x_lsub (C : xCx p s m args meth c G K A nL cc own ret) {x y : Int64} (hdg : decode cc n = .ok (.lsub, 1)) (hp : pc = n) (kk : xV p l e R s m args below meth c G A nL Q cells slots ws (n + 1) lv (.long (x - y) :: st)) : xV p l e R s m args below meth c G A nL Q cells slots ws pc lv (.long y :: .long x :: st) := by
  obtain ⟨hx, hb, hr, hlo, hml, hown, hts, hK, hA⟩ := C
  exact x_lift hp (fun H locs ls hP hl k => lv_lsub hx hb hdg k) kk
theorem x_irem (C : xCx p s m args meth c G K A nL cc own ret) {x y : Int32} (hdg : decode cc n = .ok (.irem, 1)) (hp : pc = n) (hne : ¬ y = 0) (kk : xV p l e R s m args below meth c G A nL Q cells slots ws (n + 1) lv (.int (x - x / y * y) :: st)) : xV p l e R s m args below meth c G A nL Q cells slots ws pc lv (.int y :: .int x :: st) := by
  obtain ⟨hx, hb, hr, hlo, hml, hown, hts, hK, hA⟩ := C
  exact x_lift hp (fun H locs ls hP hl k => lv_irem hx hb hdg hne k) kk
theorem x_ishr (C : xCx p s m args meth c G K A nL cc own ret) {x y : Int32} (hdg : decode cc n = .ok (.ishr, 1)) (hp : pc = n) (kk : xV p l e R s m args below meth c G A nL Q cells slots ws (n + 1) lv (.int (x >>> (y &&& 31)) :: st)) : xV p l e R s m args below meth c G A nL Q cells slots ws pc lv (.int y :: .int x :: st) := by
  obtain ⟨hx, hb, hr, hlo, hml, hown, hts, hK, hA⟩ := C
  exact x_lift hp (fun H locs ls hP hl k => lv_ishr hx hb hdg k) kk
theorem x_ishl (C : xCx p s m args meth c G K A nL cc own ret) {x y : Int32} (hdg : decode cc n = .ok (.ishl, 1)) (hp : pc = n) (kk : xV p l e R s m args below meth c G A nL Q cells slots ws (n + 1) lv (.int (x <<< (y &&& 31)) :: st)) : xV p l e R s m args below meth c G A nL Q cells slots ws pc lv (.int y :: .int x :: st) := by
  obtain ⟨hx, hb, hr, hlo, hml, hown, hts, hK, hA⟩ := C
  exact x_lift hp (fun H locs ls hP hl k => lv_ishl hx hb hdg k) kk
theorem x_lshl (C : xCx p s m args meth c G K A nL cc own ret) {x : Int64} {y : Int32} (hdg : decode cc n = .ok (.lshl, 1)) (hp : pc = n) (kk : xV p l e R s m args below meth c G A nL Q cells slots ws (n + 1) lv (.long (x <<< (y.toInt64 &&& 63)) :: st)) : xV p l e R s m args below meth c G A nL Q cells slots ws pc lv (.int y :: .long x :: st) := by
  obtain ⟨hx, hb, hr, hlo, hml, hown, hts, hK, hA⟩ := C
  exact x_lift hp (fun H locs ls hP hl k => lv_lshl hx hb hdg rfl k) kk
theorem x_lshr (C : xCx p s m args meth c G K A nL cc own ret) {x : Int64} {y : Int32} (hdg : decode cc n = .ok (.lshr, 1)) (hp : pc = n) (kk : xV p l e R s m args below meth c G A nL Q cells slots ws (n + 1) lv (.long (x >>> (y.toInt64 &&& 63)) :: st)) : xV p l e R s m args below meth c G A nL Q cells slots ws pc lv (.int y :: .long x :: st) := by
  obtain ⟨hx, hb, hr, hlo, hml, hown, hts, hK, hA⟩ := C
  exact x_lift hp (fun H locs ls hP hl k => lv_lshr hx hb hdg rfl k) kk
theorem x_i2l (C : xCx p s m args meth c G K A nL cc own ret) {x : Int32} (hdg : decode cc n = .ok (.i2l, 1)) (hp : pc = n) (kk : xV p l e R s m args below meth c G A nL Q cells slots ws (n + 1) lv (.long x.toInt64 :: st)) : xV p l e R s m args below meth c G A nL Q cells slots ws pc lv (.int x :: st) := by
  obtain ⟨hx, hb, hr, hlo, hml, hown, hts, hK, hA⟩ := C
  exact x_lift hp (fun H locs ls hP hl k => lv_i2l hx hb hdg rfl k) kk
theorem x_l2i (C : xCx p s m args meth c G K A nL cc own ret) {x : Int64} (hdg : decode cc n = .ok (.l2i, 1)) (hp : pc = n) (kk : xV p l e R s m args below meth c G A nL Q cells slots ws (n + 1) lv (.int x.toInt32 :: st)) : xV p l e R s m args below meth c G A nL Q cells slots ws pc lv (.long x :: st) := by
  obtain ⟨hx, hb, hr, hlo, hml, hown, hts, hK, hA⟩ := C
  exact x_lift hp (fun H locs ls hP hl k => lv_l2i hx hb hdg rfl k) kk
theorem x_i2b (C : xCx p s m args meth c G K A nL cc own ret) {x : Int32} (hdg : decode cc n = .ok (.i2b, 1)) (hp : pc = n) (kk : xV p l e R s m args below meth c G A nL Q cells slots ws (n + 1) lv (.int x.toInt8.toInt32 :: st)) : xV p l e R s m args below meth c G A nL Q cells slots ws pc lv (.int x :: st) := by
  obtain ⟨hx, hb, hr, hlo, hml, hown, hts, hK, hA⟩ := C
  exact x_lift hp (fun H locs ls hP hl k => lv_i2b hx hb hdg rfl k) kk
theorem x_lcmp (C : xCx p s m args meth c G K A nL cc own ret) {x y : Int64} (hdg : decode cc n = .ok (.lcmp, 1)) (hp : pc = n) (kk : xV p l e R s m args below meth c G A nL Q cells slots ws (n + 1) lv (.int (lg_cmp x y) :: st)) : xV p l e R s m args below meth c G A nL Q cells slots ws pc lv (.long y :: .long x :: st) := by
  obtain ⟨hx, hb, hr, hlo, hml, hown, hts, hK, hA⟩ := C
  exact x_lift hp (fun H locs ls hP hl k => W.lcmp hx hb hdg k) kk
theorem x_dup (C : xCx p s m args meth c G K A nL cc own ret) {va : Value} (hdg : decode cc n = .ok (.dup, 1)) (hp : pc = n) (hva : va.category = 1) (kk : xV p l e R s m args below meth c G A nL Q cells slots ws (n + 1) lv (va :: va :: st)) : xV p l e R s m args below meth c G A nL Q cells slots ws pc lv (va :: st) := by
  obtain ⟨hx, hb, hr, hlo, hml, hown, hts, hK, hA⟩ := C
  exact x_lift hp (fun H locs ls hP hl k => lv_dup hx hb hdg hva k) kk
theorem x_pop (C : xCx p s m args meth c G K A nL cc own ret) {va : Value} (hdg : decode cc n = .ok (.pop, 1)) (hp : pc = n) (hva : va.category = 1) (kk : xV p l e R s m args below meth c G A nL Q cells slots ws (n + 1) lv st) : xV p l e R s m args below meth c G A nL Q cells slots ws pc lv (va :: st) := by
  obtain ⟨hx, hb, hr, hlo, hml, hown, hts, hK, hA⟩ := C
  exact x_lift hp (fun H locs ls hP hl k => lv_pop hx hb hdg hva k) kk
theorem x_dup2 (C : xCx p s m args meth c G K A nL cc own ret) {va vb : Value} (hdg : decode cc n = .ok (.dup2, 1)) (hp : pc = n) (hva : va.category = 1) (hvb : vb.category = 1) (kk : xV p l e R s m args below meth c G A nL Q cells slots ws (n + 1) lv (va :: vb :: va :: vb :: st)) : xV p l e R s m args below meth c G A nL Q cells slots ws pc lv (va :: vb :: st) := by
  obtain ⟨hx, hb, hr, hlo, hml, hown, hts, hK, hA⟩ := C
  exact x_lift hp (fun H locs ls hP hl k => lv_dup2_11 hx hb hdg hva hvb k) kk
theorem x_goto (C : xCx p s m args meth c G K A nL cc own ret) {off : Int} {tgt : Nat} (hdg : decode cc n = .ok (.goto off, 3)) (hp : pc = n) (ht : (n : Int) + off = (tgt : Int)) (kk : xV p l e R s m args below meth c G A nL Q cells slots ws tgt lv st) : xV p l e R s m args below meth c G A nL Q cells slots ws pc lv st := by
  obtain ⟨hx, hb, hr, hlo, hml, hown, hts, hK, hA⟩ := C
  exact x_lift hp (fun H locs ls hP hl k => lv_goto hx hb hdg ht k) kk
theorem x_icmp_eq (C : xCx p s m args meth c G K A nL cc own ret) {x y : Int32} {off : Int} (tgt : Nat) (hdg : decode cc n = .ok (.if_icmp .eq off, 3)) (hp : pc = n) (ht : (n : Int) + off = (tgt : Int)) (k1 : x = y → xV p l e R s m args below meth c G A nL Q cells slots ws tgt lv st) (k2 : ¬ (x = y) → xV p l e R s m args below meth c G A nL Q cells slots ws (n + 3) lv st) : xV p l e R s m args below meth c G A nL Q cells slots ws pc lv (.int y :: .int x :: st) := by
  obtain ⟨hx, hb, hr, hlo, hml, hown, hts, hK, hA⟩ := C
  subst hp
  intro H locs ls hP hD hS hl
  exact lv_icmp_eq hx hb hdg ht (fun h => k1 h H locs ls hP hD hS hl) (fun h => k2 h H locs ls hP hD hS hl)
theorem x_if_eq (C : xCx p s m args meth c G K A nL cc own ret) {x : Int32} {off : Int} (tgt : Nat) (hdg : decode cc n = .ok (.ifCond .eq off, 3)) (hp : pc = n) (ht : (n : Int) + off = (tgt : Int)) (k1 : x = 0 → xV p l e R s m args below meth c G A nL Q cells slots ws tgt lv st) (k2 : ¬ (x = 0) → xV p l e R s m args below meth c G A nL Q cells slots ws (n + 3) lv st) : xV p l e R s m args below meth c G A nL Q cells slots ws pc lv (.int x :: st) := by
  obtain ⟨hx, hb, hr, hlo, hml, hown, hts, hK, hA⟩ := C
  subst hp
  intro H locs ls hP hD hS hl
  exact lv_if_eq hx hb hdg ht (fun h => k1 h H locs ls hP hD hS hl) (fun h => k2 h H locs ls hP hD hS hl)
theorem x_icmp_ne (C : xCx p s m args meth c G K A nL cc own ret) {x y : Int32} {off : Int} (tgt : Nat) (hdg : decode cc n = .ok (.if_icmp .ne off, 3)) (hp : pc = n) (ht : (n : Int) + off = (tgt : Int)) (k1 : ¬ (x = y) → xV p l e R s m args below meth c G A nL Q cells slots ws tgt lv st) (k2 : x = y → xV p l e R s m args below meth c G A nL Q cells slots ws (n + 3) lv st) : xV p l e R s m args below meth c G A nL Q cells slots ws pc lv (.int y :: .int x :: st) := by
  obtain ⟨hx, hb, hr, hlo, hml, hown, hts, hK, hA⟩ := C
  subst hp
  intro H locs ls hP hD hS hl
  exact lv_icmp_ne hx hb hdg ht (fun h => k1 h H locs ls hP hD hS hl) (fun h => k2 h H locs ls hP hD hS hl)
theorem x_if_ne (C : xCx p s m args meth c G K A nL cc own ret) {x : Int32} {off : Int} (tgt : Nat) (hdg : decode cc n = .ok (.ifCond .ne off, 3)) (hp : pc = n) (ht : (n : Int) + off = (tgt : Int)) (k1 : ¬ (x = 0) → xV p l e R s m args below meth c G A nL Q cells slots ws tgt lv st) (k2 : x = 0 → xV p l e R s m args below meth c G A nL Q cells slots ws (n + 3) lv st) : xV p l e R s m args below meth c G A nL Q cells slots ws pc lv (.int x :: st) := by
  obtain ⟨hx, hb, hr, hlo, hml, hown, hts, hK, hA⟩ := C
  subst hp
  intro H locs ls hP hD hS hl
  exact lv_if_ne hx hb hdg ht (fun h => k1 h H locs ls hP hD hS hl) (fun h => k2 h H locs ls hP hD hS hl)
theorem x_icmp_lt (C : xCx p s m args meth c G K A nL cc own ret) {x y : Int32} {off : Int} (tgt : Nat) (hdg : decode cc n = .ok (.if_icmp .lt off, 3)) (hp : pc = n) (ht : (n : Int) + off = (tgt : Int)) (k1 : x < y → xV p l e R s m args below meth c G A nL Q cells slots ws tgt lv st) (k2 : ¬ (x < y) → xV p l e R s m args below meth c G A nL Q cells slots ws (n + 3) lv st) : xV p l e R s m args below meth c G A nL Q cells slots ws pc lv (.int y :: .int x :: st) := by
  obtain ⟨hx, hb, hr, hlo, hml, hown, hts, hK, hA⟩ := C
  subst hp
  intro H locs ls hP hD hS hl
  exact lv_icmp_lt hx hb hdg ht (fun h => k1 h H locs ls hP hD hS hl) (fun h => k2 h H locs ls hP hD hS hl)
theorem x_if_lt (C : xCx p s m args meth c G K A nL cc own ret) {x : Int32} {off : Int} (tgt : Nat) (hdg : decode cc n = .ok (.ifCond .lt off, 3)) (hp : pc = n) (ht : (n : Int) + off = (tgt : Int)) (k1 : x < 0 → xV p l e R s m args below meth c G A nL Q cells slots ws tgt lv st) (k2 : ¬ (x < 0) → xV p l e R s m args below meth c G A nL Q cells slots ws (n + 3) lv st) : xV p l e R s m args below meth c G A nL Q cells slots ws pc lv (.int x :: st) := by
  obtain ⟨hx, hb, hr, hlo, hml, hown, hts, hK, hA⟩ := C
  subst hp
  intro H locs ls hP hD hS hl
  exact lv_if_lt hx hb hdg ht (fun h => k1 h H locs ls hP hD hS hl) (fun h => k2 h H locs ls hP hD hS hl)
theorem x_icmp_ge (C : xCx p s m args meth c G K A nL cc own ret) {x y : Int32} {off : Int} (tgt : Nat) (hdg : decode cc n = .ok (.if_icmp .ge off, 3)) (hp : pc = n) (ht : (n : Int) + off = (tgt : Int)) (k1 : y ≤ x → xV p l e R s m args below meth c G A nL Q cells slots ws tgt lv st) (k2 : ¬ (y ≤ x) → xV p l e R s m args below meth c G A nL Q cells slots ws (n + 3) lv st) : xV p l e R s m args below meth c G A nL Q cells slots ws pc lv (.int y :: .int x :: st) := by
  obtain ⟨hx, hb, hr, hlo, hml, hown, hts, hK, hA⟩ := C
  subst hp
  intro H locs ls hP hD hS hl
  exact lv_icmp_ge hx hb hdg ht (fun h => k1 h H locs ls hP hD hS hl) (fun h => k2 h H locs ls hP hD hS hl)
theorem x_if_ge (C : xCx p s m args meth c G K A nL cc own ret) {x : Int32} {off : Int} (tgt : Nat) (hdg : decode cc n = .ok (.ifCond .ge off, 3)) (hp : pc = n) (ht : (n : Int) + off = (tgt : Int)) (k1 : 0 ≤ x → xV p l e R s m args below meth c G A nL Q cells slots ws tgt lv st) (k2 : ¬ (0 ≤ x) → xV p l e R s m args below meth c G A nL Q cells slots ws (n + 3) lv st) : xV p l e R s m args below meth c G A nL Q cells slots ws pc lv (.int x :: st) := by
  obtain ⟨hx, hb, hr, hlo, hml, hown, hts, hK, hA⟩ := C
  subst hp
  intro H locs ls hP hD hS hl
  exact lv_if_ge hx hb hdg ht (fun h => k1 h H locs ls hP hD hS hl) (fun h => k2 h H locs ls hP hD hS hl)
theorem x_icmp_gt (C : xCx p s m args meth c G K A nL cc own ret) {x y : Int32} {off : Int} (tgt : Nat) (hdg : decode cc n = .ok (.if_icmp .gt off, 3)) (hp : pc = n) (ht : (n : Int) + off = (tgt : Int)) (k1 : y < x → xV p l e R s m args below meth c G A nL Q cells slots ws tgt lv st) (k2 : ¬ (y < x) → xV p l e R s m args below meth c G A nL Q cells slots ws (n + 3) lv st) : xV p l e R s m args below meth c G A nL Q cells slots ws pc lv (.int y :: .int x :: st) := by
  obtain ⟨hx, hb, hr, hlo, hml, hown, hts, hK, hA⟩ := C
  subst hp
  intro H locs ls hP hD hS hl
  exact lv_icmp_gt hx hb hdg ht (fun h => k1 h H locs ls hP hD hS hl) (fun h => k2 h H locs ls hP hD hS hl)
theorem x_if_gt (C : xCx p s m args meth c G K A nL cc own ret) {x : Int32} {off : Int} (tgt : Nat) (hdg : decode cc n = .ok (.ifCond .gt off, 3)) (hp : pc = n) (ht : (n : Int) + off = (tgt : Int)) (k1 : 0 < x → xV p l e R s m args below meth c G A nL Q cells slots ws tgt lv st) (k2 : ¬ (0 < x) → xV p l e R s m args below meth c G A nL Q cells slots ws (n + 3) lv st) : xV p l e R s m args below meth c G A nL Q cells slots ws pc lv (.int x :: st) := by
  obtain ⟨hx, hb, hr, hlo, hml, hown, hts, hK, hA⟩ := C
  subst hp
  intro H locs ls hP hD hS hl
  exact lv_if_gt hx hb hdg ht (fun h => k1 h H locs ls hP hD hS hl) (fun h => k2 h H locs ls hP hD hS hl)
theorem x_icmp_le (C : xCx p s m args meth c G K A nL cc own ret) {x y : Int32} {off : Int} (tgt : Nat) (hdg : decode cc n = .ok (.if_icmp .le off, 3)) (hp : pc = n) (ht : (n : Int) + off = (tgt : Int)) (k1 : x ≤ y → xV p l e R s m args below meth c G A nL Q cells slots ws tgt lv st) (k2 : ¬ (x ≤ y) → xV p l e R s m args below meth c G A nL Q cells slots ws (n + 3) lv st) : xV p l e R s m args below meth c G A nL Q cells slots ws pc lv (.int y :: .int x :: st) := by
  obtain ⟨hx, hb, hr, hlo, hml, hown, hts, hK, hA⟩ := C
  subst hp
  intro H locs ls hP hD hS hl
  exact lv_icmp_le hx hb hdg ht (fun h => k1 h H locs ls hP hD hS hl) (fun h => k2 h H locs ls hP hD hS hl)
theorem x_if_le (C : xCx p s m args meth c G K A nL cc own ret) {x : Int32} {off : Int} (tgt : Nat) (hdg : decode cc n = .ok (.ifCond .le off, 3)) (hp : pc = n) (ht : (n : Int) + off = (tgt : Int)) (k1 : x ≤ 0 → xV p l e R s m args below meth c G A nL Q cells slots ws tgt lv st) (k2 : ¬ (x ≤ 0) → xV p l e R s m args below meth c G A nL Q cells slots ws (n + 3) lv st) : xV p l e R s m args below meth c G A nL Q cells slots ws pc lv (.int x :: st) := by
  obtain ⟨hx, hb, hr, hlo, hml, hown, hts, hK, hA⟩ := C
  subst hp
  intro H locs ls hP hD hS hl
  exact lv_if_le hx hb hdg ht (fun h => k1 h H locs ls hP hD hS hl) (fun h => k2 h H locs ls hP hD hS hl)
theorem x_tableIn (C : xCx p s m args meth c G K A nL cc own ret) {dflt lo hi : Int} {offs : Array Int} {len : Nat} {x : Int32} {off : Int} (tgt : Nat) (hdg : decode cc n = .ok (.tableswitch dflt lo hi offs, len)) (hp : pc = n) (h1 : ¬ x.toInt < lo) (h2 : ¬ hi < x.toInt) (ho : offs[(x.toInt - lo).toNat]? = some off) (ht : (n : Int) + off = (tgt : Int)) (kk : xV p l e R s m args below meth c G A nL Q cells slots ws tgt lv st) : xV p l e R s m args below meth c G A nL Q cells slots ws pc lv (.int x :: st) := by
  obtain ⟨hx, hb, hr, hlo, hml, hown, hts, hK, hA⟩ := C
  exact x_lift hp (fun H locs ls hP hl k => lv_tableIn hx hb hdg h1 h2 ho ht k) kk
theorem x_tableOut (C : xCx p s m args meth c G K A nL cc own ret) {dflt lo hi : Int} {offs : Array Int} {len : Nat} {x : Int32} (tgt : Nat) (hdg : decode cc n = .ok (.tableswitch dflt lo hi offs, len)) (hp : pc = n) (h : x.toInt < lo ∨ hi < x.toInt) (ht : (n : Int) + dflt = (tgt : Int)) (kk : xV p l e R s m args below meth c G A nL Q cells slots ws tgt lv st) : xV p l e R s m args below meth c G A nL Q cells slots ws pc lv (.int x :: st) := by
  obtain ⟨hx, hb, hr, hlo, hml, hown, hts, hK, hA⟩ := C
  exact x_lift hp (fun H locs ls hP hl k => lv_tableOut hx hb hdg h ht k) kk
theorem x_lc_eq (C : xCx p s m args meth c G K A nL cc own ret) {x y : Int64} {off : Int} (tgt : Nat) (d1 : decode cc n = .ok (.lcmp, 1)) (hdg : decode cc (n + 1) = .ok (.ifCond .eq off, 3)) (hp : pc = n) (ht : ((n + 1 : Nat) : Int) + off = (tgt : Int)) (k1 : x = y → xV p l e R s m args below meth c G A nL Q cells slots ws tgt lv st) (k2 : ¬ (x = y) → xV p l e R s m args below meth c G A nL Q cells slots ws (n + 4) lv st) : xV p l e R s m args below meth c G A nL Q cells slots ws pc lv (.long y :: .long x :: st) :=
  x_lcmp C d1 hp (x_if_eq C tgt hdg rfl ht (fun h => k1 ((lg_cmp_eq x y).mp h)) (fun h => k2 (fun q => h ((lg_cmp_eq x y).mpr q))))
theorem x_lc_ne (C : xCx p s m args meth c G K A nL cc own ret) {x y : Int64} {off : Int} (tgt : Nat) (d1 : decode cc n = .ok (.lcmp, 1)) (hdg : decode cc (n + 1) = .ok (.ifCond .ne off, 3)) (hp : pc = n) (ht : ((n + 1 : Nat) : Int) + off = (tgt : Int)) (k1 : ¬ (x = y) → xV p l e R s m args below meth c G A nL Q cells slots ws tgt lv st) (k2 : x = y → xV p l e R s m args below meth c G A nL Q cells slots ws (n + 4) lv st) : xV p l e R s m args below meth c G A nL Q cells slots ws pc lv (.long y :: .long x :: st) :=
  x_lcmp C d1 hp (x_if_ne C tgt hdg rfl ht (fun h => k1 (fun q => h ((lg_cmp_eq x y).mpr q))) (fun h => k2 ((lg_cmp_eq x y).mp h)))
theorem x_lc_lt (C : xCx p s m args meth c G K A nL cc own ret) {x y : Int64} {off : Int} (tgt : Nat) (d1 : decode cc n = .ok (.lcmp, 1)) (hdg : decode cc (n + 1) = .ok (.ifCond .lt off, 3)) (hp : pc = n) (ht : ((n + 1 : Nat) : Int) + off = (tgt : Int)) (k1 : x < y → xV p l e R s m args below meth c G A nL Q cells slots ws tgt lv st) (k2 : ¬ (x < y) → xV p l e R s m args below meth c G A nL Q cells slots ws (n + 4) lv st) : xV p l e R s m args below meth c G A nL Q cells slots ws pc lv (.long y :: .long x :: st) :=
  x_lcmp C d1 hp (x_if_lt C tgt hdg rfl ht (fun h => k1 ((lg_cmp_lt x y).mp h)) (fun h => k2 (fun q => h ((lg_cmp_lt x y).mpr q))))
theorem x_lc_ge (C : xCx p s m args meth c G K A nL cc own ret) {x y : Int64} {off : Int} (tgt : Nat) (d1 : decode cc n = .ok (.lcmp, 1)) (hdg : decode cc (n + 1) = .ok (.ifCond .ge off, 3)) (hp : pc = n) (ht : ((n + 1 : Nat) : Int) + off = (tgt : Int)) (k1 : y ≤ x → xV p l e R s m args below meth c G A nL Q cells slots ws tgt lv st) (k2 : ¬ (y ≤ x) → xV p l e R s m args below meth c G A nL Q cells slots ws (n + 4) lv st) : xV p l e R s m args below meth c G A nL Q cells slots ws pc lv (.long y :: .long x :: st) :=
  x_lcmp C d1 hp (x_if_ge C tgt hdg rfl ht (fun h => k1 ((lg_cmp_ge x y).mp h)) (fun h => k2 (fun q => h ((lg_cmp_ge x y).mpr q))))
theorem x_lc_gt (C : xCx p s m args meth c G K A nL cc own ret) {x y : Int64} {off : Int} (tgt : Nat) (d1 : decode cc n = .ok (.lcmp, 1)) (hdg : decode cc (n + 1) = .ok (.ifCond .gt off, 3)) (hp : pc = n) (ht : ((n + 1 : Nat) : Int) + off = (tgt : Int)) (k1 : y < x → xV p l e R s m args below meth c G A nL Q cells slots ws tgt lv st) (k2 : ¬ (y < x) → xV p l e R s m args below meth c G A nL Q cells slots ws (n + 4) lv st) : xV p l e R s m args below meth c G A nL Q cells slots ws pc lv (.long y :: .long x :: st) :=
  x_lcmp C d1 hp (x_if_gt C tgt hdg rfl ht (fun h => k1 ((lg_cmp_gt x y).mp h)) (fun h => k2 (fun q => h ((lg_cmp_gt x y).mpr q))))
theorem x_lc_le (C : xCx p s m args meth c G K A nL cc own ret) {x y : Int64} {off : Int} (tgt : Nat) (d1 : decode cc n = .ok (.lcmp, 1)) (hdg : decode cc (n + 1) = .ok (.ifCond .le off, 3)) (hp : pc = n) (ht : ((n + 1 : Nat) : Int) + off = (tgt : Int)) (k1 : x ≤ y → xV p l e R s m args below meth c G A nL Q cells slots ws tgt lv st) (k2 : ¬ (x ≤ y) → xV p l e R s m args below meth c G A nL Q cells slots ws (n + 4) lv st) : xV p l e R s m args below meth c G A nL Q cells slots ws pc lv (.long y :: .long x :: st) :=
  x_lcmp C d1 hp (x_if_le C tgt hdg rfl ht (fun h => k1 ((lg_cmp_le x y).mp h)) (fun h => k2 (fun q => h ((lg_cmp_le x y).mpr q))))
theorem x_max (C : xCx p s m args meth c G K A nL cc own ret) {idx : Nat} {x y : Int32} {rest : List Value} (hw : Cond.methodLink own idx Lib.Math.max.name ∈ gw_tbl ∧ Cond.static Lib.Math.max.name ∈ gw_tbl ∧ Cond.initialized "java/lang/Math" ∈ gw_tbl ∧ Cond.code Lib.Math.max.name Lib.Math.max.code 2 (some .int) ∈ gw_tbl) (hR : 1 ≤ R.frames ∧ (rest.map fun v => v.category).sum + 13 ≤ R.locals) (hf : cells ≤ R.cells ∧ slots ≤ R.slots) (hdg : decode cc n = .ok (.invokestatic idx, 3)) (hp : pc = n) (kk : xV p l e R s m args below meth c G A nL Q cells slots ws (n + 3) lv (.int (if x < y then y else x) :: rest)) : xV p l e R s m args below meth c G A nL Q cells slots ws pc lv (.int y :: .int x :: rest) := by
  obtain ⟨hx, hb, hr, hlo, hml, hown, hts, hK, hA⟩ := C
  exact x_lift hp (fun H locs ls hP hl k => va_mmax hx hb (hml.trans hl.1.symm) hown (hts _ hw.1) (hts _ hw.2.1) (hts _ hw.2.2.1) (hts _ hw.2.2.2) hR.1 hR.2 hf.1 hf.2 hdg k) kk
theorem x_min (C : xCx p s m args meth c G K A nL cc own ret) {idx : Nat} {x y : Int32} {rest : List Value} (hw : Cond.methodLink own idx Lib.Math.min.name ∈ gw_tbl ∧ Cond.static Lib.Math.min.name ∈ gw_tbl ∧ Cond.initialized "java/lang/Math" ∈ gw_tbl ∧ Cond.code Lib.Math.min.name Lib.Math.min.code 2 (some .int) ∈ gw_tbl) (hR : 1 ≤ R.frames ∧ (rest.map fun v => v.category).sum + 13 ≤ R.locals) (hf : cells ≤ R.cells ∧ slots ≤ R.slots) (hdg : decode cc n = .ok (.invokestatic idx, 3)) (hp : pc = n) (kk : xV p l e R s m args below meth c G A nL Q cells slots ws (n + 3) lv (.int (if y < x then y else x) :: rest)) : xV p l e R s m args below meth c G A nL Q cells slots ws pc lv (.int y :: .int x :: rest) := by
  obtain ⟨hx, hb, hr, hlo, hml, hown, hts, hK, hA⟩ := C
  exact x_lift hp (fun H locs ls hP hl k => va_mmin hx hb (hml.trans hl.1.symm) hown (hts _ hw.1) (hts _ hw.2.1) (hts _ hw.2.2.1) (hts _ hw.2.2.2) hR.1 hR.2 hf.1 hf.2 hdg k) kk
theorem x_get (C : xCx p s m args meth c G K A nL cc own ret) {ref C9 : String} {T : u_T} {N ci index a : Nat} (q0 : Nat) {fs : List Value} (hc : vwCl[ci]? = some (C9, T, N)) (hin : ∀ w ∈ u_ws C9 T N, w ∈ gw_tbl) (k : Nat) (hk : k < N) (hsame : (T k).1 = ref) (he : ws[q0]? = some (a, .inr (ci, fs))) {v : Value} (hv : fs[k]? = some v) (hlink : Cond.fieldLink own index ref (T k).2.1 (T k).2.2.1 ∈ gw_tbl) (hdg : decode cc n = .ok (.getfield index, 3)) (hp : pc = n) (kk : xV p l e R s m args below meth c G A nL Q cells slots ws (n + 3) lv (v :: st)) : xV p l e R s m args below meth c G A nL Q cells slots ws pc lv (.ref a :: st) := by
  obtain ⟨hx, hb, hr, hlo, hml, hown, hts, hK, hA⟩ := C
  exact x_lift hp (fun H locs ls hP hl k9 => va_get hx hb hts hin hown hK hP q0 he hc k hk (hts _ hlink) (fun x h => by rw [← hsame]; exact h) hv hdg k9) kk
theorem x_put (C : xCx p s m args meth c G K A nL cc own ret) {ref C9 : String} {T : u_T} {N ci index a : Nat} (q0 : Nat) {fs : List Value} {ws' : va_W} (ty0 : Nat → FieldType) (hty : ∀ k, k < N → parseFieldDescriptor (T k).2.2.1 = some (ty0 k)) (hnm : ∀ a, a < N → ∀ b, b < N → a ≠ b → (T a).2.1 ≠ (T b).2.1) (hc : vwCl[ci]? = some (C9, T, N)) (hin : ∀ w ∈ u_ws C9 T N, w ∈ gw_tbl) (k : Nat) (hk : k < N) (hsame : (T k).1 = ref) (hfin : (T k).2.2.2 = false) (he : ws[q0]? = some (a, .inr (ci, fs))) {ty : FieldType} {v : Value} (hd : parseFieldDescriptor (T k).2.2.1 = some ty) (hn : narrow ty v = v) (hfit : fits ty v = true) (hl : k < fs.length) (hws : ws.set q0 (a, .inr (ci, fs.set k v)) = ws') (hlink : Cond.fieldLink own index ref (T k).2.1 (T k).2.2.1 ∈ gw_tbl) (hdg : decode cc n = .ok (.putfield index, 3)) (hp : pc = n) (kk : xV p l e R s m args below meth c G A nL Q cells slots ws' (n + 3) lv st) : xV p l e R s m args below meth c G A nL Q cells slots ws pc lv (v :: .ref a :: st) := by
  obtain ⟨hx, hb, hr, hlo, hml, hown, hts, hK, hA⟩ := C
  subst hp; subst hws
  intro H locs ls hP hD hS hl0
  exact va_put hx hb hts hin ty0 hty hnm hown hK hP hD hS q0 he hc k hk (hts _ hlink) (fun x h => by rw [← hsame]; exact h) hfin hd hn hfit hl hdg (fun H1 locs1 hP1 hD1 hS1 => kk H1 locs1 ls hP1 hD1 hS1 hl0)
theorem x_iald (C : xCx p s m args meth c G K A nL cc own ret) {a N9 : Nat} {f : Nat → Int32} {i : Int32} (q0 : Nat) (he : ws[q0]? = some (a, .inl (K 0, N9, .inl f))) (hin : vp_in i N9) (hdg : decode cc n = .ok (.iaload, 1)) (hp : pc = n) (kk : xV p l e R s m args below meth c G A nL Q cells slots ws (n + 1) lv (.int (f i.toNatClampNeg) :: st)) : xV p l e R s m args below meth c G A nL Q cells slots ws pc lv (.int i :: .ref a :: st) := by
  obtain ⟨hx, hb, hr, hlo, hml, hown, hts, hK, hA⟩ := C
  exact x_lift hp (fun H locs ls hP hl k9 => va_iald hx hb hK hP q0 0 he rfl hin hdg k9) kk
theorem x_bald (C : xCx p s m args meth c G K A nL cc own ret) {a N9 : Nat} {f : Nat → Int32} {i : Int32} (q0 : Nat) (he : ws[q0]? = some (a, .inl (K 3, N9, .inl f))) (hin : vp_in i N9) (hdg : decode cc n = .ok (.baload, 1)) (hp : pc = n) (kk : xV p l e R s m args below meth c G A nL Q cells slots ws (n + 1) lv (.int (f i.toNatClampNeg) :: st)) : xV p l e R s m args below meth c G A nL Q cells slots ws pc lv (.int i :: .ref a :: st) := by
  obtain ⟨hx, hb, hr, hlo, hml, hown, hts, hK, hA⟩ := C
  exact x_lift hp (fun H locs ls hP hl k9 => va_bald hx hb hK hP q0 3 he rfl hin hdg k9) kk
theorem x_zald (C : xCx p s m args meth c G K A nL cc own ret) {a N9 : Nat} {f : Nat → Int32} {i : Int32} (q0 : Nat) (he : ws[q0]? = some (a, .inl (K 2, N9, .inl f))) (hin : vp_in i N9) (hdg : decode cc n = .ok (.baload, 1)) (hp : pc = n) (kk : xV p l e R s m args below meth c G A nL Q cells slots ws (n + 1) lv (.int (f i.toNatClampNeg) :: st)) : xV p l e R s m args below meth c G A nL Q cells slots ws pc lv (.int i :: .ref a :: st) := by
  obtain ⟨hx, hb, hr, hlo, hml, hown, hts, hK, hA⟩ := C
  exact x_lift hp (fun H locs ls hP hl k9 => va_zald hx hb hK hP q0 2 he rfl hin hdg k9) kk
theorem x_lald (C : xCx p s m args meth c G K A nL cc own ret) {a N9 : Nat} {f : Nat → Int64} {i : Int32} (q0 : Nat) (he : ws[q0]? = some (a, .inl (K 1, N9, .inr (.inl f)))) (hin : vp_in i N9) (hdg : decode cc n = .ok (.laload, 1)) (hp : pc = n) (kk : xV p l e R s m args below meth c G A nL Q cells slots ws (n + 1) lv (.long (f i.toNatClampNeg) :: st)) : xV p l e R s m args below meth c G A nL Q cells slots ws pc lv (.int i :: .ref a :: st) := by
  obtain ⟨hx, hb, hr, hlo, hml, hown, hts, hK, hA⟩ := C
  exact x_lift hp (fun H locs ls hP hl k9 => va_lald hx hb hK hP q0 1 he rfl hin hdg k9) kk
theorem x_iast (C : xCx p s m args meth c G K A nL cc own ret) {a N9 : Nat} {f : Nat → Int32} {i : Int32} {x : Int32} {ws' : va_W} (q0 : Nat) (he : ws[q0]? = some (a, .inl (K 0, N9, .inl f))) (hin : vp_in i N9) (hws : ws.set q0 (a, .inl (K 0, N9, .inl (upd f i.toNatClampNeg x))) = ws') (hdg : decode cc n = .ok (.iastore, 1)) (hp : pc = n) (kk : xV p l e R s m args below meth c G A nL Q cells slots ws' (n + 1) lv st) : xV p l e R s m args below meth c G A nL Q cells slots ws pc lv (.int x :: .int i :: .ref a :: st) := by
  obtain ⟨hx, hb, hr, hlo, hml, hown, hts, hK, hA⟩ := C
  subst hp; subst hws
  intro H locs ls hP hD hS hl0
  exact va_iast hx hb hK hP hD hS q0 0 he rfl hin hdg (fun H1 locs1 hP1 hD1 hS1 => kk H1 locs1 ls hP1 hD1 hS1 hl0)
theorem x_bast (C : xCx p s m args meth c G K A nL cc own ret) {a N9 : Nat} {f : Nat → Int32} {i : Int32} {x : Int32} {ws' : va_W} (q0 : Nat) (he : ws[q0]? = some (a, .inl (K 3, N9, .inl f))) (hin : vp_in i N9) (hws : ws.set q0 (a, .inl (K 3, N9, .inl (upd f i.toNatClampNeg (vp_nar .byte x)))) = ws') (hdg : decode cc n = .ok (.bastore, 1)) (hp : pc = n) (kk : xV p l e R s m args below meth c G A nL Q cells slots ws' (n + 1) lv st) : xV p l e R s m args below meth c G A nL Q cells slots ws pc lv (.int x :: .int i :: .ref a :: st) := by
  obtain ⟨hx, hb, hr, hlo, hml, hown, hts, hK, hA⟩ := C
  subst hp; subst hws
  intro H locs ls hP hD hS hl0
  exact va_bast hx hb hK hP hD hS q0 3 he rfl hin hdg (fun H1 locs1 hP1 hD1 hS1 => kk H1 locs1 ls hP1 hD1 hS1 hl0)
theorem x_zast (C : xCx p s m args meth c G K A nL cc own ret) {a N9 : Nat} {f : Nat → Int32} {i : Int32} {x : Int32} {ws' : va_W} (q0 : Nat) (he : ws[q0]? = some (a, .inl (K 2, N9, .inl f))) (hin : vp_in i N9) (hws : ws.set q0 (a, .inl (K 2, N9, .inl (upd f i.toNatClampNeg (vp_nar .boolean x)))) = ws') (hdg : decode cc n = .ok (.bastore, 1)) (hp : pc = n) (kk : xV p l e R s m args below meth c G A nL Q cells slots ws' (n + 1) lv st) : xV p l e R s m args below meth c G A nL Q cells slots ws pc lv (.int x :: .int i :: .ref a :: st) := by
  obtain ⟨hx, hb, hr, hlo, hml, hown, hts, hK, hA⟩ := C
  subst hp; subst hws
  intro H locs ls hP hD hS hl0
  exact va_zast hx hb hK hP hD hS q0 2 he rfl hin hdg (fun H1 locs1 hP1 hD1 hS1 => kk H1 locs1 ls hP1 hD1 hS1 hl0)
theorem x_last (C : xCx p s m args meth c G K A nL cc own ret) {a N9 : Nat} {f : Nat → Int64} {i : Int32} {x : Int64} {ws' : va_W} (q0 : Nat) (he : ws[q0]? = some (a, .inl (K 1, N9, .inr (.inl f)))) (hin : vp_in i N9) (hws : ws.set q0 (a, .inl (K 1, N9, .inr (.inl (vp_updL f i.toNatClampNeg x)))) = ws') (hdg : decode cc n = .ok (.lastore, 1)) (hp : pc = n) (kk : xV p l e R s m args below meth c G A nL Q cells slots ws' (n + 1) lv st) : xV p l e R s m args below meth c G A nL Q cells slots ws pc lv (.long x :: .int i :: .ref a :: st) := by
  obtain ⟨hx, hb, hr, hlo, hml, hown, hts, hK, hA⟩ := C
  subst hp; subst hws
  intro H locs ls hP hD hS hl0
  exact va_last hx hb hK hP hD hS q0 1 he rfl hin hdg (fun H1 locs1 hP1 hD1 hS1 => kk H1 locs1 ls hP1 hD1 hS1 hl0)
theorem x_aldq (C : xCx p s m args meth c G K A nL cc own ret) {a N9 v : Nat} {f : Nat → Option Nat} {i : Int32} (q0 : Nat) (he : ws[q0]? = some (a, .inl (K 4, N9, .inr (.inr (.inr (.inr f)))))) (hin : vp_in i N9) (hv : f i.toNatClampNeg = some v) (hdg : decode cc n = .ok (.aaload, 1)) (hp : pc = n) (kk : xV p l e R s m args below meth c G A nL Q cells slots ws (n + 1) lv (.ref v :: st)) : xV p l e R s m args below meth c G A nL Q cells slots ws pc lv (.int i :: .ref a :: st) := by
  obtain ⟨hx, hb, hr, hlo, hml, hown, hts, hK, hA⟩ := C
  exact x_lift hp (fun H locs ls hP hl k9 => va_aldq hx hb hK hP q0 4 he rfl hin hdg (by rw [hv]; exact k9)) kk
theorem x_astq (C : xCx p s m args meth c G K A nL cc own ret) {a N9 v ci : Nat} {vs : List Value} {r : vw_C} {f : Nat → Option Nat} {i : Int32} {ws' : va_W} (q0 qk : Nat) (he : ws[q0]? = some (a, .inl (K 4, N9, .inr (.inr (.inr (.inr f)))))) (hv : ws[qk]? = some (v, .inr (ci, vs))) (hc : vwCl[ci]? = some r) (hr1 : r.1 = "NeighbourDesk$Entry") (hin : vp_in i N9) (hws : ws.set q0 (a, .inl (K 4, N9, .inr (.inr (.inr (.inr (va_up f i.toNatClampNeg (some v))))))) = ws') (hdg : decode cc n = .ok (.aastore, 1)) (hp : pc = n) (kk : xV p l e R s m args below meth c G A nL Q cells slots ws' (n + 1) lv st) : xV p l e R s m args below meth c G A nL Q cells slots ws pc lv (.ref v :: .int i :: .ref a :: st) := by
  obtain ⟨hx, hb, hr, hlo, hml, hown, hts, hK, hA⟩ := C
  subst hp; subst hws
  intro H locs ls hP hD hS hl0
  exact va_astq hx hb hK hP hD hS q0 4 qk ci he (by rw [hr1]; rfl) hv hc hin hdg (fun H1 locs1 hP1 hD1 hS1 => kk H1 locs1 ls hP1 hD1 hS1 hl0)
theorem x_alen (C : xCx p s m args meth c G K A nL cc own ret) {a : Nat} {x : vp_A} {v : Int32} {ty : FieldType} {cA : ClassId} (q0 t0 : Nat) (he : ws[q0]? = some (a, .inl (cA, x))) (ht : (xty K)[t0]? = some (cA, ty)) (hv : Int32.ofNat x.1 = v) (hdg : decode cc n = .ok (.arraylength, 1)) (hp : pc = n) (kk : xV p l e R s m args below meth c G A nL Q cells slots ws (n + 1) lv (.int v :: st)) : xV p l e R s m args below meth c G A nL Q cells slots ws pc lv (.ref a :: st) := by
  obtain ⟨hx, hb, hr, hlo, hml, hown, hts, hK, hA⟩ := C
  exact x_lift hp (fun H locs ls hP hl k9 => va_alen hx hb hK hP q0 t0 he ht hv hdg k9) kk
def xQc (G : va_G) (A : Nat → Prop) (ws0 : va_W) (Po : Option Value → va_W → Prop) : Array Value → State → Outcome → State → Prop := fun _ s0 o t => (∃ (v : Option Value) (ws' : va_W), o = .returned v ∧ Po v ws' ∧ va_P G vwCl ws' t.heap ∧ ws'.map Prod.fst = ws0.map Prod.fst) ∧ va_F A s0 t
def xPre (G : va_G) (K : Nat → ClassId) (av : List Value) (ws : va_W) (sz : Nat) : Array Value → State → Prop := va_Pc av (fun U => U.heap.size = sz ∧ va_P G vwCl ws U.heap ∧ va_K G vwCl (xty K) U ∧ va_D (fun _ => True) ws)
abbrev xRm (fr lo mc ms : Nat) : Room := { frames := fr, cells := mc, slots := ms, locals := lo }
def xMet (l : Launch) (y : MethodName) (cc : ByteArray) (n : Nat) (ret : Option FieldType) (fr lo mc ms : Nat) (G : va_G) (K : Nat → ClassId) (av : List Value) (ws : va_W) (Po : Option Value → va_W → Prop) : Prop :=
  ∀ sz : Nat, Met l y (Cond.code y cc n ret :: gw_tbl) (xRm fr lo mc ms) (xPre G K av ws sz) (xQc G (va_A ws sz) ws Po) mc ms (va_A ws sz)
abbrev xQ (G : va_G) (A : Nat → Prop) (ws0 : va_W) (Po : Option Value → va_W → Prop) (below : List Frame) (args : Array Value) (s : State) (mc ms : Nat) : State → Prop := MQ below (xQc G A ws0 Po) args s mc ms A
theorem xMet.ofWF {l : Launch} {y : MethodName} {ws9 ws9' : List Cond} {rm : Room} {Pc : Array Value → State → Prop} {Qc : Array Value → State → Outcome → State → Prop} {mc ms : Nat} {free : Addr → Prop} {maxL : Nat}
    (hy : plainFor y = true) (hw : ws9 = Cond.code y cc maxL ret :: ws9')
    (body : ∀ p e s m args below meth c s₁, BodyLoose p l y (headSpec ws9 rm) cc maxL ret e s m args below meth c s₁ → c.maxLocals = maxL → Pc args s →
      W p l e (headSpec ws9 rm).room s m args below meth c s.heap [] 0 0 (MQ below Qc args s mc ms free) (entryFrame m args maxL)) : Met l y ws9 rm Pc Qc mc ms free := by
  refine MetFree.of_bodySF (code := cc) (maxLocals := maxL) (ret := ret) hy ?_ ?_
  · intro args s m h hn
    obtain ⟨meth, c, h1, h2, h3, h4, h5, h6, -, -⟩ := Cond.code_spec hn (atoms_spec (ws := ws9) h _ (by rw [hw]; exact List.mem_cons_self))
    exact ⟨meth, c, h1, h2, h3, h4, h5, h6⟩
  · intro p e s m args below meth c s₁ B hml hP _
    have hh0 : s₁.heap = s.heap := by rw [B.state]; rfl
    obtain ⟨t, a1, o, b1, b2, b3⟩ := body p e s m args below meth c s₁ B hml hP s₁ hh0 (Stand.of_body B)
    exact ⟨t, o, a1, b1, b2, ⟨b3.1, b3.2⟩⟩
theorem xMet.intro {l : Launch} {y : MethodName} {fr lo mc ms : Nat} {av : List Value} {Po : Option Value → va_W → Prop} (hy : plainFor y = true) (ho : y.cls = own) (hn : (lg_sl av).length ≤ n) (hlv : lv_args 0 av = lv)
    (body : ∀ (p : Program) (e : Env) (s : State) (m : MethodId) (args : Array Value) (below : List Frame) (meth : Method) (c : Code) (A : Nat → Prop), xCx p s m args meth c G K A n cc own ret → xV p l e (xRm fr lo mc ms) s m args below meth c G A n (xQ G A ws Po below args s mc ms) 0 0 ws 0 lv []) : xMet l y cc n ret fr lo mc ms G K av ws Po := by
  intro sz
  refine xMet.ofWF (cc := cc) (maxL := n) (ret := ret) hy rfl ?_
  intro p e s m args below meth c s₁ B hml hv
  obtain ⟨rfl, hsz, hP, hK, hD0⟩ := hv
  have hts := atoms_spec (ws := Cond.code y cc n ret :: gw_tbl) B.pre
  have hown : s.vm.findClass y.cls = some m.cls := findClass_of_methodNamed B.named
  subst hsz
  have hl := lv_entry av (n := n) hn
  rw [lg_entry_eq]
  rw [hlv] at hl
  exact body p e s m _ below meth c (va_A ws s.heap.size) ⟨B.exec, B.bytes, B.returns, B.notSynchronized, hml, ho ▸ hown, fun w h => hts w (List.mem_cons_of_mem _ h), hK, fun q h => Or.inr h⟩ s.heap [] _ hP hD0.self va_S.rf hl

theorem x_iret {v : Int32} (C : xCx p s m args meth c G K A nL cc own (some .int)) {ws0 : va_W} {Po : Option Value → va_W → Prop} (hdg : decode cc n = .ok (.ireturn, 1)) (hp : pc = n) (hs : ws.map Prod.fst = ws0.map Prod.fst) (hPo : Po (some (.int v)) ws) : xV p l e R s m args below meth c G A nL (xQ G A ws0 Po below args s cells slots) cells slots ws pc lv ([.int v]) := by
  obtain ⟨hx, hb, hr, hlo, hml, hown, hts, hK, hA⟩ := C
  subst hp
  intro H locs ls hP hD hS hl
  exact W.iret hx hb hr (fun t ht hW => ⟨⟨_, ws, rfl, hPo, by rw [ht]; exact hP, hs⟩, hS.F ht⟩) hS.2.2 hdg hlo
theorem x_zret {v : Int32} (C : xCx p s m args meth c G K A nL cc own (some .boolean)) {ws0 : va_W} {Po : Option Value → va_W → Prop} (hdg : decode cc n = .ok (.ireturn, 1)) (hp : pc = n) (hn : narrow .boolean (.int v) = .int v) (hs : ws.map Prod.fst = ws0.map Prod.fst) (hPo : Po (some (.int v)) ws) : xV p l e R s m args below meth c G A nL (xQ G A ws0 Po below args s cells slots) cells slots ws pc lv ([.int v]) := by
  obtain ⟨hx, hb, hr, hlo, hml, hown, hts, hK, hA⟩ := C
  subst hp
  intro H locs ls hP hD hS hl
  exact W.zret hx hb hr hn (fun t ht hW => ⟨⟨_, ws, rfl, hPo, by rw [ht]; exact hP, hs⟩, hS.F ht⟩) hS.2.2 hdg hlo
theorem x_lret {v : Int64} (C : xCx p s m args meth c G K A nL cc own (some .long)) {ws0 : va_W} {Po : Option Value → va_W → Prop} (hdg : decode cc n = .ok (.lreturn, 1)) (hp : pc = n) (hs : ws.map Prod.fst = ws0.map Prod.fst) (hPo : Po (some (.long v)) ws) : xV p l e R s m args below meth c G A nL (xQ G A ws0 Po below args s cells slots) cells slots ws pc lv ([.long v]) := by
  obtain ⟨hx, hb, hr, hlo, hml, hown, hts, hK, hA⟩ := C
  subst hp
  intro H locs ls hP hD hS hl
  exact W.lret hx hb hr (fun t ht hW => ⟨⟨_, ws, rfl, hPo, by rw [ht]; exact hP, hs⟩, hS.F ht⟩) hS.2.2 hdg hlo
theorem x_vret  (C : xCx p s m args meth c G K A nL cc own none) {ws0 : va_W} {Po : Option Value → va_W → Prop} (hdg : decode cc n = .ok (.return_, 1)) (hp : pc = n) (hs : ws.map Prod.fst = ws0.map Prod.fst) (hPo : Po none ws) : xV p l e R s m args below meth c G A nL (xQ G A ws0 Po below args s cells slots) cells slots ws pc lv [] := by
  obtain ⟨hx, hb, hr, hlo, hml, hown, hts, hK, hA⟩ := C
  subst hp
  intro H locs ls hP hD hS hl
  exact W.vret hx hb hr (fun t ht hW => ⟨⟨_, ws, rfl, hPo, by rw [ht]; exact hP, hs⟩, hS.F ht⟩) hS.2.2 hdg hlo
theorem x_aret {O9 : String} {v : Nat} (C : xCx p s m args meth c G K A nL cc own (some (.object O9))) {ws0 : va_W} {Po : Option Value → va_W → Prop} (hdg : decode cc n = .ok (.areturn, 1)) (hp : pc = n) (hs : ws.map Prod.fst = ws0.map Prod.fst) (hPo : Po (some (.ref v)) ws) : xV p l e R s m args below meth c G A nL (xQ G A ws0 Po below args s cells slots) cells slots ws pc lv ([.ref v]) := by
  obtain ⟨hx, hb, hr, hlo, hml, hown, hts, hK, hA⟩ := C
  subst hp
  intro H locs ls hP hD hS hl
  exact W.aret hx hb hr (Or.inl ⟨_, rfl⟩) (Or.inr ⟨_, rfl⟩) (fun t ht hW => ⟨⟨_, ws, rfl, hPo, by rw [ht]; exact hP, hs⟩, hS.F ht⟩) hS.2.2 hdg hlo
theorem x_sameD {A : Nat → Prop} {ws ws' : va_W} (hs : ws'.map Prod.fst = ws.map Prod.fst) (hD : va_D A ws) : va_D A ws' := by
  have key : ∀ (k : Nat) (q : Nat × va_E), ws'[k]? = some q → ∃ q0, ws[k]? = some q0 ∧ q0.1 = q.1 := by
    intro k q hk
    have h1 : (ws'.map Prod.fst)[k]? = some q.1 := by rw [List.getElem?_map, hk]; rfl
    rw [hs, List.getElem?_map] at h1
    cases h2 : ws[k]? with
    | none => rw [h2] at h1; cases h1
    | some q0 => rw [h2] at h1; exact ⟨q0, rfl, Option.some.inj h1⟩
  refine ⟨fun i j x y hi hj hxy => ?_, fun k q hk => ?_⟩
  · obtain ⟨x0, h1, h2⟩ := key i x hi
    obtain ⟨y0, h3, h4⟩ := key j y hj
    exact hD.1 i j x0 y0 h1 h3 (h2.trans (hxy.trans h4.symm))
  · obtain ⟨q0, h1, h2⟩ := key k q hk
    rw [← h2]
    exact hD.2 k q0 h1
theorem x_run {mc ms : Nat} {Po : Option Value → va_W → Prop} {rest : List Value} (hp : pc = n) (hA : ∀ q : Nat, s.heap.size ≤ q → A q)
    (hr : ∀ (H : Heap) (locs : List Loc) (ls : Array Slot), va_P G vwCl ws H → va_D A ws → va_S A s.heap H locs → lv_has ls nL lv → va_Run p l e R s m args below meth c H locs cells slots mc ms (F0 m n ls st) rest (xQc G (va_A ws H.size) ws Po #[]) (va_A ws H.size))
    (kk : ∀ (v : Option Value) (ws' : va_W), Po v ws' → ws'.map Prod.fst = ws.map Prod.fst → xV p l e R s m args below meth c G A nL Q (cells + mc) (slots + ms) ws' (n + 3) lv (v.toList ++ rest)) : xV p l e R s m args below meth c G A nL Q cells slots ws pc lv st := by
  subst hp
  intro H locs ls hP hD hS hl T hT X
  obtain ⟨v, st₀, t, T', L, h0, X', hL, e1, e2, ⟨⟨v', ws', hv, hPo, hP', hs⟩, hF⟩, go⟩ := hr H locs ls hP hD hS hl T hT X
  have hv' : v = v' := by injection hv
  subst hv'
  obtain ⟨hF1, hF2⟩ := hF
  rw [h0] at hF1 hF2
  have hA1 : ∀ q, va_A ws H.size q → A q := by
    intro q hq
    rcases hq with ⟨k, e9, hk⟩ | hq
    · exact hD.2 k _ hk
    · exact hA q (Nat.le_trans hS.1 hq)
  have hS' : va_S A s.heap T'.heap (locs ++ L) := ⟨Nat.le_trans hS.1 (by rw [e1]; exact hF1), fun q h1 h2 => by rw [e1, hF2 q (Nat.lt_of_lt_of_le h1 hS.1) (fun z => h2 (hA1 q z))]; exact hS.2.1 q h1 h2, fun q hq => by
      rcases List.mem_append.mp hq with h | h
      · exact hS.2.2 q h
      · exact hA1 _ (hL q h)⟩
  obtain ⟨t2, a1, b1⟩ := kk v ws' hPo hs T'.heap (locs ++ L) ls (by rw [e1]; exact hP') (x_sameD hs hD) hS' hl T' rfl X'
  exact ⟨t2, go t2 a1, b1⟩
theorem xPre.blind {av : List Value} {sz : Nat} : FrameBlind (xPre G K av ws sz) := fun a U g mk q => by
  obtain ⟨q0, q1, qP, qK, qD⟩ := q
  exact ⟨q0, q1, qP, va_K.moved (u := U) (U := U.calling g mk a) (Vm.Alike.refl U.vm) qK, qD⟩
theorem xPre.mk' {av : List Value} {H : Heap} (hP : va_P G vwCl ws H) (hK : va_K G vwCl (xty K) s) (hD : va_D A ws) : ∀ U : State, U.heap = H → s.WarmedH U.vm → xPre G K av ws H.size av.toArray U := fun U hU hW => ⟨rfl, by rw [hU], by rw [hU]; exact hP, va_K.moved hW.alike hK, hD.weaken (fun _ _ _ _ => trivial)⟩
theorem x_goodV {own9 : String} {idx : Nat} {C9 : String} {y : MethodName} {cc9 : ByteArray} {n9 : Nat} {ret9 : Option FieldType} (h : Cond.methodLink own9 idx y ∈ gw_tbl ∧ Cond.instanceMethod y ∈ gw_tbl ∧ Cond.selects C9 y y ∈ gw_tbl ∧ Cond.initialized C9 ∈ gw_tbl ∧ Cond.code y cc9 n9 ret9 ∈ gw_tbl) : GoodIn gw_tbl (wsV own9 idx C9 y (Cond.code y cc9 n9 ret9 :: gw_tbl)) := by
  refine xr_goodC ?_ xr_goodIn
  intro w hw
  unfold wsV at hw
  rcases List.mem_append.mp hw with h9 | h9
  · simp only [List.mem_cons, List.not_mem_nil, or_false] at h9
    rcases h9 with rfl | rfl | rfl | rfl
    · exact h.1
    · exact h.2.1
    · exact h.2.2.1
    · exact h.2.2.2.1
  · rcases List.mem_cons.mp h9 with rfl | h9
    · exact h.2.2.2.2
    · exact h9
theorem x_goodS {own9 : String} {idx : Nat} {y : MethodName} {cc9 : ByteArray} {n9 : Nat} {ret9 : Option FieldType} (h : Cond.methodLink own9 idx y ∈ gw_tbl ∧ Cond.static y ∈ gw_tbl ∧ Cond.initialized y.cls ∈ gw_tbl ∧ Cond.code y cc9 n9 ret9 ∈ gw_tbl) : GoodIn gw_tbl (va_wsS own9 idx y (Cond.code y cc9 n9 ret9 :: gw_tbl)) := by
  refine xr_goodC ?_ xr_goodIn
  intro w hw
  unfold va_wsS at hw
  rcases List.mem_append.mp hw with h9 | h9
  · simp only [List.mem_cons, List.not_mem_nil, or_false] at h9
    rcases h9 with rfl | rfl | rfl
    · exact h.1
    · exact h.2.1
    · exact h.2.2.1
  · rcases List.mem_cons.mp h9 with rfl | h9
    · exact h.2.2.2
    · exact h9
theorem x_goodI {y : MethodName} {cc9 : ByteArray} {n9 : Nat} {ret9 : Option FieldType} (h : Cond.code y cc9 n9 ret9 ∈ gw_tbl) : GoodIn gw_tbl (Cond.code y cc9 n9 ret9 :: gw_tbl) := by
  refine xr_goodC ?_ xr_goodIn
  intro w hw
  rcases List.mem_cons.mp hw with rfl | h9
  · exact h
  · exact h9

theorem x_callV (C : xCx p s m args meth c G K A nL cc own ret) {y : MethodName} {cc9 : ByteArray} {n9 : Nat} {ret9 : Option FieldType} {fr lo mc ms idx k : Nat} {b : Nat} {C9 : String} {As rest : List Value} {Po : Option Value → va_W → Prop} (hM : xMet l y cc9 n9 ret9 fr lo mc ms G K (.ref b :: As) ws Po) (hw : Cond.methodLink own idx y ∈ gw_tbl ∧ Cond.instanceMethod y ∈ gw_tbl ∧ Cond.selects C9 y y ∈ gw_tbl ∧ Cond.initialized C9 ∈ gw_tbl ∧ Cond.code y cc9 n9 ret9 ∈ gw_tbl) (q0 : Nat) {ci : Nat} {q : vw_C} {fs : List Value} (hci : vwCl[ci]? = some q) (hq : q.1 = C9) (he : ws[q0]? = some (b, .inr (ci, fs))) (hd : y.cls = C9 ∧ y.cls ≠ "java/lang/invoke/MethodHandle" ∧ y.cls ≠ "java/lang/invoke/VarHandle" ∧ (parseMethodDescriptor y.desc).map (fun d => d.parameters.length) = some k) (hk : As.length = k) (hR : fr + 1 ≤ R.frames ∧ 8 + (n9 + 11) + lo ≤ R.locals) (hf : cells + mc ≤ R.cells ∧ slots + ms ≤ R.slots) (hW : (rest.map fun v => v.category).sum ≤ 8) (hst : st = As.reverse ++ .ref b :: rest) (hdg : decode cc n = .ok (.invokevirtual idx, 3)) (hp : pc = n) (kk : ∀ (v : Option Value) (ws' : va_W), Po v ws' → ws'.map Prod.fst = ws.map Prod.fst → xV p l e R s m args below meth c G A nL Q (cells + mc) (slots + ms) ws' (n + 3) lv (v.toList ++ rest)) : xV p l e R s m args below meth c G A nL Q cells slots ws pc lv st := by
  obtain ⟨hx, hb, hr, hlo, hml, hown, hts, hK, hA⟩ := C
  refine x_run hp hA (fun H locs ls hP hD hS hl => ?_) kk
  exact va_runV (As := As) (rest := rest) (Ts := gw_tbl) (own := own) (C := C9) (b := b) ⟨hx, hb, hml, hown, hts⟩ (hM H.size) (cwV k hts (x_goodV hw) rfl rfl rfl hd hR) ⟨xPre.blind, hq ▸ va_recv hK hP hci he, xPre.mk' hP hK hD⟩ rfl hk hl.1 hst (lv_room hW) hdg hf
theorem x_callS (C : xCx p s m args meth c G K A nL cc own ret) {y : MethodName} {cc9 : ByteArray} {n9 : Nat} {ret9 : Option FieldType} {fr lo mc ms idx k : Nat}  {As rest : List Value} {Po : Option Value → va_W → Prop} (hM : xMet l y cc9 n9 ret9 fr lo mc ms G K As ws Po) (hw : Cond.methodLink own idx y ∈ gw_tbl ∧ Cond.static y ∈ gw_tbl ∧ Cond.initialized y.cls ∈ gw_tbl ∧ Cond.code y cc9 n9 ret9 ∈ gw_tbl) (hd : y.cls ≠ "java/lang/invoke/MethodHandle" ∧ y.cls ≠ "java/lang/invoke/VarHandle" ∧ (parseMethodDescriptor y.desc).map (fun d => d.parameters.length) = some k) (hk : As.length = k) (hR : fr + 1 ≤ R.frames ∧ 8 + (n9 + 11) + lo ≤ R.locals) (hf : cells + mc ≤ R.cells ∧ slots + ms ≤ R.slots) (hW : (rest.map fun v => v.category).sum ≤ 8) (hst : st = As.reverse ++ rest) (hdg : decode cc n = .ok (.invokestatic idx, 3)) (hp : pc = n) (kk : ∀ (v : Option Value) (ws' : va_W), Po v ws' → ws'.map Prod.fst = ws.map Prod.fst → xV p l e R s m args below meth c G A nL Q (cells + mc) (slots + ms) ws' (n + 3) lv (v.toList ++ rest)) : xV p l e R s m args below meth c G A nL Q cells slots ws pc lv st := by
  obtain ⟨hx, hb, hr, hlo, hml, hown, hts, hK, hA⟩ := C
  refine x_run hp hA (fun H locs ls hP hD hS hl => ?_) kk
  exact va_runS (As := As) (rest := rest) (Ts := gw_tbl) (own := own) ⟨hx, hb, hml, hown, hts⟩ (hM H.size) (va_cwS k hts (x_goodS hw) rfl rfl rfl hd hR) ⟨xPre.blind, xPre.mk' hP hK hD⟩ rfl hk hl.1 hst (lv_room hW) hdg hf
end XF
