/-! plain facts: numbers, bytes, rings; the abstract state: entries, frames, numbers lost, as lists; what class and reference hold of them -/
theorem br_nt {c A B : Prop} (h : ¬ c) (a : A) : (¬ c → A) ∧ (c → B) := ⟨fun _ => a, fun q => absurd q h⟩
theorem br_nf {c A B : Prop} (h : c) (b : B) : (¬ c → A) ∧ (c → B) := ⟨fun q => absurd h q, fun _ => b⟩
theorem zn_xor (a b : Nat) : nI a ^^^ nI b = nI (a ^^^ b) := by
  apply Int32.toBitVec_inj.1
  show BitVec.ofNat 32 a ^^^ BitVec.ofNat 32 b = BitVec.ofNat 32 (a ^^^ b)
  apply BitVec.eq_of_getLsbD_eq
  intro i hi
  simp [hi]
theorem zn_sub {a b : Nat} (h : b ≤ a) : nI a - nI b = nI (a - b) := pk_sub h
theorem zn_m1 (n : Nat) : nI n + (-1) = nI n - 1 := by rw [Int32.sub_eq_add_neg]
theorem zi_eq {a b : Int32} : a = b ↔ a.toInt = b.toInt := Int32.toInt_inj.symm
theorem zi_lt {a b : Int32} : a < b ↔ a.toInt < b.toInt := Int32.lt_iff_toInt_lt
theorem zi_le {a b : Int32} : a ≤ b ↔ a.toInt ≤ b.toInt := Int32.le_iff_toInt_le
theorem sJ_floorMod {a : Nat} (ha : a < 2 ^ 31) {Post : Int32 → Prop} (hP : Post (nI (a % 100))) : wp_J9_floorMod (nI a) (100 : Int32) Post := by
  have h100 : (100 : Int32) = nI 100 := rfl
  have hx : (0 : Int32) ≤ (nI a ^^^ nI 100) := by
    rw [zn_xor]; exact nI_pos' (Nat.xor_lt_two_pow ha (by omega))
  have hr : nI a - nI a / nI 100 * nI 100 = nI (a % 100) := pk_rem ha (by omega) (by omega)
  unfold wp_J9_floorMod
  rw [h100]
  exact ⟨by decide, fun _ => by rw [hr]; exact hP, fun h => absurd hx h⟩
/-- byte j of a number, from below -/
def by8 (z : Int) (j : Nat) : Int32 := nI ((z / 2 ^ (8 * j)) % 256).toNat
theorem by8_lt (z : Int) (j : Nat) : ((z / 2 ^ (8 * j)) % 256).toNat < 256 := by
  have h1 := Int.emod_lt_of_pos (z / 2 ^ (8 * j)) (show (0 : Int) < 256 by omega)
  omega
theorem by8_0 (z : Int) : by8 z 0 = nI (z % 256).toNat := by
  unfold by8
  rw [Nat.mul_zero, Int.pow_zero, Int.ediv_one]
theorem by8_shift (z : Int) (a j : Nat) : by8 (z / 2 ^ (8 * a)) j = by8 z (a + j) := by
  unfold by8
  rw [Int.ediv_ediv_of_nonneg (Int.le_of_lt (Int.pow_pos (by omega))), ← Int.pow_add, Nat.mul_add]
theorem zi_nat (x : Int32) : ((x.toBitVec.toNat % 256 : Nat) : Int) = x.toInt % 256 := by
  have h : x.toInt = x.toBitVec.toInt := rfl
  rw [h, BitVec.toInt_eq_toNat_cond]
  have := x.toBitVec.isLt
  split <;> omega
theorem and255 (x : Int32) : x &&& 255 = by8 x.toInt 0 := by
  rw [pk_and x (m := 255) 8 rfl, by8_0]
  have := zi_nat x
  congr 1
  have h2 : (2 : Nat) ^ 8 = 256 := rfl
  rw [h2]
  omega
theorem by8_and (z : Int) (j : Nat) : by8 z j &&& 255 = by8 z j := by
  rw [and255, by8_0]
  have h := by8_lt z j
  unfold by8
  rw [nI_toInt (by omega)]
  congr 1
  omega
theorem z_bmod (z : Int) : z.bmod (2 ^ 32) % 256 = z % 256 := by
  rw [Int.bmod_def]
  split <;> omega
theorem z_bmod8 (z : Int) : z.bmod (2 ^ 8) % 256 = z % 256 := by
  rw [Int.bmod_def]
  split <;> omega
theorem l2i_255 (x : Int64) : x.toInt32 &&& 255 = by8 x.toInt 0 := by
  rw [and255, by8_0, by8_0, Int64.toInt_toInt32, z_bmod]
theorem nar_255 (x : Int32) : vp_nar .byte (Int8.toInt32 (Int32.toInt8 x)) &&& 255 = x &&& 255 := by
  rw [vp_nar_byte, and255, and255, by8_0, by8_0, Int8.toInt_toInt32, Int32.toInt_toInt8, Int8.toInt_toInt32, Int32.toInt_toInt8, z_bmod8, z_bmod8]
theorem sarL (y s : Int64) (k : Nat) (hs : (s.toBitVec.smod 64).toNat = k) : (y >>> s).toInt = y.toInt / 2 ^ k := by
  show (y.toBitVec.sshiftRight (s.toBitVec.smod 64).toNat).toInt = _
  rw [hs, BitVec.toInt_sshiftRight, Int.shiftRight_eq_div_pow]
  rfl
theorem sarI (y s : Int32) (k : Nat) (hs : (s.toBitVec.smod 32).toNat = k) : (y >>> s).toInt = y.toInt / 2 ^ k := by
  rw [pk_shr y s k hs, Int.shiftRight_eq_div_pow]
  rfl
theorem sh64 : ∀ j, j < 8 → ((Int32.toInt64 ((8 : Int32) * nI j) &&& 63).toBitVec.smod 64).toNat = 8 * j := by decide +kernel
theorem sh32 : ∀ j, j < 4 → ((((8 : Int32) * nI j) &&& 31).toBitVec.smod 32).toNat = 8 * j := by decide +kernel
theorem sh8 : ((Int32.toInt64 (8 : Int32) &&& 63).toBitVec.smod 64).toNat = 8 := by decide +kernel
theorem byL (y : Int64) {j : Nat} (hj : j < 8) : (Int64.toInt32 (y >>> (Int32.toInt64 ((8 : Int32) * nI j) &&& 63))) &&& (255 : Int32) = by8 y.toInt j := by
  rw [l2i_255, sarL _ _ _ (sh64 j hj), by8_shift, Nat.add_zero]
theorem byI (y : Int32) {j : Nat} (hj : j < 4) : (y >>> (((8 : Int32) * nI j) &&& 31)) &&& (255 : Int32) = by8 y.toInt j := by
  rw [and255, sarI _ _ _ (sh32 j hj), by8_shift, Nat.add_zero]
theorem sar8 (y : Int64) : (y >>> (Int32.toInt64 (8 : Int32) &&& 63)).toInt = y.toInt / 2 ^ (8 * 1) := sarL _ _ _ sh8
/-- byte k of a packet -/
def pk (op : Int32) (s : Int64) (sa : Int32) (t : Int64) (ta : Int32) (k : Nat) : Int32 :=
  if k < 6 then by8 4429186564 (5 - k) else if k < 8 then by8 op.toInt (7 - k) else if k < 14 then by8 s.toInt (13 - k) else if k < 18 then by8 sa.toInt (17 - k) else if k < 24 then by8 t.toInt (23 - k) else by8 ta.toInt (27 - k)
/-- a number read from bytes, the highest first -/
def rdN (f : Nat → Int32) (a : Nat) : Nat → Int64
  | 0 => 0
  | n + 1 => (rdN f a n <<< (Int32.toInt64 (8 : Int32) &&& 63)) ||| Int32.toInt64 (f (a + n))
theorem rdN_cong {f g : Nat → Int32} {a : Nat} : ∀ {n : Nat}, (∀ k, k < n → f (a + k) = g (a + k)) → rdN f a n = rdN g a n
  | 0, _ => rfl
  | n + 1, h => by rw [rdN, rdN, rdN_cong (fun k hk => h k (by omega)), h n (by omega)]
/-! entries, frames: lists -/
abbrev En : Type := Int32 × Int32 × Int64 × Int32 × Int32 × List Int32
def n_ad (e : En) : Int32 := e.1
def n_kd (e : En) : Int32 := e.2.1
def n_hw (e : En) : Int64 := e.2.2.1
def n_si (e : En) : Int32 := e.2.2.2.1
def n_us (e : En) : Int32 := e.2.2.2.2.1
def n_wt (e : En) : List Int32 := e.2.2.2.2.2
abbrev Fr : Type := Int64 × (Int32 ⊕ (Nat → Int32))
/-- what is kept of a list in a ring of a hundred -/
def ring {α : Type} (l : List α) (ok : Nat → α → Prop) : Prop := ∀ (k : Nat) (a : α), l[k]? = some a → l.length ≤ k + 100 → ok (k % 100) a
theorem ring_nil {α : Type} (ok : Nat → α → Prop) : ring [] ok := fun k a h => by simp at h
theorem ring_push {α : Type} {l : List α} {ok ok' : Nat → α → Prop} {a : α} (h : ring l ok) (hn : ok' (l.length % 100) a) (ho : ∀ (j : Nat) (b : α), j ≠ l.length % 100 → ok j b → ok' j b) : ring (l ++ [a]) ok' := by
  intro k b hk hl
  rw [List.length_append, List.length_singleton] at hl
  by_cases hk2 : k < l.length
  · rw [List.getElem?_append_left hk2] at hk
    exact ho _ _ (by omega) (h k b hk (by omega))
  · rw [List.getElem?_append_right (by omega)] at hk
    have hz : k - l.length < 1 := (List.getElem?_eq_some_iff.mp hk).1
    have hk3 : k = l.length := by omega
    subst hk3
    rw [Nat.sub_self] at hk
    cases hk
    exact hn
/-! the class' side -/
def xfOk (fg : Nat → Int64) (fn fp fb : Nat → Int32) (j : Nat) (f : Fr) : Prop := fg j = f.1 ∧ match f.2 with
  | .inl d => fn j = d ∧ fp j = 0
  | .inr bs => fn j = -1 ∧ fp j = 1 ∧ ∀ k, k < 28 → fb (28 * j + k) &&& 255 = bs k
def XF (ft : Int32) (fg : Nat → Int64) (fn fp fb : Nat → Int32) (l : List Fr) : Prop := ft = nI l.length ∧ l.length < 2 ^ 30 ∧ ring l (xfOk fg fn fp fb)
def XL (lt : Int32) (ln : Nat → Int32) (l : List Int32) : Prop := lt = nI l.length ∧ l.length < 2 ^ 30 ∧ ring l (fun j x => ln j = x)
def XTp (tb : Nat → Int32) (tl : Int32) (tape : Nat → Int32) (n : Nat) : Prop := tl = nI n ∧ n ≤ 40 ∧ ∀ k, k < 40 → tb k &&& 255 = tape k
def xeOk (e : En) (t : ET) (q : Nat → Int32) : Prop := t = (nI (n_wt e).length, n_ad e, n_hw e, n_kd e, n_si e, n_us e) ∧ (n_wt e).length ≤ 4 ∧ ∀ (k : Nat) (x : Int32), (n_wt e)[k]? = some x → q k = x
def XE (cap : Nat) (size : Int32) (row : Nat → Nat) (E : Nat → ET) (Q : Nat → Nat → Int32) (l : List En) : Prop :=
  size = nI l.length ∧ l.length ≤ cap ∧ cap ≤ 32 ∧ (∀ i, i < cap → row i < cap) ∧ (∀ i j, i < cap → j < cap → row i = row j → i = j) ∧ ∀ (i : Nat) (e : En), l[i]? = some e → xeOk e (E (row i)) (Q (row i))
abbrev XFu (u : XS) (l : List Fr) : Prop := XF (X_ft u) (X_fg u) (X_fn u) (X_fp u) (X_fb u) l
abbrev XLu (u : XS) (l : List Int32) : Prop := XL (X_lt u) (X_ln u) l
abbrev XTu (u : XS) (tape : Nat → Int32) (n : Nat) : Prop := XTp (X_tb u) (X_tl u) tape n
abbrev XEu (cap : Nat) (u : XS) (l : List En) : Prop := XE cap (X_size u) (X_row u) (X_E u) (X_Q u) l
/-! the reference's side -/
def mfOk (to9 : Nat → Int64) (da pa by9 : Nat → Int32) (j : Nat) (f : Fr) : Prop := to9 j = f.1 ∧ match f.2 with
  | .inl d => da j = d ∧ pa j = 0
  | .inr bs => pa j = 1 ∧ ∀ k, k < 28 → by9 (28 * j + k) = bs k
def MF (n : Int32) (to9 : Nat → Int64) (da pa by9 : Nat → Int32) (l : List Fr) : Prop := n = nI l.length ∧ l.length < 2 ^ 30 ∧ ring l (mfOk to9 da pa by9)
def ML (n : Int32) (ln : Nat → Int32) (l : List Int32) : Prop := n = nI l.length ∧ l.length < 2 ^ 30 ∧ ring l (fun j x => ln j = x)
def MTp (tp : Nat → Int32) (tl : Int32) (tape : Nat → Int32) (n : Nat) : Prop := tl = nI n ∧ n ≤ 40 ∧ ∀ k, k < 40 → tp k = tape k
def meOk (ad kd : Nat → Int32) (hw : Nat → Int64) (si us wg wt : Nat → Int32) (i : Nat) (e : En) : Prop := ad i = n_ad e ∧ kd i = n_kd e ∧ hw i = n_hw e ∧ si i = n_si e ∧ us i = n_us e ∧ wg i = nI (n_wt e).length ∧ (n_wt e).length ≤ 4 ∧ ∀ (k : Nat) (x : Int32), (n_wt e)[k]? = some x → wt (4 * i + k) = x
def ME (cap : Nat) (n : Int32) (ad kd : Nat → Int32) (hw : Nat → Int64) (si us wg wt : Nat → Int32) (l : List En) : Prop := n = nI l.length ∧ l.length ≤ cap ∧ cap ≤ 32 ∧ ∀ (i : Nat) (e : En), l[i]? = some e → meOk ad kd hw si us wg wt i e
abbrev MFu (v : MS) (l : List Fr) : Prop := MF (M_frames v) (M_frameTo v) (M_frameData v) (M_framePacket v) (M_frameBytes v) l
abbrev MLu (v : MS) (l : List Int32) : Prop := ML (M_lost v) (M_lostNumbers v) l
abbrev MTu (v : MS) (tape : Nat → Int32) (n : Nat) : Prop := MTp (M_tape v) (M_taped v) tape n
abbrev MEu (cap : Nat) (v : MS) (l : List En) : Prop := ME cap (M_entries v) (M_addresses v) (M_kinds v) (M_hardware v) (M_since v) (M_used v) (M_waiting v) (M_waits v) l
