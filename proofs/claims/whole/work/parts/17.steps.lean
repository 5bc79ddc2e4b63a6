/-! what one setter changes, and what it leaves -/
abbrev Co : Type := Int64 × Int32 × Int32 × Int32 × Int32 × Int32 × Int32 × Int32
def core (u : XS) : Int64 × Int32 × Int32 × Int32 × Int32 × Int32 × Int32 × Int32 := (X_here u, X_time u, X_phase u, X_own u, X_claimed u, X_defended u, X_reach u, X_age u)
def xT (u : XS) : (Nat → Int32) × Int32 := (X_tb u, X_tl u)
def xF (u : XS) : Int32 × (Nat → Int64) × (Nat → Int32) × (Nat → Int32) × (Nat → Int32) := (X_ft u, X_fg u, X_fn u, X_fp u, X_fb u)
def xL (u : XS) : Int32 × (Nat → Int32) := (X_lt u, X_ln u)
def xE (u : XS) : Int32 × (Nat → Nat) × (Nat → ET) × (Nat → Nat → Int32) := (X_size u, X_row u, X_E u, X_Q u)
def xO (u : XS) : (Nat → Int64) := (X_out u)
theorem sX_here {u u' : XS} {v : Int64} (h : u' = Xs_here u v) : xT u' = xT u ∧ xF u' = xF u ∧ xL u' = xL u ∧ xE u' = xE u ∧ xO u' = xO u ∧ X_here u' = v ∧ X_time u' = X_time u ∧ X_phase u' = X_phase u ∧ X_own u' = X_own u ∧ X_claimed u' = X_claimed u ∧ X_defended u' = X_defended u ∧ X_reach u' = X_reach u ∧ X_age u' = X_age u := by
  subst h
  exact ⟨rfl, rfl, rfl, rfl, rfl, rfl, rfl, rfl, rfl, rfl, rfl, rfl, rfl⟩
theorem sX_time {u u' : XS} {v : Int32} (h : u' = Xs_time u v) : xT u' = xT u ∧ xF u' = xF u ∧ xL u' = xL u ∧ xE u' = xE u ∧ xO u' = xO u ∧ X_here u' = X_here u ∧ X_time u' = v ∧ X_phase u' = X_phase u ∧ X_own u' = X_own u ∧ X_claimed u' = X_claimed u ∧ X_defended u' = X_defended u ∧ X_reach u' = X_reach u ∧ X_age u' = X_age u := by
  subst h
  exact ⟨rfl, rfl, rfl, rfl, rfl, rfl, rfl, rfl, rfl, rfl, rfl, rfl, rfl⟩
theorem sX_phase {u u' : XS} {v : Int32} (h : u' = Xs_phase u v) : xT u' = xT u ∧ xF u' = xF u ∧ xL u' = xL u ∧ xE u' = xE u ∧ xO u' = xO u ∧ X_here u' = X_here u ∧ X_time u' = X_time u ∧ X_phase u' = v ∧ X_own u' = X_own u ∧ X_claimed u' = X_claimed u ∧ X_defended u' = X_defended u ∧ X_reach u' = X_reach u ∧ X_age u' = X_age u := by
  subst h
  exact ⟨rfl, rfl, rfl, rfl, rfl, rfl, rfl, rfl, rfl, rfl, rfl, rfl, rfl⟩
theorem sX_own {u u' : XS} {v : Int32} (h : u' = Xs_own u v) : xT u' = xT u ∧ xF u' = xF u ∧ xL u' = xL u ∧ xE u' = xE u ∧ xO u' = xO u ∧ X_here u' = X_here u ∧ X_time u' = X_time u ∧ X_phase u' = X_phase u ∧ X_own u' = v ∧ X_claimed u' = X_claimed u ∧ X_defended u' = X_defended u ∧ X_reach u' = X_reach u ∧ X_age u' = X_age u := by
  subst h
  exact ⟨rfl, rfl, rfl, rfl, rfl, rfl, rfl, rfl, rfl, rfl, rfl, rfl, rfl⟩
theorem sX_claimed {u u' : XS} {v : Int32} (h : u' = Xs_claimed u v) : xT u' = xT u ∧ xF u' = xF u ∧ xL u' = xL u ∧ xE u' = xE u ∧ xO u' = xO u ∧ X_here u' = X_here u ∧ X_time u' = X_time u ∧ X_phase u' = X_phase u ∧ X_own u' = X_own u ∧ X_claimed u' = v ∧ X_defended u' = X_defended u ∧ X_reach u' = X_reach u ∧ X_age u' = X_age u := by
  subst h
  exact ⟨rfl, rfl, rfl, rfl, rfl, rfl, rfl, rfl, rfl, rfl, rfl, rfl, rfl⟩
theorem sX_defended {u u' : XS} {v : Int32} (h : u' = Xs_defended u v) : xT u' = xT u ∧ xF u' = xF u ∧ xL u' = xL u ∧ xE u' = xE u ∧ xO u' = xO u ∧ X_here u' = X_here u ∧ X_time u' = X_time u ∧ X_phase u' = X_phase u ∧ X_own u' = X_own u ∧ X_claimed u' = X_claimed u ∧ X_defended u' = v ∧ X_reach u' = X_reach u ∧ X_age u' = X_age u := by
  subst h
  exact ⟨rfl, rfl, rfl, rfl, rfl, rfl, rfl, rfl, rfl, rfl, rfl, rfl, rfl⟩
theorem sX_tb {u u' : XS} {v : Nat → Int32} (h : u' = Xs_tb u v) : core u' = core u ∧ xF u' = xF u ∧ xL u' = xL u ∧ xE u' = xE u ∧ xO u' = xO u ∧ X_tb u' = v ∧ X_tl u' = X_tl u := by
  subst h
  exact ⟨rfl, rfl, rfl, rfl, rfl, rfl, rfl⟩
theorem sX_tl {u u' : XS} {v : Int32} (h : u' = Xs_tl u v) : core u' = core u ∧ xF u' = xF u ∧ xL u' = xL u ∧ xE u' = xE u ∧ xO u' = xO u ∧ X_tb u' = X_tb u ∧ X_tl u' = v := by
  subst h
  exact ⟨rfl, rfl, rfl, rfl, rfl, rfl, rfl⟩
theorem sX_ft {u u' : XS} {v : Int32} (h : u' = Xs_ft u v) : core u' = core u ∧ xT u' = xT u ∧ xL u' = xL u ∧ xE u' = xE u ∧ xO u' = xO u ∧ X_ft u' = v ∧ X_fg u' = X_fg u ∧ X_fn u' = X_fn u ∧ X_fp u' = X_fp u ∧ X_fb u' = X_fb u := by
  subst h
  exact ⟨rfl, rfl, rfl, rfl, rfl, rfl, rfl, rfl, rfl, rfl⟩
theorem sX_fg {u u' : XS} {v : Nat → Int64} (h : u' = Xs_fg u v) : core u' = core u ∧ xT u' = xT u ∧ xL u' = xL u ∧ xE u' = xE u ∧ xO u' = xO u ∧ X_ft u' = X_ft u ∧ X_fg u' = v ∧ X_fn u' = X_fn u ∧ X_fp u' = X_fp u ∧ X_fb u' = X_fb u := by
  subst h
  exact ⟨rfl, rfl, rfl, rfl, rfl, rfl, rfl, rfl, rfl, rfl⟩
theorem sX_fn {u u' : XS} {v : Nat → Int32} (h : u' = Xs_fn u v) : core u' = core u ∧ xT u' = xT u ∧ xL u' = xL u ∧ xE u' = xE u ∧ xO u' = xO u ∧ X_ft u' = X_ft u ∧ X_fg u' = X_fg u ∧ X_fn u' = v ∧ X_fp u' = X_fp u ∧ X_fb u' = X_fb u := by
  subst h
  exact ⟨rfl, rfl, rfl, rfl, rfl, rfl, rfl, rfl, rfl, rfl⟩
theorem sX_fp {u u' : XS} {v : Nat → Int32} (h : u' = Xs_fp u v) : core u' = core u ∧ xT u' = xT u ∧ xL u' = xL u ∧ xE u' = xE u ∧ xO u' = xO u ∧ X_ft u' = X_ft u ∧ X_fg u' = X_fg u ∧ X_fn u' = X_fn u ∧ X_fp u' = v ∧ X_fb u' = X_fb u := by
  subst h
  exact ⟨rfl, rfl, rfl, rfl, rfl, rfl, rfl, rfl, rfl, rfl⟩
theorem sX_fb {u u' : XS} {v : Nat → Int32} (h : u' = Xs_fb u v) : core u' = core u ∧ xT u' = xT u ∧ xL u' = xL u ∧ xE u' = xE u ∧ xO u' = xO u ∧ X_ft u' = X_ft u ∧ X_fg u' = X_fg u ∧ X_fn u' = X_fn u ∧ X_fp u' = X_fp u ∧ X_fb u' = v := by
  subst h
  exact ⟨rfl, rfl, rfl, rfl, rfl, rfl, rfl, rfl, rfl, rfl⟩
theorem sX_lt {u u' : XS} {v : Int32} (h : u' = Xs_lt u v) : core u' = core u ∧ xT u' = xT u ∧ xF u' = xF u ∧ xE u' = xE u ∧ xO u' = xO u ∧ X_lt u' = v ∧ X_ln u' = X_ln u := by
  subst h
  exact ⟨rfl, rfl, rfl, rfl, rfl, rfl, rfl⟩
theorem sX_ln {u u' : XS} {v : Nat → Int32} (h : u' = Xs_ln u v) : core u' = core u ∧ xT u' = xT u ∧ xF u' = xF u ∧ xE u' = xE u ∧ xO u' = xO u ∧ X_lt u' = X_lt u ∧ X_ln u' = v := by
  subst h
  exact ⟨rfl, rfl, rfl, rfl, rfl, rfl, rfl⟩
theorem sX_size {u u' : XS} {v : Int32} (h : u' = Xs_size u v) : core u' = core u ∧ xT u' = xT u ∧ xF u' = xF u ∧ xL u' = xL u ∧ xO u' = xO u ∧ X_size u' = v ∧ X_row u' = X_row u ∧ X_E u' = X_E u ∧ X_Q u' = X_Q u := by
  subst h
  exact ⟨rfl, rfl, rfl, rfl, rfl, rfl, rfl, rfl, rfl⟩
theorem sX_row {u u' : XS} {v : Nat → Nat} (h : u' = Xs_row u v) : core u' = core u ∧ xT u' = xT u ∧ xF u' = xF u ∧ xL u' = xL u ∧ xO u' = xO u ∧ X_size u' = X_size u ∧ X_row u' = v ∧ X_E u' = X_E u ∧ X_Q u' = X_Q u := by
  subst h
  exact ⟨rfl, rfl, rfl, rfl, rfl, rfl, rfl, rfl, rfl⟩
theorem sX_E {u u' : XS} {v : Nat → ET} (h : u' = Xs_E u v) : core u' = core u ∧ xT u' = xT u ∧ xF u' = xF u ∧ xL u' = xL u ∧ xO u' = xO u ∧ X_size u' = X_size u ∧ X_row u' = X_row u ∧ X_E u' = v ∧ X_Q u' = X_Q u := by
  subst h
  exact ⟨rfl, rfl, rfl, rfl, rfl, rfl, rfl, rfl, rfl⟩
theorem sX_Q {u u' : XS} {v : Nat → Nat → Int32} (h : u' = Xs_Q u v) : core u' = core u ∧ xT u' = xT u ∧ xF u' = xF u ∧ xL u' = xL u ∧ xO u' = xO u ∧ X_size u' = X_size u ∧ X_row u' = X_row u ∧ X_E u' = X_E u ∧ X_Q u' = v := by
  subst h
  exact ⟨rfl, rfl, rfl, rfl, rfl, rfl, rfl, rfl, rfl⟩
theorem sX_out {u u' : XS} {v : Nat → Int64} (h : u' = Xs_out u v) : core u' = core u ∧ xT u' = xT u ∧ xF u' = xF u ∧ xL u' = xL u ∧ xE u' = xE u ∧ X_out u' = v := by
  subst h
  exact ⟨rfl, rfl, rfl, rfl, rfl, rfl⟩
theorem g_core {u u' : XS} (h : core u' = core u) : X_here u' = X_here u ∧ X_time u' = X_time u ∧ X_phase u' = X_phase u ∧ X_own u' = X_own u ∧ X_claimed u' = X_claimed u ∧ X_defended u' = X_defended u ∧ X_reach u' = X_reach u ∧ X_age u' = X_age u := by
  unfold core at h
  simpa only [Prod.mk.injEq] using h
theorem g_xT {u u' : XS} (h : xT u' = xT u) : X_tb u' = X_tb u ∧ X_tl u' = X_tl u := by
  unfold xT at h
  simpa only [Prod.mk.injEq] using h
theorem g_xF {u u' : XS} (h : xF u' = xF u) : X_ft u' = X_ft u ∧ X_fg u' = X_fg u ∧ X_fn u' = X_fn u ∧ X_fp u' = X_fp u ∧ X_fb u' = X_fb u := by
  unfold xF at h
  simpa only [Prod.mk.injEq] using h
theorem g_xL {u u' : XS} (h : xL u' = xL u) : X_lt u' = X_lt u ∧ X_ln u' = X_ln u := by
  unfold xL at h
  simpa only [Prod.mk.injEq] using h
theorem g_xE {u u' : XS} (h : xE u' = xE u) : X_size u' = X_size u ∧ X_row u' = X_row u ∧ X_E u' = X_E u ∧ X_Q u' = X_Q u := by
  unfold xE at h
  simpa only [Prod.mk.injEq] using h
theorem g_xO {u u' : XS} (h : xO u' = xO u) : X_out u' = X_out u := h
def mcore (u : MS) : Int64 × Int32 × Int32 × Int32 × Int32 × Int32 × Int32 × Int32 := (M_here u, M_time u, M_phase u, M_own u, M_claimed u, M_defended u, M_reach u, M_age u)
def mT (u : MS) : (Nat → Int32) × Int32 := (M_tape u, M_taped u)
def mF (u : MS) : Int32 × (Nat → Int64) × (Nat → Int32) × (Nat → Int32) × (Nat → Int32) := (M_frames u, M_frameTo u, M_frameData u, M_framePacket u, M_frameBytes u)
def mL (u : MS) : Int32 × (Nat → Int32) := (M_lost u, M_lostNumbers u)
def mE (u : MS) : Int32 × (Nat → Int32) × (Nat → Int32) × (Nat → Int64) × (Nat → Int32) × (Nat → Int32) × (Nat → Int32) × (Nat → Int32) := (M_entries u, M_addresses u, M_kinds u, M_hardware u, M_since u, M_used u, M_waiting u, M_waits u)
def mX (u : MS) : Int32 × Int32 := (M_thrown u, M_capacity u)
theorem sM_here {u u' : MS} {v : Int64} (h : u' = Ms_here u v) : mT u' = mT u ∧ mF u' = mF u ∧ mL u' = mL u ∧ mE u' = mE u ∧ mX u' = mX u ∧ M_here u' = v ∧ M_time u' = M_time u ∧ M_phase u' = M_phase u ∧ M_own u' = M_own u ∧ M_claimed u' = M_claimed u ∧ M_defended u' = M_defended u ∧ M_reach u' = M_reach u ∧ M_age u' = M_age u := by
  subst h
  exact ⟨rfl, rfl, rfl, rfl, rfl, rfl, rfl, rfl, rfl, rfl, rfl, rfl, rfl⟩
theorem sM_time {u u' : MS} {v : Int32} (h : u' = Ms_time u v) : mT u' = mT u ∧ mF u' = mF u ∧ mL u' = mL u ∧ mE u' = mE u ∧ mX u' = mX u ∧ M_here u' = M_here u ∧ M_time u' = v ∧ M_phase u' = M_phase u ∧ M_own u' = M_own u ∧ M_claimed u' = M_claimed u ∧ M_defended u' = M_defended u ∧ M_reach u' = M_reach u ∧ M_age u' = M_age u := by
  subst h
  exact ⟨rfl, rfl, rfl, rfl, rfl, rfl, rfl, rfl, rfl, rfl, rfl, rfl, rfl⟩
theorem sM_phase {u u' : MS} {v : Int32} (h : u' = Ms_phase u v) : mT u' = mT u ∧ mF u' = mF u ∧ mL u' = mL u ∧ mE u' = mE u ∧ mX u' = mX u ∧ M_here u' = M_here u ∧ M_time u' = M_time u ∧ M_phase u' = v ∧ M_own u' = M_own u ∧ M_claimed u' = M_claimed u ∧ M_defended u' = M_defended u ∧ M_reach u' = M_reach u ∧ M_age u' = M_age u := by
  subst h
  exact ⟨rfl, rfl, rfl, rfl, rfl, rfl, rfl, rfl, rfl, rfl, rfl, rfl, rfl⟩
theorem sM_own {u u' : MS} {v : Int32} (h : u' = Ms_own u v) : mT u' = mT u ∧ mF u' = mF u ∧ mL u' = mL u ∧ mE u' = mE u ∧ mX u' = mX u ∧ M_here u' = M_here u ∧ M_time u' = M_time u ∧ M_phase u' = M_phase u ∧ M_own u' = v ∧ M_claimed u' = M_claimed u ∧ M_defended u' = M_defended u ∧ M_reach u' = M_reach u ∧ M_age u' = M_age u := by
  subst h
  exact ⟨rfl, rfl, rfl, rfl, rfl, rfl, rfl, rfl, rfl, rfl, rfl, rfl, rfl⟩
theorem sM_claimed {u u' : MS} {v : Int32} (h : u' = Ms_claimed u v) : mT u' = mT u ∧ mF u' = mF u ∧ mL u' = mL u ∧ mE u' = mE u ∧ mX u' = mX u ∧ M_here u' = M_here u ∧ M_time u' = M_time u ∧ M_phase u' = M_phase u ∧ M_own u' = M_own u ∧ M_claimed u' = v ∧ M_defended u' = M_defended u ∧ M_reach u' = M_reach u ∧ M_age u' = M_age u := by
  subst h
  exact ⟨rfl, rfl, rfl, rfl, rfl, rfl, rfl, rfl, rfl, rfl, rfl, rfl, rfl⟩
theorem sM_defended {u u' : MS} {v : Int32} (h : u' = Ms_defended u v) : mT u' = mT u ∧ mF u' = mF u ∧ mL u' = mL u ∧ mE u' = mE u ∧ mX u' = mX u ∧ M_here u' = M_here u ∧ M_time u' = M_time u ∧ M_phase u' = M_phase u ∧ M_own u' = M_own u ∧ M_claimed u' = M_claimed u ∧ M_defended u' = v ∧ M_reach u' = M_reach u ∧ M_age u' = M_age u := by
  subst h
  exact ⟨rfl, rfl, rfl, rfl, rfl, rfl, rfl, rfl, rfl, rfl, rfl, rfl, rfl⟩
theorem sM_tape {u u' : MS} {v : Nat → Int32} (h : u' = Ms_tape u v) : mcore u' = mcore u ∧ mF u' = mF u ∧ mL u' = mL u ∧ mE u' = mE u ∧ mX u' = mX u ∧ M_tape u' = v ∧ M_taped u' = M_taped u := by
  subst h
  exact ⟨rfl, rfl, rfl, rfl, rfl, rfl, rfl⟩
theorem sM_taped {u u' : MS} {v : Int32} (h : u' = Ms_taped u v) : mcore u' = mcore u ∧ mF u' = mF u ∧ mL u' = mL u ∧ mE u' = mE u ∧ mX u' = mX u ∧ M_tape u' = M_tape u ∧ M_taped u' = v := by
  subst h
  exact ⟨rfl, rfl, rfl, rfl, rfl, rfl, rfl⟩
theorem sM_frames {u u' : MS} {v : Int32} (h : u' = Ms_frames u v) : mcore u' = mcore u ∧ mT u' = mT u ∧ mL u' = mL u ∧ mE u' = mE u ∧ mX u' = mX u ∧ M_frames u' = v ∧ M_frameTo u' = M_frameTo u ∧ M_frameData u' = M_frameData u ∧ M_framePacket u' = M_framePacket u ∧ M_frameBytes u' = M_frameBytes u := by
  subst h
  exact ⟨rfl, rfl, rfl, rfl, rfl, rfl, rfl, rfl, rfl, rfl⟩
theorem sM_frameTo {u u' : MS} {v : Nat → Int64} (h : u' = Ms_frameTo u v) : mcore u' = mcore u ∧ mT u' = mT u ∧ mL u' = mL u ∧ mE u' = mE u ∧ mX u' = mX u ∧ M_frames u' = M_frames u ∧ M_frameTo u' = v ∧ M_frameData u' = M_frameData u ∧ M_framePacket u' = M_framePacket u ∧ M_frameBytes u' = M_frameBytes u := by
  subst h
  exact ⟨rfl, rfl, rfl, rfl, rfl, rfl, rfl, rfl, rfl, rfl⟩
theorem sM_frameData {u u' : MS} {v : Nat → Int32} (h : u' = Ms_frameData u v) : mcore u' = mcore u ∧ mT u' = mT u ∧ mL u' = mL u ∧ mE u' = mE u ∧ mX u' = mX u ∧ M_frames u' = M_frames u ∧ M_frameTo u' = M_frameTo u ∧ M_frameData u' = v ∧ M_framePacket u' = M_framePacket u ∧ M_frameBytes u' = M_frameBytes u := by
  subst h
  exact ⟨rfl, rfl, rfl, rfl, rfl, rfl, rfl, rfl, rfl, rfl⟩
theorem sM_framePacket {u u' : MS} {v : Nat → Int32} (h : u' = Ms_framePacket u v) : mcore u' = mcore u ∧ mT u' = mT u ∧ mL u' = mL u ∧ mE u' = mE u ∧ mX u' = mX u ∧ M_frames u' = M_frames u ∧ M_frameTo u' = M_frameTo u ∧ M_frameData u' = M_frameData u ∧ M_framePacket u' = v ∧ M_frameBytes u' = M_frameBytes u := by
  subst h
  exact ⟨rfl, rfl, rfl, rfl, rfl, rfl, rfl, rfl, rfl, rfl⟩
theorem sM_frameBytes {u u' : MS} {v : Nat → Int32} (h : u' = Ms_frameBytes u v) : mcore u' = mcore u ∧ mT u' = mT u ∧ mL u' = mL u ∧ mE u' = mE u ∧ mX u' = mX u ∧ M_frames u' = M_frames u ∧ M_frameTo u' = M_frameTo u ∧ M_frameData u' = M_frameData u ∧ M_framePacket u' = M_framePacket u ∧ M_frameBytes u' = v := by
  subst h
  exact ⟨rfl, rfl, rfl, rfl, rfl, rfl, rfl, rfl, rfl, rfl⟩
theorem sM_lost {u u' : MS} {v : Int32} (h : u' = Ms_lost u v) : mcore u' = mcore u ∧ mT u' = mT u ∧ mF u' = mF u ∧ mE u' = mE u ∧ mX u' = mX u ∧ M_lost u' = v ∧ M_lostNumbers u' = M_lostNumbers u := by
  subst h
  exact ⟨rfl, rfl, rfl, rfl, rfl, rfl, rfl⟩
theorem sM_lostNumbers {u u' : MS} {v : Nat → Int32} (h : u' = Ms_lostNumbers u v) : mcore u' = mcore u ∧ mT u' = mT u ∧ mF u' = mF u ∧ mE u' = mE u ∧ mX u' = mX u ∧ M_lost u' = M_lost u ∧ M_lostNumbers u' = v := by
  subst h
  exact ⟨rfl, rfl, rfl, rfl, rfl, rfl, rfl⟩
theorem sM_entries {u u' : MS} {v : Int32} (h : u' = Ms_entries u v) : mcore u' = mcore u ∧ mT u' = mT u ∧ mF u' = mF u ∧ mL u' = mL u ∧ mX u' = mX u ∧ M_entries u' = v ∧ M_addresses u' = M_addresses u ∧ M_kinds u' = M_kinds u ∧ M_hardware u' = M_hardware u ∧ M_since u' = M_since u ∧ M_used u' = M_used u ∧ M_waiting u' = M_waiting u ∧ M_waits u' = M_waits u := by
  subst h
  exact ⟨rfl, rfl, rfl, rfl, rfl, rfl, rfl, rfl, rfl, rfl, rfl, rfl, rfl⟩
theorem sM_addresses {u u' : MS} {v : Nat → Int32} (h : u' = Ms_addresses u v) : mcore u' = mcore u ∧ mT u' = mT u ∧ mF u' = mF u ∧ mL u' = mL u ∧ mX u' = mX u ∧ M_entries u' = M_entries u ∧ M_addresses u' = v ∧ M_kinds u' = M_kinds u ∧ M_hardware u' = M_hardware u ∧ M_since u' = M_since u ∧ M_used u' = M_used u ∧ M_waiting u' = M_waiting u ∧ M_waits u' = M_waits u := by
  subst h
  exact ⟨rfl, rfl, rfl, rfl, rfl, rfl, rfl, rfl, rfl, rfl, rfl, rfl, rfl⟩
theorem sM_kinds {u u' : MS} {v : Nat → Int32} (h : u' = Ms_kinds u v) : mcore u' = mcore u ∧ mT u' = mT u ∧ mF u' = mF u ∧ mL u' = mL u ∧ mX u' = mX u ∧ M_entries u' = M_entries u ∧ M_addresses u' = M_addresses u ∧ M_kinds u' = v ∧ M_hardware u' = M_hardware u ∧ M_since u' = M_since u ∧ M_used u' = M_used u ∧ M_waiting u' = M_waiting u ∧ M_waits u' = M_waits u := by
  subst h
  exact ⟨rfl, rfl, rfl, rfl, rfl, rfl, rfl, rfl, rfl, rfl, rfl, rfl, rfl⟩
theorem sM_hardware {u u' : MS} {v : Nat → Int64} (h : u' = Ms_hardware u v) : mcore u' = mcore u ∧ mT u' = mT u ∧ mF u' = mF u ∧ mL u' = mL u ∧ mX u' = mX u ∧ M_entries u' = M_entries u ∧ M_addresses u' = M_addresses u ∧ M_kinds u' = M_kinds u ∧ M_hardware u' = v ∧ M_since u' = M_since u ∧ M_used u' = M_used u ∧ M_waiting u' = M_waiting u ∧ M_waits u' = M_waits u := by
  subst h
  exact ⟨rfl, rfl, rfl, rfl, rfl, rfl, rfl, rfl, rfl, rfl, rfl, rfl, rfl⟩
theorem sM_since {u u' : MS} {v : Nat → Int32} (h : u' = Ms_since u v) : mcore u' = mcore u ∧ mT u' = mT u ∧ mF u' = mF u ∧ mL u' = mL u ∧ mX u' = mX u ∧ M_entries u' = M_entries u ∧ M_addresses u' = M_addresses u ∧ M_kinds u' = M_kinds u ∧ M_hardware u' = M_hardware u ∧ M_since u' = v ∧ M_used u' = M_used u ∧ M_waiting u' = M_waiting u ∧ M_waits u' = M_waits u := by
  subst h
  exact ⟨rfl, rfl, rfl, rfl, rfl, rfl, rfl, rfl, rfl, rfl, rfl, rfl, rfl⟩
theorem sM_used {u u' : MS} {v : Nat → Int32} (h : u' = Ms_used u v) : mcore u' = mcore u ∧ mT u' = mT u ∧ mF u' = mF u ∧ mL u' = mL u ∧ mX u' = mX u ∧ M_entries u' = M_entries u ∧ M_addresses u' = M_addresses u ∧ M_kinds u' = M_kinds u ∧ M_hardware u' = M_hardware u ∧ M_since u' = M_since u ∧ M_used u' = v ∧ M_waiting u' = M_waiting u ∧ M_waits u' = M_waits u := by
  subst h
  exact ⟨rfl, rfl, rfl, rfl, rfl, rfl, rfl, rfl, rfl, rfl, rfl, rfl, rfl⟩
theorem sM_waiting {u u' : MS} {v : Nat → Int32} (h : u' = Ms_waiting u v) : mcore u' = mcore u ∧ mT u' = mT u ∧ mF u' = mF u ∧ mL u' = mL u ∧ mX u' = mX u ∧ M_entries u' = M_entries u ∧ M_addresses u' = M_addresses u ∧ M_kinds u' = M_kinds u ∧ M_hardware u' = M_hardware u ∧ M_since u' = M_since u ∧ M_used u' = M_used u ∧ M_waiting u' = v ∧ M_waits u' = M_waits u := by
  subst h
  exact ⟨rfl, rfl, rfl, rfl, rfl, rfl, rfl, rfl, rfl, rfl, rfl, rfl, rfl⟩
theorem sM_waits {u u' : MS} {v : Nat → Int32} (h : u' = Ms_waits u v) : mcore u' = mcore u ∧ mT u' = mT u ∧ mF u' = mF u ∧ mL u' = mL u ∧ mX u' = mX u ∧ M_entries u' = M_entries u ∧ M_addresses u' = M_addresses u ∧ M_kinds u' = M_kinds u ∧ M_hardware u' = M_hardware u ∧ M_since u' = M_since u ∧ M_used u' = M_used u ∧ M_waiting u' = M_waiting u ∧ M_waits u' = v := by
  subst h
  exact ⟨rfl, rfl, rfl, rfl, rfl, rfl, rfl, rfl, rfl, rfl, rfl, rfl, rfl⟩
theorem sM_thrown {u u' : MS} {v : Int32} (h : u' = Ms_thrown u v) : mcore u' = mcore u ∧ mT u' = mT u ∧ mF u' = mF u ∧ mL u' = mL u ∧ mE u' = mE u ∧ M_thrown u' = v ∧ M_capacity u' = M_capacity u := by
  subst h
  exact ⟨rfl, rfl, rfl, rfl, rfl, rfl, rfl⟩
theorem g_mcore {u u' : MS} (h : mcore u' = mcore u) : M_here u' = M_here u ∧ M_time u' = M_time u ∧ M_phase u' = M_phase u ∧ M_own u' = M_own u ∧ M_claimed u' = M_claimed u ∧ M_defended u' = M_defended u ∧ M_reach u' = M_reach u ∧ M_age u' = M_age u := by
  unfold mcore at h
  simpa only [Prod.mk.injEq] using h
theorem g_mT {u u' : MS} (h : mT u' = mT u) : M_tape u' = M_tape u ∧ M_taped u' = M_taped u := by
  unfold mT at h
  simpa only [Prod.mk.injEq] using h
theorem g_mF {u u' : MS} (h : mF u' = mF u) : M_frames u' = M_frames u ∧ M_frameTo u' = M_frameTo u ∧ M_frameData u' = M_frameData u ∧ M_framePacket u' = M_framePacket u ∧ M_frameBytes u' = M_frameBytes u := by
  unfold mF at h
  simpa only [Prod.mk.injEq] using h
theorem g_mL {u u' : MS} (h : mL u' = mL u) : M_lost u' = M_lost u ∧ M_lostNumbers u' = M_lostNumbers u := by
  unfold mL at h
  simpa only [Prod.mk.injEq] using h
theorem g_mE {u u' : MS} (h : mE u' = mE u) : M_entries u' = M_entries u ∧ M_addresses u' = M_addresses u ∧ M_kinds u' = M_kinds u ∧ M_hardware u' = M_hardware u ∧ M_since u' = M_since u ∧ M_used u' = M_used u ∧ M_waiting u' = M_waiting u ∧ M_waits u' = M_waits u := by
  unfold mE at h
  simpa only [Prod.mk.injEq] using h
theorem g_mX {u u' : MS} (h : mX u' = mX u) : M_thrown u' = M_thrown u ∧ M_capacity u' = M_capacity u := by
  unfold mX at h
  simpa only [Prod.mk.injEq] using h
theorem XFu.keep {u u' : XS} {l : List Fr} (h : xF u' = xF u) (H : XFu u l) : XFu u' l := by
  obtain ⟨h1, h2, h3, h4, h5⟩ := g_xF h
  unfold XFu; rw [h1, h2, h3, h4, h5]; exact H
theorem XLu.keep {u u' : XS} {l : List Int32} (h : xL u' = xL u) (H : XLu u l) : XLu u' l := by
  obtain ⟨h1, h2⟩ := g_xL h
  unfold XLu; rw [h1, h2]; exact H
theorem XTu.keep {u u' : XS} {t : Nat → Int32} {n : Nat} (h : xT u' = xT u) (H : XTu u t n) : XTu u' t n := by
  obtain ⟨h1, h2⟩ := g_xT h
  unfold XTu; rw [h1, h2]; exact H
theorem XEu.keep {cap : Nat} {u u' : XS} {l : List En} (h : xE u' = xE u) (H : XEu cap u l) : XEu cap u' l := by
  obtain ⟨h1, h2, h3, h4⟩ := g_xE h
  unfold XEu; rw [h1, h2, h3, h4]; exact H
theorem MFu.keep {u u' : MS} {l : List Fr} (h : mF u' = mF u) (H : MFu u l) : MFu u' l := by
  obtain ⟨h1, h2, h3, h4, h5⟩ := g_mF h
  unfold MFu; rw [h1, h2, h3, h4, h5]; exact H
theorem MLu.keep {u u' : MS} {l : List Int32} (h : mL u' = mL u) (H : MLu u l) : MLu u' l := by
  obtain ⟨h1, h2⟩ := g_mL h
  unfold MLu; rw [h1, h2]; exact H
theorem MTu.keep {u u' : MS} {t : Nat → Int32} {n : Nat} (h : mT u' = mT u) (H : MTu u t n) : MTu u' t n := by
  obtain ⟨h1, h2⟩ := g_mT h
  unfold MTu; rw [h1, h2]; exact H
theorem MEu.keep {cap : Nat} {u u' : MS} {l : List En} (h : mE u' = mE u) (H : MEu cap u l) : MEu cap u' l := by
  obtain ⟨h1, h2, h3, h4, h5, h6, h7, h8⟩ := g_mE h
  unfold MEu; rw [h1, h2, h3, h4, h5, h6, h7, h8]; exact H
/-- what holds of the class: its plain numbers, its tape, entries, frames, numbers lost -/
def RX (cap : Nat) (u : XS) (c : Co) (tape : Nat → Int32) (n : Nat) (l : List En) (fs : List Fr) (ls : List Int32) (o : Nat → Int64) : Prop := core u = c ∧ XTu u tape n ∧ XEu cap u l ∧ XFu u fs ∧ XLu u ls ∧ X_out u = o
def RM (cap : Nat) (v : MS) (c : Co) (tape : Nat → Int32) (n : Nat) (l : List En) (fs : List Fr) (ls : List Int32) (th : Int32) : Prop := mcore v = c ∧ MTu v tape n ∧ MEu cap v l ∧ MFu v fs ∧ MLu v ls ∧ M_thrown v = th ∧ M_capacity v = nI cap
def c_here (c : Co) : Int64 := c.1
def c_time (c : Co) : Int32 := c.2.1
def c_ph (c : Co) : Int32 := c.2.2.1
def c_own (c : Co) : Int32 := c.2.2.2.1
def c_cl (c : Co) : Int32 := c.2.2.2.2.1
def c_df (c : Co) : Int32 := c.2.2.2.2.2.1
def c_re (c : Co) : Int32 := c.2.2.2.2.2.2.1
def c_ag (c : Co) : Int32 := c.2.2.2.2.2.2.2
theorem core_all {u : XS} {c : Co} (h : core u = c) : X_here u = c_here c ∧ X_time u = c_time c ∧ X_phase u = c_ph c ∧ X_own u = c_own c ∧ X_claimed u = c_cl c ∧ X_defended u = c_df c ∧ X_reach u = c_re c ∧ X_age u = c_ag c := by
  subst h; exact ⟨rfl, rfl, rfl, rfl, rfl, rfl, rfl, rfl⟩
theorem mcore_all {u : MS} {c : Co} (h : mcore u = c) : M_here u = c_here c ∧ M_time u = c_time c ∧ M_phase u = c_ph c ∧ M_own u = c_own c ∧ M_claimed u = c_cl c ∧ M_defended u = c_df c ∧ M_reach u = c_re c ∧ M_age u = c_ag c := by
  subst h; exact ⟨rfl, rfl, rfl, rfl, rfl, rfl, rfl, rfl⟩
