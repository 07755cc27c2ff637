/-! THE CLAIM OUT OF ONE WALK OF THE LAW'S BODY. Your part is whole_start (and what it stands on); all else here is the same for every law, but numbers. -/
def R_law : String := "CoachmenFaceLaw"
def lw_P (b : Addr) (xs : List Int32) (args : Array Value) (s : State) : Prop := args = #[.ref b] ∧ s.IntsAt b xs ∧ xs.length ≤ 3072 ∧ (Jvm.Cond.and given_1 narrow_1).before args s = true
def lw_Q (_ : Array Value) (s : State) (o : Outcome) (t : State) : Prop := o = .returned (some (.int 1)) ∧ Framed s o t [] 600000 7302250
def lw_Z (below : List Frame) (a : Array Value) (s : State) : State → Prop := fun t => ∃ o, t.status = .running ∧ Ended t below o ∧ lw_Q a s o t
/-- the law's own end, with 1 on the stack, nothing written that was there before, its room as the claim has it -/
theorem lw_ret {p : Program} {l : Launch} {e : Env} {s : State} {m : MethodId} {below : List Frame} {meth : Method} {c : Code} {b : Nat} (hx : p.tables.exec = Jvm.exec) (hb : c.code = code) (hr : meth.sig.returnType = ret) (hlocks : meth.locks = false) {pc : Nat} {H : Heap} {ls : Array Slot} (hdg : decode code pc = .ok (.ireturn, 1)) : W p l e room_1 s m #[Value.ref b] below meth c H [] 600000 7302250 (lw_Z below #[Value.ref b] s) (F0 m pc ls [.int 1]) := by
  intro T hT X
  obtain ⟨fs, hret, hrun, hended, hW, hframe⟩ := X.leave (v := some (.int 1)) (hlocks := hlocks) (fun h => by rw [hr] at h; cases h)
  have hmeth' : T.vm.method? m = some meth := X.method'
  refine ⟨T.setFrames fs, ?_, .returned (some (.int 1)), hrun, hended, rfl, ⟨_, rfl⟩, hW, hframe⟩
  jvm_step X.here [X.here.top, hx, hb, hdg, hmeth', hr, ret, narrow_b1]
  (try refine ⟨rfl, ?_⟩); (try refine ⟨rfl, ?_⟩)
  first | (intro acts; rw [hret _ acts rfl rfl rfl]) | rw [hret _ _ rfl rfl rfl]
  exact Steps.refl _
/-- what holds at the law's entry: the machine, the code, the tables' words (any of lw_tbl by 'hts w (by decide +kernel)'), the script of L ints xs at the cell b, what the Statement gives of the start (any of its parts by flat_of_before) -/
def lw_At (p : Program) (s : State) (m : MethodId) (meth : Method) (c : Code) (b L : Nat) (xs : Nat → Int32) : Prop :=
  p.tables.exec = Jvm.exec ∧ c.code = code ∧ meth.sig.returnType = ret ∧ c.maxLocals = 4 ∧ s.vm.findClass R_law = some m.cls ∧ (∀ w ∈ lw_tbl, w.before #[Value.ref b] s = true) ∧ va_X b L xs s s.heap ∧ b < s.heap.size ∧ meth.locks = false ∧ (Jvm.Cond.and given_1 narrow_1).before #[Value.ref b] s = true ∧ meth.name = "law"
theorem st_flat : ∀ q ∈ stL, ∀ w ∈ stW q, w ∈ flatC (Jvm.Cond.and given_1 narrow_1) := by decide +kernel
set_option maxRecDepth 100000 in
set_option maxHeartbeats 4000000 in
theorem whole_start_of (hp : ∀ (L : Nat) (xs : Nat → Int32), L ≤ 3072 → w_L_law (L, xs) SC_23 (fun r _ => r = 1)) {p : Program} {e : Env} {s : State} {m : MethodId} {below : List Frame} {meth : Method} {c : Code} (l : Launch) (hflags : l.flags = flags0) {b L : Nat} {xs : Nat → Int32} (hL : L ≤ 3072) (C0 : lw_At p s m meth c b L xs) : W p l e room_1 s m #[Value.ref b] below meth c s.heap [] 0 0 (lw_Z below #[Value.ref b] s) (entryFrame m ([Value.ref b] : List Value).toArray 4) := by
  obtain ⟨hx, hb, hr, hml, hown, hts, hX, hbl, hlocks, hgv, hnm⟩ := C0
  have hst : ∀ q ∈ stL, ∀ w ∈ stW q, w.before #[Value.ref b] s = true := fun q hq w hw => flat_of_before _ hgv w (st_flat q hq w hw)
  obtain ⟨E, hE1, hE2, hEn⟩ := En_start hts hX hbl hL hst
  have hG : ∀ w ∈ lG, w.before #[Value.ref b] s = true := fun w h => hts w (in_tblG h)
  have hl := lv_entry ([.ref b] : List Value) (n := 4) (Nat.le_of_ble_eq_true rfl)
  rw [lg_entry_eq]
  generalize (lg_sl ([.ref b] : List Value) ++ List.replicate (4 - (lg_sl ([.ref b] : List Value)).length) Slot.unset).toArray = ls at hl ⊢
  have hLH : LH E ls 4 [some (.float 0), none, none, none] := ⟨hl.1, hl.2.1, fun q hq => hl.2.2 q (by
    have e : prL E 0 [some (.float 0), none, none, none] = [(0, .ref b)] := by simp only [prL, cv]; rw [show (UInt32.toNat 0) = 0 from rfl, hE2]
    rw [e] at hq
    exact hq)⟩
  have hP0 : va_P E.2.2.1 vwCl (cW E GC_0 SC_0) s.heap := fun k q h => by simp [GC_0, cM] at h
  have h1 := law_all (L, xs) (fun r _ => r = 1) (hp L xs hL) p l e room_1 s m #[Value.ref b] below meth c E s.heap [] 0 0 ls
    ⟨hx, hb, hr, hml, hown, hG, hlocks, hnm, hEn, by show (1000 : Nat) ≤ 2048; decide, by show (60 * 1000 : Nat) ≤ 84000; decide⟩ ⟨hP0, fun _ => by rw [hE1]; rfl, va_S.rf⟩ hLH ⟨Nat.le_of_ble_eq_true rfl, Nat.le_of_ble_eq_true rfl⟩
  intro T hT X
  obtain ⟨t, a1, o, r1, r2, ⟨⟨r, Γ', σ', e1, ⟨-, v, e2, e3⟩, -, -⟩, -⟩, Ls, hF, hLs⟩ := h1 T hT X
  refine ⟨t, a1, o, r1, r2, ?_, ?_⟩
  · rw [e1, e2, e3]; rfl
  · obtain ⟨f1, f2, f3⟩ := hF
    exact ⟨f1, f2, f3.weaken (l' := []) (fun y hy hlt => absurd hlt (Nat.not_lt.mpr (by have := hLs y hy; unfold aA at this; rw [hE1] at this; exact this))) (Nat.le_of_ble_eq_true rfl) (Nat.le_of_ble_eq_true rfl)⟩

