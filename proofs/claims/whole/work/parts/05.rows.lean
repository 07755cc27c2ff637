/-- let: the value by a name -/
def bd {α : Type} (e : α) (P : α → Prop) : Prop := ∀ x, x = e → P x
theorem bd_eq {α : Type} (e : α) (P : α → Prop) : bd e P = P e := propext ⟨fun h => h e rfl, fun h x hx => hx ▸ h⟩
theorem bd_of {α : Type} {e : α} {P : α → Prop} (h : P e) : bd e P := fun x hx => hx ▸ h
theorem bd_j {α : Type} {G : Prop} {e : α} {P : α → Prop} (h : bd e P) (k : ∀ J, J = e → P J → G) : G := k e rfl (h e rfl)
def aQ (z : Bool) (E : aE) (Q : Option Value → List aC → Sg → Prop) : Array Value → State → Outcome → State → Prop := fun _ st oc t =>
  (∃ (r : Option Value) (Γ : List aC) (σ : Sg), oc = .returned (r.map (cv E)) ∧ Q r Γ σ ∧ va_P E.2.2.1 vwCl (cW E Γ σ) t.heap ∧ (z = true → t.heap.size = E.1 + Γ.length)) ∧ va_F (aA E) st t
def Hc (M : aM) (d : Nat) (sx : Nat × (Nat → Int32)) (p : Program) (R : Room) (s : State) (m : MethodId) (args : Array Value) (meth : Method) (c : Code) (E : aE) : Prop :=
  p.tables.exec = Jvm.exec ∧ c.code = M.2.1 ∧ meth.sig.returnType = M.2.2.2 ∧ c.maxLocals = M.2.2.1 ∧ s.vm.findClass M.1.cls = some m.cls ∧ (∀ w ∈ lG, w.before args s = true) ∧ meth.locks = false ∧ meth.name = M.1.name ∧ En E sx s s.heap ∧ d ≤ R.frames ∧ 60 * d ≤ R.locals
def Hh (z : Bool) (Γ : List aC) (σ : Sg) (s : State) (E : aE) (H : Heap) (locs : List Loc) : Prop :=
  va_P E.2.2.1 vwCl (cW E Γ σ) H ∧ (z = true → H.size = E.1 + Γ.length) ∧ va_S (aA E) s.heap H locs
def Ex (M : aM) (d : Nat) (z : Bool) (bu : Nat × Nat) (sx : Nat × (Nat → Int32)) (Γ : List aC) (pc : Nat) (L : List (Option Value)) (st : List Value) (σ : Sg) (Q : Option Value → List aC → Sg → Prop) : Prop :=
  ∀ (p : Program) (l : Launch) (e : Env) (R : Room) (s : State) (m : MethodId) (args : Array Value) (below : List Frame) (meth : Method) (c : Code) (E : aE) (H : Heap) (locs : List Loc) (cells slots : Nat) (ls : Array Slot),
    Hc M d sx p R s m args meth c E → Hh z Γ σ s E H locs → LH E ls M.2.2.1 L → (cells + bu.1 ≤ R.cells ∧ slots + bu.2 ≤ R.slots) →
    W p l e R s m args below meth c H locs cells slots (MQ below (aQ z E Q) args s (cells + bu.1) (slots + bu.2) (aA E)) (F0 m pc ls (st.map (cv E)))
def Ct (M : aM) (d : Nat) (z : Bool) (bu : Nat × Nat) (sx : Nat × (Nat → Int32)) (Γ : List aC) (av : List Value) (σ : Sg) (Q : Option Value → List aC → Sg → Prop) : Prop :=
  ∀ (l : Launch) (E : aE), Met l M.1 (.code M.1 M.2.1 M.2.2.1 M.2.2.2 :: lG) { frames := d, cells := bu.1, slots := bu.2, locals := 60 * d }
    (va_Pc (av.map (cv E)) (fun U => En E sx U U.heap ∧ va_P E.2.2.1 vwCl (cW E Γ σ) U.heap ∧ (z = true → U.heap.size = E.1 + Γ.length))) (aQ z E Q) bu.1 bu.2 (aA E)
/-- the locals at a method's entry -/
def entL : List Value → Nat → List (Option Value)
  | [], n => List.replicate n none
  | v :: vs, n => bif isL v then some v :: none :: entL vs (n - 2) else some v :: entL vs (n - 1)
theorem entL_in (E : aE) : ∀ (vs : List Value) (n i0 : Nat) (q : Nat × Value), q ∈ prL E i0 (entL vs n) → q ∈ lv_args i0 (vs.map (cv E))
  | [], n, i0, q, h => by
    obtain ⟨i, v, h1, -⟩ := (prL_in E _ i0 q).mp h
    simp only [entL] at h1
    have := List.mem_of_getElem? h1
    simp at this
  | v :: vs, n, i0, q, h => by
    have hc : (cv E v).category = v.category := cv_cat E v
    cases hv : isL v
    · rw [show entL (v :: vs) n = some v :: entL vs (n - 1) by simp [entL, hv]] at h
      rcases List.mem_cons.mp h with h | h
      · rw [h]; exact List.mem_cons_self
      · have hcat : ¬ (cv E v).category = 2 := by
          intro q2
          have := isL_cat E v
          rw [hv, q2] at this
          cases this
        show q ∈ (i0, cv E v) :: lv_args (if (cv E v).category = 2 then i0 + 2 else i0 + 1) (vs.map (cv E))
        rw [if_neg hcat]
        exact List.mem_cons_of_mem _ (entL_in E vs (n - 1) (i0 + 1) q h)
    · rw [show entL (v :: vs) n = some v :: none :: entL vs (n - 2) by simp [entL, hv]] at h
      rcases List.mem_cons.mp h with h | h
      · rw [h]; exact List.mem_cons_self
      · have hcat : (cv E v).category = 2 := by
          have := isL_cat E v
          rw [hv] at this
          exact beq_iff_eq.mp this
        show q ∈ (i0, cv E v) :: lv_args (if (cv E v).category = 2 then i0 + 2 else i0 + 1) (vs.map (cv E))
        rw [if_pos hcat]
        exact List.mem_cons_of_mem _ (entL_in E vs (n - 2) (i0 + 2) q h)
theorem sl_len (E : aE) (av : List Value) : (lg_sl (av.map (cv E))).length = (av.map fun v => v.category).sum := by
  induction av with
  | nil => rfl
  | cons v vs ih =>
    simp only [List.map_cons, lg_sl, List.flatMap_cons, List.length_append, List.sum_cons] at ih ⊢
    rw [ih, cv_cat]
    cases v <;> simp [Value.category]
theorem Ct.of {M : aM} {d : Nat} {z : Bool} {bu : Nat × Nat} {sx : Nat × (Nat → Int32)} {Γ : List aC} {av : List Value} {σ : Sg} {Q : Option Value → List aC → Sg → Prop} {L : List (Option Value)} (hy : plainName M.1.cls = true) (hn : ((av.map fun v => v.category).sum) ≤ M.2.2.1) (hL : entL av M.2.2.1 = L)
    (h : Ex M d z bu sx Γ 0 L [] σ Q) : Ct M d z bu sx Γ av σ Q := by
  intro l E
  refine Met.ofW (cc := M.2.1) (maxL := M.2.2.1) (ret := M.2.2.2) hy rfl ?_
  intro p e s m args below meth c s₁ B hml hv
  obtain ⟨rfl, hE, hP, hz⟩ := hv
  have hts := atoms_spec (ws := Cond.code M.1 M.2.1 M.2.2.1 M.2.2.2 :: lG) B.pre
  have hown : s.vm.findClass M.1.cls = some m.cls := findClass_of_methodNamed B.named
  have hlen : (lg_sl (av.map (cv E))).length ≤ M.2.2.1 := Nat.le_trans (Nat.le_of_eq (sl_len E av)) hn
  have hl := lv_entry (av.map (cv E)) (n := M.2.2.1) hlen
  rw [lg_entry_eq]
  generalize (lg_sl (av.map (cv E)) ++ List.replicate (M.2.2.1 - (lg_sl (av.map (cv E))).length) Slot.unset).toArray = ls at hl ⊢
  have hLH : LH E ls M.2.2.1 L := ⟨hl.1, hl.2.1, fun q hq => hl.2.2 q (entL_in E av M.2.2.1 0 q (by rw [hL]; exact hq))⟩
  have h1 := h p l e { frames := d, cells := bu.1, slots := bu.2, locals := 60 * d } s m (av.map (cv E)).toArray below meth c E s.heap [] 0 0 ls
    ⟨B.exec, B.bytes, B.returns, hml, hown, fun w hw => hts w (List.mem_cons_of_mem _ hw), B.notSynchronized, (name_of_methodNamed B.named B.method).1, hE, Nat.le_refl _, Nat.le_refl _⟩ ⟨hP, hz, va_S.rf⟩ hLH ⟨by simp, by simp⟩
  rw [Nat.zero_add, Nat.zero_add] at h1
  exact h1
section EX
variable {M : aM} {d : Nat} {z : Bool} {bu : Nat × Nat} {sx : Nat × (Nat → Int32)} {Γ : List aC} {pc : Nat} {L : List (Option Value)} {st : List Value} {σ : Sg} {Q : Option Value → List aC → Sg → Prop}
theorem X_iconst {n : Int} {v : Int32} (hd : decode M.2.1 pc = .ok (.iconst n, 1)) (hv : Int32.ofInt n = v) (k : Ex M d z bu sx Γ (pc + 1) L (.int v :: st) σ Q) : Ex M d z bu sx Γ pc L (st) σ Q :=
  fun p l e R s m args below meth c E H locs cells slots ls C Hw hl hb => lv_iconst C.1 C.2.1 hd hv (k p l e R s m args below meth c E H locs cells slots ls C Hw hl hb)
theorem X_bipush {n : Int} {v : Int32} (hd : decode M.2.1 pc = .ok (.bipush n, 2)) (hv : (Int8.ofInt n).toInt32 = v) (k : Ex M d z bu sx Γ (pc + 2) L (.int v :: st) σ Q) : Ex M d z bu sx Γ pc L (st) σ Q :=
  fun p l e R s m args below meth c E H locs cells slots ls C Hw hl hb => lv_bipush C.1 C.2.1 hd hv (k p l e R s m args below meth c E H locs cells slots ls C Hw hl hb)
theorem X_sipush {n : Int} {v : Int32} (hd : decode M.2.1 pc = .ok (.sipush n, 3)) (hv : (Int16.ofInt n).toInt32 = v) (k : Ex M d z bu sx Γ (pc + 3) L (.int v :: st) σ Q) : Ex M d z bu sx Γ pc L (st) σ Q :=
  fun p l e R s m args below meth c E H locs cells slots ls C Hw hl hb => lv_sipush C.1 C.2.1 hd hv (k p l e R s m args below meth c E H locs cells slots ls C Hw hl hb)
theorem X_lconst {n : Fin 2} {v : Int64} (hd : decode M.2.1 pc = .ok (.lconst n, 1)) (hv : Int64.ofNat (n : Nat) = v) (k : Ex M d z bu sx Γ (pc + 1) L (.long v :: st) σ Q) : Ex M d z bu sx Γ pc L (st) σ Q :=
  fun p l e R s m args below meth c E H locs cells slots ls C Hw hl hb => lv_lconst C.1 C.2.1 hd hv (k p l e R s m args below meth c E H locs cells slots ls C Hw hl hb)
theorem X_iload_n {k : Fin 4} {i : Nat} {x : Int32} (hd : decode M.2.1 pc = .ok (.iload_n k, 1)) (hi : (k : Nat) = i) (hg : L[i]? = some (some (.int x))) (k : Ex M d z bu sx Γ (pc + 1) L (.int x :: st) σ Q) : Ex M d z bu sx Γ pc L (st) σ Q :=
  fun p l e R s m args below meth c E H locs cells slots ls C Hw hl hb => lv_iload_n C.1 C.2.1 hd hi (hl.at hg) (k p l e R s m args below meth c E H locs cells slots ls C Hw hl hb)
theorem X_iload {i : Nat} {x : Int32} (hd : decode M.2.1 pc = .ok (.iload i, 2)) (hg : L[i]? = some (some (.int x))) (k : Ex M d z bu sx Γ (pc + 2) L (.int x :: st) σ Q) : Ex M d z bu sx Γ pc L (st) σ Q :=
  fun p l e R s m args below meth c E H locs cells slots ls C Hw hl hb => lv_iload C.1 C.2.1 hd (hl.at hg) (k p l e R s m args below meth c E H locs cells slots ls C Hw hl hb)
theorem X_lload_n {k : Fin 4} {i : Nat} {x : Int64} (hd : decode M.2.1 pc = .ok (.lload_n k, 1)) (hi : (k : Nat) = i) (hg : L[i]? = some (some (.long x))) (k : Ex M d z bu sx Γ (pc + 1) L (.long x :: st) σ Q) : Ex M d z bu sx Γ pc L (st) σ Q :=
  fun p l e R s m args below meth c E H locs cells slots ls C Hw hl hb => lv_lload_n C.1 C.2.1 hd hi (hl.at hg) (k p l e R s m args below meth c E H locs cells slots ls C Hw hl hb)
theorem X_lload {i : Nat} {x : Int64} (hd : decode M.2.1 pc = .ok (.lload i, 2)) (hg : L[i]? = some (some (.long x))) (k : Ex M d z bu sx Γ (pc + 2) L (.long x :: st) σ Q) : Ex M d z bu sx Γ pc L (st) σ Q :=
  fun p l e R s m args below meth c E H locs cells slots ls C Hw hl hb => lv_lload C.1 C.2.1 hd (hl.at hg) (k p l e R s m args below meth c E H locs cells slots ls C Hw hl hb)
theorem X_aload_n {k : Fin 4} {i : Nat} {x : Nat} (hd : decode M.2.1 pc = .ok (.aload_n k, 1)) (hi : (k : Nat) = i) (hg : L[i]? = some (some (.ref x))) (k : Ex M d z bu sx Γ (pc + 1) L (.ref x :: st) σ Q) : Ex M d z bu sx Γ pc L (st) σ Q :=
  fun p l e R s m args below meth c E H locs cells slots ls C Hw hl hb => lv_aload_n C.1 C.2.1 hd hi (hl.at hg) (k p l e R s m args below meth c E H locs cells slots ls C Hw hl hb)
theorem X_aload {i : Nat} {x : Nat} (hd : decode M.2.1 pc = .ok (.aload i, 2)) (hg : L[i]? = some (some (.ref x))) (k : Ex M d z bu sx Γ (pc + 2) L (.ref x :: st) σ Q) : Ex M d z bu sx Γ pc L (st) σ Q :=
  fun p l e R s m args below meth c E H locs cells slots ls C Hw hl hb => lv_aload C.1 C.2.1 hd (hl.at hg) (k p l e R s m args below meth c E H locs cells slots ls C Hw hl hb)
theorem X_aload_nX {k : Fin 4} {i : Nat} {x : UInt32} (hd : decode M.2.1 pc = .ok (.aload_n k, 1)) (hi : (k : Nat) = i) (hg : L[i]? = some (some (.float x))) (k : Ex M d z bu sx Γ (pc + 1) L (.float x :: st) σ Q) : Ex M d z bu sx Γ pc L (st) σ Q :=
  fun p l e R s m args below meth c E H locs cells slots ls C Hw hl hb => lv_aload_n C.1 C.2.1 hd hi (hl.at hg) (k p l e R s m args below meth c E H locs cells slots ls C Hw hl hb)
theorem X_aloadX {i : Nat} {x : UInt32} (hd : decode M.2.1 pc = .ok (.aload i, 2)) (hg : L[i]? = some (some (.float x))) (k : Ex M d z bu sx Γ (pc + 2) L (.float x :: st) σ Q) : Ex M d z bu sx Γ pc L (st) σ Q :=
  fun p l e R s m args below meth c E H locs cells slots ls C Hw hl hb => lv_aload C.1 C.2.1 hd (hl.at hg) (k p l e R s m args below meth c E H locs cells slots ls C Hw hl hb)
theorem X_istore_n {k : Fin 4} {i : Nat} {x : Int32} {L' : List (Option Value)} (hd : decode M.2.1 pc = .ok (.istore_n k, 1)) (hi : (k : Nat) = i) (hn : i < M.2.2.1) (hs : sto1 L i (.int x) = L') (k : Ex M d z bu sx Γ (pc + 1) L' st σ Q) : Ex M d z bu sx Γ pc L (.int x :: st) σ Q :=
  fun p l e R s m args below meth c E H locs cells slots ls C Hw hl hb => lv_istore_n C.1 C.2.1 hd hi hl hn rfl (fun ls' hl' => k p l e R s m args below meth c E H locs cells slots ls' C Hw (hs ▸ LH.s1 hl') hb)
theorem X_istore {i : Nat} {x : Int32} {L' : List (Option Value)} (hd : decode M.2.1 pc = .ok (.istore i, 2)) (hn : i < M.2.2.1) (hs : sto1 L i (.int x) = L') (k : Ex M d z bu sx Γ (pc + 2) L' st σ Q) : Ex M d z bu sx Γ pc L (.int x :: st) σ Q :=
  fun p l e R s m args below meth c E H locs cells slots ls C Hw hl hb => lv_istore C.1 C.2.1 hd hl hn rfl (fun ls' hl' => k p l e R s m args below meth c E H locs cells slots ls' C Hw (hs ▸ LH.s1 hl') hb)
theorem X_lstore_n {k : Fin 4} {i : Nat} {x : Int64} {L' : List (Option Value)} (hd : decode M.2.1 pc = .ok (.lstore_n k, 1)) (hi : (k : Nat) = i) (hn : i + 1 < M.2.2.1) (hs : sto2 L i (.long x) = L') (k : Ex M d z bu sx Γ (pc + 1) L' st σ Q) : Ex M d z bu sx Γ pc L (.long x :: st) σ Q :=
  fun p l e R s m args below meth c E H locs cells slots ls C Hw hl hb => lv_lstore_n C.1 C.2.1 hd hi hl hn rfl (fun ls' hl' => k p l e R s m args below meth c E H locs cells slots ls' C Hw (hs ▸ LH.s2 hl') hb)
theorem X_lstore {i : Nat} {x : Int64} {L' : List (Option Value)} (hd : decode M.2.1 pc = .ok (.lstore i, 2)) (hn : i + 1 < M.2.2.1) (hs : sto2 L i (.long x) = L') (k : Ex M d z bu sx Γ (pc + 2) L' st σ Q) : Ex M d z bu sx Γ pc L (.long x :: st) σ Q :=
  fun p l e R s m args below meth c E H locs cells slots ls C Hw hl hb => lv_lstore C.1 C.2.1 hd hl hn rfl (fun ls' hl' => k p l e R s m args below meth c E H locs cells slots ls' C Hw (hs ▸ LH.s2 hl') hb)
theorem X_astore_n {k : Fin 4} {i : Nat} {x : Nat} {L' : List (Option Value)} (hd : decode M.2.1 pc = .ok (.astore_n k, 1)) (hi : (k : Nat) = i) (hn : i < M.2.2.1) (hs : sto1 L i (.ref x) = L') (k : Ex M d z bu sx Γ (pc + 1) L' st σ Q) : Ex M d z bu sx Γ pc L (.ref x :: st) σ Q :=
  fun p l e R s m args below meth c E H locs cells slots ls C Hw hl hb => lv_astore_n C.1 C.2.1 hd hi hl hn rfl (fun ls' hl' => k p l e R s m args below meth c E H locs cells slots ls' C Hw (hs ▸ LH.s1 hl') hb)
theorem X_astore {i : Nat} {x : Nat} {L' : List (Option Value)} (hd : decode M.2.1 pc = .ok (.astore i, 2)) (hn : i < M.2.2.1) (hs : sto1 L i (.ref x) = L') (k : Ex M d z bu sx Γ (pc + 2) L' st σ Q) : Ex M d z bu sx Γ pc L (.ref x :: st) σ Q :=
  fun p l e R s m args below meth c E H locs cells slots ls C Hw hl hb => lv_astore C.1 C.2.1 hd hl hn rfl (fun ls' hl' => k p l e R s m args below meth c E H locs cells slots ls' C Hw (hs ▸ LH.s1 hl') hb)
theorem prL_get (E : aE) {L : List (Option Value)} {i : Nat} {v : Value} (h : L[i]? = some (some v)) : ∃ k : Nat, (prL E 0 L)[k]? = some (i, cv E v) :=
  List.getElem?_of_mem ((prL_in E L 0 _).mpr ⟨i, v, h, by rw [Nat.zero_add]⟩)
theorem X_iinc {i : Nat} {n : Int} {x v : Int32} {L' : List (Option Value)} (hd : decode M.2.1 pc = .ok (.iinc i n, 3)) (hg : L[i]? = some (some (.int x))) (hv : x + Int32.ofInt n = v) (hn : i < M.2.2.1) (hs : sto1 L i (.int v) = L') (k : Ex M d z bu sx Γ (pc + 3) L' st σ Q) : Ex M d z bu sx Γ pc L st σ Q := by
  intro p l e R s m args below meth c E H locs cells slots ls C Hw hl hb
  obtain ⟨kk, hk⟩ := prL_get E hg
  exact lv_iinc C.1 C.2.1 hd hl hk hv hn rfl (fun ls' hl' => k p l e R s m args below meth c E H locs cells slots ls' C Hw (hs ▸ LH.s1 hl') hb)
theorem X_iadd {x y : Int32} (hd : decode M.2.1 pc = .ok (.iadd, 1)) (k : Ex M d z bu sx Γ (pc + 1) L (.int (x + y) :: st) σ Q) : Ex M d z bu sx Γ pc L (.int y :: .int x :: st) σ Q :=
  fun p l e R s m args below meth c E H locs cells slots ls C Hw hl hb => lv_iadd C.1 C.2.1 hd (k p l e R s m args below meth c E H locs cells slots ls C Hw hl hb)
theorem X_isub {x y : Int32} (hd : decode M.2.1 pc = .ok (.isub, 1)) (k : Ex M d z bu sx Γ (pc + 1) L (.int (x - y) :: st) σ Q) : Ex M d z bu sx Γ pc L (.int y :: .int x :: st) σ Q :=
  fun p l e R s m args below meth c E H locs cells slots ls C Hw hl hb => lv_isub C.1 C.2.1 hd (k p l e R s m args below meth c E H locs cells slots ls C Hw hl hb)
theorem X_imul {x y : Int32} (hd : decode M.2.1 pc = .ok (.imul, 1)) (k : Ex M d z bu sx Γ (pc + 1) L (.int (x * y) :: st) σ Q) : Ex M d z bu sx Γ pc L (.int y :: .int x :: st) σ Q :=
  fun p l e R s m args below meth c E H locs cells slots ls C Hw hl hb => lv_imul C.1 C.2.1 hd (k p l e R s m args below meth c E H locs cells slots ls C Hw hl hb)
theorem X_iand {x y : Int32} (hd : decode M.2.1 pc = .ok (.iand, 1)) (k : Ex M d z bu sx Γ (pc + 1) L (.int (x &&& y) :: st) σ Q) : Ex M d z bu sx Γ pc L (.int y :: .int x :: st) σ Q :=
  fun p l e R s m args below meth c E H locs cells slots ls C Hw hl hb => lv_iand C.1 C.2.1 hd (k p l e R s m args below meth c E H locs cells slots ls C Hw hl hb)
theorem X_ior {x y : Int32} (hd : decode M.2.1 pc = .ok (.ior, 1)) (k : Ex M d z bu sx Γ (pc + 1) L (.int (x ||| y) :: st) σ Q) : Ex M d z bu sx Γ pc L (.int y :: .int x :: st) σ Q :=
  fun p l e R s m args below meth c E H locs cells slots ls C Hw hl hb => lv_ior C.1 C.2.1 hd (k p l e R s m args below meth c E H locs cells slots ls C Hw hl hb)
theorem X_ixor {x y : Int32} (hd : decode M.2.1 pc = .ok (.ixor, 1)) (k : Ex M d z bu sx Γ (pc + 1) L (.int (x ^^^ y) :: st) σ Q) : Ex M d z bu sx Γ pc L (.int y :: .int x :: st) σ Q :=
  fun p l e R s m args below meth c E H locs cells slots ls C Hw hl hb => lv_ixor C.1 C.2.1 hd (k p l e R s m args below meth c E H locs cells slots ls C Hw hl hb)
theorem X_ishl {x y : Int32} (hd : decode M.2.1 pc = .ok (.ishl, 1)) (k : Ex M d z bu sx Γ (pc + 1) L (.int (x <<< (y &&& 31)) :: st) σ Q) : Ex M d z bu sx Γ pc L (.int y :: .int x :: st) σ Q :=
  fun p l e R s m args below meth c E H locs cells slots ls C Hw hl hb => lv_ishl C.1 C.2.1 hd (k p l e R s m args below meth c E H locs cells slots ls C Hw hl hb)
theorem X_ishr {x y : Int32} (hd : decode M.2.1 pc = .ok (.ishr, 1)) (k : Ex M d z bu sx Γ (pc + 1) L (.int (x >>> (y &&& 31)) :: st) σ Q) : Ex M d z bu sx Γ pc L (.int y :: .int x :: st) σ Q :=
  fun p l e R s m args below meth c E H locs cells slots ls C Hw hl hb => lv_ishr C.1 C.2.1 hd (k p l e R s m args below meth c E H locs cells slots ls C Hw hl hb)
theorem X_idiv {x y : Int32} (hd : decode M.2.1 pc = .ok (.idiv, 1)) (hne : ¬ y = 0) (k : Ex M d z bu sx Γ (pc + 1) L (.int (x / y) :: st) σ Q) : Ex M d z bu sx Γ pc L (.int y :: .int x :: st) σ Q :=
  fun p l e R s m args below meth c E H locs cells slots ls C Hw hl hb => lv_idiv C.1 C.2.1 hd hne (k p l e R s m args below meth c E H locs cells slots ls C Hw hl hb)
theorem X_irem {x y : Int32} (hd : decode M.2.1 pc = .ok (.irem, 1)) (hne : ¬ y = 0) (k : Ex M d z bu sx Γ (pc + 1) L (.int (x - x / y * y) :: st) σ Q) : Ex M d z bu sx Γ pc L (.int y :: .int x :: st) σ Q :=
  fun p l e R s m args below meth c E H locs cells slots ls C Hw hl hb => lv_irem C.1 C.2.1 hd hne (k p l e R s m args below meth c E H locs cells slots ls C Hw hl hb)
theorem X_ineg {x : Int32} (hd : decode M.2.1 pc = .ok (.ineg, 1)) (k : Ex M d z bu sx Γ (pc + 1) L (.int (-x) :: st) σ Q) : Ex M d z bu sx Γ pc L (.int x :: st) σ Q :=
  fun p l e R s m args below meth c E H locs cells slots ls C Hw hl hb => lv_ineg C.1 C.2.1 hd (k p l e R s m args below meth c E H locs cells slots ls C Hw hl hb)
theorem X_iushr {x y : Int32} (hd : decode M.2.1 pc = .ok (.iushr, 1)) (k : Ex M d z bu sx Γ (pc + 1) L (.int ((x.toUInt32 >>> (y.toUInt32 &&& Int32.toUInt32 31)).toInt32) :: st) σ Q) : Ex M d z bu sx Γ pc L (.int y :: .int x :: st) σ Q :=
  fun p l e R s m args below meth c E H locs cells slots ls C Hw hl hb => lv_iushr C.1 C.2.1 hd rfl (k p l e R s m args below meth c E H locs cells slots ls C Hw hl hb)
theorem X_ladd {x y : Int64} (hd : decode M.2.1 pc = .ok (.ladd, 1)) (k : Ex M d z bu sx Γ (pc + 1) L (.long (x + y) :: st) σ Q) : Ex M d z bu sx Γ pc L (.long y :: .long x :: st) σ Q :=
  fun p l e R s m args below meth c E H locs cells slots ls C Hw hl hb => lv_ladd C.1 C.2.1 hd (k p l e R s m args below meth c E H locs cells slots ls C Hw hl hb)
theorem X_lsub {x y : Int64} (hd : decode M.2.1 pc = .ok (.lsub, 1)) (k : Ex M d z bu sx Γ (pc + 1) L (.long (x - y) :: st) σ Q) : Ex M d z bu sx Γ pc L (.long y :: .long x :: st) σ Q :=
  fun p l e R s m args below meth c E H locs cells slots ls C Hw hl hb => lv_lsub C.1 C.2.1 hd (k p l e R s m args below meth c E H locs cells slots ls C Hw hl hb)
theorem X_lmul {x y : Int64} (hd : decode M.2.1 pc = .ok (.lmul, 1)) (k : Ex M d z bu sx Γ (pc + 1) L (.long (x * y) :: st) σ Q) : Ex M d z bu sx Γ pc L (.long y :: .long x :: st) σ Q :=
  fun p l e R s m args below meth c E H locs cells slots ls C Hw hl hb => lv_lmul C.1 C.2.1 hd (k p l e R s m args below meth c E H locs cells slots ls C Hw hl hb)
theorem X_land {x y : Int64} (hd : decode M.2.1 pc = .ok (.land, 1)) (k : Ex M d z bu sx Γ (pc + 1) L (.long (x &&& y) :: st) σ Q) : Ex M d z bu sx Γ pc L (.long y :: .long x :: st) σ Q :=
  fun p l e R s m args below meth c E H locs cells slots ls C Hw hl hb => lv_land C.1 C.2.1 hd (k p l e R s m args below meth c E H locs cells slots ls C Hw hl hb)
theorem X_lor {x y : Int64} (hd : decode M.2.1 pc = .ok (.lor, 1)) (k : Ex M d z bu sx Γ (pc + 1) L (.long (x ||| y) :: st) σ Q) : Ex M d z bu sx Γ pc L (.long y :: .long x :: st) σ Q :=
  fun p l e R s m args below meth c E H locs cells slots ls C Hw hl hb => lv_lor C.1 C.2.1 hd (k p l e R s m args below meth c E H locs cells slots ls C Hw hl hb)
theorem X_ldiv {x y : Int64} (hd : decode M.2.1 pc = .ok (.ldiv, 1)) (hne : ¬ y = 0) (k : Ex M d z bu sx Γ (pc + 1) L (.long (x / y) :: st) σ Q) : Ex M d z bu sx Γ pc L (.long y :: .long x :: st) σ Q :=
  fun p l e R s m args below meth c E H locs cells slots ls C Hw hl hb => lv_ldiv C.1 C.2.1 hd hne (k p l e R s m args below meth c E H locs cells slots ls C Hw hl hb)
theorem X_lrem {x y : Int64} (hd : decode M.2.1 pc = .ok (.lrem, 1)) (hne : ¬ y = 0) (k : Ex M d z bu sx Γ (pc + 1) L (.long (x - x / y * y) :: st) σ Q) : Ex M d z bu sx Γ pc L (.long y :: .long x :: st) σ Q :=
  fun p l e R s m args below meth c E H locs cells slots ls C Hw hl hb => lv_lrem C.1 C.2.1 hd hne (k p l e R s m args below meth c E H locs cells slots ls C Hw hl hb)
theorem X_lshl {x : Int64} {y : Int32} (hd : decode M.2.1 pc = .ok (.lshl, 1)) (k : Ex M d z bu sx Γ (pc + 1) L (.long (x <<< (y.toInt64 &&& 63)) :: st) σ Q) : Ex M d z bu sx Γ pc L (.int y :: .long x :: st) σ Q :=
  fun p l e R s m args below meth c E H locs cells slots ls C Hw hl hb => lv_lshl C.1 C.2.1 hd rfl (k p l e R s m args below meth c E H locs cells slots ls C Hw hl hb)
theorem X_i2l {x : Int32} (hd : decode M.2.1 pc = .ok (.i2l, 1)) (k : Ex M d z bu sx Γ (pc + 1) L (.long x.toInt64 :: st) σ Q) : Ex M d z bu sx Γ pc L (.int x :: st) σ Q :=
  fun p l e R s m args below meth c E H locs cells slots ls C Hw hl hb => lv_i2l C.1 C.2.1 hd rfl (k p l e R s m args below meth c E H locs cells slots ls C Hw hl hb)
theorem X_l2i {x : Int64} (hd : decode M.2.1 pc = .ok (.l2i, 1)) (k : Ex M d z bu sx Γ (pc + 1) L (.int x.toInt32 :: st) σ Q) : Ex M d z bu sx Γ pc L (.long x :: st) σ Q :=
  fun p l e R s m args below meth c E H locs cells slots ls C Hw hl hb => lv_l2i C.1 C.2.1 hd rfl (k p l e R s m args below meth c E H locs cells slots ls C Hw hl hb)
theorem X_i2b {x : Int32} (hd : decode M.2.1 pc = .ok (.i2b, 1)) (k : Ex M d z bu sx Γ (pc + 1) L (.int x.toInt8.toInt32 :: st) σ Q) : Ex M d z bu sx Γ pc L (.int x :: st) σ Q :=
  fun p l e R s m args below meth c E H locs cells slots ls C Hw hl hb => lv_i2b C.1 C.2.1 hd rfl (k p l e R s m args below meth c E H locs cells slots ls C Hw hl hb)
theorem X_i2s {x : Int32} (hd : decode M.2.1 pc = .ok (.i2s, 1)) (k : Ex M d z bu sx Γ (pc + 1) L (.int x.toInt16.toInt32 :: st) σ Q) : Ex M d z bu sx Γ pc L (.int x :: st) σ Q :=
  fun p l e R s m args below meth c E H locs cells slots ls C Hw hl hb => lv_i2s C.1 C.2.1 hd rfl (k p l e R s m args below meth c E H locs cells slots ls C Hw hl hb)
theorem X_dup {v : Value} (hd : decode M.2.1 pc = .ok (.dup, 1)) (hc : v.category = 1) (k : Ex M d z bu sx Γ (pc + 1) L (v :: v :: st) σ Q) : Ex M d z bu sx Γ pc L (v :: st) σ Q :=
  fun p l e R s m args below meth c E H locs cells slots ls C Hw hl hb => lv_dup C.1 C.2.1 hd ((cv_cat E v).trans hc) (k p l e R s m args below meth c E H locs cells slots ls C Hw hl hb)
theorem X_pop {v : Value} (hd : decode M.2.1 pc = .ok (.pop, 1)) (hc : v.category = 1) (k : Ex M d z bu sx Γ (pc + 1) L (st) σ Q) : Ex M d z bu sx Γ pc L (v :: st) σ Q :=
  fun p l e R s m args below meth c E H locs cells slots ls C Hw hl hb => lv_pop C.1 C.2.1 hd ((cv_cat E v).trans hc) (k p l e R s m args below meth c E H locs cells slots ls C Hw hl hb)
theorem if_t {c A B : Prop} {_ : Decidable c} (h : if c then A else B) (hc : c) : A := by rwa [if_pos hc] at h
theorem if_f {c A B : Prop} {_ : Decidable c} (h : if c then A else B) (hc : ¬ c) : B := by rwa [if_neg hc] at h
theorem X_if_eq {x : Int32} {off : Int} {tgt : Nat} (hd : decode M.2.1 pc = .ok (.ifCond .eq off, 3)) (ht : (pc : Int) + off = (tgt : Int)) {A B : Prop} (h : if x = 0 then A else B) (kt : A → Ex M d z bu sx Γ tgt L st σ Q) (kf : B → Ex M d z bu sx Γ (pc + 3) L st σ Q) : Ex M d z bu sx Γ pc L (.int x :: st) σ Q :=
  fun p l e R s m args below meth c E H locs cells slots ls C Hw hl hb => lv_if_eq C.1 C.2.1 hd ht (fun hc => kt (if_t h hc) p l e R s m args below meth c E H locs cells slots ls C Hw hl hb) (fun hc => kf (if_f h hc) p l e R s m args below meth c E H locs cells slots ls C Hw hl hb)
theorem X_icmp_eq {x y : Int32} {off : Int} {tgt : Nat} (hd : decode M.2.1 pc = .ok (.if_icmp .eq off, 3)) (ht : (pc : Int) + off = (tgt : Int)) {A B : Prop} (h : if x = y then A else B) (kt : A → Ex M d z bu sx Γ tgt L st σ Q) (kf : B → Ex M d z bu sx Γ (pc + 3) L st σ Q) : Ex M d z bu sx Γ pc L (.int y :: .int x :: st) σ Q :=
  fun p l e R s m args below meth c E H locs cells slots ls C Hw hl hb => lv_icmp_eq C.1 C.2.1 hd ht (fun hc => kt (if_t h hc) p l e R s m args below meth c E H locs cells slots ls C Hw hl hb) (fun hc => kf (if_f h hc) p l e R s m args below meth c E H locs cells slots ls C Hw hl hb)
theorem X_if_ne {x : Int32} {off : Int} {tgt : Nat} (hd : decode M.2.1 pc = .ok (.ifCond .ne off, 3)) (ht : (pc : Int) + off = (tgt : Int)) {A B : Prop} (h : if x = 0 then B else A) (kt : A → Ex M d z bu sx Γ tgt L st σ Q) (kf : B → Ex M d z bu sx Γ (pc + 3) L st σ Q) : Ex M d z bu sx Γ pc L (.int x :: st) σ Q :=
  fun p l e R s m args below meth c E H locs cells slots ls C Hw hl hb => lv_if_ne C.1 C.2.1 hd ht (fun hc => kt (if_f h hc) p l e R s m args below meth c E H locs cells slots ls C Hw hl hb) (fun hc => kf (if_t h hc) p l e R s m args below meth c E H locs cells slots ls C Hw hl hb)
theorem X_icmp_ne {x y : Int32} {off : Int} {tgt : Nat} (hd : decode M.2.1 pc = .ok (.if_icmp .ne off, 3)) (ht : (pc : Int) + off = (tgt : Int)) {A B : Prop} (h : if x = y then B else A) (kt : A → Ex M d z bu sx Γ tgt L st σ Q) (kf : B → Ex M d z bu sx Γ (pc + 3) L st σ Q) : Ex M d z bu sx Γ pc L (.int y :: .int x :: st) σ Q :=
  fun p l e R s m args below meth c E H locs cells slots ls C Hw hl hb => lv_icmp_ne C.1 C.2.1 hd ht (fun hc => kt (if_f h hc) p l e R s m args below meth c E H locs cells slots ls C Hw hl hb) (fun hc => kf (if_t h hc) p l e R s m args below meth c E H locs cells slots ls C Hw hl hb)
theorem X_if_lt {x : Int32} {off : Int} {tgt : Nat} (hd : decode M.2.1 pc = .ok (.ifCond .lt off, 3)) (ht : (pc : Int) + off = (tgt : Int)) {A B : Prop} (h : if x < 0 then A else B) (kt : A → Ex M d z bu sx Γ tgt L st σ Q) (kf : B → Ex M d z bu sx Γ (pc + 3) L st σ Q) : Ex M d z bu sx Γ pc L (.int x :: st) σ Q :=
  fun p l e R s m args below meth c E H locs cells slots ls C Hw hl hb => lv_if_lt C.1 C.2.1 hd ht (fun hc => kt (if_t h hc) p l e R s m args below meth c E H locs cells slots ls C Hw hl hb) (fun hc => kf (if_f h hc) p l e R s m args below meth c E H locs cells slots ls C Hw hl hb)
theorem X_icmp_lt {x y : Int32} {off : Int} {tgt : Nat} (hd : decode M.2.1 pc = .ok (.if_icmp .lt off, 3)) (ht : (pc : Int) + off = (tgt : Int)) {A B : Prop} (h : if x < y then A else B) (kt : A → Ex M d z bu sx Γ tgt L st σ Q) (kf : B → Ex M d z bu sx Γ (pc + 3) L st σ Q) : Ex M d z bu sx Γ pc L (.int y :: .int x :: st) σ Q :=
  fun p l e R s m args below meth c E H locs cells slots ls C Hw hl hb => lv_icmp_lt C.1 C.2.1 hd ht (fun hc => kt (if_t h hc) p l e R s m args below meth c E H locs cells slots ls C Hw hl hb) (fun hc => kf (if_f h hc) p l e R s m args below meth c E H locs cells slots ls C Hw hl hb)
theorem X_if_ge {x : Int32} {off : Int} {tgt : Nat} (hd : decode M.2.1 pc = .ok (.ifCond .ge off, 3)) (ht : (pc : Int) + off = (tgt : Int)) {A B : Prop} (h : if 0 ≤ x then A else B) (kt : A → Ex M d z bu sx Γ tgt L st σ Q) (kf : B → Ex M d z bu sx Γ (pc + 3) L st σ Q) : Ex M d z bu sx Γ pc L (.int x :: st) σ Q :=
  fun p l e R s m args below meth c E H locs cells slots ls C Hw hl hb => lv_if_ge C.1 C.2.1 hd ht (fun hc => kt (if_t h hc) p l e R s m args below meth c E H locs cells slots ls C Hw hl hb) (fun hc => kf (if_f h hc) p l e R s m args below meth c E H locs cells slots ls C Hw hl hb)
theorem X_icmp_ge {x y : Int32} {off : Int} {tgt : Nat} (hd : decode M.2.1 pc = .ok (.if_icmp .ge off, 3)) (ht : (pc : Int) + off = (tgt : Int)) {A B : Prop} (h : if y ≤ x then A else B) (kt : A → Ex M d z bu sx Γ tgt L st σ Q) (kf : B → Ex M d z bu sx Γ (pc + 3) L st σ Q) : Ex M d z bu sx Γ pc L (.int y :: .int x :: st) σ Q :=
  fun p l e R s m args below meth c E H locs cells slots ls C Hw hl hb => lv_icmp_ge C.1 C.2.1 hd ht (fun hc => kt (if_t h hc) p l e R s m args below meth c E H locs cells slots ls C Hw hl hb) (fun hc => kf (if_f h hc) p l e R s m args below meth c E H locs cells slots ls C Hw hl hb)
theorem X_if_gt {x : Int32} {off : Int} {tgt : Nat} (hd : decode M.2.1 pc = .ok (.ifCond .gt off, 3)) (ht : (pc : Int) + off = (tgt : Int)) {A B : Prop} (h : if 0 < x then A else B) (kt : A → Ex M d z bu sx Γ tgt L st σ Q) (kf : B → Ex M d z bu sx Γ (pc + 3) L st σ Q) : Ex M d z bu sx Γ pc L (.int x :: st) σ Q :=
  fun p l e R s m args below meth c E H locs cells slots ls C Hw hl hb => lv_if_gt C.1 C.2.1 hd ht (fun hc => kt (if_t h hc) p l e R s m args below meth c E H locs cells slots ls C Hw hl hb) (fun hc => kf (if_f h hc) p l e R s m args below meth c E H locs cells slots ls C Hw hl hb)
theorem X_icmp_gt {x y : Int32} {off : Int} {tgt : Nat} (hd : decode M.2.1 pc = .ok (.if_icmp .gt off, 3)) (ht : (pc : Int) + off = (tgt : Int)) {A B : Prop} (h : if y < x then A else B) (kt : A → Ex M d z bu sx Γ tgt L st σ Q) (kf : B → Ex M d z bu sx Γ (pc + 3) L st σ Q) : Ex M d z bu sx Γ pc L (.int y :: .int x :: st) σ Q :=
  fun p l e R s m args below meth c E H locs cells slots ls C Hw hl hb => lv_icmp_gt C.1 C.2.1 hd ht (fun hc => kt (if_t h hc) p l e R s m args below meth c E H locs cells slots ls C Hw hl hb) (fun hc => kf (if_f h hc) p l e R s m args below meth c E H locs cells slots ls C Hw hl hb)
theorem X_if_le {x : Int32} {off : Int} {tgt : Nat} (hd : decode M.2.1 pc = .ok (.ifCond .le off, 3)) (ht : (pc : Int) + off = (tgt : Int)) {A B : Prop} (h : if x ≤ 0 then A else B) (kt : A → Ex M d z bu sx Γ tgt L st σ Q) (kf : B → Ex M d z bu sx Γ (pc + 3) L st σ Q) : Ex M d z bu sx Γ pc L (.int x :: st) σ Q :=
  fun p l e R s m args below meth c E H locs cells slots ls C Hw hl hb => lv_if_le C.1 C.2.1 hd ht (fun hc => kt (if_t h hc) p l e R s m args below meth c E H locs cells slots ls C Hw hl hb) (fun hc => kf (if_f h hc) p l e R s m args below meth c E H locs cells slots ls C Hw hl hb)
theorem X_icmp_le {x y : Int32} {off : Int} {tgt : Nat} (hd : decode M.2.1 pc = .ok (.if_icmp .le off, 3)) (ht : (pc : Int) + off = (tgt : Int)) {A B : Prop} (h : if x ≤ y then A else B) (kt : A → Ex M d z bu sx Γ tgt L st σ Q) (kf : B → Ex M d z bu sx Γ (pc + 3) L st σ Q) : Ex M d z bu sx Γ pc L (.int y :: .int x :: st) σ Q :=
  fun p l e R s m args below meth c E H locs cells slots ls C Hw hl hb => lv_icmp_le C.1 C.2.1 hd ht (fun hc => kt (if_t h hc) p l e R s m args below meth c E H locs cells slots ls C Hw hl hb) (fun hc => kf (if_f h hc) p l e R s m args below meth c E H locs cells slots ls C Hw hl hb)
theorem X_goto {off : Int} {tgt : Nat} (hd : decode M.2.1 pc = .ok (.goto off, 3)) (ht : (pc : Int) + off = (tgt : Int)) (k : Ex M d z bu sx Γ tgt L st σ Q) : Ex M d z bu sx Γ pc L st σ Q :=
  fun p l e R s m args below meth c E H locs cells slots ls C Hw hl hb => lv_goto C.1 C.2.1 hd ht (k p l e R s m args below meth c E H locs cells slots ls C Hw hl hb)
theorem X_lcmp {x y : Int64} (hd : decode M.2.1 pc = .ok (.lcmp, 1)) (k : Ex M d z bu sx Γ (pc + 1) L (.int (lg_cmp x y) :: st) σ Q) : Ex M d z bu sx Γ pc L (.long y :: .long x :: st) σ Q :=
  fun p l e R s m args below meth c E H locs cells slots ls C Hw hl hb => W.lcmp C.1 C.2.1 hd (k p l e R s m args below meth c E H locs cells slots ls C Hw hl hb)
theorem X_dup2 {v u : Value} (hd : decode M.2.1 pc = .ok (.dup2, 1)) (hc : v.category = 1) (hc2 : u.category = 1) (k : Ex M d z bu sx Γ (pc + 1) L (v :: u :: v :: u :: st) σ Q) : Ex M d z bu sx Γ pc L (v :: u :: st) σ Q :=
  fun p l e R s m args below meth c E H locs cells slots ls C Hw hl hb => lv_dup2_11 C.1 C.2.1 hd ((cv_cat E v).trans hc) ((cv_cat E u).trans hc2) (k p l e R s m args below meth c E H locs cells slots ls C Hw hl hb)
theorem X_ldc {i : Nat} {v : Int32} (hd : decode M.2.1 pc = .ok (.ldc i, 2)) (hw : Cond.constant M.1.cls i v ∈ lG) (k : Ex M d z bu sx Γ (pc + 2) L (.int v :: st) σ Q) : Ex M d z bu sx Γ pc L (st) σ Q :=
  fun p l e R s m args below meth c E H locs cells slots ls C Hw hl hb => lv_ldc C.1 C.2.1 C.2.2.2.2.1 (C.2.2.2.2.2.1 _ hw) hd (k p l e R s m args below meth c E H locs cells slots ls C Hw hl hb)
theorem X_ldcw {i : Nat} {v : Int32} (hd : decode M.2.1 pc = .ok (.ldc_w i, 3)) (hw : Cond.constant M.1.cls i v ∈ lG) (k : Ex M d z bu sx Γ (pc + 3) L (.int v :: st) σ Q) : Ex M d z bu sx Γ pc L (st) σ Q :=
  fun p l e R s m args below meth c E H locs cells slots ls C Hw hl hb => lv_ldcw C.1 C.2.1 C.2.2.2.2.1 (C.2.2.2.2.2.1 _ hw) hd (k p l e R s m args below meth c E H locs cells slots ls C Hw hl hb)
theorem X_ldc2 {i : Nat} {v : Int64} (hd : decode M.2.1 pc = .ok (.ldc2_w i, 3)) (hw : Cond.constantLong M.1.cls i v ∈ lG) (k : Ex M d z bu sx Γ (pc + 3) L (.long v :: st) σ Q) : Ex M d z bu sx Γ pc L (st) σ Q :=
  fun p l e R s m args below meth c E H locs cells slots ls C Hw hl hb => lv_ldc2 C.1 C.2.1 C.2.2.2.2.1 (C.2.2.2.2.2.1 _ hw) hd (k p l e R s m args below meth c E H locs cells slots ls C Hw hl hb)
theorem X_tableIn {dflt lo hi : Int} {offs : Array Int} {len : Nat} {x : Int32} {off : Int} {tgt : Nat} (hd : decode M.2.1 pc = .ok (.tableswitch dflt lo hi offs, len)) (h1 : ¬ x.toInt < lo) (h2 : ¬ hi < x.toInt) (ho : offs[(x.toInt - lo).toNat]? = some off) (ht : (pc : Int) + off = (tgt : Int)) (k : Ex M d z bu sx Γ tgt L st σ Q) : Ex M d z bu sx Γ pc L (.int x :: st) σ Q :=
  fun p l e R s m args below meth c E H locs cells slots ls C Hw hl hb => lv_tableIn C.1 C.2.1 hd h1 h2 ho ht (k p l e R s m args below meth c E H locs cells slots ls C Hw hl hb)
theorem X_tableOut {dflt lo hi : Int} {offs : Array Int} {len : Nat} {x : Int32} {tgt : Nat} (hd : decode M.2.1 pc = .ok (.tableswitch dflt lo hi offs, len)) (h : x.toInt < lo ∨ hi < x.toInt) (ht : (pc : Int) + dflt = (tgt : Int)) (k : Ex M d z bu sx Γ tgt L st σ Q) : Ex M d z bu sx Γ pc L (.int x :: st) σ Q :=
  fun p l e R s m args below meth c E H locs cells slots ls C Hw hl hb => lv_tableOut C.1 C.2.1 hd h ht (k p l e R s m args below meth c E H locs cells slots ls C Hw hl hb)
theorem X_lookup {dflt : Int} {ps : Array (Int × Int)} {len : Nat} {x : Int32} {off : Int} {tgt : Nat} (hd : decode M.2.1 pc = .ok (.lookupswitch dflt ps, len)) (hp : (ps.toList.zip (ps.toList.drop 1)).all (fun (a, next) => a.1 < next.1) = true) (ho : Op.lookupswitch.offset ps.toList dflt x.toInt = off) (ht : (pc : Int) + off = (tgt : Int)) (k : Ex M d z bu sx Γ tgt L st σ Q) : Ex M d z bu sx Γ pc L (.int x :: st) σ Q :=
  fun p l e R s m args below meth c E H locs cells slots ls C Hw hl hb => lv_lookup C.1 C.2.1 hd hp ho ht (k p l e R s m args below meth c E H locs cells slots ls C Hw hl hb)
theorem X_iret {v : Int32} (hr : M.2.2.2 = some .int) (hd : decode M.2.1 pc = .ok (.ireturn, 1)) (hq : Q (some (.int v)) Γ σ) : Ex M d z bu sx Γ pc L [.int v] σ Q :=
  fun p l e R s m args below meth c E H locs cells slots ls C Hw hl hb => W.widen (k := cells + bu.1) (n := slots + bu.2) (Nat.le_add_right _ _) (Nat.le_add_right _ _) (W.iret C.1 C.2.1 (C.2.2.1.trans hr) (fun t ht hW => ⟨⟨_, Γ, σ, rfl, hq, by rw [ht]; exact Hw.1, fun hz => by rw [ht]; exact Hw.2.1 hz⟩, Hw.2.2.F ht⟩) Hw.2.2.2.2 hd (hlocks := C.2.2.2.2.2.2.1))
theorem X_zret {v : Int32} {ty : FieldType} (hr : M.2.2.2 = some ty) (hn : narrow ty (.int v) = .int v) (hd : decode M.2.1 pc = .ok (.ireturn, 1)) (hq : Q (some (.int v)) Γ σ) : Ex M d z bu sx Γ pc L [.int v] σ Q :=
  fun p l e R s m args below meth c E H locs cells slots ls C Hw hl hb => W.widen (k := cells + bu.1) (n := slots + bu.2) (Nat.le_add_right _ _) (Nat.le_add_right _ _) (W.zret C.1 C.2.1 (C.2.2.1.trans hr) hn (fun t ht hW => ⟨⟨_, Γ, σ, rfl, hq, by rw [ht]; exact Hw.1, fun hz => by rw [ht]; exact Hw.2.1 hz⟩, Hw.2.2.F ht⟩) Hw.2.2.2.2 hd (hlocks := C.2.2.2.2.2.2.1))
theorem X_lret {v : Int64} (hr : M.2.2.2 = some .long) (hd : decode M.2.1 pc = .ok (.lreturn, 1)) (hq : Q (some (.long v)) Γ σ) : Ex M d z bu sx Γ pc L [.long v] σ Q :=
  fun p l e R s m args below meth c E H locs cells slots ls C Hw hl hb => W.widen (k := cells + bu.1) (n := slots + bu.2) (Nat.le_add_right _ _) (Nat.le_add_right _ _) (W.lret C.1 C.2.1 (C.2.2.1.trans hr) (fun t ht hW => ⟨⟨_, Γ, σ, rfl, hq, by rw [ht]; exact Hw.1, fun hz => by rw [ht]; exact Hw.2.1 hz⟩, Hw.2.2.F ht⟩) Hw.2.2.2.2 hd (hlocks := C.2.2.2.2.2.2.1))
theorem X_vret (hr : M.2.2.2 = none) (hd : decode M.2.1 pc = .ok (.return_, 1)) (hq : Q (none) Γ σ) : Ex M d z bu sx Γ pc L [] σ Q :=
  fun p l e R s m args below meth c E H locs cells slots ls C Hw hl hb => W.widen (k := cells + bu.1) (n := slots + bu.2) (Nat.le_add_right _ _) (Nat.le_add_right _ _) (W.vret C.1 C.2.1 (C.2.2.1.trans hr) (fun t ht hW => ⟨⟨_, Γ, σ, rfl, hq, by rw [ht]; exact Hw.1, fun hz => by rw [ht]; exact Hw.2.1 hz⟩, Hw.2.2.F ht⟩) Hw.2.2.2.2 hd (hlocks := C.2.2.2.2.2.2.1))
theorem X_sub {L' : List (Option Value)} (hs : ∀ (i : Nat) (v : Value), L'[i]? = some (some v) → L[i]? = some (some v)) (k : Ex M d z bu sx Γ pc L' st σ Q) : Ex M d z bu sx Γ pc L st σ Q :=
  fun p l e R s m args below meth c E H locs cells slots ls C Hw hl hb => k p l e R s m args below meth c E H locs cells slots ls C Hw (hl.sub hs) hb
end EX
