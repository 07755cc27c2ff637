/-! rows of arrays, of static rows, of calls -/
section EX3
variable {M : aM} {d : Nat} {z : Bool} {bu : Nat × Nat} {sx : Nat × (Nat → Int32)} {Γ : List aC} {pc : Nat} {L : List (Option Value)} {st : List Value} {σ : Sg} {Q : Option Value → List aC → Sg → Prop}
theorem X_iald {i n : Nat} {rs : List (Option Nat)} {j : Int32} {P : Prop} (hΓ : Γ[i]? = some (.inl (.int, n, rs))) (hd : decode M.2.1 pc = .ok (.iaload, 1)) (h : vp_in j n ∧ P) (K : P → Ex M d z bu sx Γ (pc + 1) L (.int (σ.1 i j.toNatClampNeg) :: st) σ Q) : Ex M d z bu sx Γ pc L (.int j :: .ref i :: st) σ Q :=
  fun p l e R s m args below meth c E H locs cells slots ls HC Hw hl hb => va_iald (f := σ.1 i) HC.1 HC.2.1 HC.2.2.2.2.2.2.2.2.1.1 Hw.1 i 0 (cW_at hΓ) rfl h.1 hd (K h.2 p l e R s m args below meth c E H locs cells slots ls HC Hw hl hb)
theorem X_bald {i n : Nat} {rs : List (Option Nat)} {j : Int32} {P : Prop} (hΓ : Γ[i]? = some (.inl (.byte, n, rs))) (hd : decode M.2.1 pc = .ok (.baload, 1)) (h : vp_in j n ∧ P) (K : P → Ex M d z bu sx Γ (pc + 1) L (.int (σ.1 i j.toNatClampNeg) :: st) σ Q) : Ex M d z bu sx Γ pc L (.int j :: .ref i :: st) σ Q :=
  fun p l e R s m args below meth c E H locs cells slots ls HC Hw hl hb => va_bald (f := σ.1 i) HC.1 HC.2.1 HC.2.2.2.2.2.2.2.2.1.1 Hw.1 i 2 (cW_at hΓ) rfl h.1 hd (K h.2 p l e R s m args below meth c E H locs cells slots ls HC Hw hl hb)
theorem X_sald {i n : Nat} {rs : List (Option Nat)} {j : Int32} {P : Prop} (hΓ : Γ[i]? = some (.inl (.short, n, rs))) (hd : decode M.2.1 pc = .ok (.saload, 1)) (h : vp_in j n ∧ P) (K : P → Ex M d z bu sx Γ (pc + 1) L (.int (σ.1 i j.toNatClampNeg) :: st) σ Q) : Ex M d z bu sx Γ pc L (.int j :: .ref i :: st) σ Q :=
  fun p l e R s m args below meth c E H locs cells slots ls HC Hw hl hb => va_sald (f := σ.1 i) HC.1 HC.2.1 HC.2.2.2.2.2.2.2.2.1.1 Hw.1 i 3 (cW_at hΓ) rfl h.1 hd (K h.2 p l e R s m args below meth c E H locs cells slots ls HC Hw hl hb)
theorem X_lald {i n : Nat} {rs : List (Option Nat)} {j : Int32} {P : Prop} (hΓ : Γ[i]? = some (.inl (.long, n, rs))) (hd : decode M.2.1 pc = .ok (.laload, 1)) (h : vp_in j n ∧ P) (K : P → Ex M d z bu sx Γ (pc + 1) L (.long (σ.2 i j.toNatClampNeg) :: st) σ Q) : Ex M d z bu sx Γ pc L (.int j :: .ref i :: st) σ Q :=
  fun p l e R s m args below meth c E H locs cells slots ls HC Hw hl hb => va_lald (f := σ.2 i) HC.1 HC.2.1 HC.2.2.2.2.2.2.2.2.1.1 Hw.1 i 1 (cW_at hΓ) rfl h.1 hd (K h.2 p l e R s m args below meth c E H locs cells slots ls HC Hw hl hb)
theorem X_aald {i n q : Nat} {C : String} {rs : List (Option Nat)} {j : Int32} {P : Prop} (hΓ : Γ[i]? = some (.inl (.object C, n, rs))) (hC : C = "CoachmenFace$Coach" ∨ C = "CoachmenFace$Shelf") (hd : decode M.2.1 pc = .ok (.aaload, 1)) (h : vp_in j n ∧ P) (hq : vp_in j n → rs.getD j.toNatClampNeg none = some q) (K : P → Ex M d z bu sx Γ (pc + 1) L (.ref q :: st) σ Q) : Ex M d z bu sx Γ pc L (.int j :: .ref i :: st) σ Q := by
  intro p l e R s m args below meth c E H locs cells slots ls HC Hw hl hb
  have e1 : va_rf ((rs.getD j.toNatClampNeg none).map (fun q => E.1 + q)) = .ref (E.1 + q) := by rw [hq h.1]; rfl
  rcases hC with rfl | rfl
  · refine va_aldq (f := fun j => (rs.getD j none).map (fun q => E.1 + q)) HC.1 HC.2.1 HC.2.2.2.2.2.2.2.2.1.1 Hw.1 i 4 (cW_at hΓ) rfl h.1 hd ?_
    rw [e1]
    exact K h.2 p l e R s m args below meth c E H locs cells slots ls HC Hw hl hb
  · refine va_aldq (f := fun j => (rs.getD j none).map (fun q => E.1 + q)) HC.1 HC.2.1 HC.2.2.2.2.2.2.2.2.1.1 Hw.1 i 5 (cW_at hΓ) rfl h.1 hd ?_
    rw [e1]
    exact K h.2 p l e R s m args below meth c E H locs cells slots ls HC Hw hl hb
theorem X_alen {i n : Nat} {rs : List (Option Nat)} {v : Int32} (hΓ : Γ[i]? = some (.inl (.int, n, rs))) (hv : Int32.ofNat n = v) (hd : decode M.2.1 pc = .ok (.arraylength, 1)) (K : Ex M d z bu sx Γ (pc + 1) L (.int v :: st) σ Q) : Ex M d z bu sx Γ pc L (.ref i :: st) σ Q :=
  fun p l e R s m args below meth c E H locs cells slots ls HC Hw hl hb => va_alen HC.1 HC.2.1 HC.2.2.2.2.2.2.2.2.1.1 Hw.1 i 0 (cW_at hΓ) rfl hv hd (K p l e R s m args below meth c E H locs cells slots ls HC Hw hl hb)
theorem X_alenJ {i n : Nat} {rs : List (Option Nat)} {v : Int32} (hΓ : Γ[i]? = some (.inl (.long, n, rs))) (hv : Int32.ofNat n = v) (hd : decode M.2.1 pc = .ok (.arraylength, 1)) (K : Ex M d z bu sx Γ (pc + 1) L (.int v :: st) σ Q) : Ex M d z bu sx Γ pc L (.ref i :: st) σ Q :=
  fun p l e R s m args below meth c E H locs cells slots ls HC Hw hl hb => va_alen HC.1 HC.2.1 HC.2.2.2.2.2.2.2.2.1.1 Hw.1 i 1 (cW_at hΓ) rfl hv hd (K p l e R s m args below meth c E H locs cells slots ls HC Hw hl hb)
theorem X_iast {i n : Nat} {rs : List (Option Nat)} {j v : Int32} {P : Sg → Prop} (hΓ : Γ[i]? = some (.inl (.int, n, rs))) (hd : decode M.2.1 pc = .ok (.iastore, 1)) (h : vp_in j n ∧ bd (sI σ i j.toNatClampNeg v) P) (K : ∀ σ', P σ' → Ex M d z bu sx Γ (pc + 1) L st σ' Q) : Ex M d z bu sx Γ pc L (.int v :: .int j :: .ref i :: st) σ Q := by
  intro p l e R s m args below meth c E H locs cells slots ls HC Hw hl hb
  refine x_iast (f := σ.1 i) HC.1 HC.2.1 HC.2.2.2.2.2.2.2.2.1.1 Hw.1 cW_D Hw.2.2 i 0 (cW_at hΓ) rfl h.1 hd (fun H1 locs1 hP hz hS => ?_)
  rw [cW_set (σ := σ) (σ' := sI σ i j.toNatClampNeg v) hΓ (by simp [cE, cA, sI]; funext k; simp [upd]) sI_off (fun _ _ => rfl)] at hP
  exact K _ (h.2 _ rfl) p l e R s m args below meth c E H1 locs1 cells slots ls HC ⟨hP, fun q => hz.trans (Hw.2.1 q), hS⟩ hl hb
theorem X_bast {i n : Nat} {rs : List (Option Nat)} {j v : Int32} {P : Sg → Prop} (hΓ : Γ[i]? = some (.inl (.byte, n, rs))) (hd : decode M.2.1 pc = .ok (.bastore, 1)) (h : vp_in j n ∧ bd (sI σ i j.toNatClampNeg (vp_nar .byte v)) P) (K : ∀ σ', P σ' → Ex M d false bu sx Γ (pc + 1) L st σ' Q) : Ex M d false bu sx Γ pc L (.int v :: .int j :: .ref i :: st) σ Q := by
  intro p l e R s m args below meth c E H locs cells slots ls HC Hw hl hb
  refine va_bast (f := σ.1 i) HC.1 HC.2.1 HC.2.2.2.2.2.2.2.2.1.1 Hw.1 cW_D Hw.2.2 i 2 (cW_at hΓ) rfl h.1 hd (fun H1 locs1 hP hD hS => ?_)
  rw [cW_set (σ := σ) (σ' := sI σ i j.toNatClampNeg (vp_nar .byte v)) hΓ (by simp [cE, cA, sI]; funext k; simp [upd]) sI_off (fun _ _ => rfl)] at hP
  exact K _ (h.2 _ rfl) p l e R s m args below meth c E H1 locs1 cells slots ls HC ⟨hP, (fun q => nomatch q), hS⟩ hl hb
theorem X_sast {i n : Nat} {rs : List (Option Nat)} {j v : Int32} {P : Sg → Prop} (hΓ : Γ[i]? = some (.inl (.short, n, rs))) (hd : decode M.2.1 pc = .ok (.sastore, 1)) (h : vp_in j n ∧ bd (sI σ i j.toNatClampNeg (vp_nar .short v)) P) (K : ∀ σ', P σ' → Ex M d false bu sx Γ (pc + 1) L st σ' Q) : Ex M d false bu sx Γ pc L (.int v :: .int j :: .ref i :: st) σ Q := by
  intro p l e R s m args below meth c E H locs cells slots ls HC Hw hl hb
  refine va_sast (f := σ.1 i) HC.1 HC.2.1 HC.2.2.2.2.2.2.2.2.1.1 Hw.1 cW_D Hw.2.2 i 3 (cW_at hΓ) rfl h.1 hd (fun H1 locs1 hP hD hS => ?_)
  rw [cW_set (σ := σ) (σ' := sI σ i j.toNatClampNeg (vp_nar .short v)) hΓ (by simp [cE, cA, sI]; funext k; simp [upd]) sI_off (fun _ _ => rfl)] at hP
  exact K _ (h.2 _ rfl) p l e R s m args below meth c E H1 locs1 cells slots ls HC ⟨hP, (fun q => nomatch q), hS⟩ hl hb
theorem X_last {i n : Nat} {rs : List (Option Nat)} {j : Int32} {v : Int64} {P : Sg → Prop} (hΓ : Γ[i]? = some (.inl (.long, n, rs))) (hd : decode M.2.1 pc = .ok (.lastore, 1)) (h : vp_in j n ∧ bd (sJ σ i j.toNatClampNeg v) P) (K : ∀ σ', P σ' → Ex M d false bu sx Γ (pc + 1) L st σ' Q) : Ex M d false bu sx Γ pc L (.long v :: .int j :: .ref i :: st) σ Q := by
  intro p l e R s m args below meth c E H locs cells slots ls HC Hw hl hb
  refine va_last (f := σ.2 i) HC.1 HC.2.1 HC.2.2.2.2.2.2.2.2.1.1 Hw.1 cW_D Hw.2.2 i 1 (cW_at hΓ) rfl h.1 hd (fun H1 locs1 hP hD hS => ?_)
  rw [cW_set (σ := σ) (σ' := sJ σ i j.toNatClampNeg v) hΓ (by simp [cE, cA, sJ]; funext k; simp [vp_updL]) (fun _ _ => rfl) sJ_off] at hP
  exact K _ (h.2 _ rfl) p l e R s m args below meth c E H1 locs1 cells slots ls HC ⟨hP, (fun q => nomatch q), hS⟩ hl hb
/-! static rows and the script -/
theorem X_gets {j idx : Nat} {q : String × String × List Int32} {v : UInt32} (hj : stL[j]? = some q) (hv : v.toNat = j + 1) (hw : Cond.fieldLink M.1.cls idx q.1 q.2.1 "[I" ∈ lG) (hd : decode M.2.1 pc = .ok (.getstatic idx, 3)) (K : Ex M d z bu sx Γ (pc + 3) L (.float v :: st) σ Q) : Ex M d z bu sx Γ pc L st σ Q := by
  intro p l e R s m args below meth c E H locs cells slots ls HC Hw hl hb
  refine va_gets (v := .ref (E.2.1 (j + 1))) HC.1 HC.2.1 (HC.2.2.2.2.2.2.2.2.1.2.2.2.1 j q hj) Hw.2.2 HC.2.2.2.2.1 (HC.2.2.2.2.2.1 _ hw) (fun _ h => h) hd ?_
  have hk := K p l e R s m args below meth c E H locs cells slots ls HC Hw hl hb
  simp only [List.map_cons, cv, hv] at hk
  exact hk
theorem X_ialdX {v : UInt32} {i : Int32} {P : Prop} {n : Nat} {f : Nat → Int32} (hv : v.toNat < 9) (hn : exN sx v.toNat = n) (hf : exV sx v.toNat = f) (hd : decode M.2.1 pc = .ok (.iaload, 1)) (h : vp_in i n ∧ P) (K : P → Ex M d z bu sx Γ (pc + 1) L (.int (f i.toNatClampNeg) :: st) σ Q) : Ex M d z bu sx Γ pc L (.int i :: .float v :: st) σ Q := by
  intro p l e R s m args below meth c E H locs cells slots ls HC Hw hl hb
  subst hn; subst hf
  exact va_ti (f := fun i => .int (exV sx v.toNat i)) HC.1 HC.2.1 (HC.2.2.2.2.2.2.2.2.1.2.2.2.2 v.toNat hv) Hw.2.2 h.1 rfl hd (K h.2 p l e R s m args below meth c E H locs cells slots ls HC Hw hl hb)
theorem X_alenX {v : UInt32} {n : Int32} (hv : v.toNat < 9) (hn : Int32.ofNat (exN sx v.toNat) = n) (hd : decode M.2.1 pc = .ok (.arraylength, 1)) (K : Ex M d z bu sx Γ (pc + 1) L (.int n :: st) σ Q) : Ex M d z bu sx Γ pc L (.float v :: st) σ Q := by
  intro p l e R s m args below meth c E H locs cells slots ls HC Hw hl hb
  exact va_tlen HC.1 HC.2.1 (HC.2.2.2.2.2.2.2.2.1.2.2.2.2 v.toNat hv) Hw.2.2 hn hd (K p l e R s m args below meth c E H locs cells slots ls HC Hw hl hb)
/-! a copy of part of a row -/
def cpIn (sp dp n : Int32) (n0 n1 : Nat) : Prop := ¬ sp < 0 ∧ ¬ dp < 0 ∧ ¬ n < 0 ∧ sp.toNatClampNeg + n.toNatClampNeg ≤ n0 ∧ dp.toNatClampNeg + n.toNatClampNeg ≤ n1
theorem X_copyI {i0 i1 n0 n1 idx : Nat} {r0 r1 : List (Option Nat)} {sp dp n : Int32} {P : Sg → Prop} (h0 : Γ[i0]? = some (.inl (.int, n0, r0))) (h1 : Γ[i1]? = some (.inl (.int, n1, r1))) (hw : Cond.methodLink M.1.cls idx arraycopyName ∈ lG) (hN : Cond.native arraycopyName ∈ lG ∧ Cond.static arraycopyName ∈ lG ∧ Cond.initialized "java/lang/System" ∈ lG) (hd : decode M.2.1 pc = .ok (.invokestatic idx, 3)) (hdd : 1 ≤ d) (hr : (st.map fun v => v.category).sum ≤ 8) (h : cpIn sp dp n n0 n1 ∧ bd (sIr σ i1 (va_cpy (σ.1 i0) (σ.1 i1) sp.toNatClampNeg dp.toNatClampNeg n.toNatClampNeg)) P) (K : ∀ σ', P σ' → Ex M d false bu sx Γ (pc + 3) L st σ' Q) : Ex M d false bu sx Γ pc L (.int n :: .int dp :: .ref i1 :: .int sp :: .ref i0 :: st) σ Q := by
  intro p l e R s m args below meth c E H locs cells slots ls HC Hw hl hb
  obtain ⟨⟨g1, g2, g3, g4, g5⟩, h⟩ := h
  refine va_copyi (f := σ.1 i0) (g := σ.1 i1) HC.1 HC.2.1 (HC.2.2.2.1.trans hl.1.symm) HC.2.2.2.2.1 (HC.2.2.2.2.2.1 _ hw) (HC.2.2.2.2.2.1 _ hN.1) (HC.2.2.2.2.2.1 _ hN.2.1) (HC.2.2.2.2.2.1 _ hN.2.2) HC.2.2.2.2.2.2.2.2.1.1 Hw.1 cW_D Hw.2.2 i0 i1 0 0 (cW_at h0) (cW_at h1) rfl rfl rfl g1 g2 g3 g4 g5 (fun _ _ => rfl) (Nat.le_trans hdd HC.2.2.2.2.2.2.2.2.2.1) ?_ hd (fun H1 locs1 hP hD hS => ?_)
  · refine Nat.le_trans ?_ HC.2.2.2.2.2.2.2.2.2.2
    have hcat : ((st.map (cv E)).map fun v => v.category).sum = (st.map fun v => v.category).sum := by rw [List.map_map]; congr 1; apply List.map_congr_left; intro v _; exact cv_cat E v
    rw [hcat]
    have hnf : nativeFrameWords "java/lang/System" "arraycopy" 5 + 11 ≤ 40 := by decide +kernel
    omega
  · rw [cW_set (σ := σ) (σ' := sIr σ i1 (va_cpy (σ.1 i0) (σ.1 i1) sp.toNatClampNeg dp.toNatClampNeg n.toNatClampNeg)) h1 (by simp [cE, cA, sIr]) sIr_off (fun _ _ => rfl)] at hP
    exact K _ (h _ rfl) p l e R s m args below meth c E H1 locs1 cells slots ls HC ⟨hP, (fun q => nomatch q), hS⟩ hl hb
theorem X_copyJ {i0 i1 n0 n1 idx : Nat} {r0 r1 : List (Option Nat)} {sp dp n : Int32} {P : Sg → Prop} (h0 : Γ[i0]? = some (.inl (.long, n0, r0))) (h1 : Γ[i1]? = some (.inl (.long, n1, r1))) (hw : Cond.methodLink M.1.cls idx arraycopyName ∈ lG) (hN : Cond.native arraycopyName ∈ lG ∧ Cond.static arraycopyName ∈ lG ∧ Cond.initialized "java/lang/System" ∈ lG) (hd : decode M.2.1 pc = .ok (.invokestatic idx, 3)) (hdd : 1 ≤ d) (hr : (st.map fun v => v.category).sum ≤ 8) (h : cpIn sp dp n n0 n1 ∧ bd (sJr σ i1 (va_cpy (σ.2 i0) (σ.2 i1) sp.toNatClampNeg dp.toNatClampNeg n.toNatClampNeg)) P) (K : ∀ σ', P σ' → Ex M d false bu sx Γ (pc + 3) L st σ' Q) : Ex M d false bu sx Γ pc L (.int n :: .int dp :: .ref i1 :: .int sp :: .ref i0 :: st) σ Q := by
  intro p l e R s m args below meth c E H locs cells slots ls HC Hw hl hb
  obtain ⟨⟨g1, g2, g3, g4, g5⟩, h⟩ := h
  refine va_copyl (f := σ.2 i0) (g := σ.2 i1) HC.1 HC.2.1 (HC.2.2.2.1.trans hl.1.symm) HC.2.2.2.2.1 (HC.2.2.2.2.2.1 _ hw) (HC.2.2.2.2.2.1 _ hN.1) (HC.2.2.2.2.2.1 _ hN.2.1) (HC.2.2.2.2.2.1 _ hN.2.2) HC.2.2.2.2.2.2.2.2.1.1 Hw.1 cW_D Hw.2.2 i0 i1 1 1 (cW_at h0) (cW_at h1) rfl rfl rfl g1 g2 g3 g4 g5 (fun _ _ => rfl) (Nat.le_trans hdd HC.2.2.2.2.2.2.2.2.2.1) ?_ hd (fun H1 locs1 hP hD hS => ?_)
  · refine Nat.le_trans ?_ HC.2.2.2.2.2.2.2.2.2.2
    have hcat : ((st.map (cv E)).map fun v => v.category).sum = (st.map fun v => v.category).sum := by rw [List.map_map]; congr 1; apply List.map_congr_left; intro v _; exact cv_cat E v
    rw [hcat]
    have hnf : nativeFrameWords "java/lang/System" "arraycopy" 5 + 11 ≤ 40 := by decide +kernel
    omega
  · rw [cW_set (σ := σ) (σ' := sJr σ i1 (va_cpy (σ.2 i0) (σ.2 i1) sp.toNatClampNeg dp.toNatClampNeg n.toNatClampNeg)) h1 (by simp [cE, cA, sJr]) (fun _ _ => rfl) sJr_off] at hP
    exact K _ (h _ rfl) p l e R s m args below meth c E H1 locs1 cells slots ls HC ⟨hP, (fun q => nomatch q), hS⟩ hl hb
end EX3
