/-! rows that read and write the heap -/
def CK (ci : Nat) (C : String) (T : u_T) (N : Nat) (ty : Nat → FieldType) : Prop := vwCl[ci]? = some (C, T, N) ∧ (∀ w ∈ u_ws C T N, w ∈ lG) ∧ (∀ k, k < N → parseFieldDescriptor (T k).2.2.1 = some (ty k)) ∧ ∀ a, a < N → ∀ b, b < N → a ≠ b → (T a).2.1 ≠ (T b).2.1
theorem cL_setI {E : aE} {σ : Sg} {i k : Nat} {ks : List (Bool ⊕ Option Nat)} (hf : ks[k]? = some (.inl false)) (v : Int32) : cL E (sI σ i k v) i 0 ks = (cL E σ i 0 ks).set k (.int v) := by
  apply List.ext_getElem?
  intro j
  have hk := (List.getElem?_eq_some_iff.mp hf).1
  by_cases hj : j = k
  · subst hj
    rw [List.getElem?_set_self (by rw [cL_len]; exact hk), cL_at, hf]
    simp [cF, sI]
  · rw [List.getElem?_set_ne (Ne.symm hj), cL_at, cL_at]
    cases ks[j]? with
    | none => rfl
    | some f =>
      rcases f with b | r
      · cases b <;> simp [cF, sI, hj]
      · cases r <;> rfl
theorem cL_setJ {E : aE} {σ : Sg} {i k : Nat} {ks : List (Bool ⊕ Option Nat)} (hf : ks[k]? = some (.inl true)) (v : Int64) : cL E (sJ σ i k v) i 0 ks = (cL E σ i 0 ks).set k (.long v) := by
  apply List.ext_getElem?
  intro j
  have hk := (List.getElem?_eq_some_iff.mp hf).1
  by_cases hj : j = k
  · subst hj
    rw [List.getElem?_set_self (by rw [cL_len]; exact hk), cL_at, hf]
    simp [cF, sJ]
  · rw [List.getElem?_set_ne (Ne.symm hj), cL_at, cL_at]
    cases ks[j]? with
    | none => rfl
    | some f =>
      rcases f with b | r
      · cases b <;> simp [cF, sJ, hj]
      · cases r <;> rfl
theorem cL_setR {E : aE} {σ : Sg} {i k : Nat} {ks : List (Bool ⊕ Option Nat)} {f0 : Bool ⊕ Option Nat} (hf : ks[k]? = some f0) (q : Nat) : cL E σ i 0 (ks.set k (.inr (some q))) = (cL E σ i 0 ks).set k (.ref (E.1 + q)) := by
  apply List.ext_getElem?
  intro j
  have hk := (List.getElem?_eq_some_iff.mp hf).1
  by_cases hj : j = k
  · subst hj
    rw [List.getElem?_set_self (by rw [cL_len]; exact hk), cL_at, List.getElem?_set_self hk]
    rfl
  · rw [List.getElem?_set_ne (Ne.symm hj), cL_at, cL_at, List.getElem?_set_ne (Ne.symm hj)]
/-- the shape of one cell changes -/
theorem cW_shape {E : aE} {σ : Sg} {Γ : List aC} {i : Nat} {c c' : aC} {e : va_E} (hΓ : Γ[i]? = some c) (he : cE E σ i c' = e) : (cW E Γ σ).set i (E.1 + i, e) = cW E (Γ.set i c') σ := by
  apply List.ext_getElem?
  intro j
  have hi := (List.getElem?_eq_some_iff.mp hΓ).1
  by_cases hj : j = i
  · subst hj
    rw [List.getElem?_set_self (List.getElem?_eq_some_iff.mp (cW_at (E := E) (σ := σ) hΓ)).1, cM_at, List.getElem?_set_self hi, Nat.zero_add, Option.map_some, he]
  · rw [List.getElem?_set_ne (Ne.symm hj), cM_at, cM_at, List.getElem?_set_ne (Ne.symm hj)]
theorem sI_off {σ : Sg} {i k : Nat} {v : Int32} : ∀ j, j ≠ i → (sI σ i k v).1 j = σ.1 j := fun j hj => by simp [sI, hj]
theorem sJ_off {σ : Sg} {i k : Nat} {v : Int64} : ∀ j, j ≠ i → (sJ σ i k v).2 j = σ.2 j := fun j hj => by simp [sJ, hj]
theorem sIr_off {σ : Sg} {i : Nat} {f : Nat → Int32} : ∀ j, j ≠ i → (sIr σ i f).1 j = σ.1 j := fun j hj => by simp [sIr, hj]
theorem sJr_off {σ : Sg} {i : Nat} {f : Nat → Int64} : ∀ j, j ≠ i → (sJr σ i f).2 j = σ.2 j := fun j hj => by simp [sJr, hj]
section XPUT
variable {p : Program} {l : Launch} {e : Env} {R : Room} {s : State} {m : MethodId} {args : Array Value} {below : List Frame} {meth : Method} {c : Code} {H : Heap} {locs : List Loc} {cells slots : Nat} {Q : State → Prop}
variable {cc : ByteArray} {pc : Nat} {ls : Array Slot} {rest : List Value} {D : va_G} {A : Nat → Prop} {a : Nat} {tys : List (ClassId × FieldType)} {ws : va_W} {H0 : Heap}
theorem x_put (hexec : p.tables.exec = Jvm.exec) (hb : c.code = cc) {own C : String} {T : u_T} {N ci index : Nat} {ty0 : Nat → FieldType} (hts : ∀ w ∈ lG, w.before args s = true) (ck : CK ci C T N ty0) (hown : s.vm.findClass own = some m.cls) (hK : va_K D vwCl tys s) (hP : va_P D vwCl ws H) (hD : va_D A ws) (hS0 : va_S A H0 H locs) (q0 : Nat) {fs : List Value} (he : ws[q0]? = some (a, .inr (ci, fs))) (k : Nat) (hk : k < N) (hlink : (Cond.fieldLink own index (T k).1 (T k).2.1 (T k).2.2.1).before args s = true) (hfin : (T k).2.2.2 = false) {v : Value} (hn : narrow (ty0 k) v = v) (hfit : fits (ty0 k) v = true) (hl : k < fs.length)
    (hdg : decode cc pc = .ok (.putfield index, 3)) (kk : ∀ (H1 : Heap) (locs1 : List Loc), va_P D vwCl (ws.set q0 (a, .inr (ci, fs.set k v))) H1 → H1.size = H.size → va_S A H0 H1 locs1 → W p l e R s m args below meth c H1 locs1 cells slots Q (F0 m (pc + 3) ls rest)) : W p l e R s m args below meth c H locs cells slots Q (F0 m pc ls (v :: .ref a :: rest)) := by
  obtain ⟨hc, hin, hty, hnm⟩ := ck
  have hap := va_apart (own := own) hts hin ty0 hty hnm hK hc
  obtain ⟨r, h1, cell, q1, q2, q3, q4⟩ := hP q0 _ he
  have hr : r = (C, T, N) := Option.some.inj (h1.symm.trans hc)
  subst hr
  obtain ⟨hS, hfc, kC, hkC, hkind⟩ := hK.1 ci _ hc
  obtain ⟨cf, kf, fi, f, hi, hsl⟩ := hS k hk
  have hlay := hts _ (hin _ (u_in_lay hk))
  unfold u_lay at hlay
  rw [if_neg (by rw [hfin]; decide)] at hlay
  have hst := (u_facts hfc hkC (u_lays hts hin hk) hi).1
  have h6 := u_store hfc hkC hkind hlay hi (hty k hk) hn hfit
  refine W.putK hexec hb (f := f) ⟨hown, hlink, ⟨_, _, _, hi⟩, hst⟩ (by rw [q2]; exact h6) q1 q3 (by rw [hsl]; exact k2_hasslot (q4 k hk)) rfl rfl hdg fun H' e1 e2 e3 => ?_
  rw [hsl] at e1 ⊢
  exact kk H' _ (hP.set hD he ⟨_, hc, t_OB.to (V := updV (vp_V fs) k v) ⟨_, e1, q2, q3, t_set q4 hap hk v⟩ (fun j _ => vp_updV_set hl v j)⟩ e3) e2 (hS0.put e2 e3 (hD.2 q0 _ he))
theorem x_putF (hexec : p.tables.exec = Jvm.exec) (hb : c.code = cc) {own C : String} {T : u_T} {N ci index : Nat} {ty0 : Nat → FieldType} (hts : ∀ w ∈ lG, w.before args s = true) (ck : CK ci C T N ty0) (hown : s.vm.findClass own = some m.cls) (hK : va_K D vwCl tys s) (hP : va_P D vwCl ws H) (hD : va_D A ws) (hS0 : va_S A H0 H locs) (q0 : Nat) {fs : List Value} (he : ws[q0]? = some (a, .inr (ci, fs))) (k : Nat) (hk : k < N) (hlink : (Cond.fieldLink own index (T k).1 (T k).2.1 (T k).2.2.1).before args s = true) (hfin : (T k).2.2.2 = true) (hdecl : own = (T k).1) (hin2 : meth.name = "<init>") {v : Value} (hn : narrow (ty0 k) v = v) (hfit : fits (ty0 k) v = true) (hl : k < fs.length)
    (hdg : decode cc pc = .ok (.putfield index, 3)) (kk : ∀ (H1 : Heap) (locs1 : List Loc), va_P D vwCl (ws.set q0 (a, .inr (ci, fs.set k v))) H1 → H1.size = H.size → va_S A H0 H1 locs1 → W p l e R s m args below meth c H1 locs1 cells slots Q (F0 m (pc + 3) ls rest)) : W p l e R s m args below meth c H locs cells slots Q (F0 m pc ls (v :: .ref a :: rest)) := by
  obtain ⟨hc, hin, hty, hnm⟩ := ck
  have hap := va_apart (own := own) hts hin ty0 hty hnm hK hc
  obtain ⟨r, h1, cell, q1, q2, q3, q4⟩ := hP q0 _ he
  have hr : r = (C, T, N) := Option.some.inj (h1.symm.trans hc)
  subst hr
  obtain ⟨hS, hfc, kC, hkC, hkind⟩ := hK.1 ci _ hc
  obtain ⟨cf, kf, fi, f, hi, hsl⟩ := hS k hk
  have hlay := hts _ (hin _ (u_in_lay hk))
  unfold u_lay at hlay
  rw [if_pos hfin] at hlay
  have hst := (u_facts hfc hkC (u_lays hts hin hk) hi).1
  have hcf : m.cls = cf := by
    obtain ⟨_, _, c', _, _, _, -, -, hf', -, -, -, hown2, -⟩ := Cond.laysFinal_spec hlay
    have e1 : c' = cf := by have := hi.symm.trans hf'; simp at this; exact this.1.symm
    rw [← hdecl] at hown2
    rw [← e1]; exact Option.some.inj (hown.symm.trans hown2)
  have h6 := u_fits hfc hkC hkind (Or.inr hlay) hi (hty k hk) hn hfit
  refine W.putFinK hexec hb hown hlink hi hst hcf hin2 (by rw [q2]; exact h6) q1 q3 (by rw [hsl]; exact k2_hasslot (q4 k hk)) rfl rfl hdg fun H' e1 e2 e3 => ?_
  rw [hsl] at e1 ⊢
  exact kk H' _ (hP.set hD he ⟨_, hc, t_OB.to (V := updV (vp_V fs) k v) ⟨_, e1, q2, q3, t_set q4 hap hk v⟩ (fun j _ => vp_updV_set hl v j)⟩ e3) e2 (hS0.put e2 e3 (hD.2 q0 _ he))
theorem x_iast (hexec : p.tables.exec = Jvm.exec) (hb : c.code = cc) (hK : va_K D vwCl tys s) (hP : va_P D vwCl ws H) (hD : va_D A ws) (hS : va_S A H0 H locs) (q0 t0 : Nat) {cA : ClassId} {n : Nat} {f : Nat → Int32} (ha : ws[q0]? = some (a, .inl (cA, n, .inl f))) (ht : tys[t0]? = some (cA, .int)) {i : Int32} {x : Int32} (hin : vp_in i n) (hdg : decode cc pc = .ok (.iastore, 1))
    (kk : ∀ (H1 : Heap) (locs1 : List Loc), va_P D vwCl (ws.set q0 (a, .inl (cA, n, .inl (upd f i.toNatClampNeg x)))) H1 → H1.size = H.size → va_S A H0 H1 locs1 → W p l e R s m args below meth c H1 locs1 cells slots Q (F0 m (pc + 1) ls rest)) : W p l e R s m args below meth c H locs cells slots Q (F0 m pc ls (.int x :: .int i :: .ref a :: rest)) := by
  refine W.iast hexec hb (hP q0 _ ha) ((hK.2 t0 _ ht).1 n (fun j => .int (f j))) (fun q => by cases q) (by show ¬ (i < 0 ∨ (arrV _ _ _).slots.size ≤ _); rw [arrV_size]; exact hin) rfl rfl hdg fun H1 e z oq => ?_
  refine kk H1 _ (hP.set hD ha ?_ oq) z (hS.put z oq (hD.2 q0 _ ha))
  show H1[a]? = some (vp_cell _ _)
  rw [e]
  rw [vp_cell_i, vp_cell_i, arrV_store]
  congr 2
  funext q
  by_cases hq : q = i.toNatClampNeg
  · subst hq
    simp [updV, upd]
  · simp [updV, upd, hq]
end XPUT
section EX2
variable {M : aM} {d : Nat} {z : Bool} {bu : Nat × Nat} {sx : Nat × (Nat → Int32)} {Γ : List aC} {pc : Nat} {L : List (Option Value)} {st : List Value} {σ : Sg} {Q : Option Value → List aC → Sg → Prop}
theorem X_get {ci N k idx i : Nat} {C : String} {T : u_T} {ty : Nat → FieldType} {ks : List (Bool ⊕ Option Nat)} {f : Bool ⊕ Option Nat} {v : Value} (ck : CK ci C T N ty) (hw : k < N ∧ Cond.fieldLink M.1.cls idx (T k).1 (T k).2.1 (T k).2.2.1 ∈ lG) (hΓ : Γ[i]? = some (.inr (ci, ks))) (hf : ks[k]? = some f) (hv : ∀ E : aE, cF E σ i k f = cv E v) (hd : decode M.2.1 pc = .ok (.getfield idx, 3)) (K : Ex M d z bu sx Γ (pc + 3) L (v :: st) σ Q) : Ex M d z bu sx Γ pc L (.ref i :: st) σ Q := by
  intro p l e R s m args below meth c E H locs cells slots ls HC Hw hl hb
  exact va_get (fs := cL E σ i 0 ks) (v := cv E v) HC.1 HC.2.1 HC.2.2.2.2.2.1 ck.2.1 HC.2.2.2.2.1 HC.2.2.2.2.2.2.2.2.1.1 Hw.1 i (cW_at hΓ) ck.1 k hw.1 (HC.2.2.2.2.2.1 _ hw.2) (fun _ h => h) (by rw [cL_at, hf, Nat.zero_add]; simp [hv]) hd (K p l e R s m args below meth c E H locs cells slots ls HC Hw hl hb)
theorem X_putI {ci N k idx i : Nat} {C : String} {T : u_T} {ty : Nat → FieldType} {ks : List (Bool ⊕ Option Nat)} {v : Int32} {P : Sg → Prop} (ck : CK ci C T N ty) (hw : k < N ∧ Cond.fieldLink M.1.cls idx (T k).1 (T k).2.1 (T k).2.2.1 ∈ lG) (hfin : (T k).2.2.2 = false) (hΓ : Γ[i]? = some (.inr (ci, ks))) (hf : ks[k]? = some (.inl false)) (hn : narrow (ty k) (.int v) = .int v) (hft : fits (ty k) (.int v) = true) (hd : decode M.2.1 pc = .ok (.putfield idx, 3)) (h : bd (sI σ i k v) P) (K : ∀ σ', P σ' → Ex M d z bu sx Γ (pc + 3) L st σ' Q) : Ex M d z bu sx Γ pc L (.int v :: .ref i :: st) σ Q := by
  intro p l e R s m args below meth c E H locs cells slots ls HC Hw hl hb
  refine x_put (fs := cL E σ i 0 ks) (v := .int v) HC.1 HC.2.1 HC.2.2.2.2.2.1 ck HC.2.2.2.2.1 HC.2.2.2.2.2.2.2.2.1.1 Hw.1 cW_D Hw.2.2 i (cW_at hΓ) k hw.1 (HC.2.2.2.2.2.1 _ hw.2) hfin hn hft (by rw [cL_len]; exact (List.getElem?_eq_some_iff.mp hf).1) hd (fun H1 locs1 hP hz hS => ?_)
  rw [cW_set (σ' := sI σ i k v) hΓ (by simp only [cE]; rw [cL_setI hf]) sI_off (fun _ _ => rfl)] at hP
  exact K _ (h _ rfl) p l e R s m args below meth c E H1 locs1 cells slots ls HC ⟨hP, fun q => hz.trans (Hw.2.1 q), hS⟩ hl hb
theorem X_putIF {ci N k idx i : Nat} {C : String} {T : u_T} {ty : Nat → FieldType} {ks : List (Bool ⊕ Option Nat)} {v : Int32} (ck : CK ci C T N ty) (hw : k < N ∧ Cond.fieldLink M.1.cls idx (T k).1 (T k).2.1 (T k).2.2.1 ∈ lG) (hfin : (T k).2.2.2 = true) (hdecl : M.1.cls = (T k).1) (hnm : M.1.name = "<init>") (hΓ : Γ[i]? = some (.inr (ci, ks))) (hf : ks[k]? = some (.inl false)) (hn : narrow (ty k) (.int v) = .int v) (hft : fits (ty k) (.int v) = true) (hd : decode M.2.1 pc = .ok (.putfield idx, 3)) (K : Ex M d z bu sx Γ (pc + 3) L st (sI σ i k v) Q) : Ex M d z bu sx Γ pc L (.int v :: .ref i :: st) σ Q := by
  intro p l e R s m args below meth c E H locs cells slots ls HC Hw hl hb
  refine x_putF (fs := cL E σ i 0 ks) (v := .int v) HC.1 HC.2.1 HC.2.2.2.2.2.1 ck HC.2.2.2.2.1 HC.2.2.2.2.2.2.2.2.1.1 Hw.1 cW_D Hw.2.2 i (cW_at hΓ) k hw.1 (HC.2.2.2.2.2.1 _ hw.2) hfin hdecl (HC.2.2.2.2.2.2.2.1.trans hnm) hn hft (by rw [cL_len]; exact (List.getElem?_eq_some_iff.mp hf).1) hd (fun H1 locs1 hP hz hS => ?_)
  rw [cW_set (σ' := sI σ i k v) hΓ (by simp only [cE]; rw [cL_setI hf]) sI_off (fun _ _ => rfl)] at hP
  exact K p l e R s m args below meth c E H1 locs1 cells slots ls HC ⟨hP, fun q => hz.trans (Hw.2.1 q), hS⟩ hl hb
theorem X_putRF {ci N k idx i q : Nat} {C : String} {T : u_T} {ty : Nat → FieldType} {ks : List (Bool ⊕ Option Nat)} {f0 : Bool ⊕ Option Nat} {Γ' : List aC} (ck : CK ci C T N ty) (hw : k < N ∧ Cond.fieldLink M.1.cls idx (T k).1 (T k).2.1 (T k).2.2.1 ∈ lG) (hfin : (T k).2.2.2 = true) (hdecl : M.1.cls = (T k).1) (hnm : M.1.name = "<init>") (hΓ : Γ[i]? = some (.inr (ci, ks))) (hf : ks[k]? = some f0) (hn : ∀ a : Nat, narrow (ty k) (.ref a) = .ref a) (hft : ∀ a : Nat, fits (ty k) (.ref a) = true) (hd : decode M.2.1 pc = .ok (.putfield idx, 3)) (hg : Γ.set i (.inr (ci, ks.set k (.inr (some q)))) = Γ') (K : Ex M d z bu sx Γ' (pc + 3) L st σ Q) : Ex M d z bu sx Γ pc L (.ref q :: .ref i :: st) σ Q := by
  intro p l e R s m args below meth c E H locs cells slots ls HC Hw hl hb
  refine x_putF (fs := cL E σ i 0 ks) (v := .ref (E.1 + q)) HC.1 HC.2.1 HC.2.2.2.2.2.1 ck HC.2.2.2.2.1 HC.2.2.2.2.2.2.2.2.1.1 Hw.1 cW_D Hw.2.2 i (cW_at hΓ) k hw.1 (HC.2.2.2.2.2.1 _ hw.2) hfin hdecl (HC.2.2.2.2.2.2.2.1.trans hnm) (hn _) (hft _) (by rw [cL_len]; exact (List.getElem?_eq_some_iff.mp hf).1) hd (fun H1 locs1 hP hz hS => ?_)
  rw [cW_shape (c' := .inr (ci, ks.set k (.inr (some q)))) hΓ (by simp only [cE]; rw [cL_setR hf])] at hP
  subst hg
  exact K p l e R s m args below meth c E H1 locs1 cells slots ls HC ⟨hP, fun q => by rw [hz, Hw.2.1 q, List.length_set], hS⟩ hl hb
theorem X_putJ {ci N k idx i : Nat} {C : String} {T : u_T} {ty : Nat → FieldType} {ks : List (Bool ⊕ Option Nat)} {v : Int64} {P : Sg → Prop} (ck : CK ci C T N ty) (hw : k < N ∧ Cond.fieldLink M.1.cls idx (T k).1 (T k).2.1 (T k).2.2.1 ∈ lG) (hfin : (T k).2.2.2 = false) (hΓ : Γ[i]? = some (.inr (ci, ks))) (hf : ks[k]? = some (.inl true)) (hn : narrow (ty k) (.long v) = .long v) (hft : fits (ty k) (.long v) = true) (hd : decode M.2.1 pc = .ok (.putfield idx, 3)) (h : bd (sJ σ i k v) P) (K : ∀ σ', P σ' → Ex M d z bu sx Γ (pc + 3) L st σ' Q) : Ex M d z bu sx Γ pc L (.long v :: .ref i :: st) σ Q := by
  intro p l e R s m args below meth c E H locs cells slots ls HC Hw hl hb
  refine x_put (fs := cL E σ i 0 ks) (v := .long v) HC.1 HC.2.1 HC.2.2.2.2.2.1 ck HC.2.2.2.2.1 HC.2.2.2.2.2.2.2.2.1.1 Hw.1 cW_D Hw.2.2 i (cW_at hΓ) k hw.1 (HC.2.2.2.2.2.1 _ hw.2) hfin hn hft (by rw [cL_len]; exact (List.getElem?_eq_some_iff.mp hf).1) hd (fun H1 locs1 hP hz hS => ?_)
  rw [cW_set (σ := σ) (σ' := sJ σ i k v) hΓ (by simp only [cE]; rw [cL_setJ hf]) (fun _ _ => rfl) sJ_off] at hP
  exact K _ (h _ rfl) p l e R s m args below meth c E H1 locs1 cells slots ls HC ⟨hP, fun q => hz.trans (Hw.2.1 q), hS⟩ hl hb
end EX2
