/-! CONSTRUCTORS: a small machine of their own, and that it is right -/
abbrev Mi : Type := Nat × Nat × Nat × Nat × Int32
abbrev Cf : Type := Nat × List (Nat × Sv) × List Sv × List Gc × Nat × Nat
def fndL (x : Nat) : List (Nat × Sv) → Option Sv
  | [] => none
  | q :: L => if q.1 = x then some q.2 else fndL x L
theorem fndL_mem {x : Nat} {v : Sv} : ∀ {L : List (Nat × Sv)}, fndL x L = some v → (x, v) ∈ L := by
  intro L
  induction L with
  | nil => intro h; cases h
  | cons q L ih =>
    intro h
    rw [fndL] at h
    by_cases c : q.1 = x
    · rw [if_pos c] at h
      cases h
      subst c
      exact List.mem_cons_self
    · rw [if_neg c] at h
      exact List.mem_cons_of_mem _ (ih h)
def putL (x : Nat) (v : Sv) (L : List (Nat × Sv)) : List (Nat × Sv) := (x, v) :: L.filter (fun q => !(q.1 == x))
/-- a class's fields before they are set -/
def dfl (ci : Nat) : List (Option Sv) := (ftL.getD ci []).map fun o => match o with
  | some _ => none
  | none => some (.inr 0)
def gx (mc ms : Nat) (mi : Mi) (L : List (Nat × Sv)) (st : List Sv) (cs : List Gc) (k n : Nat) : Option Cf := match mi with
  | (0, x, _, z, _) => match fndL x L with
    | some (.inl i) => some (z, L, .inl i :: st, cs, k, n)
    | _ => none
  | (1, x, _, z, _) => match fndL x L with
    | some (.inr v) => some (z, L, .inr v :: st, cs, k, n)
    | _ => none
  | (2, x, _, z, _) => match st with
    | .inl i :: st => some (z, putL x (.inl i) L, st, cs, k, n)
    | _ => none
  | (3, x, _, z, _) => match st with
    | .inr v :: st => some (z, putL x (.inr v) L, st, cs, k, n)
    | _ => none
  | (4, _, _, z, v) => some (z, L, .inr v :: st, cs, k, n)
  | (5, _, _, z, _) => match st with
    | v :: st => some (z, L, v :: v :: st, cs, k, n)
    | _ => none
  | (6, _, _, z, _) => match st with
    | .inr y :: .inr x :: st => some (z, L, .inr (x + y) :: st, cs, k, n)
    | _ => none
  | (7, x, _, z, v) => match fndL x L with
    | some (.inr w) => some (z, putL x (.inr (w + v)) L, st, cs, k, n)
    | _ => none
  | (8, _, _, z, _) => some (z, L, st, cs, k, n)
  | (9, _, t, z, _) => match st with
    | .inr y :: .inr x :: st => if y ≤ x then some (t, L, st, cs, k, n) else some (z, L, st, cs, k, n)
    | _ => none
  | (10, ci, N, z, _) => if k + 1 ≤ mc ∧ n + N ≤ ms then some (z, L, .inl cs.length :: st, cs ++ [.inr (.inl (ci, dfl ci))], k + 1, n + N) else none
  | (11, _, _, z, _) => match st with
    | .inr w :: st => if ¬ w < 0 ∧ ix w ≤ 100000 ∧ k + 1 ≤ mc ∧ n + ix w ≤ ms then some (z, L, .inl cs.length :: st, cs ++ [.inl (ix w, [])], k + 1, n + ix w) else none
    | _ => none
  | (12, ec, _, z, _) => match st with
    | .inr w :: st => if ¬ w < 0 ∧ ix w ≤ 100000 ∧ k + 1 ≤ mc ∧ n + ix w ≤ ms then some (z, L, .inl cs.length :: st, cs ++ [.inr (.inr (ec, ix w, []))], k + 1, n + ix w) else none
    | _ => none
  | (13, ci, f, z, _) => match st with
    | .inr v :: .inl i :: st => match cs[i]? with
      | some (.inr (.inl (c, fs))) => if c = ci ∧ f < fs.length then some (z, L, st, cs.set i (.inr (.inl (c, fs.set f (some (.inr v))))), k, n) else none
      | _ => none
    | _ => none
  | (14, ci, f, z, _) => match st with
    | .inl j :: .inl i :: st => match cs[i]? with
      | some (.inr (.inl (c, fs))) => if c = ci ∧ f < fs.length then some (z, L, st, cs.set i (.inr (.inl (c, fs.set f (some (.inl j))))), k, n) else none
      | _ => none
    | _ => none
  | (15, ci, f, z, _) => match st with
    | .inr v :: .inl i :: st => match cs[i]? with
      | some (.inr (.inl (c, fs))) => if c = ci ∧ f < fs.length ∧ v = 0 then some (z, L, st, cs.set i (.inr (.inl (c, fs.set f (some (.inr v))))), k, n) else none
      | _ => none
    | _ => none
  | (16, ci, f, z, _) => match st with
    | .inl i :: st => match cs[i]? with
      | some (.inr (.inl (c, fs))) => match fs[f]? with
        | some (some (.inl j)) => if c = ci then some (z, L, .inl j :: st, cs, k, n) else none
        | _ => none
      | _ => none
    | _ => none
  | (17, _, _, z, _) => match st with
    | .inr v :: .inr w :: .inl i :: st => match cs[i]? with
      | some (.inl (N, u)) => if ixb w N = true then some (z, L, st, cs.set i (.inl (N, (ix w, v) :: u)), k, n) else none
      | _ => none
    | _ => none
  | (18, ec, _, z, _) => match st with
    | .inl x :: .inr w :: .inl i :: st => match cs[i]? with
      | some (.inr (.inr (e, N, u))) => match cs[x]? with
        | some (.inr (.inl (c, _))) => if ixb w N = true ∧ e = ec ∧ c = ec then some (z, L, st, cs.set i (.inr (.inr (ec, N, (ix w, x) :: u))), k, n) else none
        | _ => none
      | _ => none
    | _ => none
  | (19, _, _, z, _) => match st with
    | .inl _ :: st => if st.length ≤ 8 then some (z, L, st, cs, k, n) else none
    | _ => none
  | _ => none
def OkI (l : Launch) (g : Gam) (b : Nat) (Y : Mth) (mc ms pc : Nat) (mi : Mi) : Prop := ∀ L st cs k n c cs2, gx mc ms mi L st cs k n = some c → U l g b Y mc ms c.1 c.2.1 c.2.2.1 c.2.2.2.1 c.2.2.2.2.1 c.2.2.2.2.2 cs2 → U l g b Y mc ms pc L st cs k n cs2
section OI
variable {l : Launch} {g : Gam} {b : Nat} {Y : Mth} {mc ms pc : Nat}
theorem oi_aload (n4 : Fin 4) (hd : decode Y.2.1 pc = .ok (.aload_n n4, 1)) : OkI l g b Y mc ms pc (0, n4, 0, pc + 1, 0) := by
  intro L st cs k n c cs2 h kk
  simp only [gx] at h
  split at h
  · rename_i i hi; cases h; exact U_aload n4 rfl (fndL_mem hi) hd kk
  · cases h
theorem oi_iload (n4 : Fin 4) (hd : decode Y.2.1 pc = .ok (.iload_n n4, 1)) : OkI l g b Y mc ms pc (1, n4, 0, pc + 1, 0) := by
  intro L st cs k n c cs2 h kk
  simp only [gx] at h
  split at h
  · rename_i i hi; cases h; exact U_iload n4 rfl (fndL_mem hi) hd kk
  · cases h
theorem oi_astore (n4 : Fin 4) (hm : (n4 : Nat) < Y.2.2.1) (hd : decode Y.2.1 pc = .ok (.astore_n n4, 1)) : OkI l g b Y mc ms pc (2, n4, 0, pc + 1, 0) := by
  intro L st cs k n c cs2 h kk
  simp only [gx] at h
  split at h
  · cases h; exact U_astore n4 rfl hm hd kk
  · cases h
theorem oi_istore (n4 : Fin 4) (hm : (n4 : Nat) < Y.2.2.1) (hd : decode Y.2.1 pc = .ok (.istore_n n4, 1)) : OkI l g b Y mc ms pc (3, n4, 0, pc + 1, 0) := by
  intro L st cs k n c cs2 h kk
  simp only [gx] at h
  split at h
  · cases h; exact U_istore n4 rfl hm hd kk
  · cases h
theorem oi_iconst {d : Int} (v : Int32) (hv : Int32.ofInt d = v) (hd : decode Y.2.1 pc = .ok (.iconst d, 1)) : OkI l g b Y mc ms pc (4, 0, 0, pc + 1, v) := by
  intro L st cs k n c cs2 h kk
  simp only [gx] at h
  cases h
  exact U_iconst hv hd kk
theorem oi_bipush {d : Int} (v : Int32) (hv : (Int8.ofInt d).toInt32 = v) (hd : decode Y.2.1 pc = .ok (.bipush d, 2)) : OkI l g b Y mc ms pc (4, 0, 0, pc + 2, v) := by
  intro L st cs k n c cs2 h kk
  simp only [gx] at h
  cases h
  exact U_bipush hv hd kk
theorem oi_sipush {d : Int} (v : Int32) (hv : (Int16.ofInt d).toInt32 = v) (hd : decode Y.2.1 pc = .ok (.sipush d, 3)) : OkI l g b Y mc ms pc (4, 0, 0, pc + 3, v) := by
  intro L st cs k n c cs2 h kk
  simp only [gx] at h
  cases h
  exact U_sipush hv hd kk
theorem oi_ldc {idx : Nat} (v : Int32) (hw : Cond.constant Y.1.cls idx v ∈ TB) (hd : decode Y.2.1 pc = .ok (.ldc idx, 2)) : OkI l g b Y mc ms pc (4, 0, 0, pc + 2, v) := by
  intro L st cs k n c cs2 h kk
  simp only [gx] at h
  cases h
  exact U_ldc hw hd kk
theorem oi_dup (hd : decode Y.2.1 pc = .ok (.dup, 1)) : OkI l g b Y mc ms pc (5, 0, 0, pc + 1, 0) := by
  intro L st cs k n c cs2 h kk
  simp only [gx] at h
  split at h
  · cases h; exact U_dup hd kk
  · cases h
theorem oi_iadd (hd : decode Y.2.1 pc = .ok (.iadd, 1)) : OkI l g b Y mc ms pc (6, 0, 0, pc + 1, 0) := by
  intro L st cs k n c cs2 h kk
  simp only [gx] at h
  split at h
  · cases h; exact U_iadd hd kk
  · cases h
theorem oi_iinc {x : Nat} {d : Int} (v : Int32) (hv : Int32.ofInt d = v) (hm : x < Y.2.2.1) (hd : decode Y.2.1 pc = .ok (.iinc x d, 3)) : OkI l g b Y mc ms pc (7, x, 0, pc + 3, v) := by
  intro L st cs k n c cs2 h kk
  simp only [gx] at h
  split at h
  · rename_i w hi; cases h; exact U_iinc (fndL_mem hi) (by rw [hv]) hm hd kk
  · cases h
theorem oi_goto {off : Int} (tgt : Nat) (htg : (pc : Int) + off = (tgt : Int)) (hd : decode Y.2.1 pc = .ok (.goto off, 3)) : OkI l g b Y mc ms pc (8, 0, 0, tgt, 0) := by
  intro L st cs k n c cs2 h kk
  simp only [gx] at h
  cases h
  exact U_goto htg hd kk
theorem oi_icmp {off : Int} (tgt : Nat) (htg : (pc : Int) + off = (tgt : Int)) (hd : decode Y.2.1 pc = .ok (.if_icmp .ge off, 3)) : OkI l g b Y mc ms pc (9, 0, tgt, pc + 3, 0) := by
  intro L st cs k n c cs2 h kk
  simp only [gx] at h
  split at h
  · rename_i y x st
    by_cases q : y ≤ x
    · rw [if_pos q] at h
      cases h
      exact U_icmp htg hd (fun _ => kk) (fun z => absurd q z)
    · rw [if_neg q] at h
      cases h
      exact U_icmp htg hd (fun z => absurd z q) (fun _ => kk)
  · cases h
theorem oi_new {ci idx N : Nat} {C : String} {T : u_T} {ty : Nat → FieldType} (hc : CF ci C T N ty) (hw : Cond.classLink Y.1.cls idx C ∈ TB ∧ Cond.instantiable C N ∈ TB ∧ Cond.initialized C ∈ TB) (hfs : ∀ j, j < N → defaultValue (ty j) = vp_V ((dfl ci).map (fvV 0)) j) (hfs2 : ∀ j, j < N → ∃ x, (dfl ci)[j]? = some x ∧ (x = none ∨ ∃ v, x = some (.inr v))) (hd : decode Y.2.1 pc = .ok (.new idx, 3)) : OkI l g b Y mc ms pc (10, ci, N, pc + 3, 0) := by
  intro L st cs k n c cs2 h kk
  simp only [gx] at h
  split at h
  · rename_i q
    cases h
    refine U_new hc hw (fun j hj => ?_) q hd kk
    obtain ⟨x, hx, hx2⟩ := hfs2 j hj
    rw [hfs j hj]
    have e : fvV 0 x = fvV b x := by
      rcases hx2 with rfl | ⟨v, rfl⟩ <;> rfl
    show (vp_V ((dfl ci).map (fvV 0)) j) = vp_V ((dfl ci).map (fvV b)) j
    unfold vp_V
    simp [hx, e]
  · cases h
theorem oi_newa (hw : Cond.arrayClass .int ∈ TB) (hd : decode Y.2.1 pc = .ok (.newarray .int, 2)) : OkI l g b Y mc ms pc (11, 0, 0, pc + 2, 0) := by
  intro L st cs k n c cs2 h kk
  simp only [gx] at h
  split at h
  · split at h
    · rename_i q
      cases h
      exact U_newa q.1 rfl q.2.1 hw q.2.2 hd kk
    · cases h
  · cases h
theorem oi_anew {ec idx : Nat} {C : String} (t0 : Nat) (ht0 : (gtys g)[t0]? = some (g.2.2.2.1 ec, .object C)) (hC : C ∈ [RX2, RX8, RX6, RX7]) (hw : Cond.classLink Y.1.cls idx C ∈ TB) (hd : decode Y.2.1 pc = .ok (.anewarray idx, 3)) : OkI l g b Y mc ms pc (12, ec, 0, pc + 3, 0) := by
  intro L st cs k n c cs2 h kk
  simp only [gx] at h
  split at h
  · split at h
    · rename_i q
      cases h
      exact U_anew t0 ht0 hC q.1 rfl q.2.1 hw q.2.2 hd kk
    · cases h
  · cases h
theorem oi_puti {ci idx N f : Nat} {C : String} {T : u_T} {ty : Nat → FieldType} (hc : CF ci C T N ty) (hf : f < N) (hfin : (T f).2.2.2 = false ∨ ((T f).2.2.2 = true ∧ (T f).1 = Y.1.cls)) (hty : ty f = .int) (hw : Cond.fieldLink Y.1.cls idx (T f).1 (T f).2.1 (T f).2.2.1 ∈ TB) (hd : decode Y.2.1 pc = .ok (.putfield idx, 3)) : OkI l g b Y mc ms pc (13, ci, f, pc + 3, 0) := by
  intro L st cs k n c cs2 h kk
  simp only [gx] at h
  split at h
  · split at h
    · rename_i hcs
      split at h
      · rename_i q
        cases h
        obtain ⟨q1, q2⟩ := q
        subst q1
        exact U_put hc hcs hf q2 hfin (by rw [hty]; rfl) (by rw [hty]; rfl) hw hd kk
      · cases h
    · cases h
  · cases h
theorem oi_putr {ci idx N f : Nat} {C : String} {T : u_T} {ty : Nat → FieldType} (hc : CF ci C T N ty) (hf : f < N) (hfin : (T f).2.2.2 = false ∨ ((T f).2.2.2 = true ∧ (T f).1 = Y.1.cls)) (hty : ∀ a : Nat, narrow (ty f) (.ref a) = .ref a ∧ fits (ty f) (.ref a) = true) (hw : Cond.fieldLink Y.1.cls idx (T f).1 (T f).2.1 (T f).2.2.1 ∈ TB) (hd : decode Y.2.1 pc = .ok (.putfield idx, 3)) : OkI l g b Y mc ms pc (14, ci, f, pc + 3, 0) := by
  intro L st cs k n c cs2 h kk
  simp only [gx] at h
  split at h
  · split at h
    · rename_i hcs
      split at h
      · rename_i q
        cases h
        obtain ⟨q1, q2⟩ := q
        subst q1
        exact U_put hc hcs hf q2 hfin (hty _).1 (hty _).2 hw hd kk
      · cases h
    · cases h
  · cases h
theorem oi_putz {ci idx N f : Nat} {C : String} {T : u_T} {ty : Nat → FieldType} (hc : CF ci C T N ty) (hf : f < N) (hfin : (T f).2.2.2 = false ∨ ((T f).2.2.2 = true ∧ (T f).1 = Y.1.cls)) (hty : ty f = .boolean) (hw : Cond.fieldLink Y.1.cls idx (T f).1 (T f).2.1 (T f).2.2.1 ∈ TB) (hd : decode Y.2.1 pc = .ok (.putfield idx, 3)) : OkI l g b Y mc ms pc (15, ci, f, pc + 3, 0) := by
  intro L st cs k n c cs2 h kk
  simp only [gx] at h
  split at h
  · split at h
    · rename_i hcs
      split at h
      · rename_i q
        cases h
        obtain ⟨q1, q2, q3⟩ := q
        subst q1
        subst q3
        exact U_put hc hcs hf q2 hfin (by rw [hty]; show narrow .boolean (.int 0) = .int 0; decide) (by rw [hty]; show fits .boolean (.int 0) = true; decide) hw hd kk
      · cases h
    · cases h
  · cases h
theorem oi_get {ci idx N f : Nat} {C : String} {T : u_T} {ty : Nat → FieldType} (hc : CF ci C T N ty) (hf : f < N) (hw : Cond.fieldLink Y.1.cls idx (T f).1 (T f).2.1 (T f).2.2.1 ∈ TB) (hd : decode Y.2.1 pc = .ok (.getfield idx, 3)) : OkI l g b Y mc ms pc (16, ci, f, pc + 3, 0) := by
  intro L st cs k n c cs2 h kk
  simp only [gx] at h
  split at h
  · split at h
    · rename_i hcs
      split at h
      · rename_i hfs
        split at h
        · rename_i q
          cases h
          subst q
          exact U_get hc hcs hf hfs hw hd kk
        · cases h
      · cases h
    · cases h
  · cases h
theorem oi_iast (hd : decode Y.2.1 pc = .ok (.iastore, 1)) : OkI l g b Y mc ms pc (17, 0, 0, pc + 1, 0) := by
  intro L st cs k n c cs2 h kk
  simp only [gx] at h
  split at h
  · split at h
    · rename_i hcs
      split at h
      · rename_i q
        cases h
        exact U_iast hcs q rfl hd kk
      · cases h
    · cases h
  · cases h
theorem oi_aast {ec Nf : Nat} {C : String} {T : u_T} {ty : Nat → FieldType} (t0 : Nat) (ht0 : (gtys g)[t0]? = some (g.2.2.2.1 ec, .object C)) (hc : CF ec C T Nf ty) (hd : decode Y.2.1 pc = .ok (.aastore, 1)) : OkI l g b Y mc ms pc (18, ec, 0, pc + 1, 0) := by
  intro L st cs k n c cs2 h kk
  simp only [gx] at h
  split at h
  · split at h
    · rename_i hcs
      split at h
      · rename_i hcx
        split at h
        · rename_i q
          cases h
          obtain ⟨q1, q2, q3⟩ := q
          subst q2
          subst q3
          exact U_aast t0 ht0 hc hcs hcx q1 rfl hd kk
        · cases h
      · cases h
    · cases h
  · cases h
theorem oi_obj {idx : Nat} (h1 : 1 ≤ Y.2.2.2.2) (hw : Cond.methodLink Y.1.cls idx Lib.objectInit ∈ TB ∧ Cond.instanceMethod Lib.objectInit ∈ TB ∧ Cond.code Lib.objectInit ⟨#[0xb1]⟩ 1 none ∈ TB) (hd : decode Y.2.1 pc = .ok (.invokespecial idx, 3)) : OkI l g b Y mc ms pc (19, 0, 0, pc + 3, 0) := by
  intro L st cs k n c cs2 h kk
  simp only [gx] at h
  split at h
  · split at h
    · rename_i q
      cases h
      exact U_obj h1 q hw hd kk
    · cases h
  · cases h
end OI
abbrev Rc : Type := Nat → List Sv → List Gc → Option (List Gc × Nat × Nat)
def gcall (rec : Rc) (mc ms : Nat) (mi : Mi) (L : List (Nat × Sv)) (st : List Sv) (cs : List Gc) (k n : Nat) : Option Cf := match st.drop mi.2.2.1 with
  | .inl i :: st' => match rec mi.2.1 (.inl i :: (st.take mi.2.2.1).reverse) cs with
    | some (cs', kc, nc) => if (st.take mi.2.2.1).length = mi.2.2.1 ∧ st'.length ≤ 8 ∧ (k + kc ≤ mc ∧ n + nc ≤ ms) ∧ i < cs.length ∧ cs'.length = cs.length + kc then some (mi.2.2.2.1, L, st', cs', k + kc, n + nc) else none
    | none => none
  | _ => none
def CallOk (l : Launch) (g : Gam) (b : Nat) (Y : Mth) (pc : Nat) (mi : Mi) (rec : Rc) : Prop := ∃ (Y' : Mth) (idx : Nat), YF Y' mi.2.2.1 ∧ Y'.2.2.2.2 < Y.2.2.2.2 ∧ Y'.1.name = "<init>" ∧ Y'.2.2.2.1 = none ∧ Cond.instanceMethod Y'.1 ∈ TB ∧ (Cond.methodLink Y.1.cls idx Y'.1 ∈ TB ∨ ∃ host, (Y.1.cls, idx, Y'.1, host) ∈ nestW) ∧ decode Y.2.1 pc = .ok (.invokespecial idx, 3) ∧ mi.2.2.2.1 = pc + 3 ∧ ∀ As cs cs' kc nc, rec mi.2.1 As cs = some (cs', kc, nc) → CnG l g b Y' kc nc As cs cs'
def GdI (l : Launch) (g : Gam) (b : Nat) (Y : Mth) (mc ms : Nat) (rec : Rc) (pc : Nat) (mi : Mi) : Prop := (mi.1 = 22 ∧ decode Y.2.1 pc = .ok (.return_, 1)) ∨ (mi.1 = 21 ∧ CallOk l g b Y pc mi rec) ∨ (mi.1 ≠ 21 ∧ mi.1 ≠ 22 ∧ OkI l g b Y mc ms pc mi)
def pfind (pc : Nat) : List (Nat × Mi) → Option Mi
  | [] => none
  | q :: pg => if q.1 = pc then some q.2 else pfind pc pg
def PgOk (l : Launch) (g : Gam) (b : Nat) (Y : Mth) (mc ms : Nat) (rec : Rc) (pg : List (Nat × Mi)) : Prop := ∀ pc mi, pfind pc pg = some mi → GdI l g b Y mc ms rec pc mi
theorem pg_nil {l : Launch} {g : Gam} {b : Nat} {Y : Mth} {mc ms : Nat} {rec : Rc} : PgOk l g b Y mc ms rec [] := fun pc mi h => by cases h
theorem pg_i {l : Launch} {g : Gam} {b : Nat} {Y : Mth} {mc ms : Nat} {rec : Rc} {pg : List (Nat × Mi)} {pc : Nat} {mi : Mi} (h1 : Nat.ble mi.1 20 = true) (h : OkI l g b Y mc ms pc mi) (hp : PgOk l g b Y mc ms rec pg) : PgOk l g b Y mc ms rec ((pc, mi) :: pg) := by
  intro pc' mi' hf
  rw [pfind] at hf
  by_cases c : pc = pc'
  · rw [if_pos c] at hf
    cases hf
    subst c
    have h2 := Nat.le_of_ble_eq_true h1
    exact Or.inr (Or.inr ⟨fun z => by rw [z] at h2; exact absurd h2 (by decide), fun z => by rw [z] at h2; exact absurd h2 (by decide), h⟩)
  · rw [if_neg c] at hf
    exact hp pc' mi' hf
theorem pg_c {l : Launch} {g : Gam} {b : Nat} {Y : Mth} {mc ms : Nat} {rec : Rc} {pg : List (Nat × Mi)} {pc : Nat} {mi : Mi} (h1 : mi.1 = 21) (h : CallOk l g b Y pc mi rec) (hp : PgOk l g b Y mc ms rec pg) : PgOk l g b Y mc ms rec ((pc, mi) :: pg) := by
  intro pc' mi' hf
  rw [pfind] at hf
  by_cases c : pc = pc'
  · rw [if_pos c] at hf
    cases hf
    subst c
    exact Or.inr (Or.inl ⟨h1, h⟩)
  · rw [if_neg c] at hf
    exact hp pc' mi' hf
theorem pg_r {l : Launch} {g : Gam} {b : Nat} {Y : Mth} {mc ms : Nat} {rec : Rc} {pg : List (Nat × Mi)} {pc : Nat} {mi : Mi} (h1 : mi.1 = 22) (h : decode Y.2.1 pc = .ok (.return_, 1)) (hp : PgOk l g b Y mc ms rec pg) : PgOk l g b Y mc ms rec ((pc, mi) :: pg) := by
  intro pc' mi' hf
  rw [pfind] at hf
  by_cases c : pc = pc'
  · rw [if_pos c] at hf
    cases hf
    subst c
    exact Or.inl ⟨h1, h⟩
  · rw [if_neg c] at hf
    exact hp pc' mi' hf
def grun (rec : Rc) (pg : List (Nat × Mi)) (mc ms : Nat) : Nat → Cf → Option (List Gc)
  | 0, _ => none
  | f + 1, (pc, L, st, cs, k, n) => match pfind pc pg with
    | none => none
    | some mi => if mi.1 = 22 then (if st.isEmpty = true ∧ k = mc ∧ n = ms then some cs else none) else match (if mi.1 = 21 then gcall rec mc ms mi L st cs k n else gx mc ms mi L st cs k n) with
      | some c => grun rec pg mc ms f c
      | none => none
theorem grun_ok {l : Launch} {g : Gam} {b : Nat} {Y : Mth} {mc ms : Nat} {rec : Rc} {pg : List (Nat × Mi)} (hp : PgOk l g b Y mc ms rec pg) : ∀ (f : Nat) (c : Cf) (cs2 : List Gc), grun rec pg mc ms f c = some cs2 → U l g b Y mc ms c.1 c.2.1 c.2.2.1 c.2.2.2.1 c.2.2.2.2.1 c.2.2.2.2.2 cs2 := by
  intro f
  induction f with
  | zero => intro c cs2 h; cases h
  | succ f ih =>
    intro c cs2 h
    obtain ⟨pc, L, st, cs, k, n⟩ := c
    rw [grun] at h
    split at h
    · cases h
    · rename_i mi hf
      rcases hp pc mi hf with ⟨h1, h2⟩ | ⟨h1, h2⟩ | ⟨h1, h1', h2⟩
      · rw [if_pos h1] at h
        split at h
        · rename_i q
          cases h
          obtain ⟨q1, q2, q3⟩ := q
          subst q2
          subst q3
          rw [List.isEmpty_iff] at q1
          subst q1
          exact U_ret h2
        · cases h
      · rw [if_neg (by rw [h1]; decide), if_pos h1] at h
        split at h
        · rename_i c hc
          unfold gcall at hc
          split at hc
          · rename_i i st' hst
            split at hc
            · rename_i cs' kc nc hr
              split at hc
              · rename_i q
                obtain ⟨Y', idx, e1, e2, e3, e4, e5, e6, e7, e8, e9⟩ := h2
                cases hc
                have kk := ih _ _ h
                dsimp only at kk
                rw [e8] at kk
                refine U_call e1 e2 (e9 _ _ _ _ _ hr) e3 e4 e5 e6 (by rw [List.length_reverse]; exact q.1) ?_ q.2.1 q.2.2.1 q.2.2.2.1 q.2.2.2.2 e7 kk
                rw [List.reverse_reverse, ← hst, List.take_append_drop]
              · cases hc
            · cases hc
          · cases hc
        · cases h
      · rw [if_neg h1', if_neg h1] at h
        split at h
        · rename_i c hc
          exact h2 L st cs k n c cs2 hc (ih _ _ h)
        · cases h
def argsL : Nat → List Sv → List (Nat × Sv)
  | _, [] => []
  | i, a :: As => (i, a) :: argsL (i + 1) As
theorem argsL_eq (b : Nat) : ∀ (As : List Sv) (i : Nat), lv_args i (svs b As) = lvs b (argsL i As) := by
  intro As
  induction As with
  | nil => intro i; rfl
  | cons a As ih =>
    intro i
    have hc : ¬ (svV b a).category = 2 := by cases a <;> (show ¬ (1 : Nat) = 2; decide)
    show (i, svV b a) :: lv_args (if (svV b a).category = 2 then i + 2 else i + 1) (svs b As) = (i, svV b a) :: lvs b (argsL (i + 1) As)
    rw [if_neg hc, ih]
theorem sl_len (b : Nat) : ∀ As : List Sv, (lg_sl (svs b As)).length = As.length := by
  intro As
  induction As with
  | nil => rfl
  | cons a As ih =>
    have e : lg_sl (svs b (a :: As)) = .val (svV b a) :: lg_sl (svs b As) := by
      cases a <;> simp [svs, svV, lg_sl, Value.category]
    rw [e, List.length_cons, ih, List.length_cons]
