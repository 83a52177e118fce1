/-! THE RELATION between the class's memory and the model's. S: the model's row s (or its image). What the class holds is a function of S. -/
def uc (x : Int32) : Int32 := if 0 ≤ x then x else (-1000000005 : Int32)
abbrev Row : Type := Nat → Int32
/-- a mark's numbers are in their ranges -/
def MkOk (S : Row) (i : Nat) : Prop := (0 ≤ (S (120 + 7 * i)).toInt ∧ (S (120 + 7 * i)).toInt ≤ 7) ∧ (0 ≤ (S (120 + 7 * i + 1)).toInt ∧ (S (120 + 7 * i + 1)).toInt ≤ 2) ∧ (0 ≤ (S (120 + 7 * i + 2)).toInt ∧ (S (120 + 7 * i + 2)).toInt ≤ 99) ∧ (0 ≤ (S (120 + 7 * i + 3)).toInt ∧ (S (120 + 7 * i + 3)).toInt ≤ 999) ∧ (-99 ≤ (S (120 + 7 * i + 4)).toInt ∧ (S (120 + 7 * i + 4)).toInt ≤ 99) ∧ (-1 ≤ (S (120 + 7 * i + 5)).toInt ∧ (S (120 + 7 * i + 5)).toInt ≤ 8) ∧ (-1 ≤ (S (120 + 7 * i + 6)).toInt ∧ (S (120 + 7 * i + 6)).toInt ≤ 9)
def MkEq (c : Row) (S : Row) (i : Nat) : Prop := c 0 = S (120 + 7 * i) ∧ c 1 = S (120 + 7 * i + 1) ∧ c 2 = S (120 + 7 * i + 2) ∧ c 3 = S (120 + 7 * i + 3) ∧ c 4 = S (120 + 7 * i + 4) ∧ c 5 = uc (S (120 + 7 * i + 5)) ∧ c 6 = uc (S (120 + 7 * i + 6))
def RMarks (mk : Nat → Row) (S : Row) (n : Nat) : Prop := n ≤ 24 ∧ S 0 = nI n ∧ ∀ i, i < n → MkOk S i ∧ MkEq (mk i) S i
/-- a text's steps: what each does to the pile's height -/
def stepOk (w v : Int32) (d d' : Nat) : Prop := (w = 0 ∧ (0 ≤ v.toInt ∧ v.toInt ≤ 9999) ∧ d' = d + 1) ∨ (w = 1 ∧ (v = 100 ∨ v = 97 ∨ v = 111) ∧ d' = d + 1) ∨ (w = 2 ∧ v = 33 ∧ 1 ≤ d ∧ d' = d) ∨ (w = 2 ∧ (v = 38 ∨ v = 42 ∨ v = 43 ∨ v = 45 ∨ v = 47 ∨ v = 60 ∨ v = 61 ∨ v = 62 ∨ v = 124) ∧ 2 ≤ d ∧ d' + 1 = d)
def codeOf (w v : Int32) : Int32 := if w = 0 then v else -v
def TxOk (S : Row) (j : Nat) : Prop := (∃ kv, kv < 9 ∧ S (290 + 200 * j) = nI kv) ∧ ∃ n, n ≤ 96 ∧ S (290 + 200 * j + 2) = nI n ∧ ∃ D : Nat → Nat, D 0 = 0 ∧ D n = 1 ∧ ∀ p, p < n → stepOk (S (290 + 200 * j + 4 + 2 * p)) (S (290 + 200 * j + 4 + 2 * p + 1)) (D p) (D (p + 1))
def TxEq (c cd : Row) (S : Row) (j : Nat) : Prop := c 0 = S (290 + 200 * j) / 3 ∧ c 1 = irem (S (290 + 200 * j)) 3 ∧ c 2 = S (290 + 200 * j + 1) ∧ c 3 = S (290 + 200 * j + 2) ∧ ∀ p, nI p < S (290 + 200 * j + 2) → p < 96 → cd p = codeOf (S (290 + 200 * j + 4 + 2 * p)) (S (290 + 200 * j + 4 + 2 * p + 1))
def RTexts (tx cd : Nat → Row) (S : Row) (t : Nat) : Prop := t ≤ 14 ∧ S 1 = nI t ∧ ∀ j, j < t → TxOk S j ∧ TxEq (tx j) (cd j) S j
def psCode (a b h : Nat) : Nat := (min a b * 9 + max a b) * 4 + h
def PsOk (c : Row) (S : Row) (p : Nat) : Prop := ∃ a b h, a < 9 ∧ b < 9 ∧ a ≠ b ∧ h < 4 ∧ S (50 + 3 * p) = nI a ∧ S (50 + 3 * p + 1) = nI b ∧ S (50 + 3 * p + 2) = nI h ∧ c p = nI (psCode a b h)
def RPass (c : Row) (S : Row) (np : Nat) : Prop := np ≤ 20 ∧ S 2 = nI np ∧ ∀ p, p < np → PsOk c S p
/-- the told marks: cs their numbers in order; of a voyage's: how many among the first k -/
def vyOf (S : Row) (i : Nat) : Nat := (S (120 + 7 * i + 1)).toInt.toNat
def tcnt (S : Row) (cs : Nat → Nat) (v : Nat) : Nat → Nat
  | 0 => 0
  | k + 1 => tcnt S cs v k + (if vyOf S (cs k) = v then 1 else 0)
def RCho (ch ct : Row) (S : Row) (n nc : Nat) (cs : Nat → Nat) : Prop := S 3 = nI nc ∧ nc ≤ 15 ∧ (∀ k, k < nc → cs k < n ∧ S (30 + k) = nI (cs k)) ∧ (∀ k k', k < nc → k' < nc → cs k = cs k' → k = k') ∧ (∀ v, v < 3 → ct v = nI (tcnt S cs v nc) ∧ tcnt S cs v nc ≤ 5) ∧ ∀ k, k < nc → ch (5 * vyOf S (cs k) + tcnt S cs (vyOf S (cs k)) k) = nI (cs k)
def RSet (sd sb : Row) (S : Row) : Prop := ∀ v, v < 3 → (S (10 + 3 * v) = 1 ∧ sd v = S (10 + 3 * v + 1) ∧ sb v = S (10 + 3 * v + 2) ∧ (0 ≤ (S (10 + 3 * v + 1)).toInt ∧ (S (10 + 3 * v + 1)).toInt ≤ 99) ∧ (-200 ≤ (S (10 + 3 * v + 2)).toInt ∧ (S (10 + 3 * v + 2)).toInt ≤ 200)) ∨ (S (10 + 3 * v) = 0 ∧ sd v = 100)
def RSur (c : Row) (S : Row) : Prop := ∀ k, k < 9 → c k = uc (S (20 + k)) ∧ (-1 ≤ (S (20 + k)).toInt ∧ (S (20 + k)).toInt ≤ 999)
def RCo (M : Mem) (S : Row) (co : Nat) : Prop := (∃ n, M co 9 = nI n ∧ RMarks (fun i => M (co + 8 + i)) S n ∧ ∃ nc cs, RCho (M (co + 2)) (M (co + 3)) S n nc cs) ∧ (∃ t, M co 10 = nI t ∧ RTexts (fun j => M (19 + 2 * j)) (fun j => M (20 + 2 * j)) S t) ∧ (∃ np, M co 11 = nI np ∧ RPass (M (co + 4)) S np) ∧ RSet (M (co + 5)) (M (co + 6)) S ∧ RSur (M (co + 7)) S ∧ M co 12 = S 4
def RTape (c d : Row) (x y : Int32) : Prop := ∃ n, n ≤ 96 ∧ x = nI n ∧ y = nI n ∧ ∀ i, i < n → c i = d i ∧ (0 ≤ (d i).toInt ∧ (d i).toInt ≤ 255)
def RShe (M : Mem) (so sz nm : Row) : Prop := ∀ k, k < 4 → M (112 + 2 * k) 0 = so k ∧ M (112 + 2 * k) 1 = sz k ∧ (-1 ≤ (so k).toInt ∧ (so k).toInt ≤ 1) ∧ (∃ n, n ≤ 24 ∧ sz k = nI n) ∧ ∀ i, i < 24 → M (113 + 2 * k) i = nm (24 * k + i)
def RSlo (M : Mem) (ha nu so sz ro : Row) : Prop := ∀ k, k < 5 → M (120 + 3 * k) 0 = ha k ∧ (0 ≤ (ha k).toInt ∧ (ha k).toInt ≤ 3) ∧ (ha k = 1 → M (120 + 3 * k) 1 = nu k ∧ (0 ≤ (nu k).toInt ∧ (nu k).toInt ≤ 7)) ∧ (ha k = 3 → M (120 + 3 * k) 2 = nu k) ∧ (ha k = 2 → M (121 + 3 * k) 0 = so k ∧ M (121 + 3 * k) 1 = sz k ∧ (∃ n, n ≤ 24 ∧ sz k = nI n) ∧ ∀ i, i < 24 → M (122 + 3 * k) i = ro (24 * k + i))
def RWai (c d : Row) (x y : Int32) : Prop := ∃ n, n ≤ 60 ∧ x = nI n ∧ y = nI n ∧ ∀ i, i < n → c i = d i
def RImg (M N : Mem) : Prop := M 0 11 = N 0 3 ∧ (N 0 3 = 0 ∨ (N 0 3 = 1 ∧ RCo M (N 2) 80 ∧ (N 2 1).toInt ≤ (N 1 1).toInt))
def Rel (M N : Mem) : Prop := RCo M (N 1) 48 ∧ RImg M N ∧ RTape (M 2) (N 12) (M 1 1) (N 0 13) ∧ RShe M (N 4) (N 5) (N 6) ∧ RSlo M (N 7) (N 8) (N 9) (N 10) (N 11) ∧ RWai (M 17) (N 22) (M 0 10) (N 0 45)
/-! FRAMES -/
/-- cells of the class that only serve a call -/
def SC (M M' : Mem) : Prop := ∀ x, (x < 3 ∨ (14 ≤ x ∧ x ≠ 16 ∧ x ≠ 47)) → M' x = M x
def SM (N N' : Mem) : Prop := (∀ x, (1 ≤ x ∧ x ≤ 12 ∧ x ≠ 3) ∨ x = 22 → N' x = N x) ∧ N' 0 3 = N 0 3 ∧ N' 0 13 = N 0 13 ∧ N' 0 45 = N 0 45
theorem SC.rf (M : Mem) : SC M M := fun _ _ => rfl
theorem SC.tr {M M' M'' : Mem} (h : SC M M') (h' : SC M' M'') : SC M M'' := fun x hx => (h' x hx).trans (h x hx)
theorem SM.rf (M : Mem) : SM M M := ⟨fun _ _ => rfl, rfl, rfl, rfl⟩
theorem SM.tr {M M' M'' : Mem} (h : SM M M') (h' : SM M' M'') : SM M M'' := ⟨fun x hx => (h'.1 x hx).trans (h.1 x hx), h'.2.1.trans h.2.1, h'.2.2.1.trans h.2.2.1, h'.2.2.2.trans h.2.2.2⟩
theorem SC.set {M M' : Mem} (h : SC M M') {a k : Nat} {v : Int32} (ha : 3 ≤ a ∧ (a < 14 ∨ a = 16 ∨ a = 47)) : SC M (mset M' a k v) := fun x hx => by
  rw [mset_ne (by omega)]
  exact h x hx
theorem SM.set {M M' : Mem} (h : SM M M') {a k : Nat} {v : Int32} (ha : a = 3 ∨ (13 ≤ a ∧ a ≠ 22)) : SM M (mset M' a k v) := ⟨fun x hx => by rw [mset_ne (by omega)]; exact h.1 x hx, by rw [mset_ne (by omega)]; exact h.2.1, by rw [mset_ne (by omega)]; exact h.2.2.1, by rw [mset_ne (by omega)]; exact h.2.2.2⟩
theorem mset_k {M : Mem} {a k : Nat} {v : Int32} {x j : Nat} (h : j ≠ k) : mset M a k v x j = M x j := by
  simp [mset, h]
theorem mset_at (M : Mem) (a k : Nat) (v : Int32) : mset M a k v a k = v := by
  simp [mset]
theorem SM.set0 {M M' : Mem} (h : SM M M') {k : Nat} {v : Int32} (hk : k ≠ 3 ∧ k ≠ 13 ∧ k ≠ 45) : SM M (mset M' 0 k v) := ⟨fun x hx => by rw [mset_ne (by omega)]; exact h.1 x hx, by rw [mset_k (by omega)]; exact h.2.1, by rw [mset_k (by omega)]; exact h.2.2.1, by rw [mset_k (by omega)]; exact h.2.2.2⟩
theorem RMarks.cg {mk mk' : Nat → Row} {S : Row} {n : Nat} (h : RMarks mk S n) (e : ∀ i, i < n → mk' i = mk i) : RMarks mk' S n := ⟨h.1, h.2.1, fun i hi => ⟨(h.2.2 i hi).1, by rw [e i hi]; exact (h.2.2 i hi).2⟩⟩
theorem RTexts.cg {tx tx' cd cd' : Nat → Row} {S : Row} {t : Nat} (h : RTexts tx cd S t) (e : ∀ i, i < t → tx' i = tx i ∧ cd' i = cd i) : RTexts tx' cd' S t := ⟨h.1, h.2.1, fun i hi => ⟨(h.2.2 i hi).1, by rw [(e i hi).1, (e i hi).2]; exact (h.2.2 i hi).2⟩⟩
theorem RCo.cg {M M' : Mem} {S : Row} {co : Nat} (h : RCo M S co) (e : M' co = M co) (e1 : ∀ x, co + 2 ≤ x → x < co + 32 → M' x = M x) (e2 : ∀ x, 19 ≤ x → x < 47 → M' x = M x) : RCo M' S co := by
  obtain ⟨⟨n, h1, h2, nc, cs, h3⟩, ⟨t, h4, h5⟩, ⟨np, h6, h7⟩, h8, h9, h10⟩ := h
  have hn := h2.1
  have htt := h5.1
  refine ⟨⟨n, by rw [e]; exact h1, h2.cg (fun i hi => e1 _ (by omega) (by omega)), nc, cs, ?_⟩, ⟨t, by rw [e]; exact h4, h5.cg (fun j hj => ⟨e2 _ (by omega) (by omega), e2 _ (by omega) (by omega)⟩)⟩, ⟨np, by rw [e]; exact h6, ?_⟩, ?_, ?_, by rw [e]; exact h10⟩
  · rw [e1 (co + 2) (by omega) (by omega), e1 (co + 3) (by omega) (by omega)]; exact h3
  · rw [e1 (co + 4) (by omega) (by omega)]; exact h7
  · rw [e1 (co + 5) (by omega) (by omega), e1 (co + 6) (by omega) (by omega)]; exact h8
  · rw [e1 (co + 7) (by omega) (by omega)]; exact h9
theorem RShe.cg {M M' : Mem} {a b c : Row} (h : RShe M a b c) (e : ∀ x, 112 ≤ x → x < 120 → M' x = M x) : RShe M' a b c := fun k hk => by
  rw [e (112 + 2 * k) (by omega) (by omega), e (113 + 2 * k) (by omega) (by omega)]
  exact h k hk
theorem RSlo.cg {M M' : Mem} {a b c d f : Row} (h : RSlo M a b c d f) (e : ∀ x, 120 ≤ x → x < 135 → M' x = M x) : RSlo M' a b c d f := fun k hk => by
  rw [e (120 + 3 * k) (by omega) (by omega), e (121 + 3 * k) (by omega) (by omega), e (122 + 3 * k) (by omega) (by omega)]
  exact h k hk
theorem Rel.scr {M M' N N' : Mem} (h : Rel M N) (hc : SC M M') (hm : SM N N') : Rel M' N' := by
  obtain ⟨h1, ⟨h2, h3⟩, h4, h5, h6, h7⟩ := h
  have c0 := hc 0 (by omega)
  have c1 := hc 1 (by omega)
  have c2 := hc 2 (by omega)
  have m1 := hm.1 1 (by omega)
  have m2 := hm.1 2 (by omega)
  refine ⟨?_, ⟨by rw [c0, hm.2.1]; exact h2, ?_⟩, ?_, ?_, ?_, ?_⟩
  · rw [m1]
    exact h1.cg (hc _ (by omega)) (fun x _ _ => hc x (by omega)) (fun x _ _ => hc x (by omega))
  · rw [hm.2.1, m1, m2]
    rcases h3 with h3 | ⟨h3, h3', h3''⟩
    · exact Or.inl h3
    · exact Or.inr ⟨h3, h3'.cg (hc _ (by omega)) (fun x _ _ => hc x (by omega)) (fun x _ _ => hc x (by omega)), h3''⟩
  · rw [c2, c1, hm.1 12 (by omega), hm.2.2.1]; exact h4
  · rw [hm.1 4 (by omega), hm.1 5 (by omega), hm.1 6 (by omega)]; exact h5.cg (fun x _ _ => hc x (by omega))
  · rw [hm.1 7 (by omega), hm.1 8 (by omega), hm.1 9 (by omega), hm.1 10 (by omega), hm.1 11 (by omega)]; exact h6.cg (fun x _ _ => hc x (by omega))
  · rw [hc 17 (by omega), c0, hm.1 22 (by omega), hm.2.2.2]; exact h7
/-- both answer alike, and the relation holds again -/
def Eqv (F G : Option (Int32 × Mem)) : Prop := ∃ v M' N', F = some (v, M') ∧ G = some (v, N') ∧ Rel M' N'
/-! WHERE THINGS ARE -/
theorem rf_co : ∀ co, co = 48 ∨ co = 80 → rfC co 0 = co + 1 ∧ rfC co 1 = 18 ∧ rfC co 2 = 47 ∧ rfC co 3 = co + 2 ∧ rfC co 4 = co + 3 ∧ rfC co 5 = co + 4 ∧ rfC co 6 = co + 5 ∧ rfC co 7 = co + 6 ∧ rfC co 8 = co + 7 := by
  intro co h
  rcases h with rfl | rfl <;> decide +kernel
theorem rf_mk0 : ∀ i, i < 24 → rfC 49 i = 56 + i ∧ rfC 81 i = 88 + i := by decide +kernel
theorem rf_mk {co : Nat} (h : co = 48 ∨ co = 80) {i : Nat} (hi : i < 24) : rfC (co + 1) i = co + 8 + i := by
  rcases h with rfl | rfl
  · exact (rf_mk0 i hi).1
  · exact (rf_mk0 i hi).2
theorem rf_tx : ∀ j, j < 14 → rfC 18 j = 19 + 2 * j ∧ rfC (19 + 2 * j) 4 = 20 + 2 * j := by decide +kernel
theorem rf_sh : ∀ k, k < 4 → rfC 14 k = 112 + 2 * k ∧ rfC (112 + 2 * k) 2 = 113 + 2 * k := by decide +kernel
theorem rf_sl : ∀ k, k < 5 → rfC 15 k = 120 + 3 * k ∧ rfC (120 + 3 * k) 3 = 121 + 3 * k ∧ rfC (121 + 3 * k) 2 = 122 + 3 * k := by decide +kernel
