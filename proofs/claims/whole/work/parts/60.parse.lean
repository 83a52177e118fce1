/-! READING A TEXT: states -/
theorem Tk.bf {T : Row} {b e : Nat} {M N : Mem} (h : Tk T b e M N) (h3 : M 1 3 = nI e) (h15 : N 0 15 = nI e) : Bf e M N := by
  refine ⟨h3, h15, ?_⟩
  rcases h with h | h | h | h | h
  · exact Or.inr ⟨by rw [h.1]; decide, by rw [h.1]; decide, by rw [h.2]; decide, by rw [h.2]; decide⟩
  · exact Or.inl ⟨by omega, Or.inr ⟨h.2.1, h.2.2.1⟩⟩
  · exact Or.inl ⟨by omega, Or.inl ⟨h.2.1, h.2.2.1⟩⟩
  · exact Or.inr ⟨by rw [h.2.1]; decide, by rw [h.2.1]; decide, by rw [h.2.2.1]; decide, by rw [h.2.2.1]; decide⟩
  · exact Or.inr ⟨by rw [h.1]; decide, by rw [h.1]; decide, by rw [h.2]; decide, by rw [h.2]; decide⟩
def Cd (A l h : Nat) (M N : Mem) : Prop := (∀ p, p < l → M 3 p = codeOf (N 1 (A + 2 * p)) (N 1 (A + 2 * p + 1))) ∧ ∃ D : Nat → Nat, D 0 = 0 ∧ D l = h ∧ ∀ p, p < l → stepOk (N 1 (A + 2 * p)) (N 1 (A + 2 * p + 1)) (D p) (D (p + 1))
theorem Cd.cg {A l h : Nat} {M N M' N' : Mem} (c : Cd A l h M N) (a : M' 3 = M 3) (b : N' 1 = N 1) : Cd A l h M' N' := by
  unfold Cd
  rw [a, b]
  exact c
theorem Cd.add {A l h h' : Nat} {M N M' N' : Mem} {w v : Int32} (c : Cd A l h M N) (s : stepOk w v h h') (m : ∀ p, p < l → M' 3 p = M 3 p) (ml : M' 3 l = codeOf w v) (n : ∀ p, p < A + 2 * l → N' 1 p = N 1 p) (n0 : N' 1 (A + 2 * l) = w) (n1 : N' 1 (A + 2 * l + 1) = v) : Cd A (l + 1) h' M' N' := by
  obtain ⟨c1, D, d0, dl, ds⟩ := c
  refine ⟨fun p hp => ?_, fun p => if p ≤ l then D p else h', (if_pos (Nat.zero_le l)).trans d0, if_neg (show ¬ l + 1 ≤ l by omega), fun p hp => ?_⟩
  · by_cases q : p = l
    · subst q
      rw [ml, n0, n1]
    · rw [m p (by omega), n _ (by omega), n _ (by omega)]
      exact c1 p (by omega)
  · by_cases q : p = l
    · subst q
      show stepOk _ _ (if p ≤ p then D p else h') (if p + 1 ≤ p then D (p + 1) else h')
      rw [n0, n1, if_pos (Nat.le_refl _), if_neg (by omega), dl]
      exact s
    · show stepOk _ _ (if p ≤ l then D p else h') (if p + 1 ≤ l then D (p + 1) else h')
      rw [if_pos (by omega), if_pos (by omega), n _ (by omega), n _ (by omega)]
      exact ds p (by omega)
def Fc (M M' : Mem) : Prop := (∀ x, x ≠ 1 → x ≠ 3 → M' x = M x) ∧ M' 1 1 = M 1 1 ∧ M' 1 6 = M 1 6 ∧ M' 1 7 = M 1 7
def Fm (A : Nat) (N N' : Mem) : Prop := (∀ x, x ≠ 0 → x ≠ 1 → N' x = N x) ∧ (∀ k, (k < 14 ∨ 23 < k) → N' 0 k = N 0 k) ∧ ∀ j, (j < A ∨ A + 192 ≤ j) → N' 1 j = N 1 j
theorem Fc.rf (M : Mem) : Fc M M := ⟨fun _ _ _ => rfl, rfl, rfl, rfl⟩
theorem Fm.rf (A : Nat) (M : Mem) : Fm A M M := ⟨fun _ _ _ => rfl, fun _ _ => rfl, fun _ _ => rfl⟩
theorem Fc.tr {M M' M'' : Mem} (h : Fc M M') (g : Fc M' M'') : Fc M M'' := ⟨fun x a b => (g.1 x a b).trans (h.1 x a b), g.2.1.trans h.2.1, g.2.2.1.trans h.2.2.1, g.2.2.2.trans h.2.2.2⟩
theorem Fm.tr {A : Nat} {M M' M'' : Mem} (h : Fm A M M') (g : Fm A M' M'') : Fm A M M'' := ⟨fun x a b => (g.1 x a b).trans (h.1 x a b), fun k a => (g.2.1 k a).trans (h.2.1 k a), fun j a => (g.2.2 j a).trans (h.2.2 j a)⟩
/-- what stands beside the word at hand -/
def Pr (T : Row) (L A kv l h br nt : Nat) (M N : Mem) : Prop := Tp T L M N ∧ (br ≤ 8 ∧ nt ≤ 8 ∧ A ≤ 3100) ∧ (M 1 9 = nI l ∧ N 0 21 = nI l ∧ N 0 22 = nI A) ∧ (M 1 10 = nI br ∧ N 0 19 = nI br ∧ M 1 11 = nI nt ∧ N 0 20 = nI nt) ∧ M 1 8 = N 0 23 ∧ M 1 6 = nI (kv / 3) ∧ Cd A l h M N
def Ps (T : Row) (L A kv b e l h br nt : Nat) (M N : Mem) : Prop := Pr T L A kv l h br nt M N ∧ (b ≤ e ∧ e ≤ L ∧ l ≤ b) ∧ (M 1 2 = nI b ∧ N 0 14 = nI b ∧ M 1 3 = nI e ∧ N 0 15 = nI e) ∧ Tk T b e M N
theorem adv {T : Row} {L A kv e l h br nt : Nat} {M N : Mem} (p : Pr T L A kv l h br nt M N) (he : e ≤ L) (hl : l ≤ e) (hB : Bf e M N) : ∃ M' N' b' e', f_X4_step M = some (0, M') ∧ f_X10_goesOn N = some (0, N') ∧ e ≤ b' ∧ Ps T L A kv b' e' l h br nt M' N' ∧ Fc M M' ∧ Fm A N N' := by
  obtain ⟨hT, p1, p2, p3, p4, p5, p6⟩ := p
  obtain ⟨M', N', b', e', a1, a2, a3, a4, a5, a6, a7, a8, a9, a10, a11, a12, a13, a14⟩ := stp_eq hT he hB
  have mk : ∀ k, 6 ≤ k → M' 1 k = M 1 k := fun k hk => a12 k (by omega) (by omega) (by omega) (by omega)
  have nk : ∀ k, 18 < k → N' 0 k = N 0 k := fun k hk => a14 k (by omega)
  refine ⟨M', N', b', e', a1, a2, a3, ⟨⟨hT.cg (a12 1 (by omega) (by omega) (by omega) (by omega)) (a11 2 (by omega)) (a14 13 (by omega)) (a13 12 (by omega)), p1, ?_, ?_, ?_, ?_, p6.cg (a11 3 (by omega)) (a13 1 (by omega))⟩, ⟨a4, a5, by omega⟩, ⟨a6, a7, a8, a9⟩, a10⟩, ⟨fun x x1 x3 => a11 x x1, a12 1 (by omega) (by omega) (by omega) (by omega), mk 6 (by omega), mk 7 (by omega)⟩, ⟨fun x x0 x1 => a13 x x0, fun k hk => a14 k (by omega), fun j _ => by rw [a13 1 (by omega)]⟩⟩
  · rw [mk 9 (by omega), nk 21 (by omega), nk 22 (by omega)]; exact p2
  · rw [mk 10 (by omega), mk 11 (by omega), nk 19 (by omega), nk 20 (by omega)]; exact p3
  · rw [mk 8 (by omega), nk 23 (by omega)]; exact p4
  · rw [mk 6 (by omega)]; exact p5
theorem emit_eq {M : Mem} {l : Nat} (hl : l < 96) (e : M 1 9 = nI l) (v : Int32) : f_X4_emit v M = some (0, mset (mset M 1 9 (nI (l + 1))) 3 l v) := by
  unfold f_X4_emit f_X4_emit_b0
  rw [e, if_neg (show ¬ (96 : Int32) ≤ nI l from nI_ge (a := l) (b := 96) hl (by omega)), if_pos (ixb_t hl (by omega)), ix_nI (by omega), nI_1]
theorem emitF {M : Mem} (h : ∃ l, l ≤ 96 ∧ M 1 9 = nI l) (v : Int32) : ∃ M', f_X4_emit v M = some (0, M') ∧ M' 1 2 = M 1 2 ∧ (∃ l, l ≤ 96 ∧ M' 1 9 = nI l) ∧ Fc M M' := by
  obtain ⟨l, h1, h2⟩ := h
  by_cases q : l < 96
  · refine ⟨_, emit_eq q h2 v, by rw [mset_ne (by omega), mset_k (by omega)], ⟨l + 1, by omega, by rw [mset_ne (by omega), mset_at]⟩, fun x x1 x3 => by rw [mset_ne x3, mset_ne x1], by rw [mset_ne (by omega), mset_k (by omega)], by rw [mset_ne (by omega), mset_k (by omega)], by rw [mset_ne (by omega), mset_k (by omega)]⟩
  · unfold f_X4_emit f_X4_emit_b0
    rw [h2, if_pos (show (96 : Int32) ≤ nI l from nI_le (a := 96) (by omega) (by omega))]
    exact ⟨M, rfl, rfl, ⟨l, h1, h2⟩, Fc.rf M⟩
theorem lay_eq {N : Mem} {A l : Nat} (hA : A ≤ 3100) (hl : l < 96) (e1 : N 0 22 = nI A) (e2 : N 0 21 = nI l) (w v : Int32) : f_X10_step w v N = some (0, mset (mset (mset N 1 (A + 2 * l) w) 1 (A + 2 * l + 1) v) 0 21 (nI (l + 1))) := by
  unfold f_X10_step f_X10_step_b0
  have e : nI A + (2 : Int32) * nI l = nI (A + 2 * l) := by rw [show (2 : Int32) = nI 2 from rfl, nI_mul, nI_add]
  rw [e1, e2, e, if_pos (ixb_t (by omega) (by omega)), ix_nI (by omega), f_X10_step_bc34_1, mset_ne (show (0 : Nat) ≠ 1 by omega), e1, e2, e, nI_1, if_pos (ixb_t (show A + 2 * l + 1 < 3300 by omega) (by omega)), ix_nI (by omega), mset_ne (show (0 : Nat) ≠ 1 by omega), mset_ne (show (0 : Nat) ≠ 1 by omega), e2, nI_1]
/-- one more step is laid by both -/
theorem Pr.put {T : Row} {L A kv l h h' br nt : Nat} {M N : Mem} (p : Pr T L A kv l h br nt M N) (hl : l < 96) {w v x : Int32} (hx : x = codeOf w v) (s : stepOk w v h h') : ∃ M' N', f_X4_emit x M = some (0, M') ∧ f_X10_step w v N = some (0, N') ∧ Pr T L A kv (l + 1) h' br nt M' N' ∧ Fc M M' ∧ Fm A N N' ∧ (∀ k, k ≠ 9 → M' 1 k = M 1 k) ∧ ∀ k, k ≠ 21 → N' 0 k = N 0 k := by
  obtain ⟨hT, p1, p2, p3, p4, p5, p6⟩ := p
  have mk : ∀ k, k ≠ 9 → mset (mset M 1 9 (nI (l + 1))) 3 l x 1 k = M 1 k := fun k hk => by rw [mset_ne (by omega), mset_k hk]
  have nk : ∀ k, k ≠ 21 → mset (mset (mset N 1 (A + 2 * l) w) 1 (A + 2 * l + 1) v) 0 21 (nI (l + 1)) 0 k = N 0 k := fun k hk => by rw [mset_k hk, mset_ne (by omega), mset_ne (by omega)]
  refine ⟨_, _, emit_eq hl p2.1 x, lay_eq p1.2.2 hl p2.2.2 p2.2.1 w v, ⟨hT.cg (mk 1 (by omega)) (by rw [mset_ne (by omega), mset_ne (by omega)]) (nk 13 (by omega)) (by rw [mset_ne (by omega), mset_ne (by omega), mset_ne (by omega)]), p1, ⟨by rw [mset_ne (by omega), mset_at], by rw [mset_at], by rw [nk 22 (by omega)]; exact p2.2.2⟩, ?_, ?_, ?_, p6.add (w := w) (v := v) s (fun q hq => by rw [mset_k (by omega), mset_ne (by omega)]) (by rw [mset_at, hx]) (fun q hq => by rw [mset_ne (by omega), mset_k (by omega), mset_k (by omega)]) (by rw [mset_ne (by omega), mset_k (by omega), mset_at]) (by rw [mset_ne (by omega), mset_at])⟩, ⟨fun y y1 y3 => by rw [mset_ne y3, mset_ne y1], mk 1 (by omega), mk 6 (by omega), mk 7 (by omega)⟩, ⟨fun y y0 y1 => by rw [mset_ne y0, mset_ne y1, mset_ne y1], fun k hk => nk k (by omega), fun j hj => by rw [mset_ne (by omega), mset_k (by omega), mset_k (by omega)]⟩, mk, nk⟩
  · rw [mk 10 (by omega), mk 11 (by omega), nk 19 (by omega), nk 20 (by omega)]; exact p3
  · rw [mk 8 (by omega), nk 23 (by omega)]; exact p4
  · rw [mk 6 (by omega)]; exact p5
theorem Tk.cg {T : Row} {b e : Nat} {M N M' N' : Mem} (h : Tk T b e M N) (a : M' 1 4 = M 1 4) (a' : M' 1 5 = M 1 5) (c : N' 0 16 = N 0 16) (c' : N' 0 17 = N 0 17) (c'' : N' 0 18 = N 0 18) : Tk T b e M' N' := by
  unfold Tk
  rw [a, a', c, c', c'']
  exact h
/-- it went wrong, at the same place -/
def Pf (A : Nat) (M N M' N' : Mem) : Prop := M' 1 2 = N' 0 14 ∧ (∃ l, l ≤ 96 ∧ M' 1 9 = nI l) ∧ Fc M M' ∧ Fm A N N'
theorem Ps.pf {T : Row} {L A kv b e l h br nt : Nat} {M N : Mem} (p : Ps T L A kv b e l h br nt M N) : Pf A M N M N := ⟨by rw [p.2.2.1.1, p.2.2.1.2.1], ⟨l, by have := p.1.1.1; have := p.2.1; omega, p.1.2.2.1.1⟩, Fc.rf M, Fm.rf A N⟩
/-- both read alike -/
def Rd (T : Row) (L A kv b l h br nt : Nat) (M N : Mem) (x y : Option (Int32 × Mem)) (lo : Nat) : Prop := (∃ M' N' b' e' l', x = some (1, M') ∧ y = some (1, N') ∧ b + lo ≤ b' ∧ l' ≤ l + (b' - b) ∧ Ps T L A kv b' e' l' h br nt M' N' ∧ Fc M M' ∧ Fm A N N') ∨ ∃ M' N', x = some (0, M') ∧ y = some (0, N') ∧ Pf A M N M' N'
def PEq (T : Row) (L A kv : Nat) (F G : Mem → Option (Int32 × Mem)) (br nt : Nat) : Prop := ∀ b e l h M N, Ps T L A kv b e l h br nt M N → Rd T L A kv b l (h + 1) br nt M N (F M) (G N) 1
theorem isSign_eq (c : Int32) (N : Mem) : f_X10_isSign c N = some (b2i (N 0 16 = 3 ∧ N 0 18 = c), N) := by
  unfold f_X10_isSign f_X10_isSign_b0 b2i
  by_cases h1 : N 0 16 = 3
  · rw [if_pos h1]
    by_cases h2 : N 0 18 = c
    · rw [if_pos h2, if_pos ⟨h1, h2⟩]
    · rw [if_neg h2, if_neg (fun z => h2 z.2)]
  · rw [if_neg h1, if_neg (fun z => h1 z.1)]
/-- a word is spelt so -/
def spP (k : Nat) (T : Row) (b e : Nat) : Prop := e = b + strL.getD k 0 ∧ ∀ i, i < strL.getD k 0 → T (b + i) = (strB.getD k []).getD i 0
theorem spelt_eq {T : Row} {L b e k : Nat} {M N : Mem} (hT : Tp T L M N) (hk : k < 6) (m2 : M 1 2 = nI b) (m3 : M 1 3 = nI e) (hbe : b ≤ e) (heL : e ≤ L) : ∃ r, f_X4_isSpelt k M = some (r, M) ∧ (r = 0 ↔ ¬ (M 1 4 = 2 ∧ spP k T b e)) := by
  have hL := hT.1
  have hlen : ∀ k, k < 6 → strL.getD k 0 ≤ 6 := by decide
  have h6 := hlen k hk
  have len : ∀ M : Mem, f_strlen k M = some (nI (strL.getD k 0), M) := fun M => if_pos hk
  unfold f_X4_isSpelt f_X4_isSpelt_b0
  by_cases q : M 1 4 = 2
  rotate_left
  · rw [if_neg q]
    exact ⟨0, rfl, ⟨fun _ z => q z.1, fun _ => rfl⟩⟩
  rw [if_pos q, len M, bsm, m2, m3, show nI e - nI b = nI (e - b) from pk_sub hbe]
  by_cases q2 : e - b = strL.getD k 0
  rotate_left
  · rw [if_neg (nI_ne (by omega) (by omega) q2)]
    exact ⟨0, rfl, ⟨fun _ z => q2 (by have := z.2.1; omega), fun _ => rfl⟩⟩
  rw [if_pos (by rw [q2])]
  have key : ∀ (r fuel i : Nat), i + r = strL.getD k 0 → r < fuel → (∀ j, j < i → T (b + j) = (strB.getD k []).getD j 0) → ∃ z, f_X4_isSpelt_b28 fuel k (nI i) M = some (z, M) ∧ (z = 0 ↔ ¬ (M 1 4 = 2 ∧ spP k T b e)) := by
    intro r
    induction r with
    | zero =>
      intro fuel i hi hf g
      obtain ⟨f, rfl⟩ : ∃ f, fuel = f + 1 := ⟨fuel - 1, by omega⟩
      have : i = strL.getD k 0 := by omega
      rw [f_X4_isSpelt_b28, len M, bsm]
      dsimp only
      rw [if_pos (nI_le (by omega) (by omega))]
      exact ⟨1, rfl, ⟨fun z => absurd z (by decide), fun z => absurd ⟨q, by omega, by rw [← this]; exact g⟩ z⟩⟩
    | succ r ih =>
      intro fuel i hi hf g
      obtain ⟨f, rfl⟩ : ∃ f, fuel = f + 1 := ⟨fuel - 1, by omega⟩
      have ch : ∀ M : Mem, f_strchar k (nI i) M = some ((strB.getD k []).getD i 0, M) := fun M => by
        unfold f_strchar
        rw [if_pos ⟨hk, ixb_t (by omega) (by omega)⟩, ix_nI (by omega)]
      rw [f_X4_isSpelt_b28, len M, bsm]
      simp only [m2, nI_add]
      rw [if_neg (nI_ge (by omega) (by omega)), if_pos (ixb_t (show b + i < 96 by omega) (by omega)), ch M, bsm, ix_nI (by omega), (hT.2.2.2 (b + i) (by omega)).1, nI_1]
      by_cases z : T (b + i) = (strB.getD k []).getD i 0
      · rw [if_pos z]
        exact ih f (i + 1) (by omega) (by omega) (fun j hj => by
          by_cases y : j = i
          · subst y; exact z
          · exact g j (by omega))
      · rw [if_neg z]
        exact ⟨0, rfl, ⟨fun _ y => z (y.2.2 i (by omega)), fun _ => rfl⟩⟩
  exact key _ FU 0 (by rw [Nat.zero_add]) (by unfold FU; omega) (fun j hj => by omega)
theorem sp1 {k : Nat} {c : Int32} (hk : (k = 3 ∧ c = 100) ∨ (k = 4 ∧ c = 97) ∨ (k = 5 ∧ c = 111)) (T : Row) (b e : Nat) : spP k T b e ↔ e = b + 1 ∧ T b = c := by
  have h : strL.getD k 0 = 1 ∧ (strB.getD k []).getD 0 0 = c := by
    rcases hk with ⟨rfl, rfl⟩ | ⟨rfl, rfl⟩ | ⟨rfl, rfl⟩ <;> decide
  unfold spP
  rw [h.1]
  constructor
  · rintro ⟨h1, h2⟩
    have := h2 0 (by omega)
    rw [h.2, Nat.add_zero] at this
    exact ⟨h1, this⟩
  · rintro ⟨h1, h2⟩
    refine ⟨h1, fun i hi => ?_⟩
    have : i = 0 := by omega
    subst this
    rw [h.2, Nat.add_zero]
    exact h2
