/-! One memory; the law's rules. -/
theorem RR.cg2 {q n c x : Nat} {μ μ' κ κ' : zI} {ν ν' τ τ' : zJ} (h : RR q n c x μ ν κ τ) (hm : ∀ r, r < 36 → μ' r = μ r) (hn : ν' (4 + 14) = ν (4 + 14)) (hκ : ∀ r, q ≤ r → r < q + 12 → κ' r = κ r) (hτ : τ' (q + 9) = τ (q + 9)) : RR q n c x μ' ν' κ' τ' := by
  obtain ⟨h1, h2, h3, h4, h5, h6, h7⟩ := h
  have k0 := hκ q (by omega) (by omega)
  have k1 := hκ (q + 1) (by omega) (by omega)
  have k4 := hκ (q + 4) (by omega) (by omega)
  have k5 := hκ (q + 5) (by omega) (by omega)
  have k7 := hκ (q + 7) (by omega) (by omega)
  have k11 := hκ (q + 11) (by omega) (by omega)
  refine ⟨h1.copy (fun j k hj _ _ => by rw [hm _ (by omega)]) (fun k _ => by rw [k7]) (by rw [k0]) k4 k5, ?_, ⟨fun k hk => ?_, ?_⟩, ?_, ?_, ?_, ?_⟩
  · unfold RLg
    rw [hm 34 (by omega), hm 35 (by omega), k0, k11]
    exact h2
  · rw [hn, hτ]; exact h3.1 k hk
  · rw [hτ, k7]; exact h3.2
  · rw [k0]; exact h4
  · rw [k7]; exact h5
  · unfold RTp
    rw [hm 1 (by omega), hm 2 (by omega), k0, k1]
    exact h6
  · unfold RRd
    rw [hm 3 (by omega), k0]
    exact h7
def R1 (μ : zI) (ν : zJ) : Prop := ∃ n c x, RR 36 n c x μ ν μ ν
theorem one {fS fM : zI → zJ → Option (Int32 × zI × zJ)} (hs : Sim 36 fS fM) {μ : zI} {ν : zJ} (h : R1 μ ν) (hf : ∀ out, fS μ ν = some out → ∀ r, 36 ≤ r → out.2.1 r = μ r ∧ out.2.2 r = ν r) (hg : ∀ μ ν out, fM μ ν = some out → ∀ r, r < 36 → out.2.1 r = μ r ∧ out.2.2 r = ν r) : ∃ r μ1 ν1 μ2 ν2, fS μ ν = some (r, μ1, ν1) ∧ fM μ1 ν1 = some (r, μ2, ν2) ∧ R1 μ2 ν2 := by
  obtain ⟨n, c, x, h⟩ := h
  obtain ⟨r, n1, c1, x1, μ1, ν1, κ1, τ1, e1, e2, h1⟩ := hs n c x μ ν μ ν h
  have f := hf _ e1
  obtain ⟨r', n2, c2, x2, μ3, ν3, μ2, ν2, e3, e4, h2⟩ := hs n c x μ ν μ1 ν1 (h.cg2 (fun _ _ => rfl) rfl (fun r a _ => (f r a).1) (f _ (by decide)).2)
  cases e1.symm.trans e3
  have g := hg _ _ _ e4
  exact ⟨r, μ1, ν1, μ2, ν2, e1, e4, n2, c2, x2, h2.cg2 (fun r a => (g r a).1) (g _ (by decide)).2 (fun _ _ _ => rfl) rfl⟩
theorem oneL {fS fM : zI → zJ → Option (Int64 × zI × zJ)} (hs : SimL 36 fS fM) {μ : zI} {ν : zJ} (h : R1 μ ν) (hf : ∀ out, fS μ ν = some out → ∀ r, 36 ≤ r → out.2.1 r = μ r ∧ out.2.2 r = ν r) (hg : ∀ μ ν out, fM μ ν = some out → ∀ r, r < 36 → out.2.1 r = μ r ∧ out.2.2 r = ν r) : ∃ r μ1 ν1 μ2 ν2, fS μ ν = some (r, μ1, ν1) ∧ fM μ1 ν1 = some (r, μ2, ν2) ∧ R1 μ2 ν2 := by
  obtain ⟨n, c, x, h⟩ := h
  obtain ⟨r, n1, c1, x1, μ1, ν1, κ1, τ1, e1, e2, h1⟩ := hs n c x μ ν μ ν h
  have f := hf _ e1
  obtain ⟨r', n2, c2, x2, μ3, ν3, μ2, ν2, e3, e4, h2⟩ := hs n c x μ ν μ1 ν1 (h.cg2 (fun _ _ => rfl) rfl (fun r a _ => (f r a).1) (f _ (by decide)).2)
  cases e1.symm.trans e3
  have g := hg _ _ _ e4
  exact ⟨r, μ1, ν1, μ2, ν2, e1, e4, n2, c2, x2, h2.cg2 (fun r a => (g r a).1) (g _ (by decide)).2 (fun _ _ _ => rfl) rfl⟩
theorem mdC_u {i w t v t' v' : Int32} {μ : zI} {ν : zJ} (h : mdC i w μ ν t v) (h' : mdC i w μ ν t' v') : t = t' ∧ (t = 0 → v = v') := by
  have n01 : ∀ {μ1 : zI} {ν1 : zJ}, E_S_isModule i μ ν = some (0, μ1, ν1) → E_S_isModule i μ ν = some (1, μ1, ν1) → False := fun a b => by
    have := congrArg (fun z => z.map Prod.fst) (a.symm.trans b)
    exact absurd (Option.some.inj this) (show ¬ (0 : Int32) = 1 by decide)
  rcases h with ⟨t1, a⟩ | ⟨t1, a, w0, w1, w2, w3⟩ | ⟨t1, a, b⟩ <;> rcases h' with ⟨t1', a'⟩ | ⟨t1', a', w0', w1', w2', w3'⟩ | ⟨t1', a', b'⟩
  · exact ⟨t1.trans t1'.symm, fun e => by rw [t1] at e; exact absurd e (by decide)⟩
  · exact (n01 a a').elim
  · exact (n01 a a').elim
  · exact (n01 a' a).elim
  · exact ⟨t1.trans t1'.symm, fun e => by rw [t1] at e; exact absurd e (by decide)⟩
  · exfalso
    rcases b' with ⟨e, -⟩ | ⟨e, -⟩ | ⟨e, -⟩ | ⟨e, -⟩
    · exact w0 e
    · exact w1 e
    · exact w2 e
    · exact w3 e
  · exact (n01 a' a).elim
  · exfalso
    rcases b with ⟨e, -⟩ | ⟨e, -⟩ | ⟨e, -⟩ | ⟨e, -⟩
    · exact w0' e
    · exact w1' e
    · exact w2' e
    · exact w3' e
  · refine ⟨t1.trans t1'.symm, fun _ => ?_⟩
    have inj : ∀ {o : Option (Int32 × zI × zJ)}, o = some (v, μ, ν) → o = some (v', μ, ν) → v = v' := fun p q => congrArg Prod.fst (Option.some.inj (p.symm.trans q))
    rcases b with ⟨e, b⟩ | ⟨e, b⟩ | ⟨e, b⟩ | ⟨e, b⟩ <;> rcases b' with ⟨e', b'⟩ | ⟨e', b'⟩ | ⟨e', b'⟩ | ⟨e', b'⟩ <;> first | exact inj b b' | exact absurd (e.symm.trans e') (by decide)
theorem oneMd {μ : zI} {ν : zJ} (i w : Int32) (h : R1 μ ν) : ∃ t v v' κ', mdC i w μ ν t v ∧ E_M_module 36 i w μ (mdN 48 t v ν) = some (v', κ', mdN 48 t v ν) ∧ κ' 36 0 = t ∧ (t = 0 → v = v') ∧ R1 κ' (mdN 48 t v ν) := by
  obtain ⟨n, c, x, h⟩ := h
  obtain ⟨t, v, κ0, m0, -, -, -⟩ := sim_module i w h
  obtain ⟨ν1, hν⟩ : ∃ ν1, ν1 = mdN 48 t v ν := ⟨_, rfl⟩
  have νr : ∀ r, r ≠ 48 → ν1 r = ν r := fun r a => by
    rw [hν, mdN]
    split
    · exact zlr a
    · rfl
  obtain ⟨t', v', κ', m1, e1, z1, h1⟩ := sim_module i w (h.cg2 (κ' := μ) (τ' := ν1) (fun _ _ => rfl) rfl (fun _ _ _ => rfl) (νr _ (by decide)))
  obtain ⟨rfl, hv⟩ := mdC_u m0 m1
  have g := fr_M_module e1
  refine ⟨t, v, v', κ', m0, by rw [← hν]; exact e1, z1, hv, n, c, x, ?_⟩
  rw [← hν]
  exact h1.cg2 (fun r a => g.1 r (by dsimp only; omega)) (νr _ (by decide)) (fun _ _ _ => rfl) rfl
/-! ## the law's rules -/
def XW (ad : Nat → Nat) (b N : Nat) (xs : Nat → Int32) (A : Nat → Prop) (U : State) : Prop := zX ad A U ∧ va_X b N xs U U.heap ∧ b < U.heap.size ∧ ¬ A b
section LR
variable {l : Launch} {D : va_G} {dA : Nat → ClassId} {ad : Nat → Nat} {sh : List zSE} {y : zM} {R : Room} {X : (Nat → Prop) → State → Prop} {Q : zPost} {mc ms cells slots : Nat} {pc : Nat} {L : List (Nat × Value)} {S : List Value} {μ : zI} {ν : zJ} {b N : Nat} {xs : Nat → Int32}
theorem z_sld {i : Int32} (hd : decode y.2.1 pc = .ok (.iaload, 1)) (hX : ∀ A s, X A s → va_X b N xs s s.heap ∧ b < s.heap.size ∧ ¬ A b) (hin : vp_in i N)
    (kk : Z l D dA ad sh y R X Q mc ms cells slots [] (pc + 1) L (.int (xs i.toNatClampNeg) :: S) μ ν) : Z l D dA ad sh y R X Q mc ms cells slots [] pc L (.int i :: .ref b :: S) μ ν :=
  Z.row (fun p e s m args below meth c H locs ls A Qs hx hb ht ho hX0 h1 k9 => va_sld hx hb (hX A s hX0).1 (hX A s hX0).2.1 (hX A s hX0).2.2 h1.1 hin hd k9) kk
theorem z_slen (hd : decode y.2.1 pc = .ok (.arraylength, 1)) (hX : ∀ A s, X A s → va_X b N xs s s.heap ∧ b < s.heap.size ∧ ¬ A b)
    (kk : Z l D dA ad sh y R X Q mc ms cells slots [] (pc + 1) L (.int (nI N) :: S) μ ν) : Z l D dA ad sh y R X Q mc ms cells slots [] pc L (.ref b :: S) μ ν :=
  Z.row (fun p e s m args below meth c H locs ls A Qs hx hb ht ho hX0 h1 k9 => va_slen hx hb (hX A s hX0).1 (hX A s hX0).2.1 (hX A s hX0).2.2 h1.1 hd k9) kk
end LR
/-- the loop's locals -/
def lw (ad : Nat → Nat) (b k : Nat) : List (Nat × Value) := [(4, .int (nI (6 * k))), (3, .ref (ad 48)), (2, .ref (ad 36)), (1, .ref (ad 0)), (0, .ref b)]
abbrev QW : zPost := fun r _ _ => r = some (.int 1)
section LA
variable {l : Launch} {D : va_G} {dA : Nat → ClassId} {ad : Nat → Nat} {sh : List zSE} {cells slots : Nat} {S : List Value} {μ : zI} {ν : zJ} {b N k : Nat} {xs : Nat → Int32}
theorem vp_in_n {i n : Nat} (h : i < n) (hn : n < 2 ^ 31) : vp_in (nI i) n := by
  rintro (h1 | h1)
  · exact absurd h1 (nI_pos (by omega))
  · rw [nI_clamp (by omega)] at h1
    omega
theorem la_arg {p j : Nat} {ji : Int} (d0 : decode m_law.2.1 p = .ok (.aload_n 0, 1)) (d1 : decode m_law.2.1 (p + 1) = .ok (.iload 4, 2)) (d3 : decode m_law.2.1 (p + 1 + 2) = .ok (.iconst ji, 1)) (d4 : decode m_law.2.1 (p + 1 + 2 + 1) = .ok (.iadd, 1)) (d5 : decode m_law.2.1 (p + 1 + 2 + 1 + 1) = .ok (.iaload, 1)) (hj : Int32.ofInt ji = nI j) (hk : 6 * k + j < N) (hN : N ≤ 3072)
    (kk : Z l D dA ad sh m_law room_1 (XW ad b N xs) QW 601024 7293034 cells slots [] (p + 1 + 2 + 1 + 1 + 1) (lw ad b k) (.int (xs (6 * k + j)) :: S) μ ν) : Z l D dA ad sh m_law room_1 (XW ad b N xs) QW 601024 7293034 cells slots [] p (lw ad b k) S μ ν := by
  refine z_aload_n d0 4 rfl rfl ?_
  refine z_iload d1 0 rfl ?_
  refine z_iconst d3 hj ?_
  refine z_iadd d4 ?_
  rw [nI_add]
  refine z_sld d5 (fun _ _ h => h.2) (vp_in_n hk (by omega)) ?_
  rw [nI_clamp (by omega)]
  exact kk
end LA
