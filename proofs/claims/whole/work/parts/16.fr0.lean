/-! Frames: which regions a method may write. -/
def zFr (W V : Nat → Prop) (μ : zI) (ν : zJ) (μ' : zI) (ν' : zJ) : Prop := (∀ r, ¬ W r → μ' r = μ r) ∧ ∀ r, ¬ V r → ν' r = ν r
theorem zFr.rf (W V : Nat → Prop) (μ : zI) (ν : zJ) : zFr W V μ ν μ ν := ⟨fun _ _ => rfl, fun _ _ => rfl⟩
theorem zFr.put {W V : Nat → Prop} {μ μ1 μ2 : zI} {ν ν1 : zJ} (h : zFr W V μ ν μ1 ν1) {r k : Nat} {v : Int32} (hr : W r) (e : zu μ1 r k v = μ2) : zFr W V μ ν μ2 ν1 := ⟨fun q hq => by
  have hn : q ≠ r := fun x => hq (by rw [x]; exact hr)
  rw [← e, zu_off μ1 r k v hn]
  exact h.1 q hq, h.2⟩
theorem zFr.putl {W V : Nat → Prop} {μ μ1 : zI} {ν ν1 ν2 : zJ} (h : zFr W V μ ν μ1 ν1) {r k : Nat} {v : Int64} (hr : V r) (e : zul ν1 r k v = ν2) : zFr W V μ ν μ1 ν2 := ⟨h.1, fun q hq => by
  have hn : q ≠ r := fun x => hq (by rw [x]; exact hr)
  rw [← e, zul_off ν1 r k v hn]
  exact h.2 q hq⟩
theorem zFr.row {W V : Nat → Prop} {μ μ1 μ2 : zI} {ν ν1 : zJ} (h : zFr W V μ ν μ1 ν1) {r : Nat} {f : Nat → Int32} (hr : W r) (e : zr μ1 r f = μ2) : zFr W V μ ν μ2 ν1 := ⟨fun q hq => by
  have hn : ¬ q = r := fun x => hq (by rw [x]; exact hr)
  rw [← e, zr_eq, if_neg hn]
  exact h.1 q hq, h.2⟩
theorem zFr.rowl {W V : Nat → Prop} {μ μ1 : zI} {ν ν1 ν2 : zJ} (h : zFr W V μ ν μ1 ν1) {r : Nat} {f : Nat → Int64} (hr : V r) (e : zrl ν1 r f = ν2) : zFr W V μ ν μ1 ν2 := ⟨h.1, fun q hq => by
  have hn : ¬ q = r := fun x => hq (by rw [x]; exact hr)
  rw [← e, zrl_eq, if_neg hn]
  exact h.2 q hq⟩
theorem zFr.tr {W V W1 V1 : Nat → Prop} {μ μ1 μ2 : zI} {ν ν1 ν2 : zJ} (h : zFr W V μ ν μ1 ν1) (h1 : zFr W1 V1 μ1 ν1 μ2 ν2) (hW : ∀ r, W1 r → W r) (hV : ∀ r, V1 r → V r) : zFr W V μ ν μ2 ν2 := ⟨fun q hq => (h1.1 q (fun x => hq (hW q x))).trans (h.1 q hq), fun q hq => (h1.2 q (fun x => hq (hV q x))).trans (h.2 q hq)⟩
/-- who writes nothing -/
theorem zFr.eq {μ μ1 : zI} {ν ν1 : zJ} (h : zFr (fun _ => False) (fun _ => False) μ ν μ1 ν1) : μ1 = μ ∧ ν1 = ν := ⟨funext fun r => h.1 r (fun x => x), funext fun r => h.2 r (fun x => x)⟩
theorem fr_M_freshText {q : Nat} {μ : zI} {ν : zJ} {out : zI × zJ} (hE : E_M_freshText q μ ν = some out) : zFr (fun r => (q ≤ r ∧ r < q + 12)) (fun _ => False) μ ν out.1 out.2 := by
  cases hE
  refine ⟨fun r hr => ?_, fun _ _ => rfl⟩
  funext k
  dsimp only at hr
  have h1 : ¬ r = q + 2 := by omega
  have h2 : ¬ r = q + 3 := by omega
  have h3 : ¬ r = q := by omega
  simp [frM, h1, h2, h3]
