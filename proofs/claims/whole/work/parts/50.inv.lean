/-! what holds between the calls -/
section INV
/-- a size as a number -/
abbrev zn (f : Nat → Int32) (m : Nat) : Nat := (f m).toNatClampNeg
/-- tree, records, media and entries; n nodes, R records at leaves, pl places of keys, lf leaves of records, st sz states and sizes of media, ki inn out entries -/
abbrev Core (kc md rc : Nat) (lev rk : Nat → Nat) (n R pl lf st sz ki inn out : Nat → Int32) : Prop := (1 ≤ md ∧ md ≤ 8) ∧ (rc ≤ 200) ∧ (∀ k, lev k ≤ 3) ∧ (∀ p, p < 85 → n p = nI 0 ∨ ∃ k, 1 ≤ k ∧ k ≤ kc ∧ n p = nI k ∧ pl k = nI p ∧ lev k = lvl p) ∧ (¬ n 0 = nI 0) ∧ (∀ p, 0 < p → p < 85 → ¬ n p = nI 0 → ¬ n (par p) = nI 0) ∧ (∀ k, 1 ≤ k → k ≤ kc → pl k = -1 ∨ ∃ p, p < 85 ∧ pl k = nI p ∧ n p = nI k) ∧ (∀ k, k < 64 → R k = -1 ∨ ∃ r, r < rc ∧ R k = nI r ∧ lf r = nI k) ∧ (∀ r, r < rc → lf r = -1 ∨ ∃ k, k < 64 ∧ lf r = nI k ∧ R k = nI r) ∧ (∀ m, m < md → zn sz m ≤ 150 ∧ sz m = nI (zn sz m) ∧ (st m = nI 0 ∨ st m = nI 1 ∨ (st m = nI 2 ∧ sz m = nI 0))) ∧ (∀ m, m < md → ∀ i, i < zn sz m → (ki (m * 150 + i) = nI 0 ∧ ∃ x y, 1 ≤ x ∧ x ≤ kc ∧ 1 ≤ y ∧ y ≤ kc ∧ inn (m * 150 + i) = nI x ∧ out (m * 150 + i) = nI y ∧ lev x = lev y + 1) ∨ (ki (m * 150 + i) = nI 1 ∧ ∃ r y, r < rc ∧ 1 ≤ y ∧ y ≤ kc ∧ inn (m * 150 + i) = nI r ∧ out (m * 150 + i) = nI y ∧ lev y = 3 ∧ rk y = r))
theorem Core.mdb {kc md rc : Nat} {lev rk : Nat → Nat} {n R pl lf st sz ki inn out : Nat → Int32} (h : Core kc md rc lev rk n R pl lf st sz ki inn out) : 1 ≤ md ∧ md ≤ 8 := h.1
theorem Core.rcb {kc md rc : Nat} {lev rk : Nat → Nat} {n R pl lf st sz ki inn out : Nat → Int32} (h : Core kc md rc lev rk n R pl lf st sz ki inn out) : rc ≤ 200 := h.2.1
theorem Core.lvb {kc md rc : Nat} {lev rk : Nat → Nat} {n R pl lf st sz ki inn out : Nat → Int32} (h : Core kc md rc lev rk n R pl lf st sz ki inn out) : ∀ k, lev k ≤ 3 := h.2.2.1
theorem Core.node {kc md rc : Nat} {lev rk : Nat → Nat} {n R pl lf st sz ki inn out : Nat → Int32} (h : Core kc md rc lev rk n R pl lf st sz ki inn out) : ∀ p, p < 85 → n p = nI 0 ∨ ∃ k, 1 ≤ k ∧ k ≤ kc ∧ n p = nI k ∧ pl k = nI p ∧ lev k = lvl p := h.2.2.2.1
theorem Core.root {kc md rc : Nat} {lev rk : Nat → Nat} {n R pl lf st sz ki inn out : Nat → Int32} (h : Core kc md rc lev rk n R pl lf st sz ki inn out) : ¬ n 0 = nI 0 := h.2.2.2.2.1
theorem Core.pars {kc md rc : Nat} {lev rk : Nat → Nat} {n R pl lf st sz ki inn out : Nat → Int32} (h : Core kc md rc lev rk n R pl lf st sz ki inn out) : ∀ p, 0 < p → p < 85 → ¬ n p = nI 0 → ¬ n (par p) = nI 0 := h.2.2.2.2.2.1
theorem Core.plc {kc md rc : Nat} {lev rk : Nat → Nat} {n R pl lf st sz ki inn out : Nat → Int32} (h : Core kc md rc lev rk n R pl lf st sz ki inn out) : ∀ k, 1 ≤ k → k ≤ kc → pl k = -1 ∨ ∃ p, p < 85 ∧ pl k = nI p ∧ n p = nI k := h.2.2.2.2.2.2.1
theorem Core.rec {kc md rc : Nat} {lev rk : Nat → Nat} {n R pl lf st sz ki inn out : Nat → Int32} (h : Core kc md rc lev rk n R pl lf st sz ki inn out) : ∀ k, k < 64 → R k = -1 ∨ ∃ r, r < rc ∧ R k = nI r ∧ lf r = nI k := h.2.2.2.2.2.2.2.1
theorem Core.lfs {kc md rc : Nat} {lev rk : Nat → Nat} {n R pl lf st sz ki inn out : Nat → Int32} (h : Core kc md rc lev rk n R pl lf st sz ki inn out) : ∀ r, r < rc → lf r = -1 ∨ ∃ k, k < 64 ∧ lf r = nI k ∧ R k = nI r := h.2.2.2.2.2.2.2.2.1
theorem Core.med {kc md rc : Nat} {lev rk : Nat → Nat} {n R pl lf st sz ki inn out : Nat → Int32} (h : Core kc md rc lev rk n R pl lf st sz ki inn out) : ∀ m, m < md → zn sz m ≤ 150 ∧ sz m = nI (zn sz m) ∧ (st m = nI 0 ∨ st m = nI 1 ∨ (st m = nI 2 ∧ sz m = nI 0)) := h.2.2.2.2.2.2.2.2.2.1
theorem Core.ent {kc md rc : Nat} {lev rk : Nat → Nat} {n R pl lf st sz ki inn out : Nat → Int32} (h : Core kc md rc lev rk n R pl lf st sz ki inn out) : ∀ m, m < md → ∀ i, i < zn sz m → (ki (m * 150 + i) = nI 0 ∧ ∃ x y, 1 ≤ x ∧ x ≤ kc ∧ 1 ≤ y ∧ y ≤ kc ∧ inn (m * 150 + i) = nI x ∧ out (m * 150 + i) = nI y ∧ lev x = lev y + 1) ∨ (ki (m * 150 + i) = nI 1 ∧ ∃ r y, r < rc ∧ 1 ≤ y ∧ y ≤ kc ∧ inn (m * 150 + i) = nI r ∧ out (m * 150 + i) = nI y ∧ lev y = 3 ∧ rk y = r) := h.2.2.2.2.2.2.2.2.2.2
theorem Core.mk {kc md rc : Nat} {lev rk : Nat → Nat} {n R pl lf st sz ki inn out : Nat → Int32} (mdb : 1 ≤ md ∧ md ≤ 8) (rcb : rc ≤ 200) (lvb : ∀ k, lev k ≤ 3) (node : ∀ p, p < 85 → n p = nI 0 ∨ ∃ k, 1 ≤ k ∧ k ≤ kc ∧ n p = nI k ∧ pl k = nI p ∧ lev k = lvl p) (root : ¬ n 0 = nI 0) (pars : ∀ p, 0 < p → p < 85 → ¬ n p = nI 0 → ¬ n (par p) = nI 0) (plc : ∀ k, 1 ≤ k → k ≤ kc → pl k = -1 ∨ ∃ p, p < 85 ∧ pl k = nI p ∧ n p = nI k) (rec : ∀ k, k < 64 → R k = -1 ∨ ∃ r, r < rc ∧ R k = nI r ∧ lf r = nI k) (lfs : ∀ r, r < rc → lf r = -1 ∨ ∃ k, k < 64 ∧ lf r = nI k ∧ R k = nI r) (med : ∀ m, m < md → zn sz m ≤ 150 ∧ sz m = nI (zn sz m) ∧ (st m = nI 0 ∨ st m = nI 1 ∨ (st m = nI 2 ∧ sz m = nI 0))) (ent : ∀ m, m < md → ∀ i, i < zn sz m → (ki (m * 150 + i) = nI 0 ∧ ∃ x y, 1 ≤ x ∧ x ≤ kc ∧ 1 ≤ y ∧ y ≤ kc ∧ inn (m * 150 + i) = nI x ∧ out (m * 150 + i) = nI y ∧ lev x = lev y + 1) ∨ (ki (m * 150 + i) = nI 1 ∧ ∃ r y, r < rc ∧ 1 ≤ y ∧ y ≤ kc ∧ inn (m * 150 + i) = nI r ∧ out (m * 150 + i) = nI y ∧ lev y = 3 ∧ rk y = r)) : Core kc md rc lev rk n R pl lf st sz ki inn out := ⟨mdb, rcb, lvb, node, root, pars, plc, rec, lfs, med, ent⟩
/-- the entries that were written on the first k media, at most -/
def usd (st sz : Nat → Int32) : Nat → Nat
  | 0 => 0
  | k + 1 => usd st sz k + (if st k = nI 2 then 150 else zn sz k)
/-- the class's memory and the reference's after c calls -/
abbrev Inv0 (c kc md rc td : Nat) (lev rk : Nat → Nat) (σ : am_M) : Prop := (Core kc md rc lev rk (σ.1 16) (σ.1 17) (σ.1 13) (σ.1 15) (σ.1 20) (σ.1 21) (σ.1 22) (σ.1 23) (σ.1 24)) ∧ (c ≤ 600) ∧ (kc ≤ 1 + usd (σ.1 20) (σ.1 21) md + c) ∧ (σ.1 1 2 = nI kc) ∧ (σ.1 4 5 = nI md) ∧ (σ.1 2 2 = nI rc) ∧ (σ.1 0 12 = nI td) ∧ (td ≤ 1000000) ∧ (σ.1 34 21 = nI kc) ∧ (σ.1 34 22 = nI md) ∧ (σ.1 34 23 = nI rc) ∧ (σ.1 34 24 = nI td) ∧ (σ.1 34 20 = σ.1 1 1) ∧ (σ.1 35 = σ.1 16) ∧ (σ.1 37 = σ.1 17) ∧ (σ.1 38 = σ.1 10) ∧ (σ.1 41 = σ.1 19) ∧ (σ.1 46 = σ.1 22) ∧ (σ.1 47 = σ.1 23) ∧ (σ.1 48 = σ.1 24) ∧ (σ.1 51 = σ.1 15) ∧ (σ.1 53 = σ.1 33) ∧ (σ.1 54 = σ.1 32) ∧ (σ.2.1 50 = σ.2.1 14) ∧ (∀ m, m < md → σ.1 44 m = σ.1 20 m ∧ σ.1 45 m = σ.1 21 m) ∧ (∀ q, q < 4 → (σ.1 39 q = nI 0 ∧ σ.1 11 q = -1) ∨ ∃ k p, 1 ≤ k ∧ k ≤ kc ∧ p < 85 ∧ σ.1 39 q = nI k ∧ σ.1 11 q = nI k ∧ σ.1 12 q = nI p ∧ σ.1 40 q = nI p) ∧ (okH (σ.1 10)) ∧ (∀ k, k < 64 → σ.1 18 k = dueOf (σ.1 17) (σ.1 52) k) ∧ (∀ k, k < 64 → σ.1 19 k = nI 0 ∨ (σ.1 19 k = nI 1 ∧ ¬ σ.1 17 k = -1)) ∧ (∀ m, m < md → ∀ i, i < zn (σ.1 21) m → σ.2.1 49 (m * 150 + i) = if σ.1 22 (m * 150 + i) = nI 0 then (wrp (σ.1 1 1) (σ.1 23 (m * 150 + i)) (σ.1 24 (m * 150 + i))).toInt64 else σ.2.1 14 (σ.1 23 (m * 150 + i)).toNatClampNeg ^^^ msk (σ.1 1 1) (σ.1 24 (m * 150 + i))) ∧ (∀ s, s < 4 → σ.1 32 s = -1 ∨ ∃ k, k < 64 ∧ σ.1 32 s = nI k)
theorem Inv0.core {c kc md rc td : Nat} {lev rk : Nat → Nat} {σ : am_M} (h : Inv0 c kc md rc td lev rk σ) : Core kc md rc lev rk (σ.1 16) (σ.1 17) (σ.1 13) (σ.1 15) (σ.1 20) (σ.1 21) (σ.1 22) (σ.1 23) (σ.1 24) := h.1
theorem Inv0.cb {c kc md rc td : Nat} {lev rk : Nat → Nat} {σ : am_M} (h : Inv0 c kc md rc td lev rk σ) : c ≤ 600 := h.2.1
theorem Inv0.kb {c kc md rc td : Nat} {lev rk : Nat → Nat} {σ : am_M} (h : Inv0 c kc md rc td lev rk σ) : kc ≤ 1 + usd (σ.1 20) (σ.1 21) md + c := h.2.2.1
theorem Inv0.hk {c kc md rc td : Nat} {lev rk : Nat → Nat} {σ : am_M} (h : Inv0 c kc md rc td lev rk σ) : σ.1 1 2 = nI kc := h.2.2.2.1
theorem Inv0.hm {c kc md rc td : Nat} {lev rk : Nat → Nat} {σ : am_M} (h : Inv0 c kc md rc td lev rk σ) : σ.1 4 5 = nI md := h.2.2.2.2.1
theorem Inv0.hr {c kc md rc td : Nat} {lev rk : Nat → Nat} {σ : am_M} (h : Inv0 c kc md rc td lev rk σ) : σ.1 2 2 = nI rc := h.2.2.2.2.2.1
theorem Inv0.ht {c kc md rc td : Nat} {lev rk : Nat → Nat} {σ : am_M} (h : Inv0 c kc md rc td lev rk σ) : σ.1 0 12 = nI td := h.2.2.2.2.2.2.1
theorem Inv0.tb {c kc md rc td : Nat} {lev rk : Nat → Nat} {σ : am_M} (h : Inv0 c kc md rc td lev rk σ) : td ≤ 1000000 := h.2.2.2.2.2.2.2.1
theorem Inv0.hk' {c kc md rc td : Nat} {lev rk : Nat → Nat} {σ : am_M} (h : Inv0 c kc md rc td lev rk σ) : σ.1 34 21 = nI kc := h.2.2.2.2.2.2.2.2.1
theorem Inv0.hm' {c kc md rc td : Nat} {lev rk : Nat → Nat} {σ : am_M} (h : Inv0 c kc md rc td lev rk σ) : σ.1 34 22 = nI md := h.2.2.2.2.2.2.2.2.2.1
theorem Inv0.hr' {c kc md rc td : Nat} {lev rk : Nat → Nat} {σ : am_M} (h : Inv0 c kc md rc td lev rk σ) : σ.1 34 23 = nI rc := h.2.2.2.2.2.2.2.2.2.2.1
theorem Inv0.ht' {c kc md rc td : Nat} {lev rk : Nat → Nat} {σ : am_M} (h : Inv0 c kc md rc td lev rk σ) : σ.1 34 24 = nI td := h.2.2.2.2.2.2.2.2.2.2.2.1
theorem Inv0.sd {c kc md rc td : Nat} {lev rk : Nat → Nat} {σ : am_M} (h : Inv0 c kc md rc td lev rk σ) : σ.1 34 20 = σ.1 1 1 := h.2.2.2.2.2.2.2.2.2.2.2.2.1
theorem Inv0.e35 {c kc md rc td : Nat} {lev rk : Nat → Nat} {σ : am_M} (h : Inv0 c kc md rc td lev rk σ) : σ.1 35 = σ.1 16 := h.2.2.2.2.2.2.2.2.2.2.2.2.2.1
theorem Inv0.e37 {c kc md rc td : Nat} {lev rk : Nat → Nat} {σ : am_M} (h : Inv0 c kc md rc td lev rk σ) : σ.1 37 = σ.1 17 := h.2.2.2.2.2.2.2.2.2.2.2.2.2.2.1
theorem Inv0.e38 {c kc md rc td : Nat} {lev rk : Nat → Nat} {σ : am_M} (h : Inv0 c kc md rc td lev rk σ) : σ.1 38 = σ.1 10 := h.2.2.2.2.2.2.2.2.2.2.2.2.2.2.2.1
theorem Inv0.e41 {c kc md rc td : Nat} {lev rk : Nat → Nat} {σ : am_M} (h : Inv0 c kc md rc td lev rk σ) : σ.1 41 = σ.1 19 := h.2.2.2.2.2.2.2.2.2.2.2.2.2.2.2.2.1
theorem Inv0.e46 {c kc md rc td : Nat} {lev rk : Nat → Nat} {σ : am_M} (h : Inv0 c kc md rc td lev rk σ) : σ.1 46 = σ.1 22 := h.2.2.2.2.2.2.2.2.2.2.2.2.2.2.2.2.2.1
theorem Inv0.e47 {c kc md rc td : Nat} {lev rk : Nat → Nat} {σ : am_M} (h : Inv0 c kc md rc td lev rk σ) : σ.1 47 = σ.1 23 := h.2.2.2.2.2.2.2.2.2.2.2.2.2.2.2.2.2.2.1
theorem Inv0.e48 {c kc md rc td : Nat} {lev rk : Nat → Nat} {σ : am_M} (h : Inv0 c kc md rc td lev rk σ) : σ.1 48 = σ.1 24 := h.2.2.2.2.2.2.2.2.2.2.2.2.2.2.2.2.2.2.2.1
theorem Inv0.e51 {c kc md rc td : Nat} {lev rk : Nat → Nat} {σ : am_M} (h : Inv0 c kc md rc td lev rk σ) : σ.1 51 = σ.1 15 := h.2.2.2.2.2.2.2.2.2.2.2.2.2.2.2.2.2.2.2.2.1
theorem Inv0.e53 {c kc md rc td : Nat} {lev rk : Nat → Nat} {σ : am_M} (h : Inv0 c kc md rc td lev rk σ) : σ.1 53 = σ.1 33 := h.2.2.2.2.2.2.2.2.2.2.2.2.2.2.2.2.2.2.2.2.2.1
theorem Inv0.e54 {c kc md rc td : Nat} {lev rk : Nat → Nat} {σ : am_M} (h : Inv0 c kc md rc td lev rk σ) : σ.1 54 = σ.1 32 := h.2.2.2.2.2.2.2.2.2.2.2.2.2.2.2.2.2.2.2.2.2.2.1
theorem Inv0.e50 {c kc md rc td : Nat} {lev rk : Nat → Nat} {σ : am_M} (h : Inv0 c kc md rc td lev rk σ) : σ.2.1 50 = σ.2.1 14 := h.2.2.2.2.2.2.2.2.2.2.2.2.2.2.2.2.2.2.2.2.2.2.2.1
theorem Inv0.mdm {c kc md rc td : Nat} {lev rk : Nat → Nat} {σ : am_M} (h : Inv0 c kc md rc td lev rk σ) : ∀ m, m < md → σ.1 44 m = σ.1 20 m ∧ σ.1 45 m = σ.1 21 m := h.2.2.2.2.2.2.2.2.2.2.2.2.2.2.2.2.2.2.2.2.2.2.2.2.1
theorem Inv0.kep {c kc md rc td : Nat} {lev rk : Nat → Nat} {σ : am_M} (h : Inv0 c kc md rc td lev rk σ) : ∀ q, q < 4 → (σ.1 39 q = nI 0 ∧ σ.1 11 q = -1) ∨ ∃ k p, 1 ≤ k ∧ k ≤ kc ∧ p < 85 ∧ σ.1 39 q = nI k ∧ σ.1 11 q = nI k ∧ σ.1 12 q = nI p ∧ σ.1 40 q = nI p := h.2.2.2.2.2.2.2.2.2.2.2.2.2.2.2.2.2.2.2.2.2.2.2.2.2.1
theorem Inv0.okh {c kc md rc td : Nat} {lev rk : Nat → Nat} {σ : am_M} (h : Inv0 c kc md rc td lev rk σ) : okH (σ.1 10) := h.2.2.2.2.2.2.2.2.2.2.2.2.2.2.2.2.2.2.2.2.2.2.2.2.2.2.1
theorem Inv0.due {c kc md rc td : Nat} {lev rk : Nat → Nat} {σ : am_M} (h : Inv0 c kc md rc td lev rk σ) : ∀ k, k < 64 → σ.1 18 k = dueOf (σ.1 17) (σ.1 52) k := h.2.2.2.2.2.2.2.2.2.2.2.2.2.2.2.2.2.2.2.2.2.2.2.2.2.2.2.1
theorem Inv0.mrk {c kc md rc td : Nat} {lev rk : Nat → Nat} {σ : am_M} (h : Inv0 c kc md rc td lev rk σ) : ∀ k, k < 64 → σ.1 19 k = nI 0 ∨ (σ.1 19 k = nI 1 ∧ ¬ σ.1 17 k = -1) := h.2.2.2.2.2.2.2.2.2.2.2.2.2.2.2.2.2.2.2.2.2.2.2.2.2.2.2.2.1
theorem Inv0.con {c kc md rc td : Nat} {lev rk : Nat → Nat} {σ : am_M} (h : Inv0 c kc md rc td lev rk σ) : ∀ m, m < md → ∀ i, i < zn (σ.1 21) m → σ.2.1 49 (m * 150 + i) = if σ.1 22 (m * 150 + i) = nI 0 then (wrp (σ.1 1 1) (σ.1 23 (m * 150 + i)) (σ.1 24 (m * 150 + i))).toInt64 else σ.2.1 14 (σ.1 23 (m * 150 + i)).toNatClampNeg ^^^ msk (σ.1 1 1) (σ.1 24 (m * 150 + i)) := h.2.2.2.2.2.2.2.2.2.2.2.2.2.2.2.2.2.2.2.2.2.2.2.2.2.2.2.2.2.1
theorem Inv0.prl {c kc md rc td : Nat} {lev rk : Nat → Nat} {σ : am_M} (h : Inv0 c kc md rc td lev rk σ) : ∀ s, s < 4 → σ.1 32 s = -1 ∨ ∃ k, k < 64 ∧ σ.1 32 s = nI k := h.2.2.2.2.2.2.2.2.2.2.2.2.2.2.2.2.2.2.2.2.2.2.2.2.2.2.2.2.2.2
theorem Inv0.mk {c kc md rc td : Nat} {lev rk : Nat → Nat} {σ : am_M} (core : Core kc md rc lev rk (σ.1 16) (σ.1 17) (σ.1 13) (σ.1 15) (σ.1 20) (σ.1 21) (σ.1 22) (σ.1 23) (σ.1 24)) (cb : c ≤ 600) (kb : kc ≤ 1 + usd (σ.1 20) (σ.1 21) md + c) (hk : σ.1 1 2 = nI kc) (hm : σ.1 4 5 = nI md) (hr : σ.1 2 2 = nI rc) (ht : σ.1 0 12 = nI td) (tb : td ≤ 1000000) (hk' : σ.1 34 21 = nI kc) (hm' : σ.1 34 22 = nI md) (hr' : σ.1 34 23 = nI rc) (ht' : σ.1 34 24 = nI td) (sd : σ.1 34 20 = σ.1 1 1) (e35 : σ.1 35 = σ.1 16) (e37 : σ.1 37 = σ.1 17) (e38 : σ.1 38 = σ.1 10) (e41 : σ.1 41 = σ.1 19) (e46 : σ.1 46 = σ.1 22) (e47 : σ.1 47 = σ.1 23) (e48 : σ.1 48 = σ.1 24) (e51 : σ.1 51 = σ.1 15) (e53 : σ.1 53 = σ.1 33) (e54 : σ.1 54 = σ.1 32) (e50 : σ.2.1 50 = σ.2.1 14) (mdm : ∀ m, m < md → σ.1 44 m = σ.1 20 m ∧ σ.1 45 m = σ.1 21 m) (kep : ∀ q, q < 4 → (σ.1 39 q = nI 0 ∧ σ.1 11 q = -1) ∨ ∃ k p, 1 ≤ k ∧ k ≤ kc ∧ p < 85 ∧ σ.1 39 q = nI k ∧ σ.1 11 q = nI k ∧ σ.1 12 q = nI p ∧ σ.1 40 q = nI p) (okh : okH (σ.1 10)) (due : ∀ k, k < 64 → σ.1 18 k = dueOf (σ.1 17) (σ.1 52) k) (mrk : ∀ k, k < 64 → σ.1 19 k = nI 0 ∨ (σ.1 19 k = nI 1 ∧ ¬ σ.1 17 k = -1)) (con : ∀ m, m < md → ∀ i, i < zn (σ.1 21) m → σ.2.1 49 (m * 150 + i) = if σ.1 22 (m * 150 + i) = nI 0 then (wrp (σ.1 1 1) (σ.1 23 (m * 150 + i)) (σ.1 24 (m * 150 + i))).toInt64 else σ.2.1 14 (σ.1 23 (m * 150 + i)).toNatClampNeg ^^^ msk (σ.1 1 1) (σ.1 24 (m * 150 + i))) (prl : ∀ s, s < 4 → σ.1 32 s = -1 ∨ ∃ k, k < 64 ∧ σ.1 32 s = nI k) : Inv0 c kc md rc td lev rk σ := ⟨core, cb, kb, hk, hm, hr, ht, tb, hk', hm', hr', ht', sd, e35, e37, e38, e41, e46, e47, e48, e51, e53, e54, e50, mdm, kep, okh, due, mrk, con, prl⟩
/-- leaves and records, fully built -/
abbrev Lf (kc rc : Nat) (rk : Nat → Nat) (n R : Nat → Int32) : Prop := (∀ k, k < 64 → (R k = -1 ↔ n (21 + k) = nI 0)) ∧ (∀ k, k < 64 → ∀ r b, r < rc → b ≤ kc → R k = nI r → n (21 + k) = nI b → rk b = r)
theorem Lf.lfn {kc rc : Nat} {rk : Nat → Nat} {n R : Nat → Int32} (h : Lf kc rc rk n R) : ∀ k, k < 64 → (R k = -1 ↔ n (21 + k) = nI 0) := h.1
theorem Lf.rkn {kc rc : Nat} {rk : Nat → Nat} {n R : Nat → Int32} (h : Lf kc rc rk n R) : ∀ k, k < 64 → ∀ r b, r < rc → b ≤ kc → R k = nI r → n (21 + k) = nI b → rk b = r := h.2
theorem Lf.mk {kc rc : Nat} {rk : Nat → Nat} {n R : Nat → Int32} (lfn : ∀ k, k < 64 → (R k = -1 ↔ n (21 + k) = nI 0)) (rkn : ∀ k, k < 64 → ∀ r b, r < rc → b ≤ kc → R k = nI r → n (21 + k) = nI b → rk b = r) : Lf kc rc rk n R := ⟨lfn, rkn⟩
abbrev Inv (c kc md rc td : Nat) (lev rk : Nat → Nat) (σ : am_M) : Prop := (Inv0 c kc md rc td lev rk σ) ∧ (Lf kc rc rk (σ.1 16) (σ.1 17))
theorem Inv.base {c kc md rc td : Nat} {lev rk : Nat → Nat} {σ : am_M} (h : Inv c kc md rc td lev rk σ) : Inv0 c kc md rc td lev rk σ := h.1
theorem Inv.lf {c kc md rc td : Nat} {lev rk : Nat → Nat} {σ : am_M} (h : Inv c kc md rc td lev rk σ) : Lf kc rc rk (σ.1 16) (σ.1 17) := h.2
theorem Inv.mk {c kc md rc td : Nat} {lev rk : Nat → Nat} {σ : am_M} (base : Inv0 c kc md rc td lev rk σ) (lf : Lf kc rc rk (σ.1 16) (σ.1 17)) : Inv c kc md rc td lev rk σ := ⟨base, lf⟩
theorem Inv.core {c kc md rc td : Nat} {lev rk : Nat → Nat} {σ : am_M} (h : Inv c kc md rc td lev rk σ) : Core kc md rc lev rk (σ.1 16) (σ.1 17) (σ.1 13) (σ.1 15) (σ.1 20) (σ.1 21) (σ.1 22) (σ.1 23) (σ.1 24) := h.base.core
theorem Inv.cb {c kc md rc td : Nat} {lev rk : Nat → Nat} {σ : am_M} (h : Inv c kc md rc td lev rk σ) : c ≤ 600 := h.base.cb
theorem Inv.kb {c kc md rc td : Nat} {lev rk : Nat → Nat} {σ : am_M} (h : Inv c kc md rc td lev rk σ) : kc ≤ 1 + usd (σ.1 20) (σ.1 21) md + c := h.base.kb
theorem Inv.hk {c kc md rc td : Nat} {lev rk : Nat → Nat} {σ : am_M} (h : Inv c kc md rc td lev rk σ) : σ.1 1 2 = nI kc := h.base.hk
theorem Inv.hm {c kc md rc td : Nat} {lev rk : Nat → Nat} {σ : am_M} (h : Inv c kc md rc td lev rk σ) : σ.1 4 5 = nI md := h.base.hm
theorem Inv.hr {c kc md rc td : Nat} {lev rk : Nat → Nat} {σ : am_M} (h : Inv c kc md rc td lev rk σ) : σ.1 2 2 = nI rc := h.base.hr
theorem Inv.ht {c kc md rc td : Nat} {lev rk : Nat → Nat} {σ : am_M} (h : Inv c kc md rc td lev rk σ) : σ.1 0 12 = nI td := h.base.ht
theorem Inv.tb {c kc md rc td : Nat} {lev rk : Nat → Nat} {σ : am_M} (h : Inv c kc md rc td lev rk σ) : td ≤ 1000000 := h.base.tb
theorem Inv.hk' {c kc md rc td : Nat} {lev rk : Nat → Nat} {σ : am_M} (h : Inv c kc md rc td lev rk σ) : σ.1 34 21 = nI kc := h.base.hk'
theorem Inv.hm' {c kc md rc td : Nat} {lev rk : Nat → Nat} {σ : am_M} (h : Inv c kc md rc td lev rk σ) : σ.1 34 22 = nI md := h.base.hm'
theorem Inv.hr' {c kc md rc td : Nat} {lev rk : Nat → Nat} {σ : am_M} (h : Inv c kc md rc td lev rk σ) : σ.1 34 23 = nI rc := h.base.hr'
theorem Inv.ht' {c kc md rc td : Nat} {lev rk : Nat → Nat} {σ : am_M} (h : Inv c kc md rc td lev rk σ) : σ.1 34 24 = nI td := h.base.ht'
theorem Inv.sd {c kc md rc td : Nat} {lev rk : Nat → Nat} {σ : am_M} (h : Inv c kc md rc td lev rk σ) : σ.1 34 20 = σ.1 1 1 := h.base.sd
theorem Inv.e35 {c kc md rc td : Nat} {lev rk : Nat → Nat} {σ : am_M} (h : Inv c kc md rc td lev rk σ) : σ.1 35 = σ.1 16 := h.base.e35
theorem Inv.e37 {c kc md rc td : Nat} {lev rk : Nat → Nat} {σ : am_M} (h : Inv c kc md rc td lev rk σ) : σ.1 37 = σ.1 17 := h.base.e37
theorem Inv.e38 {c kc md rc td : Nat} {lev rk : Nat → Nat} {σ : am_M} (h : Inv c kc md rc td lev rk σ) : σ.1 38 = σ.1 10 := h.base.e38
theorem Inv.e41 {c kc md rc td : Nat} {lev rk : Nat → Nat} {σ : am_M} (h : Inv c kc md rc td lev rk σ) : σ.1 41 = σ.1 19 := h.base.e41
theorem Inv.e46 {c kc md rc td : Nat} {lev rk : Nat → Nat} {σ : am_M} (h : Inv c kc md rc td lev rk σ) : σ.1 46 = σ.1 22 := h.base.e46
theorem Inv.e47 {c kc md rc td : Nat} {lev rk : Nat → Nat} {σ : am_M} (h : Inv c kc md rc td lev rk σ) : σ.1 47 = σ.1 23 := h.base.e47
theorem Inv.e48 {c kc md rc td : Nat} {lev rk : Nat → Nat} {σ : am_M} (h : Inv c kc md rc td lev rk σ) : σ.1 48 = σ.1 24 := h.base.e48
theorem Inv.e51 {c kc md rc td : Nat} {lev rk : Nat → Nat} {σ : am_M} (h : Inv c kc md rc td lev rk σ) : σ.1 51 = σ.1 15 := h.base.e51
theorem Inv.e53 {c kc md rc td : Nat} {lev rk : Nat → Nat} {σ : am_M} (h : Inv c kc md rc td lev rk σ) : σ.1 53 = σ.1 33 := h.base.e53
theorem Inv.e54 {c kc md rc td : Nat} {lev rk : Nat → Nat} {σ : am_M} (h : Inv c kc md rc td lev rk σ) : σ.1 54 = σ.1 32 := h.base.e54
theorem Inv.e50 {c kc md rc td : Nat} {lev rk : Nat → Nat} {σ : am_M} (h : Inv c kc md rc td lev rk σ) : σ.2.1 50 = σ.2.1 14 := h.base.e50
theorem Inv.mdm {c kc md rc td : Nat} {lev rk : Nat → Nat} {σ : am_M} (h : Inv c kc md rc td lev rk σ) : ∀ m, m < md → σ.1 44 m = σ.1 20 m ∧ σ.1 45 m = σ.1 21 m := h.base.mdm
theorem Inv.kep {c kc md rc td : Nat} {lev rk : Nat → Nat} {σ : am_M} (h : Inv c kc md rc td lev rk σ) : ∀ q, q < 4 → (σ.1 39 q = nI 0 ∧ σ.1 11 q = -1) ∨ ∃ k p, 1 ≤ k ∧ k ≤ kc ∧ p < 85 ∧ σ.1 39 q = nI k ∧ σ.1 11 q = nI k ∧ σ.1 12 q = nI p ∧ σ.1 40 q = nI p := h.base.kep
theorem Inv.okh {c kc md rc td : Nat} {lev rk : Nat → Nat} {σ : am_M} (h : Inv c kc md rc td lev rk σ) : okH (σ.1 10) := h.base.okh
theorem Inv.due {c kc md rc td : Nat} {lev rk : Nat → Nat} {σ : am_M} (h : Inv c kc md rc td lev rk σ) : ∀ k, k < 64 → σ.1 18 k = dueOf (σ.1 17) (σ.1 52) k := h.base.due
theorem Inv.mrk {c kc md rc td : Nat} {lev rk : Nat → Nat} {σ : am_M} (h : Inv c kc md rc td lev rk σ) : ∀ k, k < 64 → σ.1 19 k = nI 0 ∨ (σ.1 19 k = nI 1 ∧ ¬ σ.1 17 k = -1) := h.base.mrk
theorem Inv.con {c kc md rc td : Nat} {lev rk : Nat → Nat} {σ : am_M} (h : Inv c kc md rc td lev rk σ) : ∀ m, m < md → ∀ i, i < zn (σ.1 21) m → σ.2.1 49 (m * 150 + i) = if σ.1 22 (m * 150 + i) = nI 0 then (wrp (σ.1 1 1) (σ.1 23 (m * 150 + i)) (σ.1 24 (m * 150 + i))).toInt64 else σ.2.1 14 (σ.1 23 (m * 150 + i)).toNatClampNeg ^^^ msk (σ.1 1 1) (σ.1 24 (m * 150 + i)) := h.base.con
theorem Inv.prl {c kc md rc td : Nat} {lev rk : Nat → Nat} {σ : am_M} (h : Inv c kc md rc td lev rk σ) : ∀ s, s < 4 → σ.1 32 s = -1 ∨ ∃ k, k < 64 ∧ σ.1 32 s = nI k := h.base.prl
/-- cells that only serve within a call -/
abbrev scr (a : Nat) : Prop := a = 25 ∨ a = 26 ∨ a = 27 ∨ a = 28 ∨ a = 29 ∨ a = 30 ∨ a = 31 ∨ a = 7 ∨ a = 36 ∨ a = 42 ∨ a = 43 ∨ a = 55 ∨ a = 56 ∨ 57 ≤ a
/-- memories that differ in such cells only -/
abbrev Sm (σ τ : am_M) : Prop := (∀ a, ¬ scr a → a ≠ 34 → τ.1 a = σ.1 a) ∧ (∀ j, j ≠ 25 → j ≠ 27 → τ.1 34 j = σ.1 34 j) ∧ (∀ a, a = 14 ∨ a = 49 ∨ a = 50 → τ.2.1 a = σ.2.1 a)
theorem Sm.i {σ τ : am_M} (h : Sm σ τ) : ∀ a, ¬ scr a → a ≠ 34 → τ.1 a = σ.1 a := h.1
theorem Sm.f {σ τ : am_M} (h : Sm σ τ) : ∀ j, j ≠ 25 → j ≠ 27 → τ.1 34 j = σ.1 34 j := h.2.1
theorem Sm.j {σ τ : am_M} (h : Sm σ τ) : ∀ a, a = 14 ∨ a = 49 ∨ a = 50 → τ.2.1 a = σ.2.1 a := h.2.2
theorem Sm.mk {σ τ : am_M} (i : ∀ a, ¬ scr a → a ≠ 34 → τ.1 a = σ.1 a) (f : ∀ j, j ≠ 25 → j ≠ 27 → τ.1 34 j = σ.1 34 j) (j : ∀ a, a = 14 ∨ a = 49 ∨ a = 50 → τ.2.1 a = σ.2.1 a) : Sm σ τ := ⟨i, f, j⟩
theorem Sm.refl (σ : am_M) : Sm σ σ := ⟨fun _ _ _ => rfl, fun _ _ _ => rfl, fun _ _ => rfl⟩
theorem Sm.trans {σ τ ρ : am_M} (h1 : Sm σ τ) (h2 : Sm τ ρ) : Sm σ ρ :=
  ⟨fun a ha hb => (h2.i a ha hb).trans (h1.i a ha hb), fun j hj hk => (h2.f j hj hk).trans (h1.f j hj hk), fun a ha => (h2.j a ha).trans (h1.j a ha)⟩
theorem Sm.set {σ τ : am_M} (h : Sm σ τ) {a : Nat} (ha : scr a) (f : Nat → Int32) : Sm σ (am_set τ a f) := by
  refine ⟨fun b hb hb' => ?_, fun j hj hk => ?_, fun b hb => h.j b hb⟩
  · have hba : b ≠ a := fun e => hb (by rw [e]; exact ha)
    rw [s_ne _ _ hba]; exact h.i b hb hb'
  · rw [s_ne _ _ (by rcases ha with h | h | h | h | h | h | h | h | h | h | h | h | h | h <;> omega)]; exact h.f j hj hk
theorem Sm.th {σ τ : am_M} (h : Sm σ τ) (v : Int32) : Sm σ (th τ v) :=
  ⟨fun b hb hb' => (th_ne _ _ hb').trans (h.i b hb hb'), fun j hj hk => (th_f _ _ hj).trans (h.f j hj hk), fun b hb => h.j b hb⟩
theorem Sm.tick {σ τ : am_M} (h : Sm σ τ) : Sm σ (am_tick τ) := ⟨h.i, h.f, h.j⟩
theorem Sm.setJ {σ τ : am_M} (h : Sm σ τ) (f : Nat → Int64) : Sm σ (am_setJ τ 57 f) :=
  ⟨h.i, h.f, fun b hb => (sJ_ne _ _ (by omega)).trans (h.j b hb)⟩
/-- how many keys the reference holds in its set -/
def sm (σ : am_M) (v : Int32) : am_M := am_set σ 34 (upd (σ.1 34) 27 v)
theorem Sm.sm {σ τ : am_M} (h : Sm σ τ) (v : Int32) : Sm σ (sm τ v) := by
  refine ⟨fun b hb hb' => ?_, fun j hj hk => ?_, fun b hb => h.j b hb⟩
  · exact (s_ne _ _ hb').trans (h.i b hb hb')
  · exact Eq.trans (by show (am_set τ 34 _).1 34 j = τ.1 34 j; rw [s_eq]; exact if_neg hk) (h.f j hj hk)
theorem Inv0.sm {c kc md rc td : Nat} {lev rk : Nat → Nat} {σ τ : am_M} (h : Inv0 c kc md rc td lev rk σ) (s : Sm σ τ) : Inv0 c kc md rc td lev rk τ := by
  have g : ∀ a, ¬ scr a → a ≠ 34 → τ.1 a = σ.1 a := s.i
  apply Inv0.mk
  case core => simp only [g 16 (by decide) (by decide), g 17 (by decide) (by decide), g 13 (by decide) (by decide), g 15 (by decide) (by decide), g 20 (by decide) (by decide), g 21 (by decide) (by decide), g 22 (by decide) (by decide), g 23 (by decide) (by decide), g 24 (by decide) (by decide)]; exact h.core
  case cb => exact h.cb
  case kb => simp only [g 20 (by decide) (by decide), g 21 (by decide) (by decide)]; exact h.kb
  case hk => rw [g 1 (by decide) (by decide)]; exact h.hk
  case hm => rw [g 4 (by decide) (by decide)]; exact h.hm
  case hr => rw [g 2 (by decide) (by decide)]; exact h.hr
  case ht => rw [g 0 (by decide) (by decide)]; exact h.ht
  case tb => exact h.tb
  case hk' => rw [s.f 21 (by decide) (by decide)]; exact h.hk'
  case hm' => rw [s.f 22 (by decide) (by decide)]; exact h.hm'
  case hr' => rw [s.f 23 (by decide) (by decide)]; exact h.hr'
  case ht' => rw [s.f 24 (by decide) (by decide)]; exact h.ht'
  case sd => rw [s.f 20 (by decide) (by decide), g 1 (by decide) (by decide)]; exact h.sd
  case e35 => rw [g 35 (by decide) (by decide), g 16 (by decide) (by decide)]; exact h.e35
  case e37 => rw [g 37 (by decide) (by decide), g 17 (by decide) (by decide)]; exact h.e37
  case e38 => rw [g 38 (by decide) (by decide), g 10 (by decide) (by decide)]; exact h.e38
  case e41 => rw [g 41 (by decide) (by decide), g 19 (by decide) (by decide)]; exact h.e41
  case e46 => rw [g 46 (by decide) (by decide), g 22 (by decide) (by decide)]; exact h.e46
  case e47 => rw [g 47 (by decide) (by decide), g 23 (by decide) (by decide)]; exact h.e47
  case e48 => rw [g 48 (by decide) (by decide), g 24 (by decide) (by decide)]; exact h.e48
  case e51 => rw [g 51 (by decide) (by decide), g 15 (by decide) (by decide)]; exact h.e51
  case e53 => rw [g 53 (by decide) (by decide), g 33 (by decide) (by decide)]; exact h.e53
  case e54 => rw [g 54 (by decide) (by decide), g 32 (by decide) (by decide)]; exact h.e54
  case e50 => rw [s.j 50 (by decide), s.j 14 (by decide)]; exact h.e50
  case mdm => simp only [g 44 (by decide) (by decide), g 20 (by decide) (by decide), g 45 (by decide) (by decide), g 21 (by decide) (by decide)]; exact h.mdm
  case kep => simp only [g 39 (by decide) (by decide), g 11 (by decide) (by decide), g 12 (by decide) (by decide), g 40 (by decide) (by decide)]; exact h.kep
  case okh => rw [g 10 (by decide) (by decide)]; exact h.okh
  case due => simp only [g 18 (by decide) (by decide), g 17 (by decide) (by decide), g 52 (by decide) (by decide)]; exact h.due
  case mrk => simp only [g 19 (by decide) (by decide), g 17 (by decide) (by decide)]; exact h.mrk
  case con => simp only [g 21 (by decide) (by decide), g 22 (by decide) (by decide), g 23 (by decide) (by decide), g 24 (by decide) (by decide), g 1 (by decide) (by decide), s.j 49 (by decide), s.j 14 (by decide)]; exact h.con
  case prl => simp only [g 32 (by decide) (by decide)]; exact h.prl
theorem usd_le {st sz : Nat → Int32} : ∀ k, (∀ m, m < k → zn sz m ≤ 150) → usd st sz k ≤ 150 * k := by
  intro k
  induction k with
  | zero => intro _; exact Nat.le_refl _
  | succ k ih =>
    intro h
    have h1 := ih (fun m hm => h m (by omega))
    have h2 := h k (by omega)
    rw [usd]
    split <;> omega
theorem Inv0.kl {c kc md rc td : Nat} {lev rk : Nat → Nat} {σ : am_M} (h : Inv0 c kc md rc td lev rk σ) : kc ≤ 1801 := by
  have h1 := usd_le (st := σ.1 20) (sz := σ.1 21) md (fun m hm => (h.core.med m hm).1)
  have h2 := h.kb
  have h3 := h.cb
  have h4 := h.core.mdb
  omega
theorem Inv.kl {c kc md rc td : Nat} {lev rk : Nat → Nat} {σ : am_M} (h : Inv c kc md rc td lev rk σ) : kc ≤ 1801 := h.base.kl
theorem Inv.sm {c kc md rc td : Nat} {lev rk : Nat → Nat} {σ τ : am_M} (h : Inv c kc md rc td lev rk σ) (s : Sm σ τ) : Inv c kc md rc td lev rk τ := by
  refine ⟨h.base.sm s, ?_⟩
  rw [s.i 16 (by decide) (by decide), s.i 17 (by decide) (by decide)]
  exact h.lf
end INV
