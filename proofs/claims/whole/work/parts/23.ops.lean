/-! each call of the law, both sides in one form -/
def gM_hall (a1 a2 a3 a4 : Int32) (S : MS) : Option (Int32 × MS) := fX9_hall a1 a2 a3 a4 S
theorem KM_hall (l : Launch) (D : va_G) (cI cB cS : ClassId) (a0 : Nat) (am : Nat → Nat) {a1 a2 a3 a4 : Int32} {S : MS} {q : Int32 × MS} (hf : gM_hall a1 a2 a3 a4 S = some q) : Ct l D cI cB cS yX9_hall cX9_hall 7 (some .int) 4 99 [.ref a0, .int a1, .int a2, .int a3, .int a4] (mW cI a0 am S) (some (.int q.1)) (mW cI a0 am q.2) := by
  exact kX9_hall l D cI cB cS a0 am hf
def gC_ofBuyer (n : Nat) (a1 a2 : Int32) (S : MS) : Option (Int32 × MS) := (fX8_ofBuyer n a1 a2 S).map fun r => (r, S)
theorem KC_ofBuyer (l : Launch) (D : va_G) (cI cB cS : ClassId) (n : Nat) (ad : Nat → Nat) (bf : Nat → Option Nat) (hcg : bok n ad bf) {a1 a2 : Int32} {S : MS} {q : Int32 × MS} (hf : gC_ofBuyer n a1 a2 S = some q) : Ct l D cI cB cS yX8_ofBuyer cX8_ofBuyer 4 (some .int) 4 88 [.ref (ad 0), .int a1, .int a2] (cW cI cB cS n ad bf S) (some (.int q.1)) (cW cI cB cS n ad bf q.2) := by
  obtain ⟨r, h, rfl⟩ := Option.map_eq_some_iff.mp hf
  exact kX8_ofBuyer l D cI cB cS n ad bf hcg h
def gM_ofBuyer (a1 a2 : Int32) (S : MS) : Option (Int32 × MS) := fX9_ofBuyer a1 a2 S
theorem KM_ofBuyer (l : Launch) (D : va_G) (cI cB cS : ClassId) (a0 : Nat) (am : Nat → Nat) {a1 a2 : Int32} {S : MS} {q : Int32 × MS} (hf : gM_ofBuyer a1 a2 S = some q) : Ct l D cI cB cS yX9_ofBuyer cX9_ofBuyer 3 (some .int) 2 46 [.ref a0, .int a1, .int a2] (mW cI a0 am S) (some (.int q.1)) (mW cI a0 am q.2) := by
  exact kX9_ofBuyer l D cI cB cS a0 am hf
def gC_worth (n : Nat) (a1 a2 a3 : Int32) (S : MS) : Option (Int32 × MS) := fX8_worth n a1 a2 a3 S
theorem KC_worth (l : Launch) (D : va_G) (cI cB cS : ClassId) (n : Nat) (ad : Nat → Nat) (bf : Nat → Option Nat) (hcg : bok n ad bf) {a1 a2 a3 : Int32} {S : MS} {q : Int32 × MS} (hf : gC_worth n a1 a2 a3 S = some q) : Ct l D cI cB cS yX8_worth cX8_worth 6 (some .int) 2 42 [.ref (ad 0), .int a1, .int a2, .int a3] (cW cI cB cS n ad bf S) (some (.int q.1)) (cW cI cB cS n ad bf q.2) := by
  exact kX8_worth l D cI cB cS n ad bf hcg hf
def gM_worth (a1 a2 a3 : Int32) (S : MS) : Option (Int32 × MS) := fX9_worth a1 a2 a3 S
theorem KM_worth (l : Launch) (D : va_G) (cI cB cS : ClassId) (a0 : Nat) (am : Nat → Nat) {a1 a2 a3 : Int32} {S : MS} {q : Int32 × MS} (hf : gM_worth a1 a2 a3 S = some q) : Ct l D cI cB cS yX9_worth cX9_worth 5 (some .int) 2 46 [.ref a0, .int a1, .int a2, .int a3] (mW cI a0 am S) (some (.int q.1)) (mW cI a0 am q.2) := by
  exact kX9_worth l D cI cB cS a0 am hf
def gC_limit (n : Nat) (a1 a2 : Int32) (S : MS) : Option (Int32 × MS) := (fX8_limit n a1 a2 S).map fun r => (r, S)
theorem KC_limit (l : Launch) (D : va_G) (cI cB cS : ClassId) (n : Nat) (ad : Nat → Nat) (bf : Nat → Option Nat) (hcg : bok n ad bf) {a1 a2 : Int32} {S : MS} {q : Int32 × MS} (hf : gC_limit n a1 a2 S = some q) : Ct l D cI cB cS yX8_limit cX8_limit 4 (some .int) 2 43 [.ref (ad 0), .int a1, .int a2] (cW cI cB cS n ad bf S) (some (.int q.1)) (cW cI cB cS n ad bf q.2) := by
  obtain ⟨r, h, rfl⟩ := Option.map_eq_some_iff.mp hf
  exact kX8_limit l D cI cB cS n ad bf hcg h
def gM_limit (a1 a2 : Int32) (S : MS) : Option (Int32 × MS) := (fX9_limit a1 a2 S).map fun r => (r, S)
theorem KM_limit (l : Launch) (D : va_G) (cI cB cS : ClassId) (a0 : Nat) (am : Nat → Nat) {a1 a2 : Int32} {S : MS} {q : Int32 × MS} (hf : gM_limit a1 a2 S = some q) : Ct l D cI cB cS yX9_limit cX9_limit 3 (some .int) 2 46 [.ref a0, .int a1, .int a2] (mW cI a0 am S) (some (.int q.1)) (mW cI a0 am q.2) := by
  obtain ⟨r, h, rfl⟩ := Option.map_eq_some_iff.mp hf
  exact kX9_limit l D cI cB cS a0 am h
def gC_sit (n : Nat) (a1 a2 : Int32) (S : MS) : Option (Int32 × MS) := fX8_sit n a1 a2 S
theorem KC_sit (l : Launch) (D : va_G) (cI cB cS : ClassId) (n : Nat) (ad : Nat → Nat) (bf : Nat → Option Nat) (hcg : bok n ad bf) {a1 a2 : Int32} {S : MS} {q : Int32 × MS} (hf : gC_sit n a1 a2 S = some q) : Ct l D cI cB cS yX8_sit cX8_sit 5 (some .int) 3 66 [.ref (ad 0), .int a1, .int a2] (cW cI cB cS n ad bf S) (some (.int q.1)) (cW cI cB cS n ad bf q.2) := by
  exact kX8_sit l D cI cB cS n ad bf hcg hf
def gM_sit (a1 a2 : Int32) (S : MS) : Option (Int32 × MS) := fX9_sit a1 a2 S
theorem KM_sit (l : Launch) (D : va_G) (cI cB cS : ClassId) (a0 : Nat) (am : Nat → Nat) {a1 a2 : Int32} {S : MS} {q : Int32 × MS} (hf : gM_sit a1 a2 S = some q) : Ct l D cI cB cS yX9_sit cX9_sit 5 (some .int) 2 46 [.ref a0, .int a1, .int a2] (mW cI a0 am S) (some (.int q.1)) (mW cI a0 am q.2) := by
  exact kX9_sit l D cI cB cS a0 am hf
def gC_law (n : Nat) (a1 : Int32) (S : MS) : Option (Int32 × MS) := some (fX8_law n a1 S)
theorem KC_law (l : Launch) (D : va_G) (cI cB cS : ClassId) (n : Nat) (ad : Nat → Nat) (bf : Nat → Option Nat) (hcg : bok n ad bf) {a1 : Int32} {S : MS} {q : Int32 × MS} (hf : gC_law n a1 S = some q) : Ct l D cI cB cS yX8_law cX8_law 3 (some .int) 1 21 [.ref (ad 0), .int a1] (cW cI cB cS n ad bf S) (some (.int q.1)) (cW cI cB cS n ad bf q.2) := by
  obtain rfl := Option.some.inj hf
  exact kX8_law l D cI cB cS n ad bf hcg a1 S
def gM_law (a1 : Int32) (S : MS) : Option (Int32 × MS) := some (fX9_law a1 S)
theorem KM_law (l : Launch) (D : va_G) (cI cB cS : ClassId) (a0 : Nat) (am : Nat → Nat) {a1 : Int32} {S : MS} {q : Int32 × MS} (hf : gM_law a1 S = some q) : Ct l D cI cB cS yX9_law cX9_law 3 (some .int) 1 25 [.ref a0, .int a1] (mW cI a0 am S) (some (.int q.1)) (mW cI a0 am q.2) := by
  obtain rfl := Option.some.inj hf
  exact kX9_law l D cI cB cS a0 am a1 S
def gC_sale (n : Nat) (a1 a2 : Int32) (S : MS) : Option (Int32 × MS) := fX8_sale n a1 a2 S
theorem KC_sale (l : Launch) (D : va_G) (cI cB cS : ClassId) (n : Nat) (ad : Nat → Nat) (bf : Nat → Option Nat) (hcg : bok n ad bf) {a1 a2 : Int32} {S : MS} {q : Int32 × MS} (hf : gC_sale n a1 a2 S = some q) : Ct l D cI cB cS yX8_sale cX8_sale 3 (some .int) 5 109 [.ref (ad 0), .int a1, .int a2] (cW cI cB cS n ad bf S) (some (.int q.1)) (cW cI cB cS n ad bf q.2) := by
  exact kX8_sale l D cI cB cS n ad bf hcg hf
def gM_sale (a1 a2 : Int32) (S : MS) : Option (Int32 × MS) := fX9_sale a1 a2 S
theorem KM_sale (l : Launch) (D : va_G) (cI cB cS : ClassId) (a0 : Nat) (am : Nat → Nat) {a1 a2 : Int32} {S : MS} {q : Int32 × MS} (hf : gM_sale a1 a2 S = some q) : Ct l D cI cB cS yX9_sale cX9_sale 3 (some .int) 5 115 [.ref a0, .int a1, .int a2] (mW cI a0 am S) (some (.int q.1)) (mW cI a0 am q.2) := by
  exact kX9_sale l D cI cB cS a0 am hf
def gC_bid (n : Nat) (a1 a2 : Int32) (S : MS) : Option (Int32 × MS) := fX8_bid n a1 a2 S
theorem KC_bid (l : Launch) (D : va_G) (cI cB cS : ClassId) (n : Nat) (ad : Nat → Nat) (bf : Nat → Option Nat) (hcg : bok n ad bf) {a1 a2 : Int32} {S : MS} {q : Int32 × MS} (hf : gC_bid n a1 a2 S = some q) : Ct l D cI cB cS yX8_bid cX8_bid 3 (some .int) 5 109 [.ref (ad 0), .int a1, .int a2] (cW cI cB cS n ad bf S) (some (.int q.1)) (cW cI cB cS n ad bf q.2) := by
  exact kX8_bid l D cI cB cS n ad bf hcg hf
def gM_bid (a1 a2 : Int32) (S : MS) : Option (Int32 × MS) := fX9_bid a1 a2 S
theorem KM_bid (l : Launch) (D : va_G) (cI cB cS : ClassId) (a0 : Nat) (am : Nat → Nat) {a1 a2 : Int32} {S : MS} {q : Int32 × MS} (hf : gM_bid a1 a2 S = some q) : Ct l D cI cB cS yX9_bid cX9_bid 3 (some .int) 5 115 [.ref a0, .int a1, .int a2] (mW cI a0 am S) (some (.int q.1)) (mW cI a0 am q.2) := by
  exact kX9_bid l D cI cB cS a0 am hf
def gC_ends (n : Nat) (a1 a2 : Int32) (S : MS) : Option (Int32 × MS) := fX8_ends n a1 a2 S
theorem KC_ends (l : Launch) (D : va_G) (cI cB cS : ClassId) (n : Nat) (ad : Nat → Nat) (bf : Nat → Option Nat) (hcg : bok n ad bf) {a1 a2 : Int32} {S : MS} {q : Int32 × MS} (hf : gC_ends n a1 a2 S = some q) : Ct l D cI cB cS yX8_ends cX8_ends 3 (some .int) 5 109 [.ref (ad 0), .int a1, .int a2] (cW cI cB cS n ad bf S) (some (.int q.1)) (cW cI cB cS n ad bf q.2) := by
  exact kX8_ends l D cI cB cS n ad bf hcg hf
def gM_ends (a1 a2 : Int32) (S : MS) : Option (Int32 × MS) := fX9_ends a1 a2 S
theorem KM_ends (l : Launch) (D : va_G) (cI cB cS : ClassId) (a0 : Nat) (am : Nat → Nat) {a1 a2 : Int32} {S : MS} {q : Int32 × MS} (hf : gM_ends a1 a2 S = some q) : Ct l D cI cB cS yX9_ends cX9_ends 3 (some .int) 5 115 [.ref a0, .int a1, .int a2] (mW cI a0 am S) (some (.int q.1)) (mW cI a0 am q.2) := by
  exact kX9_ends l D cI cB cS a0 am hf
def gC_row (n : Nat) (a1 a2 a3 a4 a5 : Int32) (S : MS) : Option (Int32 × MS) := fX8_row n a1 a2 a3 a4 a5 S
theorem KC_row (l : Launch) (D : va_G) (cI cB cS : ClassId) (n : Nat) (ad : Nat → Nat) (bf : Nat → Option Nat) (hcg : bok n ad bf) {a1 a2 a3 a4 a5 : Int32} {S : MS} {q : Int32 × MS} (hf : gC_row n a1 a2 a3 a4 a5 S = some q) : Ct l D cI cB cS yX8_row cX8_row 10 (some .int) 6 133 [.ref (ad 0), .int a1, .int a2, .int a3, .int a4, .int a5] (cW cI cB cS n ad bf S) (some (.int q.1)) (cW cI cB cS n ad bf q.2) := by
  exact kX8_row l D cI cB cS n ad bf hcg hf
def gM_row (a1 a2 a3 a4 a5 : Int32) (S : MS) : Option (Int32 × MS) := fX9_row a1 a2 a3 a4 a5 S
theorem KM_row (l : Launch) (D : va_G) (cI cB cS : ClassId) (a0 : Nat) (am : Nat → Nat) {a1 a2 a3 a4 a5 : Int32} {S : MS} {q : Int32 × MS} (hf : gM_row a1 a2 a3 a4 a5 S = some q) : Ct l D cI cB cS yX9_row cX9_row 10 (some .int) 5 116 [.ref a0, .int a1, .int a2, .int a3, .int a4, .int a5] (mW cI a0 am S) (some (.int q.1)) (mW cI a0 am q.2) := by
  exact kX9_row l D cI cB cS a0 am hf
def gC_gain (n : Nat) (a1 a2 : Int32) (S : MS) : Option (Int32 × MS) := fX8_gain n a1 a2 S
theorem KC_gain (l : Launch) (D : va_G) (cI cB cS : ClassId) (n : Nat) (ad : Nat → Nat) (bf : Nat → Option Nat) (hcg : bok n ad bf) {a1 a2 : Int32} {S : MS} {q : Int32 × MS} (hf : gC_gain n a1 a2 S = some q) : Ct l D cI cB cS yX8_gain cX8_gain 4 (some .int) 6 133 [.ref (ad 0), .int a1, .int a2] (cW cI cB cS n ad bf S) (some (.int q.1)) (cW cI cB cS n ad bf q.2) := by
  exact kX8_gain l D cI cB cS n ad bf hcg hf
def gM_gain (a1 a2 : Int32) (S : MS) : Option (Int32 × MS) := fX9_gain a1 a2 S
theorem KM_gain (l : Launch) (D : va_G) (cI cB cS : ClassId) (a0 : Nat) (am : Nat → Nat) {a1 a2 : Int32} {S : MS} {q : Int32 × MS} (hf : gM_gain a1 a2 S = some q) : Ct l D cI cB cS yX9_gain cX9_gain 3 (some .int) 6 137 [.ref a0, .int a1, .int a2] (mW cI a0 am S) (some (.int q.1)) (mW cI a0 am q.2) := by
  exact kX9_gain l D cI cB cS a0 am hf
def gC_best (n : Nat) (a1 a2 a3 : Int32) (S : MS) : Option (Int32 × MS) := fX8_best n a1 a2 a3 S
theorem KC_best (l : Launch) (D : va_G) (cI cB cS : ClassId) (n : Nat) (ad : Nat → Nat) (bf : Nat → Option Nat) (hcg : bok n ad bf) {a1 a2 a3 : Int32} {S : MS} {q : Int32 × MS} (hf : gC_best n a1 a2 a3 S = some q) : Ct l D cI cB cS yX8_best cX8_best 9 (some .int) 6 133 [.ref (ad 0), .int a1, .int a2, .int a3] (cW cI cB cS n ad bf S) (some (.int q.1)) (cW cI cB cS n ad bf q.2) := by
  exact kX8_best l D cI cB cS n ad bf hcg hf
def gM_best (a1 a2 a3 : Int32) (S : MS) : Option (Int32 × MS) := fX9_best a1 a2 a3 S
theorem KM_best (l : Launch) (D : va_G) (cI cB cS : ClassId) (a0 : Nat) (am : Nat → Nat) {a1 a2 a3 : Int32} {S : MS} {q : Int32 × MS} (hf : gM_best a1 a2 a3 S = some q) : Ct l D cI cB cS yX9_best cX9_best 10 (some .int) 6 137 [.ref a0, .int a1, .int a2, .int a3] (mW cI a0 am S) (some (.int q.1)) (mW cI a0 am q.2) := by
  exact kX9_best l D cI cB cS a0 am hf
def gC_order (n : Nat) (a1 : Int32) (S : MS) : Option (Int32 × MS) := fX8_order n a1 S
theorem KC_order (l : Launch) (D : va_G) (cI cB cS : ClassId) (n : Nat) (ad : Nat → Nat) (bf : Nat → Option Nat) (hcg : bok n ad bf) {a1 : Int32} {S : MS} {q : Int32 × MS} (hf : gC_order n a1 S = some q) : Ct l D cI cB cS yX8_order cX8_order 6 (some .int) 6 131 [.ref (ad 0), .int a1] (cW cI cB cS n ad bf S) (some (.int q.1)) (cW cI cB cS n ad bf q.2) := by
  exact kX8_order l D cI cB cS n ad bf hcg hf
def gM_order (a1 : Int32) (S : MS) : Option (Int32 × MS) := fX9_order a1 S
theorem KM_order (l : Launch) (D : va_G) (cI cB cS : ClassId) (a0 : Nat) (am : Nat → Nat) {a1 : Int32} {S : MS} {q : Int32 × MS} (hf : gM_order a1 S = some q) : Ct l D cI cB cS yX9_order cX9_order 7 (some .int) 5 116 [.ref a0, .int a1] (mW cI a0 am S) (some (.int q.1)) (mW cI a0 am q.2) := by
  exact kX9_order l D cI cB cS a0 am hf
def gC_ring (n : Nat) (a1 a2 : Int32) (S : MS) : Option (Int32 × MS) := fX8_ring n a1 a2 S
theorem KC_ring (l : Launch) (D : va_G) (cI cB cS : ClassId) (n : Nat) (ad : Nat → Nat) (bf : Nat → Option Nat) (hcg : bok n ad bf) {a1 a2 : Int32} {S : MS} {q : Int32 × MS} (hf : gC_ring n a1 a2 S = some q) : Ct l D cI cB cS yX8_ring cX8_ring 3 (some .int) 4 87 [.ref (ad 0), .int a1, .int a2] (cW cI cB cS n ad bf S) (some (.int q.1)) (cW cI cB cS n ad bf q.2) := by
  exact kX8_ring l D cI cB cS n ad bf hcg hf
def gM_ring (a1 a2 : Int32) (S : MS) : Option (Int32 × MS) := fX9_ring a1 a2 S
theorem KM_ring (l : Launch) (D : va_G) (cI cB cS : ClassId) (a0 : Nat) (am : Nat → Nat) {a1 a2 : Int32} {S : MS} {q : Int32 × MS} (hf : gM_ring a1 a2 S = some q) : Ct l D cI cB cS yX9_ring cX9_ring 5 (some .int) 4 93 [.ref a0, .int a1, .int a2] (mW cI a0 am S) (some (.int q.1)) (mW cI a0 am q.2) := by
  exact kX9_ring l D cI cB cS a0 am hf
def gC_mean (n : Nat) (a1 a2 : Int32) (S : MS) : Option (Int64 × MS) := fX8_mean n a1 a2 S
theorem KC_mean (l : Launch) (D : va_G) (cI cB cS : ClassId) (n : Nat) (ad : Nat → Nat) (bf : Nat → Option Nat) (hcg : bok n ad bf) {a1 a2 : Int32} {S : MS} {q : Int64 × MS} (hf : gC_mean n a1 a2 S = some q) : Ct l D cI cB cS yX8_mean cX8_mean 8 (some .long) 5 109 [.ref (ad 0), .int a1, .int a2] (cW cI cB cS n ad bf S) (some (.long q.1)) (cW cI cB cS n ad bf q.2) := by
  exact kX8_mean l D cI cB cS n ad bf hcg hf
def gM_mean (a1 a2 : Int32) (S : MS) : Option (Int64 × MS) := fX9_mean a1 a2 S
theorem KM_mean (l : Launch) (D : va_G) (cI cB cS : ClassId) (a0 : Nat) (am : Nat → Nat) {a1 a2 : Int32} {S : MS} {q : Int64 × MS} (hf : gM_mean a1 a2 S = some q) : Ct l D cI cB cS yX9_mean cX9_mean 5 (some .long) 5 115 [.ref a0, .int a1, .int a2] (mW cI a0 am S) (some (.long q.1)) (mW cI a0 am q.2) := by
  exact kX9_mean l D cI cB cS a0 am hf
def gC_hangs (n : Nat) (a1 : Int32) (S : MS) : Option (Int32 × MS) := fX8_hangs n a1 S
theorem KC_hangs (l : Launch) (D : va_G) (cI cB cS : ClassId) (n : Nat) (ad : Nat → Nat) (bf : Nat → Option Nat) (hcg : bok n ad bf) {a1 : Int32} {S : MS} {q : Int32 × MS} (hf : gC_hangs n a1 S = some q) : Ct l D cI cB cS yX8_hangs cX8_hangs 5 (some .int) 5 109 [.ref (ad 0), .int a1] (cW cI cB cS n ad bf S) (some (.int q.1)) (cW cI cB cS n ad bf q.2) := by
  exact kX8_hangs l D cI cB cS n ad bf hcg hf
def gM_hangs (a1 : Int32) (S : MS) : Option (Int32 × MS) := fX9_hangs a1 S
theorem KM_hangs (l : Launch) (D : va_G) (cI cB cS : ClassId) (a0 : Nat) (am : Nat → Nat) {a1 : Int32} {S : MS} {q : Int32 × MS} (hf : gM_hangs a1 S = some q) : Ct l D cI cB cS yX9_hangs cX9_hangs 5 (some .int) 5 115 [.ref a0, .int a1] (mW cI a0 am S) (some (.int q.1)) (mW cI a0 am q.2) := by
  exact kX9_hangs l D cI cB cS a0 am hf
def gC_reading (n : Nat) (a1 a2 : Int32) (S : MS) : Option (Int32 × MS) := fX8_reading n a1 a2 S
theorem KC_reading (l : Launch) (D : va_G) (cI cB cS : ClassId) (n : Nat) (ad : Nat → Nat) (bf : Nat → Option Nat) (hcg : bok n ad bf) {a1 a2 : Int32} {S : MS} {q : Int32 × MS} (hf : gC_reading n a1 a2 S = some q) : Ct l D cI cB cS yX8_reading cX8_reading 3 (some .int) 2 41 [.ref (ad 0), .int a1, .int a2] (cW cI cB cS n ad bf S) (some (.int q.1)) (cW cI cB cS n ad bf q.2) := by
  exact kX8_reading l D cI cB cS n ad bf hcg hf
def gM_reading (a1 a2 : Int32) (S : MS) : Option (Int32 × MS) := fX9_reading a1 a2 S
theorem KM_reading (l : Launch) (D : va_G) (cI cB cS : ClassId) (a0 : Nat) (am : Nat → Nat) {a1 a2 : Int32} {S : MS} {q : Int32 × MS} (hf : gM_reading a1 a2 S = some q) : Ct l D cI cB cS yX9_reading cX9_reading 3 (some .int) 2 45 [.ref a0, .int a1, .int a2] (mW cI a0 am S) (some (.int q.1)) (mW cI a0 am q.2) := by
  exact kX9_reading l D cI cB cS a0 am hf
def gC_back (n : Nat) (a1 : Int32) (S : MS) : Option (Int32 × MS) := some (fX8_back n a1 S)
theorem KC_back (l : Launch) (D : va_G) (cI cB cS : ClassId) (n : Nat) (ad : Nat → Nat) (bf : Nat → Option Nat) (hcg : bok n ad bf) {a1 : Int32} {S : MS} {q : Int32 × MS} (hf : gC_back n a1 S = some q) : Ct l D cI cB cS yX8_back cX8_back 2 (some .int) 1 21 [.ref (ad 0), .int a1] (cW cI cB cS n ad bf S) (some (.int q.1)) (cW cI cB cS n ad bf q.2) := by
  obtain rfl := Option.some.inj hf
  exact kX8_back l D cI cB cS n ad bf hcg a1 S
def gM_back (a1 : Int32) (S : MS) : Option (Int32 × MS) := some (fX9_back a1 S)
theorem KM_back (l : Launch) (D : va_G) (cI cB cS : ClassId) (a0 : Nat) (am : Nat → Nat) {a1 : Int32} {S : MS} {q : Int32 × MS} (hf : gM_back a1 S = some q) : Ct l D cI cB cS yX9_back cX9_back 2 (some .int) 1 25 [.ref a0, .int a1] (mW cI a0 am S) (some (.int q.1)) (mW cI a0 am q.2) := by
  obtain rfl := Option.some.inj hf
  exact kX9_back l D cI cB cS a0 am a1 S
def gC_values (n : Nat) (a1 a2 a3 : Int32) (S : MS) : Option (Int32 × MS) := fX8_values n a1 a2 a3 S
theorem KC_values (l : Launch) (D : va_G) (cI cB cS : ClassId) (n : Nat) (ad : Nat → Nat) (bf : Nat → Option Nat) (hcg : bok n ad bf) {a1 a2 a3 : Int32} {S : MS} {q : Int32 × MS} (hf : gC_values n a1 a2 a3 S = some q) : Ct l D cI cB cS yX8_values cX8_values 11 (some .int) 6 134 [.ref (ad 0), .int a1, .int a2, .int a3] (cW cI cB cS n ad bf S) (some (.int q.1)) (cW cI cB cS n ad bf q.2) := by
  exact kX8_values l D cI cB cS n ad bf hcg hf
def gM_values (a1 a2 a3 : Int32) (S : MS) : Option (Int32 × MS) := fX9_values a1 a2 a3 S
theorem KM_values (l : Launch) (D : va_G) (cI cB cS : ClassId) (a0 : Nat) (am : Nat → Nat) {a1 a2 a3 : Int32} {S : MS} {q : Int32 × MS} (hf : gM_values a1 a2 a3 S = some q) : Ct l D cI cB cS yX9_values cX9_values 8 (some .int) 6 137 [.ref a0, .int a1, .int a2, .int a3] (mW cI a0 am S) (some (.int q.1)) (mW cI a0 am q.2) := by
  exact kX9_values l D cI cB cS a0 am hf
def gC_places (n : Nat) (a1 : Int32) (S : MS) : Option (Int32 × MS) := fX8_places n a1 S
theorem KC_places (l : Launch) (D : va_G) (cI cB cS : ClassId) (n : Nat) (ad : Nat → Nat) (bf : Nat → Option Nat) (hcg : bok n ad bf) {a1 : Int32} {S : MS} {q : Int32 × MS} (hf : gC_places n a1 S = some q) : Ct l D cI cB cS yX8_places cX8_places 5 (some .int) 6 134 [.ref (ad 0), .int a1] (cW cI cB cS n ad bf S) (some (.int q.1)) (cW cI cB cS n ad bf q.2) := by
  exact kX8_places l D cI cB cS n ad bf hcg hf
def gM_places (a1 : Int32) (S : MS) : Option (Int32 × MS) := fX9_places a1 S
theorem KM_places (l : Launch) (D : va_G) (cI cB cS : ClassId) (a0 : Nat) (am : Nat → Nat) {a1 : Int32} {S : MS} {q : Int32 × MS} (hf : gM_places a1 S = some q) : Ct l D cI cB cS yX9_places cX9_places 6 (some .int) 6 137 [.ref a0, .int a1] (mW cI a0 am S) (some (.int q.1)) (mW cI a0 am q.2) := by
  exact kX9_places l D cI cB cS a0 am hf
def gC_sheet (n : Nat) (a1 a2 a3 : Int32) (S : MS) : Option (Int32 × MS) := fX8_sheet n a1 a2 a3 S
theorem KC_sheet (l : Launch) (D : va_G) (cI cB cS : ClassId) (n : Nat) (ad : Nat → Nat) (bf : Nat → Option Nat) (hcg : bok n ad bf) {a1 a2 a3 : Int32} {S : MS} {q : Int32 × MS} (hf : gC_sheet n a1 a2 a3 S = some q) : Ct l D cI cB cS yX8_sheet cX8_sheet 5 (some .int) 2 42 [.ref (ad 0), .int a1, .int a2, .int a3] (cW cI cB cS n ad bf S) (some (.int q.1)) (cW cI cB cS n ad bf q.2) := by
  exact kX8_sheet l D cI cB cS n ad bf hcg hf
def gM_sheet (a1 a2 a3 : Int32) (S : MS) : Option (Int32 × MS) := fX9_sheet a1 a2 a3 S
theorem KM_sheet (l : Launch) (D : va_G) (cI cB cS : ClassId) (a0 : Nat) (am : Nat → Nat) {a1 a2 a3 : Int32} {S : MS} {q : Int32 × MS} (hf : gM_sheet a1 a2 a3 S = some q) : Ct l D cI cB cS yX9_sheet cX9_sheet 5 (some .int) 2 45 [.ref a0, .int a1, .int a2, .int a3] (mW cI a0 am S) (some (.int q.1)) (mW cI a0 am q.2) := by
  exact kX9_sheet l D cI cB cS a0 am hf
def gC_lose (n : Nat) (a1 : Int32) (S : MS) : Option (Int32 × MS) := fX8_lose n a1 S
theorem KC_lose (l : Launch) (D : va_G) (cI cB cS : ClassId) (n : Nat) (ad : Nat → Nat) (bf : Nat → Option Nat) (hcg : bok n ad bf) {a1 : Int32} {S : MS} {q : Int32 × MS} (hf : gC_lose n a1 S = some q) : Ct l D cI cB cS yX8_lose cX8_lose 3 (some .int) 2 42 [.ref (ad 0), .int a1] (cW cI cB cS n ad bf S) (some (.int q.1)) (cW cI cB cS n ad bf q.2) := by
  exact kX8_lose l D cI cB cS n ad bf hcg hf
def gM_lose (a1 : Int32) (S : MS) : Option (Int32 × MS) := fX9_lose a1 S
theorem KM_lose (l : Launch) (D : va_G) (cI cB cS : ClassId) (a0 : Nat) (am : Nat → Nat) {a1 : Int32} {S : MS} {q : Int32 × MS} (hf : gM_lose a1 S = some q) : Ct l D cI cB cS yX9_lose cX9_lose 3 (some .int) 2 45 [.ref a0, .int a1] (mW cI a0 am S) (some (.int q.1)) (mW cI a0 am q.2) := by
  exact kX9_lose l D cI cB cS a0 am hf
def gC_put (n : Nat) (a1 a2 a3 : Int32) (S : MS) : Option (Int32 × MS) := fX8_put n a1 a2 a3 S
theorem KC_put (l : Launch) (D : va_G) (cI cB cS : ClassId) (n : Nat) (ad : Nat → Nat) (bf : Nat → Option Nat) (hcg : bok n ad bf) {a1 a2 a3 : Int32} {S : MS} {q : Int32 × MS} (hf : gC_put n a1 a2 a3 S = some q) : Ct l D cI cB cS yX8_put cX8_put 6 (some .int) 2 45 [.ref (ad 0), .int a1, .int a2, .int a3] (cW cI cB cS n ad bf S) (some (.int q.1)) (cW cI cB cS n ad bf q.2) := by
  exact kX8_put l D cI cB cS n ad bf hcg hf
def gM_put (a1 a2 a3 : Int32) (S : MS) : Option (Int32 × MS) := fX9_put a1 a2 a3 S
theorem KM_put (l : Launch) (D : va_G) (cI cB cS : ClassId) (a0 : Nat) (am : Nat → Nat) {a1 a2 a3 : Int32} {S : MS} {q : Int32 × MS} (hf : gM_put a1 a2 a3 S = some q) : Ct l D cI cB cS yX9_put cX9_put 4 (some .int) 2 47 [.ref a0, .int a1, .int a2, .int a3] (mW cI a0 am S) (some (.int q.1)) (mW cI a0 am q.2) := by
  exact kX9_put l D cI cB cS a0 am hf
def gC_cell (n : Nat) (a1 a2 a3 : Int32) (S : MS) : Option (Int64 × MS) := fX8_cell n a1 a2 a3 S
theorem KC_cell (l : Launch) (D : va_G) (cI cB cS : ClassId) (n : Nat) (ad : Nat → Nat) (bf : Nat → Option Nat) (hcg : bok n ad bf) {a1 a2 a3 : Int32} {S : MS} {q : Int64 × MS} (hf : gC_cell n a1 a2 a3 S = some q) : Ct l D cI cB cS yX8_cell cX8_cell 6 (some .long) 2 45 [.ref (ad 0), .int a1, .int a2, .int a3] (cW cI cB cS n ad bf S) (some (.long q.1)) (cW cI cB cS n ad bf q.2) := by
  exact kX8_cell l D cI cB cS n ad bf hcg hf
def gM_cell (a1 a2 a3 : Int32) (S : MS) : Option (Int64 × MS) := fX9_cell a1 a2 a3 S
theorem KM_cell (l : Launch) (D : va_G) (cI cB cS : ClassId) (a0 : Nat) (am : Nat → Nat) {a1 a2 a3 : Int32} {S : MS} {q : Int64 × MS} (hf : gM_cell a1 a2 a3 S = some q) : Ct l D cI cB cS yX9_cell cX9_cell 4 (some .long) 2 47 [.ref a0, .int a1, .int a2, .int a3] (mW cI a0 am S) (some (.long q.1)) (mW cI a0 am q.2) := by
  exact kX9_cell l D cI cB cS a0 am hf
def gC_copy (n : Nat) (a1 a2 a3 a4 a5 : Int32) (S : MS) : Option (Int32 × MS) := fX8_copy n a1 a2 a3 a4 a5 S
theorem KC_copy (l : Launch) (D : va_G) (cI cB cS : ClassId) (n : Nat) (ad : Nat → Nat) (bf : Nat → Option Nat) (hcg : bok n ad bf) {a1 a2 a3 a4 a5 : Int32} {S : MS} {q : Int32 × MS} (hf : gC_copy n a1 a2 a3 a4 a5 S = some q) : Ct l D cI cB cS yX8_copy cX8_copy 8 (some .int) 2 42 [.ref (ad 0), .int a1, .int a2, .int a3, .int a4, .int a5] (cW cI cB cS n ad bf S) (some (.int q.1)) (cW cI cB cS n ad bf q.2) := by
  exact kX8_copy l D cI cB cS n ad bf hcg hf
def gM_copy (a1 a2 a3 a4 a5 : Int32) (S : MS) : Option (Int32 × MS) := fX9_copy a1 a2 a3 a4 a5 S
theorem KM_copy (l : Launch) (D : va_G) (cI cB cS : ClassId) (a0 : Nat) (am : Nat → Nat) {a1 a2 a3 a4 a5 : Int32} {S : MS} {q : Int32 × MS} (hf : gM_copy a1 a2 a3 a4 a5 S = some q) : Ct l D cI cB cS yX9_copy cX9_copy 7 (some .int) 2 45 [.ref a0, .int a1, .int a2, .int a3, .int a4, .int a5] (mW cI a0 am S) (some (.int q.1)) (mW cI a0 am q.2) := by
  exact kX9_copy l D cI cB cS a0 am hf
def gC_tell (n : Nat) (a1 : Int32) (S : MS) : Option (Int32 × MS) := some (fX8_tell n a1 S)
theorem KC_tell (l : Launch) (D : va_G) (cI cB cS : ClassId) (n : Nat) (ad : Nat → Nat) (bf : Nat → Option Nat) (hcg : bok n ad bf) {a1 : Int32} {S : MS} {q : Int32 × MS} (hf : gC_tell n a1 S = some q) : Ct l D cI cB cS yX8_tell cX8_tell 3 (some .int) 4 85 [.ref (ad 0), .int a1] (cW cI cB cS n ad bf S) (some (.int q.1)) (cW cI cB cS n ad bf q.2) := by
  obtain rfl := Option.some.inj hf
  exact kX8_tell l D cI cB cS n ad bf hcg a1 S
def gM_tell (a1 : Int32) (S : MS) : Option (Int32 × MS) := fX9_tell a1 S
theorem KM_tell (l : Launch) (D : va_G) (cI cB cS : ClassId) (a0 : Nat) (am : Nat → Nat) {a1 : Int32} {S : MS} {q : Int32 × MS} (hf : gM_tell a1 S = some q) : Ct l D cI cB cS yX9_tell cX9_tell 4 (some .int) 2 46 [.ref a0, .int a1] (mW cI a0 am S) (some (.int q.1)) (mW cI a0 am q.2) := by
  exact kX9_tell l D cI cB cS a0 am hf
def gC_nod (n : Nat) (a1 : Int32) (S : MS) : Option (Int32 × MS) := some (fX8_nod n a1 S)
theorem KC_nod (l : Launch) (D : va_G) (cI cB cS : ClassId) (n : Nat) (ad : Nat → Nat) (bf : Nat → Option Nat) (hcg : bok n ad bf) {a1 : Int32} {S : MS} {q : Int32 × MS} (hf : gC_nod n a1 S = some q) : Ct l D cI cB cS yX8_nod cX8_nod 3 (some .int) 2 42 [.ref (ad 0), .int a1] (cW cI cB cS n ad bf S) (some (.int q.1)) (cW cI cB cS n ad bf q.2) := by
  obtain rfl := Option.some.inj hf
  exact kX8_nod l D cI cB cS n ad bf hcg a1 S
def gM_nod (a1 : Int32) (S : MS) : Option (Int32 × MS) := fX9_nod a1 S
theorem KM_nod (l : Launch) (D : va_G) (cI cB cS : ClassId) (a0 : Nat) (am : Nat → Nat) {a1 : Int32} {S : MS} {q : Int32 × MS} (hf : gM_nod a1 S = some q) : Ct l D cI cB cS yX9_nod cX9_nod 2 (some .int) 2 46 [.ref a0, .int a1] (mW cI a0 am S) (some (.int q.1)) (mW cI a0 am q.2) := by
  exact kX9_nod l D cI cB cS a0 am hf
def gC_as (n : Nat) (a1 a2 : Int32) (S : MS) : Option (Int32 × MS) := some (fX8_as n a1 a2 S)
theorem KC_as (l : Launch) (D : va_G) (cI cB cS : ClassId) (n : Nat) (ad : Nat → Nat) (bf : Nat → Option Nat) (hcg : bok n ad bf) {a1 a2 : Int32} {S : MS} {q : Int32 × MS} (hf : gC_as n a1 a2 S = some q) : Ct l D cI cB cS yX8_as cX8_as 5 (some .int) 2 42 [.ref (ad 0), .int a1, .int a2] (cW cI cB cS n ad bf S) (some (.int q.1)) (cW cI cB cS n ad bf q.2) := by
  obtain rfl := Option.some.inj hf
  exact kX8_as l D cI cB cS n ad bf hcg a1 a2 S
def gM_as (a1 a2 : Int32) (S : MS) : Option (Int32 × MS) := fX9_as a1 a2 S
theorem KM_as (l : Launch) (D : va_G) (cI cB cS : ClassId) (a0 : Nat) (am : Nat → Nat) {a1 a2 : Int32} {S : MS} {q : Int32 × MS} (hf : gM_as a1 a2 S = some q) : Ct l D cI cB cS yX9_as cX9_as 3 (some .int) 2 46 [.ref a0, .int a1, .int a2] (mW cI a0 am S) (some (.int q.1)) (mW cI a0 am q.2) := by
  exact kX9_as l D cI cB cS a0 am hf
def gC_trace (n : Nat) (S : MS) : Option (Int32 × MS) := some (fX8_trace n S, S)
theorem KC_trace (l : Launch) (D : va_G) (cI cB cS : ClassId) (n : Nat) (ad : Nat → Nat) (bf : Nat → Option Nat) (hcg : bok n ad bf) {S : MS} {q : Int32 × MS} (hf : gC_trace n S = some q) : Ct l D cI cB cS yX8_trace cX8_trace 1 (some .int) 0 0 [.ref (ad 0)] (cW cI cB cS n ad bf S) (some (.int q.1)) (cW cI cB cS n ad bf q.2) := by
  obtain rfl := Option.some.inj hf
  exact kX8_trace l D cI cB cS n ad bf hcg S
def gM_trace (S : MS) : Option (Int32 × MS) := some (fX9_trace S, S)
theorem KM_trace (l : Launch) (D : va_G) (cI cB cS : ClassId) (a0 : Nat) (am : Nat → Nat) {S : MS} {q : Int32 × MS} (hf : gM_trace S = some q) : Ct l D cI cB cS yX9_trace cX9_trace 1 (some .int) 0 0 [.ref a0] (mW cI a0 am S) (some (.int q.1)) (mW cI a0 am q.2) := by
  obtain rfl := Option.some.inj hf
  exact kX9_trace l D cI cB cS a0 am S
def gC_fault (n : Nat) (S : MS) : Option (Int32 × MS) := some (fX8_fault n S, S)
theorem KC_fault (l : Launch) (D : va_G) (cI cB cS : ClassId) (n : Nat) (ad : Nat → Nat) (bf : Nat → Option Nat) (hcg : bok n ad bf) {S : MS} {q : Int32 × MS} (hf : gC_fault n S = some q) : Ct l D cI cB cS yX8_fault cX8_fault 1 (some .int) 0 0 [.ref (ad 0)] (cW cI cB cS n ad bf S) (some (.int q.1)) (cW cI cB cS n ad bf q.2) := by
  obtain rfl := Option.some.inj hf
  exact kX8_fault l D cI cB cS n ad bf hcg S
def gM_fault (S : MS) : Option (Int32 × MS) := some (fX9_fault S, S)
theorem KM_fault (l : Launch) (D : va_G) (cI cB cS : ClassId) (a0 : Nat) (am : Nat → Nat) {S : MS} {q : Int32 × MS} (hf : gM_fault S = some q) : Ct l D cI cB cS yX9_fault cX9_fault 1 (some .int) 0 0 [.ref a0] (mW cI a0 am S) (some (.int q.1)) (mW cI a0 am q.2) := by
  obtain rfl := Option.some.inj hf
  exact kX9_fault l D cI cB cS a0 am S
def gC_many (n : Nat) (a1 : Int32) (S : MS) : Option (Int32 × MS) := some (fX8_many n a1 S, S)
theorem KC_many (l : Launch) (D : va_G) (cI cB cS : ClassId) (n : Nat) (ad : Nat → Nat) (bf : Nat → Option Nat) (hcg : bok n ad bf) {a1 : Int32} {S : MS} {q : Int32 × MS} (hf : gC_many n a1 S = some q) : Ct l D cI cB cS yX8_many cX8_many 2 (some .int) 0 0 [.ref (ad 0), .int a1] (cW cI cB cS n ad bf S) (some (.int q.1)) (cW cI cB cS n ad bf q.2) := by
  obtain rfl := Option.some.inj hf
  exact kX8_many l D cI cB cS n ad bf hcg a1 S
def gM_many (a1 : Int32) (S : MS) : Option (Int32 × MS) := some (fX9_many a1 S, S)
theorem KM_many (l : Launch) (D : va_G) (cI cB cS : ClassId) (a0 : Nat) (am : Nat → Nat) {a1 : Int32} {S : MS} {q : Int32 × MS} (hf : gM_many a1 S = some q) : Ct l D cI cB cS yX9_many cX9_many 2 (some .int) 0 0 [.ref a0, .int a1] (mW cI a0 am S) (some (.int q.1)) (mW cI a0 am q.2) := by
  obtain rfl := Option.some.inj hf
  exact kX9_many l D cI cB cS a0 am a1 S
def opsOk (Inv : Nat → MS → MS → Prop) : Prop :=
  (∀ (n : Nat) (S M : MS) (a1 a2 a3 a4 : Int32), Inv n S M → ∃ q qm, fX8_hall n a1 a2 a3 a4 S = some q ∧ gM_hall a1 a2 a3 a4 M = some qm ∧ q.1 = qm.1 ∧ Inv q.2.1 q.2.2 qm.2) ∧
  (∀ (n : Nat) (S M : MS) (a1 a2 : Int32), Inv n S M → ∃ q qm, gC_ofBuyer n a1 a2 S = some q ∧ gM_ofBuyer a1 a2 M = some qm ∧ q.1 = qm.1 ∧ Inv n q.2 qm.2) ∧
  (∀ (n : Nat) (S M : MS) (a1 a2 a3 : Int32), Inv n S M → ∃ q qm, gC_worth n a1 a2 a3 S = some q ∧ gM_worth a1 a2 a3 M = some qm ∧ q.1 = qm.1 ∧ Inv n q.2 qm.2) ∧
  (∀ (n : Nat) (S M : MS) (a1 a2 : Int32), Inv n S M → ∃ q qm, gC_limit n a1 a2 S = some q ∧ gM_limit a1 a2 M = some qm ∧ q.1 = qm.1 ∧ Inv n q.2 qm.2) ∧
  (∀ (n : Nat) (S M : MS) (a1 a2 : Int32), Inv n S M → ∃ q qm, gC_sit n a1 a2 S = some q ∧ gM_sit a1 a2 M = some qm ∧ q.1 = qm.1 ∧ Inv n q.2 qm.2) ∧
  (∀ (n : Nat) (S M : MS) (a1 : Int32), Inv n S M → ∃ q qm, gC_law n a1 S = some q ∧ gM_law a1 M = some qm ∧ q.1 = qm.1 ∧ Inv n q.2 qm.2) ∧
  (∀ (n : Nat) (S M : MS) (a1 a2 : Int32), Inv n S M → ∃ q qm, gC_sale n a1 a2 S = some q ∧ gM_sale a1 a2 M = some qm ∧ q.1 = qm.1 ∧ Inv n q.2 qm.2) ∧
  (∀ (n : Nat) (S M : MS) (a1 a2 : Int32), Inv n S M → ∃ q qm, gC_bid n a1 a2 S = some q ∧ gM_bid a1 a2 M = some qm ∧ q.1 = qm.1 ∧ Inv n q.2 qm.2) ∧
  (∀ (n : Nat) (S M : MS) (a1 a2 : Int32), Inv n S M → ∃ q qm, gC_ends n a1 a2 S = some q ∧ gM_ends a1 a2 M = some qm ∧ q.1 = qm.1 ∧ Inv n q.2 qm.2) ∧
  (∀ (n : Nat) (S M : MS) (a1 a2 a3 a4 a5 : Int32), Inv n S M → ∃ q qm, gC_row n a1 a2 a3 a4 a5 S = some q ∧ gM_row a1 a2 a3 a4 a5 M = some qm ∧ q.1 = qm.1 ∧ Inv n q.2 qm.2) ∧
  (∀ (n : Nat) (S M : MS) (a1 a2 : Int32), Inv n S M → ∃ q qm, gC_gain n a1 a2 S = some q ∧ gM_gain a1 a2 M = some qm ∧ q.1 = qm.1 ∧ Inv n q.2 qm.2) ∧
  (∀ (n : Nat) (S M : MS) (a1 a2 a3 : Int32), Inv n S M → ∃ q qm, gC_best n a1 a2 a3 S = some q ∧ gM_best a1 a2 a3 M = some qm ∧ q.1 = qm.1 ∧ Inv n q.2 qm.2) ∧
  (∀ (n : Nat) (S M : MS) (a1 : Int32), Inv n S M → ∃ q qm, gC_order n a1 S = some q ∧ gM_order a1 M = some qm ∧ q.1 = qm.1 ∧ Inv n q.2 qm.2) ∧
  (∀ (n : Nat) (S M : MS) (a1 a2 : Int32), Inv n S M → ∃ q qm, gC_ring n a1 a2 S = some q ∧ gM_ring a1 a2 M = some qm ∧ q.1 = qm.1 ∧ Inv n q.2 qm.2) ∧
  (∀ (n : Nat) (S M : MS) (a1 a2 : Int32), Inv n S M → ∃ q qm, gC_mean n a1 a2 S = some q ∧ gM_mean a1 a2 M = some qm ∧ q.1 = qm.1 ∧ Inv n q.2 qm.2) ∧
  (∀ (n : Nat) (S M : MS) (a1 : Int32), Inv n S M → ∃ q qm, gC_hangs n a1 S = some q ∧ gM_hangs a1 M = some qm ∧ q.1 = qm.1 ∧ Inv n q.2 qm.2) ∧
  (∀ (n : Nat) (S M : MS) (a1 a2 : Int32), Inv n S M → ∃ q qm, gC_reading n a1 a2 S = some q ∧ gM_reading a1 a2 M = some qm ∧ q.1 = qm.1 ∧ Inv n q.2 qm.2) ∧
  (∀ (n : Nat) (S M : MS) (a1 : Int32), Inv n S M → ∃ q qm, gC_back n a1 S = some q ∧ gM_back a1 M = some qm ∧ q.1 = qm.1 ∧ Inv n q.2 qm.2) ∧
  (∀ (n : Nat) (S M : MS) (a1 a2 a3 : Int32), Inv n S M → ∃ q qm, gC_values n a1 a2 a3 S = some q ∧ gM_values a1 a2 a3 M = some qm ∧ q.1 = qm.1 ∧ Inv n q.2 qm.2) ∧
  (∀ (n : Nat) (S M : MS) (a1 : Int32), Inv n S M → ∃ q qm, gC_places n a1 S = some q ∧ gM_places a1 M = some qm ∧ q.1 = qm.1 ∧ Inv n q.2 qm.2) ∧
  (∀ (n : Nat) (S M : MS) (a1 a2 a3 : Int32), Inv n S M → ∃ q qm, gC_sheet n a1 a2 a3 S = some q ∧ gM_sheet a1 a2 a3 M = some qm ∧ q.1 = qm.1 ∧ Inv n q.2 qm.2) ∧
  (∀ (n : Nat) (S M : MS) (a1 : Int32), Inv n S M → ∃ q qm, gC_lose n a1 S = some q ∧ gM_lose a1 M = some qm ∧ q.1 = qm.1 ∧ Inv n q.2 qm.2) ∧
  (∀ (n : Nat) (S M : MS) (a1 a2 a3 : Int32), Inv n S M → ∃ q qm, gC_put n a1 a2 a3 S = some q ∧ gM_put a1 a2 a3 M = some qm ∧ q.1 = qm.1 ∧ Inv n q.2 qm.2) ∧
  (∀ (n : Nat) (S M : MS) (a1 a2 a3 : Int32), Inv n S M → ∃ q qm, gC_cell n a1 a2 a3 S = some q ∧ gM_cell a1 a2 a3 M = some qm ∧ q.1 = qm.1 ∧ Inv n q.2 qm.2) ∧
  (∀ (n : Nat) (S M : MS) (a1 a2 a3 a4 a5 : Int32), Inv n S M → ∃ q qm, gC_copy n a1 a2 a3 a4 a5 S = some q ∧ gM_copy a1 a2 a3 a4 a5 M = some qm ∧ q.1 = qm.1 ∧ Inv n q.2 qm.2) ∧
  (∀ (n : Nat) (S M : MS) (a1 : Int32), Inv n S M → ∃ q qm, gC_tell n a1 S = some q ∧ gM_tell a1 M = some qm ∧ q.1 = qm.1 ∧ Inv n q.2 qm.2) ∧
  (∀ (n : Nat) (S M : MS) (a1 : Int32), Inv n S M → ∃ q qm, gC_nod n a1 S = some q ∧ gM_nod a1 M = some qm ∧ q.1 = qm.1 ∧ Inv n q.2 qm.2) ∧
  (∀ (n : Nat) (S M : MS) (a1 a2 : Int32), Inv n S M → ∃ q qm, gC_as n a1 a2 S = some q ∧ gM_as a1 a2 M = some qm ∧ q.1 = qm.1 ∧ Inv n q.2 qm.2) ∧
  (∀ (n : Nat) (S M : MS), Inv n S M → ∃ q qm, gC_trace n S = some q ∧ gM_trace M = some qm ∧ q.1 = qm.1 ∧ Inv n q.2 qm.2) ∧
  (∀ (n : Nat) (S M : MS), Inv n S M → ∃ q qm, gC_fault n S = some q ∧ gM_fault M = some qm ∧ q.1 = qm.1 ∧ Inv n q.2 qm.2) ∧
  (∀ (n : Nat) (S M : MS) (a1 : Int32), Inv n S M → ∃ q qm, gC_many n a1 S = some q ∧ gM_many a1 M = some qm ∧ q.1 = qm.1 ∧ Inv n q.2 qm.2)
