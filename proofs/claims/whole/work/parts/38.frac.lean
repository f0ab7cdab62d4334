/-! FRACTIONS in lowest terms: rd1 u P / rd2 u P = u / P -/
def rd1 (u P : Nat) : Nat := u / Nat.gcd u P
def rd2 (u P : Nat) : Nat := P / Nat.gcd u P
theorem rd_g {u P : Nat} (hP : 0 < P) : 0 < Nat.gcd u P := Nat.gcd_pos_of_pos_right u hP
theorem rd_1 {u P : Nat} : rd1 u P * Nat.gcd u P = u := Nat.div_mul_cancel (Nat.gcd_dvd_left u P)
theorem rd_2 {u P : Nat} : rd2 u P * Nat.gcd u P = P := Nat.div_mul_cancel (Nat.gcd_dvd_right u P)
theorem rd_co {u P : Nat} (hP : 0 < P) : Nat.Coprime (rd1 u P) (rd2 u P) := Nat.coprime_div_gcd_div_gcd (rd_g hP)
theorem rd_x {u P : Nat} : rd1 u P * P = rd2 u P * u := by
  have h1 := @rd_1 u P
  have h2 := @rd_2 u P
  calc rd1 u P * P = rd1 u P * (rd2 u P * Nat.gcd u P) := by rw [h2]
    _ = rd2 u P * (rd1 u P * Nat.gcd u P) := by rw [← Nat.mul_assoc, ← Nat.mul_assoc, Nat.mul_comm (rd1 u P)]
    _ = _ := by rw [h1]
theorem rd_p {u P : Nat} (hP : 0 < P) : 0 < rd2 u P := Nat.div_gcd_pos_of_pos_right u hP
theorem rd_q {u P : Nat} (hu : 0 < u) : 0 < rd1 u P := Nat.div_gcd_pos_of_pos_left P hu
theorem rd_d {u P : Nat} : rd2 u P ∣ P := ⟨Nat.gcd u P, rd_2.symm⟩
theorem rd_le1 {u P : Nat} : rd1 u P ≤ u := Nat.div_le_self _ _
theorem rd_le2 {u P : Nat} : rd2 u P ≤ P := Nat.div_le_self _ _
/-- there is but one in lowest terms -/
theorem rd_one {a b u P : Nat} (hc : Nat.Coprime a b) (hb : 0 < b) (hP : 0 < P) (hx : a * P = b * u) : a = rd1 u P ∧ b = rd2 u P := by
  have hg := @rd_g u P hP
  have h1 := @rd_1 u P
  have h2 := @rd_2 u P
  have hx2 : a * rd2 u P = b * rd1 u P := by
    apply Nat.eq_of_mul_eq_mul_right hg
    calc a * rd2 u P * Nat.gcd u P = a * P := by rw [Nat.mul_assoc, h2]
      _ = b * (rd1 u P * Nat.gcd u P) := by rw [hx, h1]
      _ = _ := (Nat.mul_assoc _ _ _).symm
  have d1 : b ∣ rd2 u P := Nat.Coprime.dvd_of_dvd_mul_left hc.symm ⟨rd1 u P, hx2⟩
  have d2 : rd2 u P ∣ b := Nat.Coprime.dvd_of_dvd_mul_right (rd_co hP).symm ⟨a, by rw [← hx2, Nat.mul_comm]⟩
  have e : b = rd2 u P := Nat.dvd_antisymm d1 d2
  refine ⟨?_, e⟩
  apply Nat.eq_of_mul_eq_mul_left hb
  rw [← hx2, ← e, Nat.mul_comm]
theorem rd_cross {A B u V : Nat} (hB : 0 < B) (hV : 0 < V) (hx : A * V = B * u) : rd1 A B = rd1 u V ∧ rd2 A B = rd2 u V := by
  refine rd_one (rd_co hB) (rd_p hB) hV ?_
  have h := @rd_x A B
  apply Nat.eq_of_mul_eq_mul_right hB
  calc rd1 A B * V * B = rd1 A B * B * V := Nat.mul_right_comm _ _ _
    _ = rd2 A B * (A * V) := by rw [h, Nat.mul_assoc]
    _ = rd2 A B * (u * B) := by rw [hx, Nat.mul_comm B]
    _ = _ := (Nat.mul_assoc _ _ _).symm
theorem rd_mul {u P k : Nat} (hP : 0 < P) (hk : 0 < k) : rd1 (u * k) (P * k) = rd1 u P ∧ rd2 (u * k) (P * k) = rd2 u P := rd_cross (Nat.mul_pos hP hk) hP (by rw [Nat.mul_right_comm, Nat.mul_right_comm P k u, Nat.mul_comm u P])
theorem rd_rd {u P : Nat} (hP : 0 < P) : rd1 (rd1 u P) (rd2 u P) = rd1 u P ∧ rd2 (rd1 u P) (rd2 u P) = rd2 u P := rd_cross (rd_p hP) hP rd_x
/-- a sum -/
theorem rd_sum {l q V : Nat} (hV : 0 < V) :
    let b := rd2 l V
    let d := rd2 q V
    let by' := Nat.gcd b d
    let A := rd1 l V * (d / by') + rd1 q V * (b / by')
    let B := b / by' * d
    0 < by' ∧ 0 < B ∧ A ≤ l + q ∧ B ≤ V ∧ rd1 A B = rd1 (l + q) V ∧ rd2 A B = rd2 (l + q) V := by
  intro b d by' A B
  have hb : 0 < b := rd_p hV
  have hd : 0 < d := rd_p hV
  have hg : 0 < by' := Nat.gcd_pos_of_pos_left d hb
  have e1 : b / by' * by' = b := Nat.div_mul_cancel (Nat.gcd_dvd_left b d)
  have e2 : d / by' * by' = d := Nat.div_mul_cancel (Nat.gcd_dvd_right b d)
  have hb' : 0 < b / by' := Nat.div_gcd_pos_of_pos_left d hb
  have hB : 0 < B := Nat.mul_pos hb' hd
  have x1 : rd1 l V * V = b * l := rd_x
  have x2 : rd1 q V * V = d * q := rd_x
  have hx : A * V = B * (l + q) := by
    show (rd1 l V * (d / by') + rd1 q V * (b / by')) * V = b / by' * d * (l + q)
    have s1 : rd1 l V * (d / by') * V = b / by' * d * l := by
      calc rd1 l V * (d / by') * V = rd1 l V * V * (d / by') := Nat.mul_right_comm _ _ _
        _ = b * l * (d / by') := by rw [x1]
        _ = b / by' * by' * l * (d / by') := by rw [e1]
        _ = b / by' * (d / by' * by') * l := by simp only [Nat.mul_assoc, Nat.mul_comm, Nat.mul_left_comm]
        _ = _ := by rw [e2]
    have s2 : rd1 q V * (b / by') * V = b / by' * d * q := by
      calc rd1 q V * (b / by') * V = rd1 q V * V * (b / by') := Nat.mul_right_comm _ _ _
        _ = d * q * (b / by') := by rw [x2]
        _ = _ := by simp only [Nat.mul_assoc, Nat.mul_comm, Nat.mul_left_comm]
    rw [Nat.add_mul, s1, s2, Nat.mul_add]
  have hdv : B ∣ V := by
    have l1 : Nat.lcm b d ∣ V := Nat.lcm_dvd rd_d rd_d
    have l2 : B = Nat.lcm b d := by
      show b / by' * d = b * d / by'
      rw [Nat.div_mul_right_comm (Nat.gcd_dvd_left b d)]
    rw [l2]
    exact l1
  obtain ⟨t, ht⟩ := hdv
  have ht0 : 0 < t := by
    rcases Nat.eq_zero_or_pos t with z | z
    · rw [z, Nat.mul_zero] at ht; omega
    · exact z
  have hA : A * t = l + q := by
    apply Nat.eq_of_mul_eq_mul_left hB
    rw [← hx, ht]
    simp only [Nat.mul_assoc, Nat.mul_comm, Nat.mul_left_comm]
  refine ⟨hg, hB, ?_, ?_, rd_cross hB hV hx⟩
  · rw [← hA]
    exact Nat.le_mul_of_pos_right A ht0
  · exact Nat.le_of_dvd hV ⟨t, ht⟩
/-- a product -/
theorem rd_prod {l P q R u V : Nat} (hP : 0 < P) (hR : 0 < R) (hV : 0 < V) (hx : l * q * V = P * R * u) :
    let a := rd1 l P
    let b := rd2 l P
    let c := rd1 q R
    let d := rd2 q R
    0 < Nat.gcd a d ∧ 0 < Nat.gcd c b ∧ a / Nat.gcd a d * (c / Nat.gcd c b) = rd1 u V ∧ b / Nat.gcd c b * (d / Nat.gcd a d) = rd2 u V := by
  intro a b c d
  have hb : 0 < b := rd_p hP
  have hd : 0 < d := rd_p hR
  have gx : 0 < Nat.gcd a d := Nat.gcd_pos_of_pos_right a hd
  have gy : 0 < Nat.gcd c b := Nat.gcd_pos_of_pos_right c hb
  have ea : a / Nat.gcd a d * Nat.gcd a d = a := Nat.div_mul_cancel (Nat.gcd_dvd_left a d)
  have ed : d / Nat.gcd a d * Nat.gcd a d = d := Nat.div_mul_cancel (Nat.gcd_dvd_right a d)
  have ec : c / Nat.gcd c b * Nat.gcd c b = c := Nat.div_mul_cancel (Nat.gcd_dvd_left c b)
  have eb : b / Nat.gcd c b * Nat.gcd c b = b := Nat.div_mul_cancel (Nat.gcd_dvd_right c b)
  have cab : Nat.Coprime a b := rd_co hP
  have ccd : Nat.Coprime c d := rd_co hR
  have k1 : Nat.Coprime (a / Nat.gcd a d) (d / Nat.gcd a d) := Nat.coprime_div_gcd_div_gcd gx
  have k2 : Nat.Coprime (c / Nat.gcd c b) (b / Nat.gcd c b) := Nat.coprime_div_gcd_div_gcd gy
  have k3 : Nat.Coprime (a / Nat.gcd a d) (b / Nat.gcd c b) := Nat.Coprime.coprime_dvd_left ⟨_, ea.symm⟩ (Nat.Coprime.coprime_dvd_right ⟨_, eb.symm⟩ cab)
  have k4 : Nat.Coprime (c / Nat.gcd c b) (d / Nat.gcd a d) := Nat.Coprime.coprime_dvd_left ⟨_, ec.symm⟩ (Nat.Coprime.coprime_dvd_right ⟨_, ed.symm⟩ ccd)
  have co : Nat.Coprime (a / Nat.gcd a d * (c / Nat.gcd c b)) (b / Nat.gcd c b * (d / Nat.gcd a d)) := Nat.Coprime.mul_left (Nat.Coprime.mul_right k3 k1) (Nat.Coprime.mul_right k2 k4)
  refine ⟨gx, gy, rd_one co (Nat.mul_pos (Nat.div_gcd_pos_of_pos_right c hb) (Nat.div_gcd_pos_of_pos_right a hd)) hV ?_⟩
  have xa : a * P = b * l := rd_x
  have xc : c * R = d * q := rd_x
  have big : a * c * V = b * d * u := by
    apply Nat.eq_of_mul_eq_mul_right (Nat.mul_pos hP hR)
    calc a * c * V * (P * R) = (a * P) * (c * R) * V := by simp only [Nat.mul_assoc, Nat.mul_comm, Nat.mul_left_comm]
      _ = (b * l) * (d * q) * V := by rw [xa, xc]
      _ = b * d * (l * q * V) := by simp only [Nat.mul_assoc, Nat.mul_comm, Nat.mul_left_comm]
      _ = b * d * (P * R * u) := by rw [hx]
      _ = _ := by simp only [Nat.mul_assoc, Nat.mul_comm, Nat.mul_left_comm]
  apply Nat.eq_of_mul_eq_mul_right (Nat.mul_pos gx gy)
  calc a / Nat.gcd a d * (c / Nat.gcd c b) * V * (Nat.gcd a d * Nat.gcd c b) = (a / Nat.gcd a d * Nat.gcd a d) * (c / Nat.gcd c b * Nat.gcd c b) * V := by simp only [Nat.mul_assoc, Nat.mul_comm, Nat.mul_left_comm]
    _ = a * c * V := by rw [ea, ec]
    _ = b * d * u := big
    _ = (b / Nat.gcd c b * Nat.gcd c b) * (d / Nat.gcd a d * Nat.gcd a d) * u := by rw [eb, ed]
    _ = _ := by simp only [Nat.mul_assoc, Nat.mul_comm, Nat.mul_left_comm]
/-- the nearest whole number, halves upwards -/
def nr (u P : Nat) : Nat := (2 * u + P) / (2 * P)
theorem nr_cross {A B u V : Nat} (hB : 0 < B) (hV : 0 < V) (hx : A * V = B * u) : nr A B = nr u V := by
  unfold nr
  have e1 : (2 * A + B) * V = (2 * u + V) * B := by
    rw [Nat.add_mul, Nat.add_mul, Nat.mul_assoc, hx, Nat.mul_assoc 2 u B, Nat.mul_comm u B, Nat.mul_comm B V]
  have e2 : 2 * B * V = 2 * V * B := Nat.mul_right_comm 2 B V
  rw [← Nat.mul_div_mul_right (2 * A + B) (2 * B) hV, e1, e2, Nat.mul_div_mul_right _ _ hB]
theorem nr_rd {u P : Nat} (hP : 0 < P) : nr (rd1 u P) (rd2 u P) = nr u P := nr_cross (rd_p hP) hP rd_x
theorem nr_mono {u v P : Nat} (h : u ≤ v) : nr u P ≤ nr v P := Nat.div_le_div_right (by omega)
theorem nr_le {u P m : Nat} (hP : 0 < P) (h : u ≤ m * P) : nr u P ≤ m := by
  unfold nr
  have : 2 * u + P < (m + 1) * (2 * P) := by
    have e : (m + 1) * (2 * P) = 2 * (m * P) + 2 * P := by rw [Nat.add_mul, Nat.one_mul, Nat.mul_left_comm]
    omega
  exact Nat.le_of_lt_succ ((Nat.div_lt_iff_lt_mul (by omega)).mpr this)
