def manyX (X : Nat) : Nat := 2 + X / 64 % 4
def kmX (X : Nat) : Nat := X / 1024 % 6
def FX (X : Nat) : Nat → Nat := fun i => X / 2 ^ (4 + i) % manyX X
def GX (X : Nat) : Nat → Nat := fun i => (FX X i + 1 + X / 2 ^ (8 + i) % (manyX X - 1)) % manyX X
def DX (X : Nat) : Nat → Nat := fun t => if t % 5 = 1 then 48 else if t % 5 = 2 then 48 + X / 2 ^ (7 + t / 5) % 3 else if t % 5 = 3 then 48 + X / 2 ^ (5 + t / 5) % 10 else 48 + X / 2 ^ (9 + t / 5) % 10
def TX (X : Nat) : Nat → Nat := TT (X / 16 % 4) (manyX X) (DX X) (FX X) (GX X)
def PX (X : Nat) : Nat → Nat := fun i => dv (TX X) (2 + 5 * i + 1) 4
def gsm (g : Int32) (b s : Nat) : Nat → Int32
  | 0 => g
  | i + 1 => gsm g b s i + nN (b + s * i + s)
def townR (q X : Nat) : Int32 := gsm (gsm (nN q + nN 2) 2 5 (manyX X)) (2 + 5 * manyX X) 3 (kmX X) + nN (manyX X)
theorem many_in (X : Nat) : 2 ≤ manyX X ∧ manyX X ≤ 5 ∧ kmX X ≤ 5 := by unfold manyX kmX; omega
theorem FG_in (X : Nat) (j : Nat) : FX X j < manyX X ∧ GX X j < manyX X ∧ FX X j ≠ GX X j := by
  have h := many_in X
  have h1 : FX X j < manyX X := Nat.mod_lt _ (by omega)
  obtain ⟨h2, h3⟩ := two_ne (d := X / 2 ^ (8 + j)) h.1 h1
  exact ⟨h1, h3, fun e => h2 e.symm⟩
theorem DX_in (X : Nat) (t : Nat) : 48 ≤ DX X t ∧ DX X t < 58 := by
  unfold DX
  split
  · omega
  · split
    · omega
    · split <;> omega
theorem town_TW (X : Nat) : TW (2 + 5 * manyX X + 3 * kmX X) (TX X) (X / 16 % 4) (manyX X) (kmX X) (PX X) (FX X) (GX X) :=
  TT_W (by omega) (many_in X).1 (many_in X).2.1 (many_in X).2.2 (DX_in X) (fun j _ => FG_in X j)
theorem v_law (X : Nat) : (19504 : Int64) + Int32.toInt64 (nN (X / 16 % 4)) = Int64.ofInt ((19504 + X / 16 % 4 : Nat) : Int) := by
  rw [l_of (by omega), show (19504 : Int64) = Int64.ofInt 19504 from rfl, ← Int64.ofInt_add]
  rfl
theorem v_per {a b c : Nat} (ha : a < 3) (hb : b < 10) (hc : c < 10) : (((344405848112 : Int64) + ((65536 : Int64) * Int32.toInt64 (nN a))) + ((256 : Int64) * Int32.toInt64 (nN b))) + Int32.toInt64 (nN c) = Int64.ofInt ((344405848112 + 65536 * a + 256 * b + c : Nat) : Int) := by
  rw [l_of (by omega), l_of (by omega), l_of (by omega), show (344405848112 : Int64) = Int64.ofInt 344405848112 from rfl, show (65536 : Int64) = Int64.ofInt 65536 from rfl, show (256 : Int64) = Int64.ofInt 256 from rfl, ← Int64.ofInt_mul, ← Int64.ofInt_mul, ← Int64.ofInt_add, ← Int64.ofInt_add, ← Int64.ofInt_add]
  rfl
theorem v_mee {f g : Nat} (hf : f < 10) (hg : g < 10) : ((5058608 : Int64) + ((256 : Int64) * Int32.toInt64 (nN f))) + Int32.toInt64 (nN g) = Int64.ofInt ((5058608 + 256 * f + g : Nat) : Int) := by
  rw [l_of (by omega), l_of (by omega), show (5058608 : Int64) = Int64.ofInt 5058608 from rfl, show (256 : Int64) = Int64.ofInt 256 from rfl, ← Int64.ofInt_mul, ← Int64.ofInt_add, ← Int64.ofInt_add]
  rfl
theorem b_law (X : Nat) : ∀ j, j < 2 → TX X (0 + j) = byteN (Int64.ofInt ((19504 + X / 16 % 4 : Nat) : Int)) (2 - 1 - j) := by
  intro j hj
  rw [byte_of (by omega)]
  unfold TX TT
  rcases (show j = 0 ∨ j = 1 by omega) with rfl | rfl
  · rw [if_pos rfl]
    show 76 = (19504 + X / 16 % 4) / 256 % 256
    omega
  · rw [if_neg (by omega), if_pos rfl]
    show 48 + X / 16 % 4 = (19504 + X / 16 % 4) / 1 % 256
    omega
theorem b_per {X i : Nat} (hi : i < manyX X) : ∀ j, j < 5 → TX X (2 + 5 * i + j) = byteN (Int64.ofInt ((344405848112 + 65536 * (X / 2 ^ (7 + i) % 3) + 256 * (X / 2 ^ (5 + i) % 10) + X / 2 ^ (9 + i) % 10 : Nat) : Int)) (5 - 1 - j) := by
  intro j hj
  rw [byte_of (by omega)]
  unfold TX
  rw [TT_p hi hj]
  have ha := Nat.mod_lt (X / 2 ^ (7 + i)) (show 0 < 3 by omega)
  have hb := Nat.mod_lt (X / 2 ^ (5 + i)) (show 0 < 10 by omega)
  have hc := Nat.mod_lt (X / 2 ^ (9 + i)) (show 0 < 10 by omega)
  have hm : (5 * i + j) % 5 = j := by omega
  have hd : (5 * i + j) / 5 = i := by omega
  unfold DX
  rw [hm, hd]
  generalize X / 2 ^ (7 + i) % 3 = a at *
  generalize X / 2 ^ (5 + i) % 10 = b at *
  generalize X / 2 ^ (9 + i) % 10 = c at *
  rcases (show j = 0 ∨ j = 1 ∨ j = 2 ∨ j = 3 ∨ j = 4 by omega) with rfl | rfl | rfl | rfl | rfl
  · rw [if_pos rfl]
    show 80 = (344405848112 + 65536 * a + 256 * b + c) / 4294967296 % 256
    omega
  · rw [if_neg (by omega), if_pos rfl]
    show 48 = (344405848112 + 65536 * a + 256 * b + c) / 16777216 % 256
    omega
  · rw [if_neg (by omega), if_neg (by omega), if_pos rfl]
    show 48 + a = (344405848112 + 65536 * a + 256 * b + c) / 65536 % 256
    omega
  · rw [if_neg (by omega), if_neg (by omega), if_neg (by omega), if_pos rfl]
    show 48 + b = (344405848112 + 65536 * a + 256 * b + c) / 256 % 256
    omega
  · rw [if_neg (by omega), if_neg (by omega), if_neg (by omega), if_neg (by omega)]
    show 48 + c = (344405848112 + 65536 * a + 256 * b + c) / 1 % 256
    omega
theorem b_mee (X i : Nat) : ∀ j, j < 3 → TX X (2 + 5 * manyX X + 3 * i + j) = byteN (Int64.ofInt ((5058608 + 256 * FX X i + GX X i : Nat) : Int)) (3 - 1 - j) := by
  intro j hj
  have h1 := FG_in X i
  have h2 := many_in X
  rw [byte_of (by omega)]
  unfold TX
  rw [TT_m hj]
  generalize FX X i = f at *
  generalize GX X i = g at *
  rcases (show j = 0 ∨ j = 1 ∨ j = 2 by omega) with rfl | rfl | rfl
  · rw [if_pos rfl]
    show 77 = (5058608 + 256 * f + g) / 65536 % 256
    omega
  · rw [if_neg (by omega), if_pos rfl]
    show 48 + f = (5058608 + 256 * f + g) / 256 % 256
    omega
  · rw [if_neg (by omega), if_neg (by omega)]
    show 48 + g = (5058608 + 256 * f + g) / 1 % 256
    omega
set_option maxHeartbeats 4000000 in
theorem act_town {X : Nat} {n q m w k e : Nat} {T F G P A B C D U V : Nat → Nat} {f1 : Nat} {h1 : Nat → Nat → Nat} {f2 : Nat} {h2 : Nat → Nat → Nat} {v_text_length : Int32} {v_text_place : Int32} {v_text_lawNumber : Int32} {v_text_people : Int32} {a_text_bytes : Nat → Int32} {a_text_purses : Nat → Int32} {v_text_meetings_size : Int32} {a_text_meetings_firsts : Nat → Int32} {a_text_meetings_seconds : Nat → Int32} {v_theDay_size : Int32} {a_theDay_firsts : Nat → Int32} {a_theDay_seconds : Nat → Int32} {v_now_filled : Int32} {v_now_people : Int32} {v_now_lawNumber : Int32} {v_now_made : Int32} {v_now_seen : Int32} {a_now_purses : Nat → Int32} {a_now_firsts : Nat → Int32} {a_now_seconds : Nat → Int32} {a_now_firstsHad : Nat → Int32} {a_now_secondsHad : Nat → Int32} {a_now_seenSums : Nat → Int32} {a_now_seenShared : Nat → Int32} {v_firstSlot_filled : Int32} {v_firstSlot_people : Int32} {v_firstSlot_lawNumber : Int32} {v_firstSlot_made : Int32} {v_firstSlot_seen : Int32} {a_firstSlot_purses : Nat → Int32} {a_firstSlot_firsts : Nat → Int32} {a_firstSlot_seconds : Nat → Int32} {a_firstSlot_firstsHad : Nat → Int32} {a_firstSlot_secondsHad : Nat → Int32} {a_firstSlot_seenSums : Nat → Int32} {a_firstSlot_seenShared : Nat → Int32} {v_secondSlot_filled : Int32} {v_secondSlot_people : Int32} {v_secondSlot_lawNumber : Int32} {v_secondSlot_made : Int32} {v_secondSlot_seen : Int32} {a_secondSlot_purses : Nat → Int32} {a_secondSlot_firsts : Nat → Int32} {a_secondSlot_seconds : Nat → Int32} {a_secondSlot_firstsHad : Nat → Int32} {a_secondSlot_secondsHad : Nat → Int32} {a_secondSlot_seenSums : Nat → Int32} {a_secondSlot_seenShared : Nat → Int32} {Post : Int32 → (Int32) → (Int32) → (Int32) → (Int32) → (Nat → Int32) → (Nat → Int32) → (Int32) → (Nat → Int32) → (Nat → Int32) → (Int32) → (Nat → Int32) → (Nat → Int32) → (Int32) → (Int32) → (Int32) → (Int32) → (Int32) → (Nat → Int32) → (Nat → Int32) → (Nat → Int32) → (Nat → Int32) → (Nat → Int32) → (Nat → Int32) → (Nat → Int32) → (Int32) → (Int32) → (Int32) → (Int32) → (Int32) → (Nat → Int32) → (Nat → Int32) → (Nat → Int32) → (Nat → Int32) → (Nat → Int32) → (Nat → Int32) → (Nat → Int32) → (Int32) → (Int32) → (Int32) → (Int32) → (Int32) → (Nat → Int32) → (Nat → Int32) → (Nat → Int32) → (Nat → Int32) → (Nat → Int32) → (Nat → Int32) → (Nat → Int32) → Prop} (hX : X < 2147483648) (hc : X % 16 = 0)  (hO : OB n q m w k e T F G P A B C D U V f1 h1 f2 h2 v_text_length a_text_bytes v_theDay_size a_theDay_firsts a_theDay_seconds v_now_people v_now_lawNumber v_now_made v_now_seen a_now_purses a_now_firsts a_now_seconds a_now_firstsHad a_now_secondsHad a_now_seenSums a_now_seenShared v_firstSlot_filled v_firstSlot_people v_firstSlot_lawNumber v_firstSlot_made v_firstSlot_seen a_firstSlot_purses a_firstSlot_firsts a_firstSlot_seconds a_firstSlot_firstsHad a_firstSlot_secondsHad a_firstSlot_seenSums a_firstSlot_seenShared v_secondSlot_filled v_secondSlot_people v_secondSlot_lawNumber v_secondSlot_made v_secondSlot_seen a_secondSlot_purses a_secondSlot_firsts a_secondSlot_seconds a_secondSlot_firstsHad a_secondSlot_secondsHad a_secondSlot_seenSums a_secondSlot_seenShared) (hK : ∀ (m_v_text_length : Int32) (m_v_text_place : Int32) (m_v_text_lawNumber : Int32) (m_v_text_people : Int32) (m_a_text_bytes : Nat → Int32) (m_a_text_purses : Nat → Int32) (m_v_text_meetings_size : Int32) (m_a_text_meetings_firsts : Nat → Int32) (m_a_text_meetings_seconds : Nat → Int32) (m_v_theDay_size : Int32) (m_a_theDay_firsts : Nat → Int32) (m_a_theDay_seconds : Nat → Int32) (m_v_now_filled : Int32) (m_v_now_people : Int32) (m_v_now_lawNumber : Int32) (m_v_now_made : Int32) (m_v_now_seen : Int32) (m_a_now_purses : Nat → Int32) (m_a_now_firsts : Nat → Int32) (m_a_now_seconds : Nat → Int32) (m_a_now_firstsHad : Nat → Int32) (m_a_now_secondsHad : Nat → Int32) (m_a_now_seenSums : Nat → Int32) (m_a_now_seenShared : Nat → Int32) (m_v_firstSlot_filled : Int32) (m_v_firstSlot_people : Int32) (m_v_firstSlot_lawNumber : Int32) (m_v_firstSlot_made : Int32) (m_v_firstSlot_seen : Int32) (m_a_firstSlot_purses : Nat → Int32) (m_a_firstSlot_firsts : Nat → Int32) (m_a_firstSlot_seconds : Nat → Int32) (m_a_firstSlot_firstsHad : Nat → Int32) (m_a_firstSlot_secondsHad : Nat → Int32) (m_a_firstSlot_seenSums : Nat → Int32) (m_a_firstSlot_seenShared : Nat → Int32) (m_v_secondSlot_filled : Int32) (m_v_secondSlot_people : Int32) (m_v_secondSlot_lawNumber : Int32) (m_v_secondSlot_made : Int32) (m_v_secondSlot_seen : Int32) (m_a_secondSlot_purses : Nat → Int32) (m_a_secondSlot_firsts : Nat → Int32) (m_a_secondSlot_seconds : Nat → Int32) (m_a_secondSlot_firstsHad : Nat → Int32) (m_a_secondSlot_secondsHad : Nat → Int32) (m_a_secondSlot_seenSums : Nat → Int32) (m_a_secondSlot_seenShared : Nat → Int32), OB (manyX X) (2 + 5 * manyX X + 3 * kmX X) (kmX X) (X / 16 % 4) 0 0 (TX X) (FX X) (GX X) (PX X) A B C D U V 0 h1 0 h2 m_v_text_length m_a_text_bytes m_v_theDay_size m_a_theDay_firsts m_a_theDay_seconds m_v_now_people m_v_now_lawNumber m_v_now_made m_v_now_seen m_a_now_purses m_a_now_firsts m_a_now_seconds m_a_now_firstsHad m_a_now_secondsHad m_a_now_seenSums m_a_now_seenShared m_v_firstSlot_filled m_v_firstSlot_people m_v_firstSlot_lawNumber m_v_firstSlot_made m_v_firstSlot_seen m_a_firstSlot_purses m_a_firstSlot_firsts m_a_firstSlot_seconds m_a_firstSlot_firstsHad m_a_firstSlot_secondsHad m_a_firstSlot_seenSums m_a_firstSlot_seenShared m_v_secondSlot_filled m_v_secondSlot_people m_v_secondSlot_lawNumber m_v_secondSlot_made m_v_secondSlot_seen m_a_secondSlot_purses m_a_secondSlot_firsts m_a_secondSlot_seconds m_a_secondSlot_firstsHad m_a_secondSlot_secondsHad m_a_secondSlot_seenSums m_a_secondSlot_seenShared → Post (townR q X) m_v_text_length m_v_text_place m_v_text_lawNumber m_v_text_people m_a_text_bytes m_a_text_purses m_v_text_meetings_size m_a_text_meetings_firsts m_a_text_meetings_seconds m_v_theDay_size m_a_theDay_firsts m_a_theDay_seconds m_v_now_filled m_v_now_people m_v_now_lawNumber m_v_now_made m_v_now_seen m_a_now_purses m_a_now_firsts m_a_now_seconds m_a_now_firstsHad m_a_now_secondsHad m_a_now_seenSums m_a_now_seenShared m_v_firstSlot_filled m_v_firstSlot_people m_v_firstSlot_lawNumber m_v_firstSlot_made m_v_firstSlot_seen m_a_firstSlot_purses m_a_firstSlot_firsts m_a_firstSlot_seconds m_a_firstSlot_firstsHad m_a_firstSlot_secondsHad m_a_firstSlot_seenSums m_a_firstSlot_seenShared m_v_secondSlot_filled m_v_secondSlot_people m_v_secondSlot_lawNumber m_v_secondSlot_made m_v_secondSlot_seen m_a_secondSlot_purses m_a_secondSlot_firsts m_a_secondSlot_seconds m_a_secondSlot_firstsHad m_a_secondSlot_secondsHad m_a_secondSlot_seenSums m_a_secondSlot_seenShared) : wp_L_act (nN X) v_text_length v_text_place v_text_lawNumber v_text_people a_text_bytes a_text_purses v_text_meetings_size a_text_meetings_firsts a_text_meetings_seconds v_theDay_size a_theDay_firsts a_theDay_seconds v_now_filled v_now_people v_now_lawNumber v_now_made v_now_seen a_now_purses a_now_firsts a_now_seconds a_now_firstsHad a_now_secondsHad a_now_seenSums a_now_seenShared v_firstSlot_filled v_firstSlot_people v_firstSlot_lawNumber v_firstSlot_made v_firstSlot_seen a_firstSlot_purses a_firstSlot_firsts a_firstSlot_seconds a_firstSlot_firstsHad a_firstSlot_secondsHad a_firstSlot_seenSums a_firstSlot_seenShared v_secondSlot_filled v_secondSlot_people v_secondSlot_lawNumber v_secondSlot_made v_secondSlot_seen a_secondSlot_purses a_secondSlot_firsts a_secondSlot_seconds a_secondSlot_firstsHad a_secondSlot_secondsHad a_secondSlot_seenSums a_secondSlot_seenShared Post := by
  obtain ⟨hn2, hn8, hT, rfl, rfl, hD, ⟨hw, rfl, rfl, rfl, rfl, hP, ha, hR, hS⟩, s1, s2, hF⟩ := hO
  have hk32 := hR.1
  have he8 := hS.1
  unfold wp_L_act
  refine sv_count1 ?_
  rw [sw_act hX, hc]
  refine ⟨fun c => absurd c (by decide), fun _ => ?_, fun c => absurd c (by decide), fun c => absurd c (by decide), fun c => absurd c (by decide), fun c => absurd c (by decide), fun c => absurd c (by decide), fun c => absurd c (by decide), fun c => absurd c (by decide), fun c => absurd c (by decide), fun c => absurd c (by decide), fun c => absurd c (by decide), fun c => absurd c (by decide), fun c => absurd c (by decide), fun c => absurd c (by decide), fun c => absurd c (by decide)⟩
  have e4 : nN X >>> ((4 : Int32) &&& 31) = nN (X / 16) := sh_n (s := 4) hX (by decide)
  have e6 : nN X >>> ((6 : Int32) &&& 31) = nN (X / 64) := sh_n (s := 6) hX (by decide)
  have e10 : nN X >>> ((10 : Int32) &&& 31) = nN (X / 1024) := sh_n (s := 10) hX (by decide)
  have b16 : X / 16 ≤ 2147483647 := Nat.le_trans (Nat.div_le_self _ _) (by omega)
  have b64 : X / 64 ≤ 2147483647 := Nat.le_trans (Nat.div_le_self _ _) (by omega)
  have b1024 : X / 1024 ≤ 2147483647 := Nat.le_trans (Nat.div_le_self _ _) (by omega)
  have r16_4 : nN (X / 16) - nN (X / 16) / (4 : Int32) * (4 : Int32) = nN (X / 16 % 4) := n_rem (b := 4) b16 (by decide) (by decide)
  have r64_4 : nN (X / 64) - nN (X / 64) / (4 : Int32) * (4 : Int32) = nN (X / 64 % 4) := n_rem (b := 4) b64 (by decide) (by decide)
  have r1024_6 : nN (X / 1024) - nN (X / 1024) / (6 : Int32) * (6 : Int32) = nN (X / 1024 % 6) := n_rem (b := 6) b1024 (by decide) (by decide)
  obtain ⟨m2, m5, k5⟩ := many_in X
  have em : (2 : Int32) + ((nN X >>> ((6 : Int32) &&& 31)) - (nN X >>> ((6 : Int32) &&& 31)) / (4 : Int32) * (4 : Int32)) = nN (manyX X) := by rw [e6, r64_4]; exact n_add 2 _
  have ek : (nN X >>> ((10 : Int32) &&& 31)) - (nN X >>> ((10 : Int32) &&& 31)) / (6 : Int32) * (6 : Int32) = nN (kmX X) := by rw [e10, r1024_6]; rfl
  rw [em, ek, e4, r16_4, v_law X]
  refine sv_wipe ?_
  refine sv_write (q := 0) (m := 2) (T := TX X) ⟨by omega, fun i h => absurd h (by omega), fun i h => absurd h (by omega), fun i h => absurd h (by omega)⟩ (by omega) (by omega) (by omega) (b_law X) (fun a0 ha0 => ?_)
  intro k118 hk118
  have key1 : ∀ (N i : Nat) (a : Nat → Int32), manyX X - i < N → i ≤ manyX X → TextC (2 + 5 * i) (TX X) a → k118 (nN i) (gsm (nN q + nN 2) 2 5 i) (nN (2 + 5 * i)) a := by
    intro N
    induction N with
    | zero => intro i a g; omega
    | succ N ih =>
      intro i a g1 g2 g3
      apply hk118
      rw [n_le (by omega) (by omega)]
      refine ⟨fun c => ?_, fun c => ?_⟩
      · have ei : i = manyX X := by omega
        rw [ei] at g3 ⊢
        intro k187 hk187
        have key2 : ∀ (N2 j : Nat) (a : Nat → Int32), kmX X - j < N2 → j ≤ kmX X → TextC (2 + 5 * manyX X + 3 * j) (TX X) a → k187 (nN j) (gsm (gsm (nN q + nN 2) 2 5 (manyX X)) (2 + 5 * manyX X) 3 j) (nN (2 + 5 * manyX X + 3 * j)) a := by
          intro N2
          induction N2 with
          | zero => intro j a g; omega
          | succ N2 ih2 =>
            intro j a g4 g5 g6
            apply hk187
            rw [n_le (by omega) (by omega)]
            refine ⟨fun c2 => ?_, fun c2 => ?_⟩
            · have ej : j = kmX X := by omega
              rw [ej] at g6 ⊢
              refine sv_town g6 (town_TW X) (fun s1 s2 s3 s4 s5 s6 s7 df ds npu hDay hnpu => ?_)
              exact hK _ _ _ _ _ _ _ _ _ _ _ _ _ _ _ _ _ _ _ _ _ _ _ _ _ _ _ _ _ _ _ _ _ _ _ _ _ _ _ _ _ _ _ _ _ _ _ _ ⟨m2, by omega, g6, rfl, rfl, hDay, ⟨by omega, rfl, rfl, rfl, rfl, fun t ht => Nat.le_trans (TW.small (town_TW X) ht) (by omega), hnpu, ⟨by omega, fun j hj => absurd hj (by omega), fun j hj => absurd hj (by omega)⟩, ⟨by omega, fun j hj => absurd hj (by omega), fun j hj => absurd hj (by omega)⟩⟩, Or.inl ⟨rfl, rfl⟩, Or.inl ⟨rfl, rfl⟩, Or.inr ⟨_, _, _, _, _, _, town_TW X⟩⟩
            · have b4 : X / 2 ^ (4 + j) ≤ 2147483647 := Nat.le_trans (Nat.div_le_self _ _) (by omega)
              have b8 : X / 2 ^ (8 + j) ≤ 2147483647 := Nat.le_trans (Nat.div_le_self _ _) (by omega)
              have n0 : ¬ nN (manyX X) = 0 := by rw [show (0 : Int32) = nN 0 from rfl, n_eq (by omega) (by omega)]; omega
              have s1 : nN (manyX X) - (1 : Int32) = nN (manyX X - 1) := n_sub (b := 1) (by omega)
              have n1 : ¬ nN (manyX X - 1) = 0 := by rw [show (0 : Int32) = nN 0 from rfl, n_eq (by omega) (by omega)]; omega
              have q1 : nN (X / 2 ^ (4 + j)) - nN (X / 2 ^ (4 + j)) / nN (manyX X) * nN (manyX X) = nN (FX X j) := n_rem b4 (by omega) (by omega)
              have q2 : nN (X / 2 ^ (8 + j)) - nN (X / 2 ^ (8 + j)) / nN (manyX X - 1) * nN (manyX X - 1) = nN (X / 2 ^ (8 + j) % (manyX X - 1)) := n_rem b8 (by omega) (by omega)
              have hfg := FG_in X j
              have hd := Nat.mod_lt (X / 2 ^ (8 + j)) (show 0 < manyX X - 1 by omega)
              have q3 : nN (FX X j + 1 + X / 2 ^ (8 + j) % (manyX X - 1)) - nN (FX X j + 1 + X / 2 ^ (8 + j) % (manyX X - 1)) / nN (manyX X) * nN (manyX X) = nN (GX X j) := n_rem (by omega) (by omega) (by omega)
              rw [show (4 : Int32) + nN j = nN (4 + j) from n_add 4 j, show (8 : Int32) + nN j = nN (8 + j) from n_add 8 j, sh_n (s := 4 + j) hX (by omega), sh_n (s := 8 + j) hX (by omega), q1, s1, q2, show nN (FX X j) + (1 : Int32) = nN (FX X j + 1) from n_add _ 1, n_add, q3, v_mee (by omega) (by omega)]
              refine ⟨n0, n1, n0, sv_write (m := 3) (T := TX X) g6 (by omega) (by omega) (by omega) (b_mee X j) (fun a1 ha1 => ?_)⟩
              rw [show nN j + 1 = nN (j + 1) from n_add _ 1]
              have := ih2 (j + 1) a1 (by omega) (by omega) (by rw [show 2 + 5 * manyX X + 3 * (j + 1) = 2 + 5 * manyX X + 3 * j + 3 by omega]; exact ha1)
              rw [show 2 + 5 * manyX X + 3 * (j + 1) = 2 + 5 * manyX X + 3 * j + 3 by omega] at this
              exact this
        exact key2 (kmX X + 1) 0 a (by omega) (by omega) g3
      · have b7 : X / 2 ^ (7 + i) ≤ 2147483647 := Nat.le_trans (Nat.div_le_self _ _) (by omega)
        have b5 : X / 2 ^ (5 + i) ≤ 2147483647 := Nat.le_trans (Nat.div_le_self _ _) (by omega)
        have b9 : X / 2 ^ (9 + i) ≤ 2147483647 := Nat.le_trans (Nat.div_le_self _ _) (by omega)
        have q7 : nN (X / 2 ^ (7 + i)) - nN (X / 2 ^ (7 + i)) / (3 : Int32) * (3 : Int32) = nN (X / 2 ^ (7 + i) % 3) := n_rem (b := 3) b7 (by decide) (by decide)
        have q5 : nN (X / 2 ^ (5 + i)) - nN (X / 2 ^ (5 + i)) / (10 : Int32) * (10 : Int32) = nN (X / 2 ^ (5 + i) % 10) := n_rem (b := 10) b5 (by decide) (by decide)
        have q9 : nN (X / 2 ^ (9 + i)) - nN (X / 2 ^ (9 + i)) / (10 : Int32) * (10 : Int32) = nN (X / 2 ^ (9 + i) % 10) := n_rem (b := 10) b9 (by decide) (by decide)
        rw [show (7 : Int32) + nN i = nN (7 + i) from n_add 7 i, show (5 : Int32) + nN i = nN (5 + i) from n_add 5 i, show (9 : Int32) + nN i = nN (9 + i) from n_add 9 i, sh_n (s := 7 + i) hX (by omega), sh_n (s := 5 + i) hX (by omega), sh_n (s := 9 + i) hX (by omega), q7, q5, q9, v_per (Nat.mod_lt _ (by omega)) (Nat.mod_lt _ (by omega)) (Nat.mod_lt _ (by omega))]
        refine sv_write (m := 5) (T := TX X) g3 (by omega) (by omega) (by omega) (b_per (by omega)) (fun a1 ha1 => ?_)
        rw [show nN i + 1 = nN (i + 1) from n_add _ 1]
        have := ih (i + 1) a1 (by omega) (by omega) (by rw [show 2 + 5 * (i + 1) = 2 + 5 * i + 5 by omega]; exact ha1)
        rw [show 2 + 5 * (i + 1) = 2 + 5 * i + 5 by omega] at this
        exact this
  exact key1 (manyX X + 1) 0 a0 (by omega) (by omega) ha0
