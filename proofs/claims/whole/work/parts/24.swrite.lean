/-! Reading the state after a write (written by a program) -/
theorem iti {α : Type} {c : Prop} [Decidable c] (a b d : α) : (if c then a else (if c then b else d)) = if c then a else d := by
  by_cases h : c
  · rw [if_pos h, if_pos h]
  · rw [if_neg h, if_neg h, if_neg h]
theorem q_cel_ucel (s : St) (v : Nat → Option Nat) : cel (ucel s v) = v := rfl
theorem q_cel_usta (s : St) (v : Nat → Nat) : cel (usta s v) = cel s := rfl
theorem q_cel_uad (s : St) (v : Nat → Nat) : cel (uad s v) = cel s := rfl
theorem q_cel_usz (s : St) (v : Nat → Nat) : cel (usz s v) = cel s := rfl
theorem q_cel_utg (s : St) (v : Nat → Int32) : cel (utg s v) = cel s := rfl
theorem q_cel_uct (s : St) (v : Nat → Nat) : cel (uct s v) = cel s := rfl
theorem q_cel_uco (s : St) (v : Nat → Nat) : cel (uco s v) = cel s := rfl
theorem q_cel_ufl (s : St) (v : Nat → Nat → Option Nat) : cel (ufl s v) = cel s := rfl
theorem q_cel_ulg (s : St) (v : Nat → Nat → Nat) : cel (ulg s v) = cel s := rfl
theorem q_cel_unx (s : St) (v : Nat) : cel (unx s v) = cel s := rfl
theorem q_cel_urt (s : St) (v : Nat → Option Nat) : cel (urt s v) = cel s := rfl
theorem q_cel_ubf (s : St) (v : Nat → Option Nat) : cel (ubf s v) = cel s := rfl
theorem q_cel_uhf (s : St) (v : Int32) : cel (uhf s v) = cel s := rfl
theorem q_cel_uhe (s : St) (v : Int32) : cel (uhe s v) = cel s := rfl
theorem q_cel_uhc (s : St) (v : Int32) : cel (uhc s v) = cel s := rfl
theorem q_cel_uov (s : St) (v : Int32) : cel (uov s v) = cel s := rfl
theorem q_cel_uoc (s : St) (v : Int32) : cel (uoc s v) = cel s := rfl
theorem q_cel_ucl (s : St) (v : Int32) : cel (ucl s v) = cel s := rfl
theorem q_cel_ulf (s : St) (v : Nat → Nat) : cel (ulf s v) = cel s := rfl
theorem q_cel_urow (s : St) (v : List Nat) : cel (urow s v) = cel s := rfl
theorem q_cel_ulog (s : St) (v : List (Nat × Nat × Option Nat)) : cel (ulog s v) = cel s := rfl
theorem q_cel_utr (s : St) (v : Nat) : cel (utr s v) = cel s := rfl
theorem q_cel_ups (s : St) (v : Int32) : cel (ups s v) = cel s := rfl
theorem q_cel_umv (s : St) (v : Int32) : cel (umv s v) = cel s := rfl
theorem q_cel_uwh (s : St) (v : Int32) : cel (uwh s v) = cel s := rfl
theorem q_sta_ucel (s : St) (v : Nat → Option Nat) : sta (ucel s v) = sta s := rfl
theorem q_sta_usta (s : St) (v : Nat → Nat) : sta (usta s v) = v := rfl
theorem q_sta_uad (s : St) (v : Nat → Nat) : sta (uad s v) = sta s := rfl
theorem q_sta_usz (s : St) (v : Nat → Nat) : sta (usz s v) = sta s := rfl
theorem q_sta_utg (s : St) (v : Nat → Int32) : sta (utg s v) = sta s := rfl
theorem q_sta_uct (s : St) (v : Nat → Nat) : sta (uct s v) = sta s := rfl
theorem q_sta_uco (s : St) (v : Nat → Nat) : sta (uco s v) = sta s := rfl
theorem q_sta_ufl (s : St) (v : Nat → Nat → Option Nat) : sta (ufl s v) = sta s := rfl
theorem q_sta_ulg (s : St) (v : Nat → Nat → Nat) : sta (ulg s v) = sta s := rfl
theorem q_sta_unx (s : St) (v : Nat) : sta (unx s v) = sta s := rfl
theorem q_sta_urt (s : St) (v : Nat → Option Nat) : sta (urt s v) = sta s := rfl
theorem q_sta_ubf (s : St) (v : Nat → Option Nat) : sta (ubf s v) = sta s := rfl
theorem q_sta_uhf (s : St) (v : Int32) : sta (uhf s v) = sta s := rfl
theorem q_sta_uhe (s : St) (v : Int32) : sta (uhe s v) = sta s := rfl
theorem q_sta_uhc (s : St) (v : Int32) : sta (uhc s v) = sta s := rfl
theorem q_sta_uov (s : St) (v : Int32) : sta (uov s v) = sta s := rfl
theorem q_sta_uoc (s : St) (v : Int32) : sta (uoc s v) = sta s := rfl
theorem q_sta_ucl (s : St) (v : Int32) : sta (ucl s v) = sta s := rfl
theorem q_sta_ulf (s : St) (v : Nat → Nat) : sta (ulf s v) = sta s := rfl
theorem q_sta_urow (s : St) (v : List Nat) : sta (urow s v) = sta s := rfl
theorem q_sta_ulog (s : St) (v : List (Nat × Nat × Option Nat)) : sta (ulog s v) = sta s := rfl
theorem q_sta_utr (s : St) (v : Nat) : sta (utr s v) = sta s := rfl
theorem q_sta_ups (s : St) (v : Int32) : sta (ups s v) = sta s := rfl
theorem q_sta_umv (s : St) (v : Int32) : sta (umv s v) = sta s := rfl
theorem q_sta_uwh (s : St) (v : Int32) : sta (uwh s v) = sta s := rfl
theorem q_ad_ucel (s : St) (v : Nat → Option Nat) : ad (ucel s v) = ad s := rfl
theorem q_ad_usta (s : St) (v : Nat → Nat) : ad (usta s v) = ad s := rfl
theorem q_ad_uad (s : St) (v : Nat → Nat) : ad (uad s v) = v := rfl
theorem q_ad_usz (s : St) (v : Nat → Nat) : ad (usz s v) = ad s := rfl
theorem q_ad_utg (s : St) (v : Nat → Int32) : ad (utg s v) = ad s := rfl
theorem q_ad_uct (s : St) (v : Nat → Nat) : ad (uct s v) = ad s := rfl
theorem q_ad_uco (s : St) (v : Nat → Nat) : ad (uco s v) = ad s := rfl
theorem q_ad_ufl (s : St) (v : Nat → Nat → Option Nat) : ad (ufl s v) = ad s := rfl
theorem q_ad_ulg (s : St) (v : Nat → Nat → Nat) : ad (ulg s v) = ad s := rfl
theorem q_ad_unx (s : St) (v : Nat) : ad (unx s v) = ad s := rfl
theorem q_ad_urt (s : St) (v : Nat → Option Nat) : ad (urt s v) = ad s := rfl
theorem q_ad_ubf (s : St) (v : Nat → Option Nat) : ad (ubf s v) = ad s := rfl
theorem q_ad_uhf (s : St) (v : Int32) : ad (uhf s v) = ad s := rfl
theorem q_ad_uhe (s : St) (v : Int32) : ad (uhe s v) = ad s := rfl
theorem q_ad_uhc (s : St) (v : Int32) : ad (uhc s v) = ad s := rfl
theorem q_ad_uov (s : St) (v : Int32) : ad (uov s v) = ad s := rfl
theorem q_ad_uoc (s : St) (v : Int32) : ad (uoc s v) = ad s := rfl
theorem q_ad_ucl (s : St) (v : Int32) : ad (ucl s v) = ad s := rfl
theorem q_ad_ulf (s : St) (v : Nat → Nat) : ad (ulf s v) = ad s := rfl
theorem q_ad_urow (s : St) (v : List Nat) : ad (urow s v) = ad s := rfl
theorem q_ad_ulog (s : St) (v : List (Nat × Nat × Option Nat)) : ad (ulog s v) = ad s := rfl
theorem q_ad_utr (s : St) (v : Nat) : ad (utr s v) = ad s := rfl
theorem q_ad_ups (s : St) (v : Int32) : ad (ups s v) = ad s := rfl
theorem q_ad_umv (s : St) (v : Int32) : ad (umv s v) = ad s := rfl
theorem q_ad_uwh (s : St) (v : Int32) : ad (uwh s v) = ad s := rfl
theorem q_sz_ucel (s : St) (v : Nat → Option Nat) : sz (ucel s v) = sz s := rfl
theorem q_sz_usta (s : St) (v : Nat → Nat) : sz (usta s v) = sz s := rfl
theorem q_sz_uad (s : St) (v : Nat → Nat) : sz (uad s v) = sz s := rfl
theorem q_sz_usz (s : St) (v : Nat → Nat) : sz (usz s v) = v := rfl
theorem q_sz_utg (s : St) (v : Nat → Int32) : sz (utg s v) = sz s := rfl
theorem q_sz_uct (s : St) (v : Nat → Nat) : sz (uct s v) = sz s := rfl
theorem q_sz_uco (s : St) (v : Nat → Nat) : sz (uco s v) = sz s := rfl
theorem q_sz_ufl (s : St) (v : Nat → Nat → Option Nat) : sz (ufl s v) = sz s := rfl
theorem q_sz_ulg (s : St) (v : Nat → Nat → Nat) : sz (ulg s v) = sz s := rfl
theorem q_sz_unx (s : St) (v : Nat) : sz (unx s v) = sz s := rfl
theorem q_sz_urt (s : St) (v : Nat → Option Nat) : sz (urt s v) = sz s := rfl
theorem q_sz_ubf (s : St) (v : Nat → Option Nat) : sz (ubf s v) = sz s := rfl
theorem q_sz_uhf (s : St) (v : Int32) : sz (uhf s v) = sz s := rfl
theorem q_sz_uhe (s : St) (v : Int32) : sz (uhe s v) = sz s := rfl
theorem q_sz_uhc (s : St) (v : Int32) : sz (uhc s v) = sz s := rfl
theorem q_sz_uov (s : St) (v : Int32) : sz (uov s v) = sz s := rfl
theorem q_sz_uoc (s : St) (v : Int32) : sz (uoc s v) = sz s := rfl
theorem q_sz_ucl (s : St) (v : Int32) : sz (ucl s v) = sz s := rfl
theorem q_sz_ulf (s : St) (v : Nat → Nat) : sz (ulf s v) = sz s := rfl
theorem q_sz_urow (s : St) (v : List Nat) : sz (urow s v) = sz s := rfl
theorem q_sz_ulog (s : St) (v : List (Nat × Nat × Option Nat)) : sz (ulog s v) = sz s := rfl
theorem q_sz_utr (s : St) (v : Nat) : sz (utr s v) = sz s := rfl
theorem q_sz_ups (s : St) (v : Int32) : sz (ups s v) = sz s := rfl
theorem q_sz_umv (s : St) (v : Int32) : sz (umv s v) = sz s := rfl
theorem q_sz_uwh (s : St) (v : Int32) : sz (uwh s v) = sz s := rfl
theorem q_tg_ucel (s : St) (v : Nat → Option Nat) : tg (ucel s v) = tg s := rfl
theorem q_tg_usta (s : St) (v : Nat → Nat) : tg (usta s v) = tg s := rfl
theorem q_tg_uad (s : St) (v : Nat → Nat) : tg (uad s v) = tg s := rfl
theorem q_tg_usz (s : St) (v : Nat → Nat) : tg (usz s v) = tg s := rfl
theorem q_tg_utg (s : St) (v : Nat → Int32) : tg (utg s v) = v := rfl
theorem q_tg_uct (s : St) (v : Nat → Nat) : tg (uct s v) = tg s := rfl
theorem q_tg_uco (s : St) (v : Nat → Nat) : tg (uco s v) = tg s := rfl
theorem q_tg_ufl (s : St) (v : Nat → Nat → Option Nat) : tg (ufl s v) = tg s := rfl
theorem q_tg_ulg (s : St) (v : Nat → Nat → Nat) : tg (ulg s v) = tg s := rfl
theorem q_tg_unx (s : St) (v : Nat) : tg (unx s v) = tg s := rfl
theorem q_tg_urt (s : St) (v : Nat → Option Nat) : tg (urt s v) = tg s := rfl
theorem q_tg_ubf (s : St) (v : Nat → Option Nat) : tg (ubf s v) = tg s := rfl
theorem q_tg_uhf (s : St) (v : Int32) : tg (uhf s v) = tg s := rfl
theorem q_tg_uhe (s : St) (v : Int32) : tg (uhe s v) = tg s := rfl
theorem q_tg_uhc (s : St) (v : Int32) : tg (uhc s v) = tg s := rfl
theorem q_tg_uov (s : St) (v : Int32) : tg (uov s v) = tg s := rfl
theorem q_tg_uoc (s : St) (v : Int32) : tg (uoc s v) = tg s := rfl
theorem q_tg_ucl (s : St) (v : Int32) : tg (ucl s v) = tg s := rfl
theorem q_tg_ulf (s : St) (v : Nat → Nat) : tg (ulf s v) = tg s := rfl
theorem q_tg_urow (s : St) (v : List Nat) : tg (urow s v) = tg s := rfl
theorem q_tg_ulog (s : St) (v : List (Nat × Nat × Option Nat)) : tg (ulog s v) = tg s := rfl
theorem q_tg_utr (s : St) (v : Nat) : tg (utr s v) = tg s := rfl
theorem q_tg_ups (s : St) (v : Int32) : tg (ups s v) = tg s := rfl
theorem q_tg_umv (s : St) (v : Int32) : tg (umv s v) = tg s := rfl
theorem q_tg_uwh (s : St) (v : Int32) : tg (uwh s v) = tg s := rfl
theorem q_ct_ucel (s : St) (v : Nat → Option Nat) : ct (ucel s v) = ct s := rfl
theorem q_ct_usta (s : St) (v : Nat → Nat) : ct (usta s v) = ct s := rfl
theorem q_ct_uad (s : St) (v : Nat → Nat) : ct (uad s v) = ct s := rfl
theorem q_ct_usz (s : St) (v : Nat → Nat) : ct (usz s v) = ct s := rfl
theorem q_ct_utg (s : St) (v : Nat → Int32) : ct (utg s v) = ct s := rfl
theorem q_ct_uct (s : St) (v : Nat → Nat) : ct (uct s v) = v := rfl
theorem q_ct_uco (s : St) (v : Nat → Nat) : ct (uco s v) = ct s := rfl
theorem q_ct_ufl (s : St) (v : Nat → Nat → Option Nat) : ct (ufl s v) = ct s := rfl
theorem q_ct_ulg (s : St) (v : Nat → Nat → Nat) : ct (ulg s v) = ct s := rfl
theorem q_ct_unx (s : St) (v : Nat) : ct (unx s v) = ct s := rfl
theorem q_ct_urt (s : St) (v : Nat → Option Nat) : ct (urt s v) = ct s := rfl
theorem q_ct_ubf (s : St) (v : Nat → Option Nat) : ct (ubf s v) = ct s := rfl
theorem q_ct_uhf (s : St) (v : Int32) : ct (uhf s v) = ct s := rfl
theorem q_ct_uhe (s : St) (v : Int32) : ct (uhe s v) = ct s := rfl
theorem q_ct_uhc (s : St) (v : Int32) : ct (uhc s v) = ct s := rfl
theorem q_ct_uov (s : St) (v : Int32) : ct (uov s v) = ct s := rfl
theorem q_ct_uoc (s : St) (v : Int32) : ct (uoc s v) = ct s := rfl
theorem q_ct_ucl (s : St) (v : Int32) : ct (ucl s v) = ct s := rfl
theorem q_ct_ulf (s : St) (v : Nat → Nat) : ct (ulf s v) = ct s := rfl
theorem q_ct_urow (s : St) (v : List Nat) : ct (urow s v) = ct s := rfl
theorem q_ct_ulog (s : St) (v : List (Nat × Nat × Option Nat)) : ct (ulog s v) = ct s := rfl
theorem q_ct_utr (s : St) (v : Nat) : ct (utr s v) = ct s := rfl
theorem q_ct_ups (s : St) (v : Int32) : ct (ups s v) = ct s := rfl
theorem q_ct_umv (s : St) (v : Int32) : ct (umv s v) = ct s := rfl
theorem q_ct_uwh (s : St) (v : Int32) : ct (uwh s v) = ct s := rfl
theorem q_co_ucel (s : St) (v : Nat → Option Nat) : co (ucel s v) = co s := rfl
theorem q_co_usta (s : St) (v : Nat → Nat) : co (usta s v) = co s := rfl
theorem q_co_uad (s : St) (v : Nat → Nat) : co (uad s v) = co s := rfl
theorem q_co_usz (s : St) (v : Nat → Nat) : co (usz s v) = co s := rfl
theorem q_co_utg (s : St) (v : Nat → Int32) : co (utg s v) = co s := rfl
theorem q_co_uct (s : St) (v : Nat → Nat) : co (uct s v) = co s := rfl
theorem q_co_uco (s : St) (v : Nat → Nat) : co (uco s v) = v := rfl
theorem q_co_ufl (s : St) (v : Nat → Nat → Option Nat) : co (ufl s v) = co s := rfl
theorem q_co_ulg (s : St) (v : Nat → Nat → Nat) : co (ulg s v) = co s := rfl
theorem q_co_unx (s : St) (v : Nat) : co (unx s v) = co s := rfl
theorem q_co_urt (s : St) (v : Nat → Option Nat) : co (urt s v) = co s := rfl
theorem q_co_ubf (s : St) (v : Nat → Option Nat) : co (ubf s v) = co s := rfl
theorem q_co_uhf (s : St) (v : Int32) : co (uhf s v) = co s := rfl
theorem q_co_uhe (s : St) (v : Int32) : co (uhe s v) = co s := rfl
theorem q_co_uhc (s : St) (v : Int32) : co (uhc s v) = co s := rfl
theorem q_co_uov (s : St) (v : Int32) : co (uov s v) = co s := rfl
theorem q_co_uoc (s : St) (v : Int32) : co (uoc s v) = co s := rfl
theorem q_co_ucl (s : St) (v : Int32) : co (ucl s v) = co s := rfl
theorem q_co_ulf (s : St) (v : Nat → Nat) : co (ulf s v) = co s := rfl
theorem q_co_urow (s : St) (v : List Nat) : co (urow s v) = co s := rfl
theorem q_co_ulog (s : St) (v : List (Nat × Nat × Option Nat)) : co (ulog s v) = co s := rfl
theorem q_co_utr (s : St) (v : Nat) : co (utr s v) = co s := rfl
theorem q_co_ups (s : St) (v : Int32) : co (ups s v) = co s := rfl
theorem q_co_umv (s : St) (v : Int32) : co (umv s v) = co s := rfl
theorem q_co_uwh (s : St) (v : Int32) : co (uwh s v) = co s := rfl
theorem q_fl_ucel (s : St) (v : Nat → Option Nat) : fl (ucel s v) = fl s := rfl
theorem q_fl_usta (s : St) (v : Nat → Nat) : fl (usta s v) = fl s := rfl
theorem q_fl_uad (s : St) (v : Nat → Nat) : fl (uad s v) = fl s := rfl
theorem q_fl_usz (s : St) (v : Nat → Nat) : fl (usz s v) = fl s := rfl
theorem q_fl_utg (s : St) (v : Nat → Int32) : fl (utg s v) = fl s := rfl
theorem q_fl_uct (s : St) (v : Nat → Nat) : fl (uct s v) = fl s := rfl
theorem q_fl_uco (s : St) (v : Nat → Nat) : fl (uco s v) = fl s := rfl
theorem q_fl_ufl (s : St) (v : Nat → Nat → Option Nat) : fl (ufl s v) = v := rfl
theorem q_fl_ulg (s : St) (v : Nat → Nat → Nat) : fl (ulg s v) = fl s := rfl
theorem q_fl_unx (s : St) (v : Nat) : fl (unx s v) = fl s := rfl
theorem q_fl_urt (s : St) (v : Nat → Option Nat) : fl (urt s v) = fl s := rfl
theorem q_fl_ubf (s : St) (v : Nat → Option Nat) : fl (ubf s v) = fl s := rfl
theorem q_fl_uhf (s : St) (v : Int32) : fl (uhf s v) = fl s := rfl
theorem q_fl_uhe (s : St) (v : Int32) : fl (uhe s v) = fl s := rfl
theorem q_fl_uhc (s : St) (v : Int32) : fl (uhc s v) = fl s := rfl
theorem q_fl_uov (s : St) (v : Int32) : fl (uov s v) = fl s := rfl
theorem q_fl_uoc (s : St) (v : Int32) : fl (uoc s v) = fl s := rfl
theorem q_fl_ucl (s : St) (v : Int32) : fl (ucl s v) = fl s := rfl
theorem q_fl_ulf (s : St) (v : Nat → Nat) : fl (ulf s v) = fl s := rfl
theorem q_fl_urow (s : St) (v : List Nat) : fl (urow s v) = fl s := rfl
theorem q_fl_ulog (s : St) (v : List (Nat × Nat × Option Nat)) : fl (ulog s v) = fl s := rfl
theorem q_fl_utr (s : St) (v : Nat) : fl (utr s v) = fl s := rfl
theorem q_fl_ups (s : St) (v : Int32) : fl (ups s v) = fl s := rfl
theorem q_fl_umv (s : St) (v : Int32) : fl (umv s v) = fl s := rfl
theorem q_fl_uwh (s : St) (v : Int32) : fl (uwh s v) = fl s := rfl
theorem q_lg_ucel (s : St) (v : Nat → Option Nat) : lg (ucel s v) = lg s := rfl
theorem q_lg_usta (s : St) (v : Nat → Nat) : lg (usta s v) = lg s := rfl
theorem q_lg_uad (s : St) (v : Nat → Nat) : lg (uad s v) = lg s := rfl
theorem q_lg_usz (s : St) (v : Nat → Nat) : lg (usz s v) = lg s := rfl
theorem q_lg_utg (s : St) (v : Nat → Int32) : lg (utg s v) = lg s := rfl
theorem q_lg_uct (s : St) (v : Nat → Nat) : lg (uct s v) = lg s := rfl
theorem q_lg_uco (s : St) (v : Nat → Nat) : lg (uco s v) = lg s := rfl
theorem q_lg_ufl (s : St) (v : Nat → Nat → Option Nat) : lg (ufl s v) = lg s := rfl
theorem q_lg_ulg (s : St) (v : Nat → Nat → Nat) : lg (ulg s v) = v := rfl
theorem q_lg_unx (s : St) (v : Nat) : lg (unx s v) = lg s := rfl
theorem q_lg_urt (s : St) (v : Nat → Option Nat) : lg (urt s v) = lg s := rfl
theorem q_lg_ubf (s : St) (v : Nat → Option Nat) : lg (ubf s v) = lg s := rfl
theorem q_lg_uhf (s : St) (v : Int32) : lg (uhf s v) = lg s := rfl
theorem q_lg_uhe (s : St) (v : Int32) : lg (uhe s v) = lg s := rfl
theorem q_lg_uhc (s : St) (v : Int32) : lg (uhc s v) = lg s := rfl
theorem q_lg_uov (s : St) (v : Int32) : lg (uov s v) = lg s := rfl
theorem q_lg_uoc (s : St) (v : Int32) : lg (uoc s v) = lg s := rfl
theorem q_lg_ucl (s : St) (v : Int32) : lg (ucl s v) = lg s := rfl
theorem q_lg_ulf (s : St) (v : Nat → Nat) : lg (ulf s v) = lg s := rfl
theorem q_lg_urow (s : St) (v : List Nat) : lg (urow s v) = lg s := rfl
theorem q_lg_ulog (s : St) (v : List (Nat × Nat × Option Nat)) : lg (ulog s v) = lg s := rfl
theorem q_lg_utr (s : St) (v : Nat) : lg (utr s v) = lg s := rfl
theorem q_lg_ups (s : St) (v : Int32) : lg (ups s v) = lg s := rfl
theorem q_lg_umv (s : St) (v : Int32) : lg (umv s v) = lg s := rfl
theorem q_lg_uwh (s : St) (v : Int32) : lg (uwh s v) = lg s := rfl
theorem q_nx_ucel (s : St) (v : Nat → Option Nat) : nx (ucel s v) = nx s := rfl
theorem q_nx_usta (s : St) (v : Nat → Nat) : nx (usta s v) = nx s := rfl
theorem q_nx_uad (s : St) (v : Nat → Nat) : nx (uad s v) = nx s := rfl
theorem q_nx_usz (s : St) (v : Nat → Nat) : nx (usz s v) = nx s := rfl
theorem q_nx_utg (s : St) (v : Nat → Int32) : nx (utg s v) = nx s := rfl
theorem q_nx_uct (s : St) (v : Nat → Nat) : nx (uct s v) = nx s := rfl
theorem q_nx_uco (s : St) (v : Nat → Nat) : nx (uco s v) = nx s := rfl
theorem q_nx_ufl (s : St) (v : Nat → Nat → Option Nat) : nx (ufl s v) = nx s := rfl
theorem q_nx_ulg (s : St) (v : Nat → Nat → Nat) : nx (ulg s v) = nx s := rfl
theorem q_nx_unx (s : St) (v : Nat) : nx (unx s v) = v := rfl
theorem q_nx_urt (s : St) (v : Nat → Option Nat) : nx (urt s v) = nx s := rfl
theorem q_nx_ubf (s : St) (v : Nat → Option Nat) : nx (ubf s v) = nx s := rfl
theorem q_nx_uhf (s : St) (v : Int32) : nx (uhf s v) = nx s := rfl
theorem q_nx_uhe (s : St) (v : Int32) : nx (uhe s v) = nx s := rfl
theorem q_nx_uhc (s : St) (v : Int32) : nx (uhc s v) = nx s := rfl
theorem q_nx_uov (s : St) (v : Int32) : nx (uov s v) = nx s := rfl
theorem q_nx_uoc (s : St) (v : Int32) : nx (uoc s v) = nx s := rfl
theorem q_nx_ucl (s : St) (v : Int32) : nx (ucl s v) = nx s := rfl
theorem q_nx_ulf (s : St) (v : Nat → Nat) : nx (ulf s v) = nx s := rfl
theorem q_nx_urow (s : St) (v : List Nat) : nx (urow s v) = nx s := rfl
theorem q_nx_ulog (s : St) (v : List (Nat × Nat × Option Nat)) : nx (ulog s v) = nx s := rfl
theorem q_nx_utr (s : St) (v : Nat) : nx (utr s v) = nx s := rfl
theorem q_nx_ups (s : St) (v : Int32) : nx (ups s v) = nx s := rfl
theorem q_nx_umv (s : St) (v : Int32) : nx (umv s v) = nx s := rfl
theorem q_nx_uwh (s : St) (v : Int32) : nx (uwh s v) = nx s := rfl
theorem q_rt_ucel (s : St) (v : Nat → Option Nat) : rt (ucel s v) = rt s := rfl
theorem q_rt_usta (s : St) (v : Nat → Nat) : rt (usta s v) = rt s := rfl
theorem q_rt_uad (s : St) (v : Nat → Nat) : rt (uad s v) = rt s := rfl
theorem q_rt_usz (s : St) (v : Nat → Nat) : rt (usz s v) = rt s := rfl
theorem q_rt_utg (s : St) (v : Nat → Int32) : rt (utg s v) = rt s := rfl
theorem q_rt_uct (s : St) (v : Nat → Nat) : rt (uct s v) = rt s := rfl
theorem q_rt_uco (s : St) (v : Nat → Nat) : rt (uco s v) = rt s := rfl
theorem q_rt_ufl (s : St) (v : Nat → Nat → Option Nat) : rt (ufl s v) = rt s := rfl
theorem q_rt_ulg (s : St) (v : Nat → Nat → Nat) : rt (ulg s v) = rt s := rfl
theorem q_rt_unx (s : St) (v : Nat) : rt (unx s v) = rt s := rfl
theorem q_rt_urt (s : St) (v : Nat → Option Nat) : rt (urt s v) = v := rfl
theorem q_rt_ubf (s : St) (v : Nat → Option Nat) : rt (ubf s v) = rt s := rfl
theorem q_rt_uhf (s : St) (v : Int32) : rt (uhf s v) = rt s := rfl
theorem q_rt_uhe (s : St) (v : Int32) : rt (uhe s v) = rt s := rfl
theorem q_rt_uhc (s : St) (v : Int32) : rt (uhc s v) = rt s := rfl
theorem q_rt_uov (s : St) (v : Int32) : rt (uov s v) = rt s := rfl
theorem q_rt_uoc (s : St) (v : Int32) : rt (uoc s v) = rt s := rfl
theorem q_rt_ucl (s : St) (v : Int32) : rt (ucl s v) = rt s := rfl
theorem q_rt_ulf (s : St) (v : Nat → Nat) : rt (ulf s v) = rt s := rfl
theorem q_rt_urow (s : St) (v : List Nat) : rt (urow s v) = rt s := rfl
theorem q_rt_ulog (s : St) (v : List (Nat × Nat × Option Nat)) : rt (ulog s v) = rt s := rfl
theorem q_rt_utr (s : St) (v : Nat) : rt (utr s v) = rt s := rfl
theorem q_rt_ups (s : St) (v : Int32) : rt (ups s v) = rt s := rfl
theorem q_rt_umv (s : St) (v : Int32) : rt (umv s v) = rt s := rfl
theorem q_rt_uwh (s : St) (v : Int32) : rt (uwh s v) = rt s := rfl
theorem q_bf_ucel (s : St) (v : Nat → Option Nat) : bf (ucel s v) = bf s := rfl
theorem q_bf_usta (s : St) (v : Nat → Nat) : bf (usta s v) = bf s := rfl
theorem q_bf_uad (s : St) (v : Nat → Nat) : bf (uad s v) = bf s := rfl
theorem q_bf_usz (s : St) (v : Nat → Nat) : bf (usz s v) = bf s := rfl
theorem q_bf_utg (s : St) (v : Nat → Int32) : bf (utg s v) = bf s := rfl
theorem q_bf_uct (s : St) (v : Nat → Nat) : bf (uct s v) = bf s := rfl
theorem q_bf_uco (s : St) (v : Nat → Nat) : bf (uco s v) = bf s := rfl
theorem q_bf_ufl (s : St) (v : Nat → Nat → Option Nat) : bf (ufl s v) = bf s := rfl
theorem q_bf_ulg (s : St) (v : Nat → Nat → Nat) : bf (ulg s v) = bf s := rfl
theorem q_bf_unx (s : St) (v : Nat) : bf (unx s v) = bf s := rfl
theorem q_bf_urt (s : St) (v : Nat → Option Nat) : bf (urt s v) = bf s := rfl
theorem q_bf_ubf (s : St) (v : Nat → Option Nat) : bf (ubf s v) = v := rfl
theorem q_bf_uhf (s : St) (v : Int32) : bf (uhf s v) = bf s := rfl
theorem q_bf_uhe (s : St) (v : Int32) : bf (uhe s v) = bf s := rfl
theorem q_bf_uhc (s : St) (v : Int32) : bf (uhc s v) = bf s := rfl
theorem q_bf_uov (s : St) (v : Int32) : bf (uov s v) = bf s := rfl
theorem q_bf_uoc (s : St) (v : Int32) : bf (uoc s v) = bf s := rfl
theorem q_bf_ucl (s : St) (v : Int32) : bf (ucl s v) = bf s := rfl
theorem q_bf_ulf (s : St) (v : Nat → Nat) : bf (ulf s v) = bf s := rfl
theorem q_bf_urow (s : St) (v : List Nat) : bf (urow s v) = bf s := rfl
theorem q_bf_ulog (s : St) (v : List (Nat × Nat × Option Nat)) : bf (ulog s v) = bf s := rfl
theorem q_bf_utr (s : St) (v : Nat) : bf (utr s v) = bf s := rfl
theorem q_bf_ups (s : St) (v : Int32) : bf (ups s v) = bf s := rfl
theorem q_bf_umv (s : St) (v : Int32) : bf (umv s v) = bf s := rfl
theorem q_bf_uwh (s : St) (v : Int32) : bf (uwh s v) = bf s := rfl
theorem q_hf_ucel (s : St) (v : Nat → Option Nat) : hf (ucel s v) = hf s := rfl
theorem q_hf_usta (s : St) (v : Nat → Nat) : hf (usta s v) = hf s := rfl
theorem q_hf_uad (s : St) (v : Nat → Nat) : hf (uad s v) = hf s := rfl
theorem q_hf_usz (s : St) (v : Nat → Nat) : hf (usz s v) = hf s := rfl
theorem q_hf_utg (s : St) (v : Nat → Int32) : hf (utg s v) = hf s := rfl
theorem q_hf_uct (s : St) (v : Nat → Nat) : hf (uct s v) = hf s := rfl
theorem q_hf_uco (s : St) (v : Nat → Nat) : hf (uco s v) = hf s := rfl
theorem q_hf_ufl (s : St) (v : Nat → Nat → Option Nat) : hf (ufl s v) = hf s := rfl
theorem q_hf_ulg (s : St) (v : Nat → Nat → Nat) : hf (ulg s v) = hf s := rfl
theorem q_hf_unx (s : St) (v : Nat) : hf (unx s v) = hf s := rfl
theorem q_hf_urt (s : St) (v : Nat → Option Nat) : hf (urt s v) = hf s := rfl
theorem q_hf_ubf (s : St) (v : Nat → Option Nat) : hf (ubf s v) = hf s := rfl
theorem q_hf_uhf (s : St) (v : Int32) : hf (uhf s v) = v := rfl
theorem q_hf_uhe (s : St) (v : Int32) : hf (uhe s v) = hf s := rfl
theorem q_hf_uhc (s : St) (v : Int32) : hf (uhc s v) = hf s := rfl
theorem q_hf_uov (s : St) (v : Int32) : hf (uov s v) = hf s := rfl
theorem q_hf_uoc (s : St) (v : Int32) : hf (uoc s v) = hf s := rfl
theorem q_hf_ucl (s : St) (v : Int32) : hf (ucl s v) = hf s := rfl
theorem q_hf_ulf (s : St) (v : Nat → Nat) : hf (ulf s v) = hf s := rfl
theorem q_hf_urow (s : St) (v : List Nat) : hf (urow s v) = hf s := rfl
theorem q_hf_ulog (s : St) (v : List (Nat × Nat × Option Nat)) : hf (ulog s v) = hf s := rfl
theorem q_hf_utr (s : St) (v : Nat) : hf (utr s v) = hf s := rfl
theorem q_hf_ups (s : St) (v : Int32) : hf (ups s v) = hf s := rfl
theorem q_hf_umv (s : St) (v : Int32) : hf (umv s v) = hf s := rfl
theorem q_hf_uwh (s : St) (v : Int32) : hf (uwh s v) = hf s := rfl
theorem q_he_ucel (s : St) (v : Nat → Option Nat) : he (ucel s v) = he s := rfl
theorem q_he_usta (s : St) (v : Nat → Nat) : he (usta s v) = he s := rfl
theorem q_he_uad (s : St) (v : Nat → Nat) : he (uad s v) = he s := rfl
theorem q_he_usz (s : St) (v : Nat → Nat) : he (usz s v) = he s := rfl
theorem q_he_utg (s : St) (v : Nat → Int32) : he (utg s v) = he s := rfl
theorem q_he_uct (s : St) (v : Nat → Nat) : he (uct s v) = he s := rfl
theorem q_he_uco (s : St) (v : Nat → Nat) : he (uco s v) = he s := rfl
theorem q_he_ufl (s : St) (v : Nat → Nat → Option Nat) : he (ufl s v) = he s := rfl
theorem q_he_ulg (s : St) (v : Nat → Nat → Nat) : he (ulg s v) = he s := rfl
theorem q_he_unx (s : St) (v : Nat) : he (unx s v) = he s := rfl
theorem q_he_urt (s : St) (v : Nat → Option Nat) : he (urt s v) = he s := rfl
theorem q_he_ubf (s : St) (v : Nat → Option Nat) : he (ubf s v) = he s := rfl
theorem q_he_uhf (s : St) (v : Int32) : he (uhf s v) = he s := rfl
theorem q_he_uhe (s : St) (v : Int32) : he (uhe s v) = v := rfl
theorem q_he_uhc (s : St) (v : Int32) : he (uhc s v) = he s := rfl
theorem q_he_uov (s : St) (v : Int32) : he (uov s v) = he s := rfl
theorem q_he_uoc (s : St) (v : Int32) : he (uoc s v) = he s := rfl
theorem q_he_ucl (s : St) (v : Int32) : he (ucl s v) = he s := rfl
theorem q_he_ulf (s : St) (v : Nat → Nat) : he (ulf s v) = he s := rfl
theorem q_he_urow (s : St) (v : List Nat) : he (urow s v) = he s := rfl
theorem q_he_ulog (s : St) (v : List (Nat × Nat × Option Nat)) : he (ulog s v) = he s := rfl
theorem q_he_utr (s : St) (v : Nat) : he (utr s v) = he s := rfl
theorem q_he_ups (s : St) (v : Int32) : he (ups s v) = he s := rfl
theorem q_he_umv (s : St) (v : Int32) : he (umv s v) = he s := rfl
theorem q_he_uwh (s : St) (v : Int32) : he (uwh s v) = he s := rfl
theorem q_hc_ucel (s : St) (v : Nat → Option Nat) : hc (ucel s v) = hc s := rfl
theorem q_hc_usta (s : St) (v : Nat → Nat) : hc (usta s v) = hc s := rfl
theorem q_hc_uad (s : St) (v : Nat → Nat) : hc (uad s v) = hc s := rfl
theorem q_hc_usz (s : St) (v : Nat → Nat) : hc (usz s v) = hc s := rfl
theorem q_hc_utg (s : St) (v : Nat → Int32) : hc (utg s v) = hc s := rfl
theorem q_hc_uct (s : St) (v : Nat → Nat) : hc (uct s v) = hc s := rfl
theorem q_hc_uco (s : St) (v : Nat → Nat) : hc (uco s v) = hc s := rfl
theorem q_hc_ufl (s : St) (v : Nat → Nat → Option Nat) : hc (ufl s v) = hc s := rfl
theorem q_hc_ulg (s : St) (v : Nat → Nat → Nat) : hc (ulg s v) = hc s := rfl
theorem q_hc_unx (s : St) (v : Nat) : hc (unx s v) = hc s := rfl
theorem q_hc_urt (s : St) (v : Nat → Option Nat) : hc (urt s v) = hc s := rfl
theorem q_hc_ubf (s : St) (v : Nat → Option Nat) : hc (ubf s v) = hc s := rfl
theorem q_hc_uhf (s : St) (v : Int32) : hc (uhf s v) = hc s := rfl
theorem q_hc_uhe (s : St) (v : Int32) : hc (uhe s v) = hc s := rfl
theorem q_hc_uhc (s : St) (v : Int32) : hc (uhc s v) = v := rfl
theorem q_hc_uov (s : St) (v : Int32) : hc (uov s v) = hc s := rfl
theorem q_hc_uoc (s : St) (v : Int32) : hc (uoc s v) = hc s := rfl
theorem q_hc_ucl (s : St) (v : Int32) : hc (ucl s v) = hc s := rfl
theorem q_hc_ulf (s : St) (v : Nat → Nat) : hc (ulf s v) = hc s := rfl
theorem q_hc_urow (s : St) (v : List Nat) : hc (urow s v) = hc s := rfl
theorem q_hc_ulog (s : St) (v : List (Nat × Nat × Option Nat)) : hc (ulog s v) = hc s := rfl
theorem q_hc_utr (s : St) (v : Nat) : hc (utr s v) = hc s := rfl
theorem q_hc_ups (s : St) (v : Int32) : hc (ups s v) = hc s := rfl
theorem q_hc_umv (s : St) (v : Int32) : hc (umv s v) = hc s := rfl
theorem q_hc_uwh (s : St) (v : Int32) : hc (uwh s v) = hc s := rfl
theorem q_ov_ucel (s : St) (v : Nat → Option Nat) : ov (ucel s v) = ov s := rfl
theorem q_ov_usta (s : St) (v : Nat → Nat) : ov (usta s v) = ov s := rfl
theorem q_ov_uad (s : St) (v : Nat → Nat) : ov (uad s v) = ov s := rfl
theorem q_ov_usz (s : St) (v : Nat → Nat) : ov (usz s v) = ov s := rfl
theorem q_ov_utg (s : St) (v : Nat → Int32) : ov (utg s v) = ov s := rfl
theorem q_ov_uct (s : St) (v : Nat → Nat) : ov (uct s v) = ov s := rfl
theorem q_ov_uco (s : St) (v : Nat → Nat) : ov (uco s v) = ov s := rfl
theorem q_ov_ufl (s : St) (v : Nat → Nat → Option Nat) : ov (ufl s v) = ov s := rfl
theorem q_ov_ulg (s : St) (v : Nat → Nat → Nat) : ov (ulg s v) = ov s := rfl
theorem q_ov_unx (s : St) (v : Nat) : ov (unx s v) = ov s := rfl
theorem q_ov_urt (s : St) (v : Nat → Option Nat) : ov (urt s v) = ov s := rfl
theorem q_ov_ubf (s : St) (v : Nat → Option Nat) : ov (ubf s v) = ov s := rfl
theorem q_ov_uhf (s : St) (v : Int32) : ov (uhf s v) = ov s := rfl
theorem q_ov_uhe (s : St) (v : Int32) : ov (uhe s v) = ov s := rfl
theorem q_ov_uhc (s : St) (v : Int32) : ov (uhc s v) = ov s := rfl
theorem q_ov_uov (s : St) (v : Int32) : ov (uov s v) = v := rfl
theorem q_ov_uoc (s : St) (v : Int32) : ov (uoc s v) = ov s := rfl
theorem q_ov_ucl (s : St) (v : Int32) : ov (ucl s v) = ov s := rfl
theorem q_ov_ulf (s : St) (v : Nat → Nat) : ov (ulf s v) = ov s := rfl
theorem q_ov_urow (s : St) (v : List Nat) : ov (urow s v) = ov s := rfl
theorem q_ov_ulog (s : St) (v : List (Nat × Nat × Option Nat)) : ov (ulog s v) = ov s := rfl
theorem q_ov_utr (s : St) (v : Nat) : ov (utr s v) = ov s := rfl
theorem q_ov_ups (s : St) (v : Int32) : ov (ups s v) = ov s := rfl
theorem q_ov_umv (s : St) (v : Int32) : ov (umv s v) = ov s := rfl
theorem q_ov_uwh (s : St) (v : Int32) : ov (uwh s v) = ov s := rfl
theorem q_oc_ucel (s : St) (v : Nat → Option Nat) : oc (ucel s v) = oc s := rfl
theorem q_oc_usta (s : St) (v : Nat → Nat) : oc (usta s v) = oc s := rfl
theorem q_oc_uad (s : St) (v : Nat → Nat) : oc (uad s v) = oc s := rfl
theorem q_oc_usz (s : St) (v : Nat → Nat) : oc (usz s v) = oc s := rfl
theorem q_oc_utg (s : St) (v : Nat → Int32) : oc (utg s v) = oc s := rfl
theorem q_oc_uct (s : St) (v : Nat → Nat) : oc (uct s v) = oc s := rfl
theorem q_oc_uco (s : St) (v : Nat → Nat) : oc (uco s v) = oc s := rfl
theorem q_oc_ufl (s : St) (v : Nat → Nat → Option Nat) : oc (ufl s v) = oc s := rfl
theorem q_oc_ulg (s : St) (v : Nat → Nat → Nat) : oc (ulg s v) = oc s := rfl
theorem q_oc_unx (s : St) (v : Nat) : oc (unx s v) = oc s := rfl
theorem q_oc_urt (s : St) (v : Nat → Option Nat) : oc (urt s v) = oc s := rfl
theorem q_oc_ubf (s : St) (v : Nat → Option Nat) : oc (ubf s v) = oc s := rfl
theorem q_oc_uhf (s : St) (v : Int32) : oc (uhf s v) = oc s := rfl
theorem q_oc_uhe (s : St) (v : Int32) : oc (uhe s v) = oc s := rfl
theorem q_oc_uhc (s : St) (v : Int32) : oc (uhc s v) = oc s := rfl
theorem q_oc_uov (s : St) (v : Int32) : oc (uov s v) = oc s := rfl
theorem q_oc_uoc (s : St) (v : Int32) : oc (uoc s v) = v := rfl
theorem q_oc_ucl (s : St) (v : Int32) : oc (ucl s v) = oc s := rfl
theorem q_oc_ulf (s : St) (v : Nat → Nat) : oc (ulf s v) = oc s := rfl
theorem q_oc_urow (s : St) (v : List Nat) : oc (urow s v) = oc s := rfl
theorem q_oc_ulog (s : St) (v : List (Nat × Nat × Option Nat)) : oc (ulog s v) = oc s := rfl
theorem q_oc_utr (s : St) (v : Nat) : oc (utr s v) = oc s := rfl
theorem q_oc_ups (s : St) (v : Int32) : oc (ups s v) = oc s := rfl
theorem q_oc_umv (s : St) (v : Int32) : oc (umv s v) = oc s := rfl
theorem q_oc_uwh (s : St) (v : Int32) : oc (uwh s v) = oc s := rfl
theorem q_cl_ucel (s : St) (v : Nat → Option Nat) : cl (ucel s v) = cl s := rfl
theorem q_cl_usta (s : St) (v : Nat → Nat) : cl (usta s v) = cl s := rfl
theorem q_cl_uad (s : St) (v : Nat → Nat) : cl (uad s v) = cl s := rfl
theorem q_cl_usz (s : St) (v : Nat → Nat) : cl (usz s v) = cl s := rfl
theorem q_cl_utg (s : St) (v : Nat → Int32) : cl (utg s v) = cl s := rfl
theorem q_cl_uct (s : St) (v : Nat → Nat) : cl (uct s v) = cl s := rfl
theorem q_cl_uco (s : St) (v : Nat → Nat) : cl (uco s v) = cl s := rfl
theorem q_cl_ufl (s : St) (v : Nat → Nat → Option Nat) : cl (ufl s v) = cl s := rfl
theorem q_cl_ulg (s : St) (v : Nat → Nat → Nat) : cl (ulg s v) = cl s := rfl
theorem q_cl_unx (s : St) (v : Nat) : cl (unx s v) = cl s := rfl
theorem q_cl_urt (s : St) (v : Nat → Option Nat) : cl (urt s v) = cl s := rfl
theorem q_cl_ubf (s : St) (v : Nat → Option Nat) : cl (ubf s v) = cl s := rfl
theorem q_cl_uhf (s : St) (v : Int32) : cl (uhf s v) = cl s := rfl
theorem q_cl_uhe (s : St) (v : Int32) : cl (uhe s v) = cl s := rfl
theorem q_cl_uhc (s : St) (v : Int32) : cl (uhc s v) = cl s := rfl
theorem q_cl_uov (s : St) (v : Int32) : cl (uov s v) = cl s := rfl
theorem q_cl_uoc (s : St) (v : Int32) : cl (uoc s v) = cl s := rfl
theorem q_cl_ucl (s : St) (v : Int32) : cl (ucl s v) = v := rfl
theorem q_cl_ulf (s : St) (v : Nat → Nat) : cl (ulf s v) = cl s := rfl
theorem q_cl_urow (s : St) (v : List Nat) : cl (urow s v) = cl s := rfl
theorem q_cl_ulog (s : St) (v : List (Nat × Nat × Option Nat)) : cl (ulog s v) = cl s := rfl
theorem q_cl_utr (s : St) (v : Nat) : cl (utr s v) = cl s := rfl
theorem q_cl_ups (s : St) (v : Int32) : cl (ups s v) = cl s := rfl
theorem q_cl_umv (s : St) (v : Int32) : cl (umv s v) = cl s := rfl
theorem q_cl_uwh (s : St) (v : Int32) : cl (uwh s v) = cl s := rfl
theorem q_lf_ucel (s : St) (v : Nat → Option Nat) : lf (ucel s v) = lf s := rfl
theorem q_lf_usta (s : St) (v : Nat → Nat) : lf (usta s v) = lf s := rfl
theorem q_lf_uad (s : St) (v : Nat → Nat) : lf (uad s v) = lf s := rfl
theorem q_lf_usz (s : St) (v : Nat → Nat) : lf (usz s v) = lf s := rfl
theorem q_lf_utg (s : St) (v : Nat → Int32) : lf (utg s v) = lf s := rfl
theorem q_lf_uct (s : St) (v : Nat → Nat) : lf (uct s v) = lf s := rfl
theorem q_lf_uco (s : St) (v : Nat → Nat) : lf (uco s v) = lf s := rfl
theorem q_lf_ufl (s : St) (v : Nat → Nat → Option Nat) : lf (ufl s v) = lf s := rfl
theorem q_lf_ulg (s : St) (v : Nat → Nat → Nat) : lf (ulg s v) = lf s := rfl
theorem q_lf_unx (s : St) (v : Nat) : lf (unx s v) = lf s := rfl
theorem q_lf_urt (s : St) (v : Nat → Option Nat) : lf (urt s v) = lf s := rfl
theorem q_lf_ubf (s : St) (v : Nat → Option Nat) : lf (ubf s v) = lf s := rfl
theorem q_lf_uhf (s : St) (v : Int32) : lf (uhf s v) = lf s := rfl
theorem q_lf_uhe (s : St) (v : Int32) : lf (uhe s v) = lf s := rfl
theorem q_lf_uhc (s : St) (v : Int32) : lf (uhc s v) = lf s := rfl
theorem q_lf_uov (s : St) (v : Int32) : lf (uov s v) = lf s := rfl
theorem q_lf_uoc (s : St) (v : Int32) : lf (uoc s v) = lf s := rfl
theorem q_lf_ucl (s : St) (v : Int32) : lf (ucl s v) = lf s := rfl
theorem q_lf_ulf (s : St) (v : Nat → Nat) : lf (ulf s v) = v := rfl
theorem q_lf_urow (s : St) (v : List Nat) : lf (urow s v) = lf s := rfl
theorem q_lf_ulog (s : St) (v : List (Nat × Nat × Option Nat)) : lf (ulog s v) = lf s := rfl
theorem q_lf_utr (s : St) (v : Nat) : lf (utr s v) = lf s := rfl
theorem q_lf_ups (s : St) (v : Int32) : lf (ups s v) = lf s := rfl
theorem q_lf_umv (s : St) (v : Int32) : lf (umv s v) = lf s := rfl
theorem q_lf_uwh (s : St) (v : Int32) : lf (uwh s v) = lf s := rfl
theorem q_row_ucel (s : St) (v : Nat → Option Nat) : row (ucel s v) = row s := rfl
theorem q_row_usta (s : St) (v : Nat → Nat) : row (usta s v) = row s := rfl
theorem q_row_uad (s : St) (v : Nat → Nat) : row (uad s v) = row s := rfl
theorem q_row_usz (s : St) (v : Nat → Nat) : row (usz s v) = row s := rfl
theorem q_row_utg (s : St) (v : Nat → Int32) : row (utg s v) = row s := rfl
theorem q_row_uct (s : St) (v : Nat → Nat) : row (uct s v) = row s := rfl
theorem q_row_uco (s : St) (v : Nat → Nat) : row (uco s v) = row s := rfl
theorem q_row_ufl (s : St) (v : Nat → Nat → Option Nat) : row (ufl s v) = row s := rfl
theorem q_row_ulg (s : St) (v : Nat → Nat → Nat) : row (ulg s v) = row s := rfl
theorem q_row_unx (s : St) (v : Nat) : row (unx s v) = row s := rfl
theorem q_row_urt (s : St) (v : Nat → Option Nat) : row (urt s v) = row s := rfl
theorem q_row_ubf (s : St) (v : Nat → Option Nat) : row (ubf s v) = row s := rfl
theorem q_row_uhf (s : St) (v : Int32) : row (uhf s v) = row s := rfl
theorem q_row_uhe (s : St) (v : Int32) : row (uhe s v) = row s := rfl
theorem q_row_uhc (s : St) (v : Int32) : row (uhc s v) = row s := rfl
theorem q_row_uov (s : St) (v : Int32) : row (uov s v) = row s := rfl
theorem q_row_uoc (s : St) (v : Int32) : row (uoc s v) = row s := rfl
theorem q_row_ucl (s : St) (v : Int32) : row (ucl s v) = row s := rfl
theorem q_row_ulf (s : St) (v : Nat → Nat) : row (ulf s v) = row s := rfl
theorem q_row_urow (s : St) (v : List Nat) : row (urow s v) = v := rfl
theorem q_row_ulog (s : St) (v : List (Nat × Nat × Option Nat)) : row (ulog s v) = row s := rfl
theorem q_row_utr (s : St) (v : Nat) : row (utr s v) = row s := rfl
theorem q_row_ups (s : St) (v : Int32) : row (ups s v) = row s := rfl
theorem q_row_umv (s : St) (v : Int32) : row (umv s v) = row s := rfl
theorem q_row_uwh (s : St) (v : Int32) : row (uwh s v) = row s := rfl
theorem q_log_ucel (s : St) (v : Nat → Option Nat) : log (ucel s v) = log s := rfl
theorem q_log_usta (s : St) (v : Nat → Nat) : log (usta s v) = log s := rfl
theorem q_log_uad (s : St) (v : Nat → Nat) : log (uad s v) = log s := rfl
theorem q_log_usz (s : St) (v : Nat → Nat) : log (usz s v) = log s := rfl
theorem q_log_utg (s : St) (v : Nat → Int32) : log (utg s v) = log s := rfl
theorem q_log_uct (s : St) (v : Nat → Nat) : log (uct s v) = log s := rfl
theorem q_log_uco (s : St) (v : Nat → Nat) : log (uco s v) = log s := rfl
theorem q_log_ufl (s : St) (v : Nat → Nat → Option Nat) : log (ufl s v) = log s := rfl
theorem q_log_ulg (s : St) (v : Nat → Nat → Nat) : log (ulg s v) = log s := rfl
theorem q_log_unx (s : St) (v : Nat) : log (unx s v) = log s := rfl
theorem q_log_urt (s : St) (v : Nat → Option Nat) : log (urt s v) = log s := rfl
theorem q_log_ubf (s : St) (v : Nat → Option Nat) : log (ubf s v) = log s := rfl
theorem q_log_uhf (s : St) (v : Int32) : log (uhf s v) = log s := rfl
theorem q_log_uhe (s : St) (v : Int32) : log (uhe s v) = log s := rfl
theorem q_log_uhc (s : St) (v : Int32) : log (uhc s v) = log s := rfl
theorem q_log_uov (s : St) (v : Int32) : log (uov s v) = log s := rfl
theorem q_log_uoc (s : St) (v : Int32) : log (uoc s v) = log s := rfl
theorem q_log_ucl (s : St) (v : Int32) : log (ucl s v) = log s := rfl
theorem q_log_ulf (s : St) (v : Nat → Nat) : log (ulf s v) = log s := rfl
theorem q_log_urow (s : St) (v : List Nat) : log (urow s v) = log s := rfl
theorem q_log_ulog (s : St) (v : List (Nat × Nat × Option Nat)) : log (ulog s v) = v := rfl
theorem q_log_utr (s : St) (v : Nat) : log (utr s v) = log s := rfl
theorem q_log_ups (s : St) (v : Int32) : log (ups s v) = log s := rfl
theorem q_log_umv (s : St) (v : Int32) : log (umv s v) = log s := rfl
theorem q_log_uwh (s : St) (v : Int32) : log (uwh s v) = log s := rfl
theorem q_tr_ucel (s : St) (v : Nat → Option Nat) : tr (ucel s v) = tr s := rfl
theorem q_tr_usta (s : St) (v : Nat → Nat) : tr (usta s v) = tr s := rfl
theorem q_tr_uad (s : St) (v : Nat → Nat) : tr (uad s v) = tr s := rfl
theorem q_tr_usz (s : St) (v : Nat → Nat) : tr (usz s v) = tr s := rfl
theorem q_tr_utg (s : St) (v : Nat → Int32) : tr (utg s v) = tr s := rfl
theorem q_tr_uct (s : St) (v : Nat → Nat) : tr (uct s v) = tr s := rfl
theorem q_tr_uco (s : St) (v : Nat → Nat) : tr (uco s v) = tr s := rfl
theorem q_tr_ufl (s : St) (v : Nat → Nat → Option Nat) : tr (ufl s v) = tr s := rfl
theorem q_tr_ulg (s : St) (v : Nat → Nat → Nat) : tr (ulg s v) = tr s := rfl
theorem q_tr_unx (s : St) (v : Nat) : tr (unx s v) = tr s := rfl
theorem q_tr_urt (s : St) (v : Nat → Option Nat) : tr (urt s v) = tr s := rfl
theorem q_tr_ubf (s : St) (v : Nat → Option Nat) : tr (ubf s v) = tr s := rfl
theorem q_tr_uhf (s : St) (v : Int32) : tr (uhf s v) = tr s := rfl
theorem q_tr_uhe (s : St) (v : Int32) : tr (uhe s v) = tr s := rfl
theorem q_tr_uhc (s : St) (v : Int32) : tr (uhc s v) = tr s := rfl
theorem q_tr_uov (s : St) (v : Int32) : tr (uov s v) = tr s := rfl
theorem q_tr_uoc (s : St) (v : Int32) : tr (uoc s v) = tr s := rfl
theorem q_tr_ucl (s : St) (v : Int32) : tr (ucl s v) = tr s := rfl
theorem q_tr_ulf (s : St) (v : Nat → Nat) : tr (ulf s v) = tr s := rfl
theorem q_tr_urow (s : St) (v : List Nat) : tr (urow s v) = tr s := rfl
theorem q_tr_ulog (s : St) (v : List (Nat × Nat × Option Nat)) : tr (ulog s v) = tr s := rfl
theorem q_tr_utr (s : St) (v : Nat) : tr (utr s v) = v := rfl
theorem q_tr_ups (s : St) (v : Int32) : tr (ups s v) = tr s := rfl
theorem q_tr_umv (s : St) (v : Int32) : tr (umv s v) = tr s := rfl
theorem q_tr_uwh (s : St) (v : Int32) : tr (uwh s v) = tr s := rfl
theorem q_ps_ucel (s : St) (v : Nat → Option Nat) : ps (ucel s v) = ps s := rfl
theorem q_ps_usta (s : St) (v : Nat → Nat) : ps (usta s v) = ps s := rfl
theorem q_ps_uad (s : St) (v : Nat → Nat) : ps (uad s v) = ps s := rfl
theorem q_ps_usz (s : St) (v : Nat → Nat) : ps (usz s v) = ps s := rfl
theorem q_ps_utg (s : St) (v : Nat → Int32) : ps (utg s v) = ps s := rfl
theorem q_ps_uct (s : St) (v : Nat → Nat) : ps (uct s v) = ps s := rfl
theorem q_ps_uco (s : St) (v : Nat → Nat) : ps (uco s v) = ps s := rfl
theorem q_ps_ufl (s : St) (v : Nat → Nat → Option Nat) : ps (ufl s v) = ps s := rfl
theorem q_ps_ulg (s : St) (v : Nat → Nat → Nat) : ps (ulg s v) = ps s := rfl
theorem q_ps_unx (s : St) (v : Nat) : ps (unx s v) = ps s := rfl
theorem q_ps_urt (s : St) (v : Nat → Option Nat) : ps (urt s v) = ps s := rfl
theorem q_ps_ubf (s : St) (v : Nat → Option Nat) : ps (ubf s v) = ps s := rfl
theorem q_ps_uhf (s : St) (v : Int32) : ps (uhf s v) = ps s := rfl
theorem q_ps_uhe (s : St) (v : Int32) : ps (uhe s v) = ps s := rfl
theorem q_ps_uhc (s : St) (v : Int32) : ps (uhc s v) = ps s := rfl
theorem q_ps_uov (s : St) (v : Int32) : ps (uov s v) = ps s := rfl
theorem q_ps_uoc (s : St) (v : Int32) : ps (uoc s v) = ps s := rfl
theorem q_ps_ucl (s : St) (v : Int32) : ps (ucl s v) = ps s := rfl
theorem q_ps_ulf (s : St) (v : Nat → Nat) : ps (ulf s v) = ps s := rfl
theorem q_ps_urow (s : St) (v : List Nat) : ps (urow s v) = ps s := rfl
theorem q_ps_ulog (s : St) (v : List (Nat × Nat × Option Nat)) : ps (ulog s v) = ps s := rfl
theorem q_ps_utr (s : St) (v : Nat) : ps (utr s v) = ps s := rfl
theorem q_ps_ups (s : St) (v : Int32) : ps (ups s v) = v := rfl
theorem q_ps_umv (s : St) (v : Int32) : ps (umv s v) = ps s := rfl
theorem q_ps_uwh (s : St) (v : Int32) : ps (uwh s v) = ps s := rfl
theorem q_mv_ucel (s : St) (v : Nat → Option Nat) : mv (ucel s v) = mv s := rfl
theorem q_mv_usta (s : St) (v : Nat → Nat) : mv (usta s v) = mv s := rfl
theorem q_mv_uad (s : St) (v : Nat → Nat) : mv (uad s v) = mv s := rfl
theorem q_mv_usz (s : St) (v : Nat → Nat) : mv (usz s v) = mv s := rfl
theorem q_mv_utg (s : St) (v : Nat → Int32) : mv (utg s v) = mv s := rfl
theorem q_mv_uct (s : St) (v : Nat → Nat) : mv (uct s v) = mv s := rfl
theorem q_mv_uco (s : St) (v : Nat → Nat) : mv (uco s v) = mv s := rfl
theorem q_mv_ufl (s : St) (v : Nat → Nat → Option Nat) : mv (ufl s v) = mv s := rfl
theorem q_mv_ulg (s : St) (v : Nat → Nat → Nat) : mv (ulg s v) = mv s := rfl
theorem q_mv_unx (s : St) (v : Nat) : mv (unx s v) = mv s := rfl
theorem q_mv_urt (s : St) (v : Nat → Option Nat) : mv (urt s v) = mv s := rfl
theorem q_mv_ubf (s : St) (v : Nat → Option Nat) : mv (ubf s v) = mv s := rfl
theorem q_mv_uhf (s : St) (v : Int32) : mv (uhf s v) = mv s := rfl
theorem q_mv_uhe (s : St) (v : Int32) : mv (uhe s v) = mv s := rfl
theorem q_mv_uhc (s : St) (v : Int32) : mv (uhc s v) = mv s := rfl
theorem q_mv_uov (s : St) (v : Int32) : mv (uov s v) = mv s := rfl
theorem q_mv_uoc (s : St) (v : Int32) : mv (uoc s v) = mv s := rfl
theorem q_mv_ucl (s : St) (v : Int32) : mv (ucl s v) = mv s := rfl
theorem q_mv_ulf (s : St) (v : Nat → Nat) : mv (ulf s v) = mv s := rfl
theorem q_mv_urow (s : St) (v : List Nat) : mv (urow s v) = mv s := rfl
theorem q_mv_ulog (s : St) (v : List (Nat × Nat × Option Nat)) : mv (ulog s v) = mv s := rfl
theorem q_mv_utr (s : St) (v : Nat) : mv (utr s v) = mv s := rfl
theorem q_mv_ups (s : St) (v : Int32) : mv (ups s v) = mv s := rfl
theorem q_mv_umv (s : St) (v : Int32) : mv (umv s v) = v := rfl
theorem q_mv_uwh (s : St) (v : Int32) : mv (uwh s v) = mv s := rfl
theorem q_wh_ucel (s : St) (v : Nat → Option Nat) : wh (ucel s v) = wh s := rfl
theorem q_wh_usta (s : St) (v : Nat → Nat) : wh (usta s v) = wh s := rfl
theorem q_wh_uad (s : St) (v : Nat → Nat) : wh (uad s v) = wh s := rfl
theorem q_wh_usz (s : St) (v : Nat → Nat) : wh (usz s v) = wh s := rfl
theorem q_wh_utg (s : St) (v : Nat → Int32) : wh (utg s v) = wh s := rfl
theorem q_wh_uct (s : St) (v : Nat → Nat) : wh (uct s v) = wh s := rfl
theorem q_wh_uco (s : St) (v : Nat → Nat) : wh (uco s v) = wh s := rfl
theorem q_wh_ufl (s : St) (v : Nat → Nat → Option Nat) : wh (ufl s v) = wh s := rfl
theorem q_wh_ulg (s : St) (v : Nat → Nat → Nat) : wh (ulg s v) = wh s := rfl
theorem q_wh_unx (s : St) (v : Nat) : wh (unx s v) = wh s := rfl
theorem q_wh_urt (s : St) (v : Nat → Option Nat) : wh (urt s v) = wh s := rfl
theorem q_wh_ubf (s : St) (v : Nat → Option Nat) : wh (ubf s v) = wh s := rfl
theorem q_wh_uhf (s : St) (v : Int32) : wh (uhf s v) = wh s := rfl
theorem q_wh_uhe (s : St) (v : Int32) : wh (uhe s v) = wh s := rfl
theorem q_wh_uhc (s : St) (v : Int32) : wh (uhc s v) = wh s := rfl
theorem q_wh_uov (s : St) (v : Int32) : wh (uov s v) = wh s := rfl
theorem q_wh_uoc (s : St) (v : Int32) : wh (uoc s v) = wh s := rfl
theorem q_wh_ucl (s : St) (v : Int32) : wh (ucl s v) = wh s := rfl
theorem q_wh_ulf (s : St) (v : Nat → Nat) : wh (ulf s v) = wh s := rfl
theorem q_wh_urow (s : St) (v : List Nat) : wh (urow s v) = wh s := rfl
theorem q_wh_ulog (s : St) (v : List (Nat × Nat × Option Nat)) : wh (ulog s v) = wh s := rfl
theorem q_wh_utr (s : St) (v : Nat) : wh (utr s v) = wh s := rfl
theorem q_wh_ups (s : St) (v : Int32) : wh (ups s v) = wh s := rfl
theorem q_wh_umv (s : St) (v : Int32) : wh (umv s v) = wh s := rfl
theorem q_wh_uwh (s : St) (v : Int32) : wh (uwh s v) = v := rfl
theorem qq_ucel (s : St) (v w : Nat → Option Nat) : ucel (ucel s v) w = ucel s w := Prod.ext rfl (Prod.ext (funext fun k => funext fun x => funext fun i => iti _ _ _) rfl)
theorem qq_usta (s : St) (v w : Nat → Nat) : usta (usta s v) w = usta s w := Prod.ext (funext fun k => funext fun x => funext fun i => iti _ _ _) rfl
theorem qq_uad (s : St) (v w : Nat → Nat) : uad (uad s v) w = uad s w := Prod.ext (funext fun k => funext fun x => funext fun i => iti _ _ _) rfl
theorem qq_usz (s : St) (v w : Nat → Nat) : usz (usz s v) w = usz s w := Prod.ext (funext fun k => funext fun x => funext fun i => iti _ _ _) rfl
theorem qq_utg (s : St) (v w : Nat → Int32) : utg (utg s v) w = utg s w := Prod.ext rfl (Prod.ext rfl (Prod.ext (funext fun k => funext fun x => funext fun i => iti _ _ _) rfl))
theorem qq_uct (s : St) (v w : Nat → Nat) : uct (uct s v) w = uct s w := Prod.ext (funext fun k => funext fun x => funext fun i => iti _ _ _) rfl
theorem qq_uco (s : St) (v w : Nat → Nat) : uco (uco s v) w = uco s w := Prod.ext (funext fun k => funext fun x => funext fun i => iti _ _ _) rfl
theorem qq_ufl (s : St) (v w : Nat → Nat → Option Nat) : ufl (ufl s v) w = ufl s w := Prod.ext rfl (Prod.ext (funext fun k => funext fun x => funext fun i => iti _ _ _) rfl)
theorem qq_ulg (s : St) (v w : Nat → Nat → Nat) : ulg (ulg s v) w = ulg s w := Prod.ext (funext fun k => funext fun x => funext fun i => iti _ _ _) rfl
theorem qq_unx (s : St) (v w : Nat) : unx (unx s v) w = unx s w := Prod.ext (funext fun k => funext fun x => funext fun i => iti _ _ _) rfl
theorem qq_urt (s : St) (v w : Nat → Option Nat) : urt (urt s v) w = urt s w := Prod.ext rfl (Prod.ext (funext fun k => funext fun x => funext fun i => iti _ _ _) rfl)
theorem qq_ubf (s : St) (v w : Nat → Option Nat) : ubf (ubf s v) w = ubf s w := Prod.ext rfl (Prod.ext (funext fun k => funext fun x => funext fun i => iti _ _ _) rfl)
theorem qq_uhf (s : St) (v w : Int32) : uhf (uhf s v) w = uhf s w := Prod.ext rfl (Prod.ext rfl (Prod.ext (funext fun k => funext fun x => funext fun i => iti _ _ _) rfl))
theorem qq_uhe (s : St) (v w : Int32) : uhe (uhe s v) w = uhe s w := Prod.ext rfl (Prod.ext rfl (Prod.ext (funext fun k => funext fun x => funext fun i => iti _ _ _) rfl))
theorem qq_uhc (s : St) (v w : Int32) : uhc (uhc s v) w = uhc s w := Prod.ext rfl (Prod.ext rfl (Prod.ext (funext fun k => funext fun x => funext fun i => iti _ _ _) rfl))
theorem qq_uov (s : St) (v w : Int32) : uov (uov s v) w = uov s w := Prod.ext rfl (Prod.ext rfl (Prod.ext (funext fun k => funext fun x => funext fun i => iti _ _ _) rfl))
theorem qq_uoc (s : St) (v w : Int32) : uoc (uoc s v) w = uoc s w := Prod.ext rfl (Prod.ext rfl (Prod.ext (funext fun k => funext fun x => funext fun i => iti _ _ _) rfl))
theorem qq_ucl (s : St) (v w : Int32) : ucl (ucl s v) w = ucl s w := Prod.ext rfl (Prod.ext rfl (Prod.ext (funext fun k => funext fun x => funext fun i => iti _ _ _) rfl))
theorem qq_ulf (s : St) (v w : Nat → Nat) : ulf (ulf s v) w = ulf s w := Prod.ext (funext fun k => funext fun x => funext fun i => iti _ _ _) rfl
theorem qq_urow (s : St) (v w : List Nat) : urow (urow s v) w = urow s w := rfl
theorem qq_ulog (s : St) (v w : List (Nat × Nat × Option Nat)) : ulog (ulog s v) w = ulog s w := rfl
theorem qq_utr (s : St) (v w : Nat) : utr (utr s v) w = utr s w := Prod.ext (funext fun k => funext fun x => funext fun i => iti _ _ _) rfl
theorem qq_ups (s : St) (v w : Int32) : ups (ups s v) w = ups s w := Prod.ext rfl (Prod.ext rfl (Prod.ext (funext fun k => funext fun x => funext fun i => iti _ _ _) rfl))
theorem qq_umv (s : St) (v w : Int32) : umv (umv s v) w = umv s w := Prod.ext rfl (Prod.ext rfl (Prod.ext (funext fun k => funext fun x => funext fun i => iti _ _ _) rfl))
theorem qq_uwh (s : St) (v w : Int32) : uwh (uwh s v) w = uwh s w := Prod.ext rfl (Prod.ext rfl (Prod.ext (funext fun k => funext fun x => funext fun i => iti _ _ _) rfl))
