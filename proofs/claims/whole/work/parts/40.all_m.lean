/-! All blocks together: the machine is sound. -/
section
variable {l : Launch} {Dg : va_G} {tys : List (ClassId × FieldType)} {cA : Nat → Nat} {base : Nat} {adS : Nat → Nat} {Ex : State → Heap → Prop}

theorem okzm (b : Nat) : xOK l Dg clm tys cA flm ftm base adS GWm xym xcm xnm xrm Ex codem bmm bpm b bm_no := fun n dl fs fin hI => s_no
theorem anm_0 (Hy : Hym tys cA base adS Ex) : xall (fun b t => xOK l Dg clm tys cA flm ftm base adS GWm xym xcm xnm xrm Ex codem bmm bpm b t) 1 0 512 codem_0 :=
  And.intro (okm_0 Hy) (okm_512 Hy)
theorem anm_1 (Hy : Hym tys cA base adS Ex) : xall (fun b t => xOK l Dg clm tys cA flm ftm base adS GWm xym xcm xnm xrm Ex codem bmm bpm b t) 1 256 512 codem_1 :=
  And.intro (okm_256 Hy) (okm_768 Hy)
theorem anm_2 (Hy : Hym tys cA base adS Ex) : xall (fun b t => xOK l Dg clm tys cA flm ftm base adS GWm xym xcm xnm xrm Ex codem bmm bpm b t) 2 0 256 codem_2 :=
  And.intro (anm_0 Hy) (anm_1 Hy)
theorem anm_3 (Hy : Hym tys cA base adS Ex) : xall (fun b t => xOK l Dg clm tys cA flm ftm base adS GWm xym xcm xnm xrm Ex codem bmm bpm b t) 1 128 512 codem_3 :=
  And.intro (okm_128 Hy) (okm_640 Hy)
theorem anm_4 (Hy : Hym tys cA base adS Ex) : xall (fun b t => xOK l Dg clm tys cA flm ftm base adS GWm xym xcm xnm xrm Ex codem bmm bpm b t) 1 384 512 codem_4 :=
  And.intro (okm_384 Hy) (okm_896 Hy)
theorem anm_5 (Hy : Hym tys cA base adS Ex) : xall (fun b t => xOK l Dg clm tys cA flm ftm base adS GWm xym xcm xnm xrm Ex codem bmm bpm b t) 2 128 256 codem_5 :=
  And.intro (anm_3 Hy) (anm_4 Hy)
theorem anm_6 (Hy : Hym tys cA base adS Ex) : xall (fun b t => xOK l Dg clm tys cA flm ftm base adS GWm xym xcm xnm xrm Ex codem bmm bpm b t) 3 0 128 codem_6 :=
  And.intro (anm_2 Hy) (anm_5 Hy)
theorem anm_7 (Hy : Hym tys cA base adS Ex) : xall (fun b t => xOK l Dg clm tys cA flm ftm base adS GWm xym xcm xnm xrm Ex codem bmm bpm b t) 1 64 512 codem_7 :=
  And.intro (okm_64 Hy) (okm_576 Hy)
theorem anm_8 (Hy : Hym tys cA base adS Ex) : xall (fun b t => xOK l Dg clm tys cA flm ftm base adS GWm xym xcm xnm xrm Ex codem bmm bpm b t) 1 320 512 codem_8 :=
  And.intro (okm_320 Hy) (okm_832 Hy)
theorem anm_9 (Hy : Hym tys cA base adS Ex) : xall (fun b t => xOK l Dg clm tys cA flm ftm base adS GWm xym xcm xnm xrm Ex codem bmm bpm b t) 2 64 256 codem_9 :=
  And.intro (anm_7 Hy) (anm_8 Hy)
theorem anm_10 (Hy : Hym tys cA base adS Ex) : xall (fun b t => xOK l Dg clm tys cA flm ftm base adS GWm xym xcm xnm xrm Ex codem bmm bpm b t) 1 192 512 codem_10 :=
  And.intro (okm_192 Hy) (okm_704 Hy)
theorem anm_11 (Hy : Hym tys cA base adS Ex) : xall (fun b t => xOK l Dg clm tys cA flm ftm base adS GWm xym xcm xnm xrm Ex codem bmm bpm b t) 1 448 512 codem_11 :=
  And.intro (okm_448 Hy) (okzm 960)
theorem anm_12 (Hy : Hym tys cA base adS Ex) : xall (fun b t => xOK l Dg clm tys cA flm ftm base adS GWm xym xcm xnm xrm Ex codem bmm bpm b t) 2 192 256 codem_12 :=
  And.intro (anm_10 Hy) (anm_11 Hy)
theorem anm_13 (Hy : Hym tys cA base adS Ex) : xall (fun b t => xOK l Dg clm tys cA flm ftm base adS GWm xym xcm xnm xrm Ex codem bmm bpm b t) 3 64 128 codem_13 :=
  And.intro (anm_9 Hy) (anm_12 Hy)
theorem anm_14 (Hy : Hym tys cA base adS Ex) : xall (fun b t => xOK l Dg clm tys cA flm ftm base adS GWm xym xcm xnm xrm Ex codem bmm bpm b t) 4 0 64 codem_14 :=
  And.intro (anm_6 Hy) (anm_13 Hy)
theorem anm_15 (Hy : Hym tys cA base adS Ex) : xall (fun b t => xOK l Dg clm tys cA flm ftm base adS GWm xym xcm xnm xrm Ex codem bmm bpm b t) 1 32 512 codem_15 :=
  And.intro (okm_32 Hy) (okm_544 Hy)
theorem anm_16 (Hy : Hym tys cA base adS Ex) : xall (fun b t => xOK l Dg clm tys cA flm ftm base adS GWm xym xcm xnm xrm Ex codem bmm bpm b t) 1 288 512 codem_16 :=
  And.intro (okm_288 Hy) (okm_800 Hy)
theorem anm_17 (Hy : Hym tys cA base adS Ex) : xall (fun b t => xOK l Dg clm tys cA flm ftm base adS GWm xym xcm xnm xrm Ex codem bmm bpm b t) 2 32 256 codem_17 :=
  And.intro (anm_15 Hy) (anm_16 Hy)
theorem anm_18 (Hy : Hym tys cA base adS Ex) : xall (fun b t => xOK l Dg clm tys cA flm ftm base adS GWm xym xcm xnm xrm Ex codem bmm bpm b t) 1 160 512 codem_18 :=
  And.intro (okm_160 Hy) (okm_672 Hy)
theorem anm_19 (Hy : Hym tys cA base adS Ex) : xall (fun b t => xOK l Dg clm tys cA flm ftm base adS GWm xym xcm xnm xrm Ex codem bmm bpm b t) 1 416 512 codem_19 :=
  And.intro (okm_416 Hy) (okm_928 Hy)
theorem anm_20 (Hy : Hym tys cA base adS Ex) : xall (fun b t => xOK l Dg clm tys cA flm ftm base adS GWm xym xcm xnm xrm Ex codem bmm bpm b t) 2 160 256 codem_20 :=
  And.intro (anm_18 Hy) (anm_19 Hy)
theorem anm_21 (Hy : Hym tys cA base adS Ex) : xall (fun b t => xOK l Dg clm tys cA flm ftm base adS GWm xym xcm xnm xrm Ex codem bmm bpm b t) 3 32 128 codem_21 :=
  And.intro (anm_17 Hy) (anm_20 Hy)
theorem anm_22 (Hy : Hym tys cA base adS Ex) : xall (fun b t => xOK l Dg clm tys cA flm ftm base adS GWm xym xcm xnm xrm Ex codem bmm bpm b t) 1 96 512 codem_22 :=
  And.intro (okm_96 Hy) (okm_608 Hy)
theorem anm_23 (Hy : Hym tys cA base adS Ex) : xall (fun b t => xOK l Dg clm tys cA flm ftm base adS GWm xym xcm xnm xrm Ex codem bmm bpm b t) 1 352 512 codem_23 :=
  And.intro (okm_352 Hy) (okm_864 Hy)
theorem anm_24 (Hy : Hym tys cA base adS Ex) : xall (fun b t => xOK l Dg clm tys cA flm ftm base adS GWm xym xcm xnm xrm Ex codem bmm bpm b t) 2 96 256 codem_24 :=
  And.intro (anm_22 Hy) (anm_23 Hy)
theorem anm_25 (Hy : Hym tys cA base adS Ex) : xall (fun b t => xOK l Dg clm tys cA flm ftm base adS GWm xym xcm xnm xrm Ex codem bmm bpm b t) 1 224 512 codem_25 :=
  And.intro (okm_224 Hy) (okm_736 Hy)
theorem anm_26 (Hy : Hym tys cA base adS Ex) : xall (fun b t => xOK l Dg clm tys cA flm ftm base adS GWm xym xcm xnm xrm Ex codem bmm bpm b t) 1 480 512 codem_26 :=
  And.intro (okm_480 Hy) (okzm 992)
theorem anm_27 (Hy : Hym tys cA base adS Ex) : xall (fun b t => xOK l Dg clm tys cA flm ftm base adS GWm xym xcm xnm xrm Ex codem bmm bpm b t) 2 224 256 codem_27 :=
  And.intro (anm_25 Hy) (anm_26 Hy)
theorem anm_28 (Hy : Hym tys cA base adS Ex) : xall (fun b t => xOK l Dg clm tys cA flm ftm base adS GWm xym xcm xnm xrm Ex codem bmm bpm b t) 3 96 128 codem_28 :=
  And.intro (anm_24 Hy) (anm_27 Hy)
theorem anm_29 (Hy : Hym tys cA base adS Ex) : xall (fun b t => xOK l Dg clm tys cA flm ftm base adS GWm xym xcm xnm xrm Ex codem bmm bpm b t) 4 32 64 codem_29 :=
  And.intro (anm_21 Hy) (anm_28 Hy)
theorem anm_30 (Hy : Hym tys cA base adS Ex) : xall (fun b t => xOK l Dg clm tys cA flm ftm base adS GWm xym xcm xnm xrm Ex codem bmm bpm b t) 5 0 32 codem_30 :=
  And.intro (anm_14 Hy) (anm_29 Hy)
theorem anm_31 (Hy : Hym tys cA base adS Ex) : xall (fun b t => xOK l Dg clm tys cA flm ftm base adS GWm xym xcm xnm xrm Ex codem bmm bpm b t) 1 16 512 codem_31 :=
  And.intro (okm_16 Hy) (okm_528 Hy)
theorem anm_32 (Hy : Hym tys cA base adS Ex) : xall (fun b t => xOK l Dg clm tys cA flm ftm base adS GWm xym xcm xnm xrm Ex codem bmm bpm b t) 1 272 512 codem_32 :=
  And.intro (okm_272 Hy) (okm_784 Hy)
theorem anm_33 (Hy : Hym tys cA base adS Ex) : xall (fun b t => xOK l Dg clm tys cA flm ftm base adS GWm xym xcm xnm xrm Ex codem bmm bpm b t) 2 16 256 codem_33 :=
  And.intro (anm_31 Hy) (anm_32 Hy)
theorem anm_34 (Hy : Hym tys cA base adS Ex) : xall (fun b t => xOK l Dg clm tys cA flm ftm base adS GWm xym xcm xnm xrm Ex codem bmm bpm b t) 1 144 512 codem_34 :=
  And.intro (okm_144 Hy) (okm_656 Hy)
theorem anm_35 (Hy : Hym tys cA base adS Ex) : xall (fun b t => xOK l Dg clm tys cA flm ftm base adS GWm xym xcm xnm xrm Ex codem bmm bpm b t) 1 400 512 codem_35 :=
  And.intro (okm_400 Hy) (okm_912 Hy)
theorem anm_36 (Hy : Hym tys cA base adS Ex) : xall (fun b t => xOK l Dg clm tys cA flm ftm base adS GWm xym xcm xnm xrm Ex codem bmm bpm b t) 2 144 256 codem_36 :=
  And.intro (anm_34 Hy) (anm_35 Hy)
theorem anm_37 (Hy : Hym tys cA base adS Ex) : xall (fun b t => xOK l Dg clm tys cA flm ftm base adS GWm xym xcm xnm xrm Ex codem bmm bpm b t) 3 16 128 codem_37 :=
  And.intro (anm_33 Hy) (anm_36 Hy)
theorem anm_38 (Hy : Hym tys cA base adS Ex) : xall (fun b t => xOK l Dg clm tys cA flm ftm base adS GWm xym xcm xnm xrm Ex codem bmm bpm b t) 1 80 512 codem_38 :=
  And.intro (okm_80 Hy) (okm_592 Hy)
theorem anm_39 (Hy : Hym tys cA base adS Ex) : xall (fun b t => xOK l Dg clm tys cA flm ftm base adS GWm xym xcm xnm xrm Ex codem bmm bpm b t) 1 336 512 codem_39 :=
  And.intro (okm_336 Hy) (okm_848 Hy)
theorem anm_40 (Hy : Hym tys cA base adS Ex) : xall (fun b t => xOK l Dg clm tys cA flm ftm base adS GWm xym xcm xnm xrm Ex codem bmm bpm b t) 2 80 256 codem_40 :=
  And.intro (anm_38 Hy) (anm_39 Hy)
theorem anm_41 (Hy : Hym tys cA base adS Ex) : xall (fun b t => xOK l Dg clm tys cA flm ftm base adS GWm xym xcm xnm xrm Ex codem bmm bpm b t) 1 208 512 codem_41 :=
  And.intro (okm_208 Hy) (okm_720 Hy)
theorem anm_42 (Hy : Hym tys cA base adS Ex) : xall (fun b t => xOK l Dg clm tys cA flm ftm base adS GWm xym xcm xnm xrm Ex codem bmm bpm b t) 1 464 512 codem_42 :=
  And.intro (okm_464 Hy) (okzm 976)
theorem anm_43 (Hy : Hym tys cA base adS Ex) : xall (fun b t => xOK l Dg clm tys cA flm ftm base adS GWm xym xcm xnm xrm Ex codem bmm bpm b t) 2 208 256 codem_43 :=
  And.intro (anm_41 Hy) (anm_42 Hy)
theorem anm_44 (Hy : Hym tys cA base adS Ex) : xall (fun b t => xOK l Dg clm tys cA flm ftm base adS GWm xym xcm xnm xrm Ex codem bmm bpm b t) 3 80 128 codem_44 :=
  And.intro (anm_40 Hy) (anm_43 Hy)
theorem anm_45 (Hy : Hym tys cA base adS Ex) : xall (fun b t => xOK l Dg clm tys cA flm ftm base adS GWm xym xcm xnm xrm Ex codem bmm bpm b t) 4 16 64 codem_45 :=
  And.intro (anm_37 Hy) (anm_44 Hy)
theorem anm_46 (Hy : Hym tys cA base adS Ex) : xall (fun b t => xOK l Dg clm tys cA flm ftm base adS GWm xym xcm xnm xrm Ex codem bmm bpm b t) 1 48 512 codem_46 :=
  And.intro (okm_48 Hy) (okm_560 Hy)
theorem anm_47 (Hy : Hym tys cA base adS Ex) : xall (fun b t => xOK l Dg clm tys cA flm ftm base adS GWm xym xcm xnm xrm Ex codem bmm bpm b t) 1 304 512 codem_47 :=
  And.intro (okm_304 Hy) (okm_816 Hy)
theorem anm_48 (Hy : Hym tys cA base adS Ex) : xall (fun b t => xOK l Dg clm tys cA flm ftm base adS GWm xym xcm xnm xrm Ex codem bmm bpm b t) 2 48 256 codem_48 :=
  And.intro (anm_46 Hy) (anm_47 Hy)
theorem anm_49 (Hy : Hym tys cA base adS Ex) : xall (fun b t => xOK l Dg clm tys cA flm ftm base adS GWm xym xcm xnm xrm Ex codem bmm bpm b t) 1 176 512 codem_49 :=
  And.intro (okm_176 Hy) (okm_688 Hy)
theorem anm_50 (Hy : Hym tys cA base adS Ex) : xall (fun b t => xOK l Dg clm tys cA flm ftm base adS GWm xym xcm xnm xrm Ex codem bmm bpm b t) 1 432 512 codem_50 :=
  And.intro (okm_432 Hy) (okm_944 Hy)
theorem anm_51 (Hy : Hym tys cA base adS Ex) : xall (fun b t => xOK l Dg clm tys cA flm ftm base adS GWm xym xcm xnm xrm Ex codem bmm bpm b t) 2 176 256 codem_51 :=
  And.intro (anm_49 Hy) (anm_50 Hy)
theorem anm_52 (Hy : Hym tys cA base adS Ex) : xall (fun b t => xOK l Dg clm tys cA flm ftm base adS GWm xym xcm xnm xrm Ex codem bmm bpm b t) 3 48 128 codem_52 :=
  And.intro (anm_48 Hy) (anm_51 Hy)
theorem anm_53 (Hy : Hym tys cA base adS Ex) : xall (fun b t => xOK l Dg clm tys cA flm ftm base adS GWm xym xcm xnm xrm Ex codem bmm bpm b t) 1 112 512 codem_53 :=
  And.intro (okm_112 Hy) (okm_624 Hy)
theorem anm_54 (Hy : Hym tys cA base adS Ex) : xall (fun b t => xOK l Dg clm tys cA flm ftm base adS GWm xym xcm xnm xrm Ex codem bmm bpm b t) 1 368 512 codem_54 :=
  And.intro (okm_368 Hy) (okm_880 Hy)
theorem anm_55 (Hy : Hym tys cA base adS Ex) : xall (fun b t => xOK l Dg clm tys cA flm ftm base adS GWm xym xcm xnm xrm Ex codem bmm bpm b t) 2 112 256 codem_55 :=
  And.intro (anm_53 Hy) (anm_54 Hy)
theorem anm_56 (Hy : Hym tys cA base adS Ex) : xall (fun b t => xOK l Dg clm tys cA flm ftm base adS GWm xym xcm xnm xrm Ex codem bmm bpm b t) 1 240 512 codem_56 :=
  And.intro (okm_240 Hy) (okm_752 Hy)
theorem anm_57 (Hy : Hym tys cA base adS Ex) : xall (fun b t => xOK l Dg clm tys cA flm ftm base adS GWm xym xcm xnm xrm Ex codem bmm bpm b t) 1 496 512 codem_57 :=
  And.intro (okm_496 Hy) (okzm 1008)
theorem anm_58 (Hy : Hym tys cA base adS Ex) : xall (fun b t => xOK l Dg clm tys cA flm ftm base adS GWm xym xcm xnm xrm Ex codem bmm bpm b t) 2 240 256 codem_58 :=
  And.intro (anm_56 Hy) (anm_57 Hy)
theorem anm_59 (Hy : Hym tys cA base adS Ex) : xall (fun b t => xOK l Dg clm tys cA flm ftm base adS GWm xym xcm xnm xrm Ex codem bmm bpm b t) 3 112 128 codem_59 :=
  And.intro (anm_55 Hy) (anm_58 Hy)
theorem anm_60 (Hy : Hym tys cA base adS Ex) : xall (fun b t => xOK l Dg clm tys cA flm ftm base adS GWm xym xcm xnm xrm Ex codem bmm bpm b t) 4 48 64 codem_60 :=
  And.intro (anm_52 Hy) (anm_59 Hy)
theorem anm_61 (Hy : Hym tys cA base adS Ex) : xall (fun b t => xOK l Dg clm tys cA flm ftm base adS GWm xym xcm xnm xrm Ex codem bmm bpm b t) 5 16 32 codem_61 :=
  And.intro (anm_45 Hy) (anm_60 Hy)
theorem anm_62 (Hy : Hym tys cA base adS Ex) : xall (fun b t => xOK l Dg clm tys cA flm ftm base adS GWm xym xcm xnm xrm Ex codem bmm bpm b t) 6 0 16 codem_62 :=
  And.intro (anm_30 Hy) (anm_61 Hy)
theorem anm_63 (Hy : Hym tys cA base adS Ex) : xall (fun b t => xOK l Dg clm tys cA flm ftm base adS GWm xym xcm xnm xrm Ex codem bmm bpm b t) 1 8 512 codem_63 :=
  And.intro (okm_8 Hy) (okm_520 Hy)
theorem anm_64 (Hy : Hym tys cA base adS Ex) : xall (fun b t => xOK l Dg clm tys cA flm ftm base adS GWm xym xcm xnm xrm Ex codem bmm bpm b t) 1 264 512 codem_64 :=
  And.intro (okm_264 Hy) (okm_776 Hy)
theorem anm_65 (Hy : Hym tys cA base adS Ex) : xall (fun b t => xOK l Dg clm tys cA flm ftm base adS GWm xym xcm xnm xrm Ex codem bmm bpm b t) 2 8 256 codem_65 :=
  And.intro (anm_63 Hy) (anm_64 Hy)
theorem anm_66 (Hy : Hym tys cA base adS Ex) : xall (fun b t => xOK l Dg clm tys cA flm ftm base adS GWm xym xcm xnm xrm Ex codem bmm bpm b t) 1 136 512 codem_66 :=
  And.intro (okm_136 Hy) (okm_648 Hy)
theorem anm_67 (Hy : Hym tys cA base adS Ex) : xall (fun b t => xOK l Dg clm tys cA flm ftm base adS GWm xym xcm xnm xrm Ex codem bmm bpm b t) 1 392 512 codem_67 :=
  And.intro (okm_392 Hy) (okm_904 Hy)
theorem anm_68 (Hy : Hym tys cA base adS Ex) : xall (fun b t => xOK l Dg clm tys cA flm ftm base adS GWm xym xcm xnm xrm Ex codem bmm bpm b t) 2 136 256 codem_68 :=
  And.intro (anm_66 Hy) (anm_67 Hy)
theorem anm_69 (Hy : Hym tys cA base adS Ex) : xall (fun b t => xOK l Dg clm tys cA flm ftm base adS GWm xym xcm xnm xrm Ex codem bmm bpm b t) 3 8 128 codem_69 :=
  And.intro (anm_65 Hy) (anm_68 Hy)
theorem anm_70 (Hy : Hym tys cA base adS Ex) : xall (fun b t => xOK l Dg clm tys cA flm ftm base adS GWm xym xcm xnm xrm Ex codem bmm bpm b t) 1 72 512 codem_70 :=
  And.intro (okm_72 Hy) (okm_584 Hy)
theorem anm_71 (Hy : Hym tys cA base adS Ex) : xall (fun b t => xOK l Dg clm tys cA flm ftm base adS GWm xym xcm xnm xrm Ex codem bmm bpm b t) 1 328 512 codem_71 :=
  And.intro (okm_328 Hy) (okm_840 Hy)
theorem anm_72 (Hy : Hym tys cA base adS Ex) : xall (fun b t => xOK l Dg clm tys cA flm ftm base adS GWm xym xcm xnm xrm Ex codem bmm bpm b t) 2 72 256 codem_72 :=
  And.intro (anm_70 Hy) (anm_71 Hy)
theorem anm_73 (Hy : Hym tys cA base adS Ex) : xall (fun b t => xOK l Dg clm tys cA flm ftm base adS GWm xym xcm xnm xrm Ex codem bmm bpm b t) 1 200 512 codem_73 :=
  And.intro (okm_200 Hy) (okm_712 Hy)
theorem anm_74 (Hy : Hym tys cA base adS Ex) : xall (fun b t => xOK l Dg clm tys cA flm ftm base adS GWm xym xcm xnm xrm Ex codem bmm bpm b t) 1 456 512 codem_74 :=
  And.intro (okm_456 Hy) (okzm 968)
theorem anm_75 (Hy : Hym tys cA base adS Ex) : xall (fun b t => xOK l Dg clm tys cA flm ftm base adS GWm xym xcm xnm xrm Ex codem bmm bpm b t) 2 200 256 codem_75 :=
  And.intro (anm_73 Hy) (anm_74 Hy)
theorem anm_76 (Hy : Hym tys cA base adS Ex) : xall (fun b t => xOK l Dg clm tys cA flm ftm base adS GWm xym xcm xnm xrm Ex codem bmm bpm b t) 3 72 128 codem_76 :=
  And.intro (anm_72 Hy) (anm_75 Hy)
theorem anm_77 (Hy : Hym tys cA base adS Ex) : xall (fun b t => xOK l Dg clm tys cA flm ftm base adS GWm xym xcm xnm xrm Ex codem bmm bpm b t) 4 8 64 codem_77 :=
  And.intro (anm_69 Hy) (anm_76 Hy)
theorem anm_78 (Hy : Hym tys cA base adS Ex) : xall (fun b t => xOK l Dg clm tys cA flm ftm base adS GWm xym xcm xnm xrm Ex codem bmm bpm b t) 1 40 512 codem_78 :=
  And.intro (okm_40 Hy) (okm_552 Hy)
theorem anm_79 (Hy : Hym tys cA base adS Ex) : xall (fun b t => xOK l Dg clm tys cA flm ftm base adS GWm xym xcm xnm xrm Ex codem bmm bpm b t) 1 296 512 codem_79 :=
  And.intro (okm_296 Hy) (okm_808 Hy)
theorem anm_80 (Hy : Hym tys cA base adS Ex) : xall (fun b t => xOK l Dg clm tys cA flm ftm base adS GWm xym xcm xnm xrm Ex codem bmm bpm b t) 2 40 256 codem_80 :=
  And.intro (anm_78 Hy) (anm_79 Hy)
theorem anm_81 (Hy : Hym tys cA base adS Ex) : xall (fun b t => xOK l Dg clm tys cA flm ftm base adS GWm xym xcm xnm xrm Ex codem bmm bpm b t) 1 168 512 codem_81 :=
  And.intro (okm_168 Hy) (okm_680 Hy)
theorem anm_82 (Hy : Hym tys cA base adS Ex) : xall (fun b t => xOK l Dg clm tys cA flm ftm base adS GWm xym xcm xnm xrm Ex codem bmm bpm b t) 1 424 512 codem_82 :=
  And.intro (okm_424 Hy) (okm_936 Hy)
theorem anm_83 (Hy : Hym tys cA base adS Ex) : xall (fun b t => xOK l Dg clm tys cA flm ftm base adS GWm xym xcm xnm xrm Ex codem bmm bpm b t) 2 168 256 codem_83 :=
  And.intro (anm_81 Hy) (anm_82 Hy)
theorem anm_84 (Hy : Hym tys cA base adS Ex) : xall (fun b t => xOK l Dg clm tys cA flm ftm base adS GWm xym xcm xnm xrm Ex codem bmm bpm b t) 3 40 128 codem_84 :=
  And.intro (anm_80 Hy) (anm_83 Hy)
theorem anm_85 (Hy : Hym tys cA base adS Ex) : xall (fun b t => xOK l Dg clm tys cA flm ftm base adS GWm xym xcm xnm xrm Ex codem bmm bpm b t) 1 104 512 codem_85 :=
  And.intro (okm_104 Hy) (okm_616 Hy)
theorem anm_86 (Hy : Hym tys cA base adS Ex) : xall (fun b t => xOK l Dg clm tys cA flm ftm base adS GWm xym xcm xnm xrm Ex codem bmm bpm b t) 1 360 512 codem_86 :=
  And.intro (okm_360 Hy) (okm_872 Hy)
theorem anm_87 (Hy : Hym tys cA base adS Ex) : xall (fun b t => xOK l Dg clm tys cA flm ftm base adS GWm xym xcm xnm xrm Ex codem bmm bpm b t) 2 104 256 codem_87 :=
  And.intro (anm_85 Hy) (anm_86 Hy)
theorem anm_88 (Hy : Hym tys cA base adS Ex) : xall (fun b t => xOK l Dg clm tys cA flm ftm base adS GWm xym xcm xnm xrm Ex codem bmm bpm b t) 1 232 512 codem_88 :=
  And.intro (okm_232 Hy) (okm_744 Hy)
theorem anm_89 (Hy : Hym tys cA base adS Ex) : xall (fun b t => xOK l Dg clm tys cA flm ftm base adS GWm xym xcm xnm xrm Ex codem bmm bpm b t) 1 488 512 codem_89 :=
  And.intro (okm_488 Hy) (okzm 1000)
theorem anm_90 (Hy : Hym tys cA base adS Ex) : xall (fun b t => xOK l Dg clm tys cA flm ftm base adS GWm xym xcm xnm xrm Ex codem bmm bpm b t) 2 232 256 codem_90 :=
  And.intro (anm_88 Hy) (anm_89 Hy)
theorem anm_91 (Hy : Hym tys cA base adS Ex) : xall (fun b t => xOK l Dg clm tys cA flm ftm base adS GWm xym xcm xnm xrm Ex codem bmm bpm b t) 3 104 128 codem_91 :=
  And.intro (anm_87 Hy) (anm_90 Hy)
theorem anm_92 (Hy : Hym tys cA base adS Ex) : xall (fun b t => xOK l Dg clm tys cA flm ftm base adS GWm xym xcm xnm xrm Ex codem bmm bpm b t) 4 40 64 codem_92 :=
  And.intro (anm_84 Hy) (anm_91 Hy)
theorem anm_93 (Hy : Hym tys cA base adS Ex) : xall (fun b t => xOK l Dg clm tys cA flm ftm base adS GWm xym xcm xnm xrm Ex codem bmm bpm b t) 5 8 32 codem_93 :=
  And.intro (anm_77 Hy) (anm_92 Hy)
theorem anm_94 (Hy : Hym tys cA base adS Ex) : xall (fun b t => xOK l Dg clm tys cA flm ftm base adS GWm xym xcm xnm xrm Ex codem bmm bpm b t) 1 24 512 codem_94 :=
  And.intro (okm_24 Hy) (okm_536 Hy)
theorem anm_95 (Hy : Hym tys cA base adS Ex) : xall (fun b t => xOK l Dg clm tys cA flm ftm base adS GWm xym xcm xnm xrm Ex codem bmm bpm b t) 1 280 512 codem_95 :=
  And.intro (okm_280 Hy) (okm_792 Hy)
theorem anm_96 (Hy : Hym tys cA base adS Ex) : xall (fun b t => xOK l Dg clm tys cA flm ftm base adS GWm xym xcm xnm xrm Ex codem bmm bpm b t) 2 24 256 codem_96 :=
  And.intro (anm_94 Hy) (anm_95 Hy)
theorem anm_97 (Hy : Hym tys cA base adS Ex) : xall (fun b t => xOK l Dg clm tys cA flm ftm base adS GWm xym xcm xnm xrm Ex codem bmm bpm b t) 1 152 512 codem_97 :=
  And.intro (okm_152 Hy) (okm_664 Hy)
theorem anm_98 (Hy : Hym tys cA base adS Ex) : xall (fun b t => xOK l Dg clm tys cA flm ftm base adS GWm xym xcm xnm xrm Ex codem bmm bpm b t) 1 408 512 codem_98 :=
  And.intro (okm_408 Hy) (okm_920 Hy)
theorem anm_99 (Hy : Hym tys cA base adS Ex) : xall (fun b t => xOK l Dg clm tys cA flm ftm base adS GWm xym xcm xnm xrm Ex codem bmm bpm b t) 2 152 256 codem_99 :=
  And.intro (anm_97 Hy) (anm_98 Hy)
theorem anm_100 (Hy : Hym tys cA base adS Ex) : xall (fun b t => xOK l Dg clm tys cA flm ftm base adS GWm xym xcm xnm xrm Ex codem bmm bpm b t) 3 24 128 codem_100 :=
  And.intro (anm_96 Hy) (anm_99 Hy)
theorem anm_101 (Hy : Hym tys cA base adS Ex) : xall (fun b t => xOK l Dg clm tys cA flm ftm base adS GWm xym xcm xnm xrm Ex codem bmm bpm b t) 1 88 512 codem_101 :=
  And.intro (okm_88 Hy) (okm_600 Hy)
theorem anm_102 (Hy : Hym tys cA base adS Ex) : xall (fun b t => xOK l Dg clm tys cA flm ftm base adS GWm xym xcm xnm xrm Ex codem bmm bpm b t) 1 344 512 codem_102 :=
  And.intro (okm_344 Hy) (okm_856 Hy)
theorem anm_103 (Hy : Hym tys cA base adS Ex) : xall (fun b t => xOK l Dg clm tys cA flm ftm base adS GWm xym xcm xnm xrm Ex codem bmm bpm b t) 2 88 256 codem_103 :=
  And.intro (anm_101 Hy) (anm_102 Hy)
theorem anm_104 (Hy : Hym tys cA base adS Ex) : xall (fun b t => xOK l Dg clm tys cA flm ftm base adS GWm xym xcm xnm xrm Ex codem bmm bpm b t) 1 216 512 codem_104 :=
  And.intro (okm_216 Hy) (okm_728 Hy)
theorem anm_105 (Hy : Hym tys cA base adS Ex) : xall (fun b t => xOK l Dg clm tys cA flm ftm base adS GWm xym xcm xnm xrm Ex codem bmm bpm b t) 1 472 512 codem_105 :=
  And.intro (okm_472 Hy) (okzm 984)
theorem anm_106 (Hy : Hym tys cA base adS Ex) : xall (fun b t => xOK l Dg clm tys cA flm ftm base adS GWm xym xcm xnm xrm Ex codem bmm bpm b t) 2 216 256 codem_106 :=
  And.intro (anm_104 Hy) (anm_105 Hy)
theorem anm_107 (Hy : Hym tys cA base adS Ex) : xall (fun b t => xOK l Dg clm tys cA flm ftm base adS GWm xym xcm xnm xrm Ex codem bmm bpm b t) 3 88 128 codem_107 :=
  And.intro (anm_103 Hy) (anm_106 Hy)
theorem anm_108 (Hy : Hym tys cA base adS Ex) : xall (fun b t => xOK l Dg clm tys cA flm ftm base adS GWm xym xcm xnm xrm Ex codem bmm bpm b t) 4 24 64 codem_108 :=
  And.intro (anm_100 Hy) (anm_107 Hy)
theorem anm_109 (Hy : Hym tys cA base adS Ex) : xall (fun b t => xOK l Dg clm tys cA flm ftm base adS GWm xym xcm xnm xrm Ex codem bmm bpm b t) 1 56 512 codem_109 :=
  And.intro (okm_56 Hy) (okm_568 Hy)
theorem anm_110 (Hy : Hym tys cA base adS Ex) : xall (fun b t => xOK l Dg clm tys cA flm ftm base adS GWm xym xcm xnm xrm Ex codem bmm bpm b t) 1 312 512 codem_110 :=
  And.intro (okm_312 Hy) (okm_824 Hy)
theorem anm_111 (Hy : Hym tys cA base adS Ex) : xall (fun b t => xOK l Dg clm tys cA flm ftm base adS GWm xym xcm xnm xrm Ex codem bmm bpm b t) 2 56 256 codem_111 :=
  And.intro (anm_109 Hy) (anm_110 Hy)
theorem anm_112 (Hy : Hym tys cA base adS Ex) : xall (fun b t => xOK l Dg clm tys cA flm ftm base adS GWm xym xcm xnm xrm Ex codem bmm bpm b t) 1 184 512 codem_112 :=
  And.intro (okm_184 Hy) (okm_696 Hy)
theorem anm_113 (Hy : Hym tys cA base adS Ex) : xall (fun b t => xOK l Dg clm tys cA flm ftm base adS GWm xym xcm xnm xrm Ex codem bmm bpm b t) 1 440 512 codem_113 :=
  And.intro (okm_440 Hy) (okm_952 Hy)
theorem anm_114 (Hy : Hym tys cA base adS Ex) : xall (fun b t => xOK l Dg clm tys cA flm ftm base adS GWm xym xcm xnm xrm Ex codem bmm bpm b t) 2 184 256 codem_114 :=
  And.intro (anm_112 Hy) (anm_113 Hy)
theorem anm_115 (Hy : Hym tys cA base adS Ex) : xall (fun b t => xOK l Dg clm tys cA flm ftm base adS GWm xym xcm xnm xrm Ex codem bmm bpm b t) 3 56 128 codem_115 :=
  And.intro (anm_111 Hy) (anm_114 Hy)
theorem anm_116 (Hy : Hym tys cA base adS Ex) : xall (fun b t => xOK l Dg clm tys cA flm ftm base adS GWm xym xcm xnm xrm Ex codem bmm bpm b t) 1 120 512 codem_116 :=
  And.intro (okm_120 Hy) (okm_632 Hy)
theorem anm_117 (Hy : Hym tys cA base adS Ex) : xall (fun b t => xOK l Dg clm tys cA flm ftm base adS GWm xym xcm xnm xrm Ex codem bmm bpm b t) 1 376 512 codem_117 :=
  And.intro (okm_376 Hy) (okm_888 Hy)
theorem anm_118 (Hy : Hym tys cA base adS Ex) : xall (fun b t => xOK l Dg clm tys cA flm ftm base adS GWm xym xcm xnm xrm Ex codem bmm bpm b t) 2 120 256 codem_118 :=
  And.intro (anm_116 Hy) (anm_117 Hy)
theorem anm_119 (Hy : Hym tys cA base adS Ex) : xall (fun b t => xOK l Dg clm tys cA flm ftm base adS GWm xym xcm xnm xrm Ex codem bmm bpm b t) 1 248 512 codem_119 :=
  And.intro (okm_248 Hy) (okm_760 Hy)
theorem anm_120 (Hy : Hym tys cA base adS Ex) : xall (fun b t => xOK l Dg clm tys cA flm ftm base adS GWm xym xcm xnm xrm Ex codem bmm bpm b t) 1 504 512 codem_120 :=
  And.intro (okm_504 Hy) (okzm 1016)
theorem anm_121 (Hy : Hym tys cA base adS Ex) : xall (fun b t => xOK l Dg clm tys cA flm ftm base adS GWm xym xcm xnm xrm Ex codem bmm bpm b t) 2 248 256 codem_121 :=
  And.intro (anm_119 Hy) (anm_120 Hy)
theorem anm_122 (Hy : Hym tys cA base adS Ex) : xall (fun b t => xOK l Dg clm tys cA flm ftm base adS GWm xym xcm xnm xrm Ex codem bmm bpm b t) 3 120 128 codem_122 :=
  And.intro (anm_118 Hy) (anm_121 Hy)
theorem anm_123 (Hy : Hym tys cA base adS Ex) : xall (fun b t => xOK l Dg clm tys cA flm ftm base adS GWm xym xcm xnm xrm Ex codem bmm bpm b t) 4 56 64 codem_123 :=
  And.intro (anm_115 Hy) (anm_122 Hy)
theorem anm_124 (Hy : Hym tys cA base adS Ex) : xall (fun b t => xOK l Dg clm tys cA flm ftm base adS GWm xym xcm xnm xrm Ex codem bmm bpm b t) 5 24 32 codem_124 :=
  And.intro (anm_108 Hy) (anm_123 Hy)
theorem anm_125 (Hy : Hym tys cA base adS Ex) : xall (fun b t => xOK l Dg clm tys cA flm ftm base adS GWm xym xcm xnm xrm Ex codem bmm bpm b t) 6 8 16 codem_125 :=
  And.intro (anm_93 Hy) (anm_124 Hy)
theorem anm_126 (Hy : Hym tys cA base adS Ex) : xall (fun b t => xOK l Dg clm tys cA flm ftm base adS GWm xym xcm xnm xrm Ex codem bmm bpm b t) 7 0 8 codem_126 :=
  And.intro (anm_62 Hy) (anm_125 Hy)
theorem anm_127 (Hy : Hym tys cA base adS Ex) : xall (fun b t => xOK l Dg clm tys cA flm ftm base adS GWm xym xcm xnm xrm Ex codem bmm bpm b t) 1 4 512 codem_127 :=
  And.intro (okm_4 Hy) (okm_516 Hy)
theorem anm_128 (Hy : Hym tys cA base adS Ex) : xall (fun b t => xOK l Dg clm tys cA flm ftm base adS GWm xym xcm xnm xrm Ex codem bmm bpm b t) 1 260 512 codem_128 :=
  And.intro (okm_260 Hy) (okm_772 Hy)
theorem anm_129 (Hy : Hym tys cA base adS Ex) : xall (fun b t => xOK l Dg clm tys cA flm ftm base adS GWm xym xcm xnm xrm Ex codem bmm bpm b t) 2 4 256 codem_129 :=
  And.intro (anm_127 Hy) (anm_128 Hy)
theorem anm_130 (Hy : Hym tys cA base adS Ex) : xall (fun b t => xOK l Dg clm tys cA flm ftm base adS GWm xym xcm xnm xrm Ex codem bmm bpm b t) 1 132 512 codem_130 :=
  And.intro (okm_132 Hy) (okm_644 Hy)
theorem anm_131 (Hy : Hym tys cA base adS Ex) : xall (fun b t => xOK l Dg clm tys cA flm ftm base adS GWm xym xcm xnm xrm Ex codem bmm bpm b t) 1 388 512 codem_131 :=
  And.intro (okm_388 Hy) (okm_900 Hy)
theorem anm_132 (Hy : Hym tys cA base adS Ex) : xall (fun b t => xOK l Dg clm tys cA flm ftm base adS GWm xym xcm xnm xrm Ex codem bmm bpm b t) 2 132 256 codem_132 :=
  And.intro (anm_130 Hy) (anm_131 Hy)
theorem anm_133 (Hy : Hym tys cA base adS Ex) : xall (fun b t => xOK l Dg clm tys cA flm ftm base adS GWm xym xcm xnm xrm Ex codem bmm bpm b t) 3 4 128 codem_133 :=
  And.intro (anm_129 Hy) (anm_132 Hy)
theorem anm_134 (Hy : Hym tys cA base adS Ex) : xall (fun b t => xOK l Dg clm tys cA flm ftm base adS GWm xym xcm xnm xrm Ex codem bmm bpm b t) 1 68 512 codem_134 :=
  And.intro (okm_68 Hy) (okm_580 Hy)
theorem anm_135 (Hy : Hym tys cA base adS Ex) : xall (fun b t => xOK l Dg clm tys cA flm ftm base adS GWm xym xcm xnm xrm Ex codem bmm bpm b t) 1 324 512 codem_135 :=
  And.intro (okm_324 Hy) (okm_836 Hy)
theorem anm_136 (Hy : Hym tys cA base adS Ex) : xall (fun b t => xOK l Dg clm tys cA flm ftm base adS GWm xym xcm xnm xrm Ex codem bmm bpm b t) 2 68 256 codem_136 :=
  And.intro (anm_134 Hy) (anm_135 Hy)
theorem anm_137 (Hy : Hym tys cA base adS Ex) : xall (fun b t => xOK l Dg clm tys cA flm ftm base adS GWm xym xcm xnm xrm Ex codem bmm bpm b t) 1 196 512 codem_137 :=
  And.intro (okm_196 Hy) (okm_708 Hy)
theorem anm_138 (Hy : Hym tys cA base adS Ex) : xall (fun b t => xOK l Dg clm tys cA flm ftm base adS GWm xym xcm xnm xrm Ex codem bmm bpm b t) 1 452 512 codem_138 :=
  And.intro (okm_452 Hy) (okzm 964)
theorem anm_139 (Hy : Hym tys cA base adS Ex) : xall (fun b t => xOK l Dg clm tys cA flm ftm base adS GWm xym xcm xnm xrm Ex codem bmm bpm b t) 2 196 256 codem_139 :=
  And.intro (anm_137 Hy) (anm_138 Hy)
theorem anm_140 (Hy : Hym tys cA base adS Ex) : xall (fun b t => xOK l Dg clm tys cA flm ftm base adS GWm xym xcm xnm xrm Ex codem bmm bpm b t) 3 68 128 codem_140 :=
  And.intro (anm_136 Hy) (anm_139 Hy)
theorem anm_141 (Hy : Hym tys cA base adS Ex) : xall (fun b t => xOK l Dg clm tys cA flm ftm base adS GWm xym xcm xnm xrm Ex codem bmm bpm b t) 4 4 64 codem_141 :=
  And.intro (anm_133 Hy) (anm_140 Hy)
theorem anm_142 (Hy : Hym tys cA base adS Ex) : xall (fun b t => xOK l Dg clm tys cA flm ftm base adS GWm xym xcm xnm xrm Ex codem bmm bpm b t) 1 36 512 codem_142 :=
  And.intro (okm_36 Hy) (okm_548 Hy)
theorem anm_143 (Hy : Hym tys cA base adS Ex) : xall (fun b t => xOK l Dg clm tys cA flm ftm base adS GWm xym xcm xnm xrm Ex codem bmm bpm b t) 1 292 512 codem_143 :=
  And.intro (okm_292 Hy) (okm_804 Hy)
theorem anm_144 (Hy : Hym tys cA base adS Ex) : xall (fun b t => xOK l Dg clm tys cA flm ftm base adS GWm xym xcm xnm xrm Ex codem bmm bpm b t) 2 36 256 codem_144 :=
  And.intro (anm_142 Hy) (anm_143 Hy)
theorem anm_145 (Hy : Hym tys cA base adS Ex) : xall (fun b t => xOK l Dg clm tys cA flm ftm base adS GWm xym xcm xnm xrm Ex codem bmm bpm b t) 1 164 512 codem_145 :=
  And.intro (okm_164 Hy) (okm_676 Hy)
theorem anm_146 (Hy : Hym tys cA base adS Ex) : xall (fun b t => xOK l Dg clm tys cA flm ftm base adS GWm xym xcm xnm xrm Ex codem bmm bpm b t) 1 420 512 codem_146 :=
  And.intro (okm_420 Hy) (okm_932 Hy)
theorem anm_147 (Hy : Hym tys cA base adS Ex) : xall (fun b t => xOK l Dg clm tys cA flm ftm base adS GWm xym xcm xnm xrm Ex codem bmm bpm b t) 2 164 256 codem_147 :=
  And.intro (anm_145 Hy) (anm_146 Hy)
theorem anm_148 (Hy : Hym tys cA base adS Ex) : xall (fun b t => xOK l Dg clm tys cA flm ftm base adS GWm xym xcm xnm xrm Ex codem bmm bpm b t) 3 36 128 codem_148 :=
  And.intro (anm_144 Hy) (anm_147 Hy)
theorem anm_149 (Hy : Hym tys cA base adS Ex) : xall (fun b t => xOK l Dg clm tys cA flm ftm base adS GWm xym xcm xnm xrm Ex codem bmm bpm b t) 1 100 512 codem_149 :=
  And.intro (okm_100 Hy) (okm_612 Hy)
theorem anm_150 (Hy : Hym tys cA base adS Ex) : xall (fun b t => xOK l Dg clm tys cA flm ftm base adS GWm xym xcm xnm xrm Ex codem bmm bpm b t) 1 356 512 codem_150 :=
  And.intro (okm_356 Hy) (okm_868 Hy)
theorem anm_151 (Hy : Hym tys cA base adS Ex) : xall (fun b t => xOK l Dg clm tys cA flm ftm base adS GWm xym xcm xnm xrm Ex codem bmm bpm b t) 2 100 256 codem_151 :=
  And.intro (anm_149 Hy) (anm_150 Hy)
theorem anm_152 (Hy : Hym tys cA base adS Ex) : xall (fun b t => xOK l Dg clm tys cA flm ftm base adS GWm xym xcm xnm xrm Ex codem bmm bpm b t) 1 228 512 codem_152 :=
  And.intro (okm_228 Hy) (okm_740 Hy)
theorem anm_153 (Hy : Hym tys cA base adS Ex) : xall (fun b t => xOK l Dg clm tys cA flm ftm base adS GWm xym xcm xnm xrm Ex codem bmm bpm b t) 1 484 512 codem_153 :=
  And.intro (okm_484 Hy) (okzm 996)
theorem anm_154 (Hy : Hym tys cA base adS Ex) : xall (fun b t => xOK l Dg clm tys cA flm ftm base adS GWm xym xcm xnm xrm Ex codem bmm bpm b t) 2 228 256 codem_154 :=
  And.intro (anm_152 Hy) (anm_153 Hy)
theorem anm_155 (Hy : Hym tys cA base adS Ex) : xall (fun b t => xOK l Dg clm tys cA flm ftm base adS GWm xym xcm xnm xrm Ex codem bmm bpm b t) 3 100 128 codem_155 :=
  And.intro (anm_151 Hy) (anm_154 Hy)
theorem anm_156 (Hy : Hym tys cA base adS Ex) : xall (fun b t => xOK l Dg clm tys cA flm ftm base adS GWm xym xcm xnm xrm Ex codem bmm bpm b t) 4 36 64 codem_156 :=
  And.intro (anm_148 Hy) (anm_155 Hy)
theorem anm_157 (Hy : Hym tys cA base adS Ex) : xall (fun b t => xOK l Dg clm tys cA flm ftm base adS GWm xym xcm xnm xrm Ex codem bmm bpm b t) 5 4 32 codem_157 :=
  And.intro (anm_141 Hy) (anm_156 Hy)
theorem anm_158 (Hy : Hym tys cA base adS Ex) : xall (fun b t => xOK l Dg clm tys cA flm ftm base adS GWm xym xcm xnm xrm Ex codem bmm bpm b t) 1 20 512 codem_158 :=
  And.intro (okm_20 Hy) (okm_532 Hy)
theorem anm_159 (Hy : Hym tys cA base adS Ex) : xall (fun b t => xOK l Dg clm tys cA flm ftm base adS GWm xym xcm xnm xrm Ex codem bmm bpm b t) 1 276 512 codem_159 :=
  And.intro (okm_276 Hy) (okm_788 Hy)
theorem anm_160 (Hy : Hym tys cA base adS Ex) : xall (fun b t => xOK l Dg clm tys cA flm ftm base adS GWm xym xcm xnm xrm Ex codem bmm bpm b t) 2 20 256 codem_160 :=
  And.intro (anm_158 Hy) (anm_159 Hy)
theorem anm_161 (Hy : Hym tys cA base adS Ex) : xall (fun b t => xOK l Dg clm tys cA flm ftm base adS GWm xym xcm xnm xrm Ex codem bmm bpm b t) 1 148 512 codem_161 :=
  And.intro (okm_148 Hy) (okm_660 Hy)
theorem anm_162 (Hy : Hym tys cA base adS Ex) : xall (fun b t => xOK l Dg clm tys cA flm ftm base adS GWm xym xcm xnm xrm Ex codem bmm bpm b t) 1 404 512 codem_162 :=
  And.intro (okm_404 Hy) (okm_916 Hy)
theorem anm_163 (Hy : Hym tys cA base adS Ex) : xall (fun b t => xOK l Dg clm tys cA flm ftm base adS GWm xym xcm xnm xrm Ex codem bmm bpm b t) 2 148 256 codem_163 :=
  And.intro (anm_161 Hy) (anm_162 Hy)
theorem anm_164 (Hy : Hym tys cA base adS Ex) : xall (fun b t => xOK l Dg clm tys cA flm ftm base adS GWm xym xcm xnm xrm Ex codem bmm bpm b t) 3 20 128 codem_164 :=
  And.intro (anm_160 Hy) (anm_163 Hy)
theorem anm_165 (Hy : Hym tys cA base adS Ex) : xall (fun b t => xOK l Dg clm tys cA flm ftm base adS GWm xym xcm xnm xrm Ex codem bmm bpm b t) 1 84 512 codem_165 :=
  And.intro (okm_84 Hy) (okm_596 Hy)
theorem anm_166 (Hy : Hym tys cA base adS Ex) : xall (fun b t => xOK l Dg clm tys cA flm ftm base adS GWm xym xcm xnm xrm Ex codem bmm bpm b t) 1 340 512 codem_166 :=
  And.intro (okm_340 Hy) (okm_852 Hy)
theorem anm_167 (Hy : Hym tys cA base adS Ex) : xall (fun b t => xOK l Dg clm tys cA flm ftm base adS GWm xym xcm xnm xrm Ex codem bmm bpm b t) 2 84 256 codem_167 :=
  And.intro (anm_165 Hy) (anm_166 Hy)
theorem anm_168 (Hy : Hym tys cA base adS Ex) : xall (fun b t => xOK l Dg clm tys cA flm ftm base adS GWm xym xcm xnm xrm Ex codem bmm bpm b t) 1 212 512 codem_168 :=
  And.intro (okm_212 Hy) (okm_724 Hy)
theorem anm_169 (Hy : Hym tys cA base adS Ex) : xall (fun b t => xOK l Dg clm tys cA flm ftm base adS GWm xym xcm xnm xrm Ex codem bmm bpm b t) 1 468 512 codem_169 :=
  And.intro (okm_468 Hy) (okzm 980)
theorem anm_170 (Hy : Hym tys cA base adS Ex) : xall (fun b t => xOK l Dg clm tys cA flm ftm base adS GWm xym xcm xnm xrm Ex codem bmm bpm b t) 2 212 256 codem_170 :=
  And.intro (anm_168 Hy) (anm_169 Hy)
theorem anm_171 (Hy : Hym tys cA base adS Ex) : xall (fun b t => xOK l Dg clm tys cA flm ftm base adS GWm xym xcm xnm xrm Ex codem bmm bpm b t) 3 84 128 codem_171 :=
  And.intro (anm_167 Hy) (anm_170 Hy)
theorem anm_172 (Hy : Hym tys cA base adS Ex) : xall (fun b t => xOK l Dg clm tys cA flm ftm base adS GWm xym xcm xnm xrm Ex codem bmm bpm b t) 4 20 64 codem_172 :=
  And.intro (anm_164 Hy) (anm_171 Hy)
theorem anm_173 (Hy : Hym tys cA base adS Ex) : xall (fun b t => xOK l Dg clm tys cA flm ftm base adS GWm xym xcm xnm xrm Ex codem bmm bpm b t) 1 52 512 codem_173 :=
  And.intro (okm_52 Hy) (okm_564 Hy)
theorem anm_174 (Hy : Hym tys cA base adS Ex) : xall (fun b t => xOK l Dg clm tys cA flm ftm base adS GWm xym xcm xnm xrm Ex codem bmm bpm b t) 1 308 512 codem_174 :=
  And.intro (okm_308 Hy) (okm_820 Hy)
theorem anm_175 (Hy : Hym tys cA base adS Ex) : xall (fun b t => xOK l Dg clm tys cA flm ftm base adS GWm xym xcm xnm xrm Ex codem bmm bpm b t) 2 52 256 codem_175 :=
  And.intro (anm_173 Hy) (anm_174 Hy)
theorem anm_176 (Hy : Hym tys cA base adS Ex) : xall (fun b t => xOK l Dg clm tys cA flm ftm base adS GWm xym xcm xnm xrm Ex codem bmm bpm b t) 1 180 512 codem_176 :=
  And.intro (okm_180 Hy) (okm_692 Hy)
theorem anm_177 (Hy : Hym tys cA base adS Ex) : xall (fun b t => xOK l Dg clm tys cA flm ftm base adS GWm xym xcm xnm xrm Ex codem bmm bpm b t) 1 436 512 codem_177 :=
  And.intro (okm_436 Hy) (okm_948 Hy)
theorem anm_178 (Hy : Hym tys cA base adS Ex) : xall (fun b t => xOK l Dg clm tys cA flm ftm base adS GWm xym xcm xnm xrm Ex codem bmm bpm b t) 2 180 256 codem_178 :=
  And.intro (anm_176 Hy) (anm_177 Hy)
theorem anm_179 (Hy : Hym tys cA base adS Ex) : xall (fun b t => xOK l Dg clm tys cA flm ftm base adS GWm xym xcm xnm xrm Ex codem bmm bpm b t) 3 52 128 codem_179 :=
  And.intro (anm_175 Hy) (anm_178 Hy)
theorem anm_180 (Hy : Hym tys cA base adS Ex) : xall (fun b t => xOK l Dg clm tys cA flm ftm base adS GWm xym xcm xnm xrm Ex codem bmm bpm b t) 1 116 512 codem_180 :=
  And.intro (okm_116 Hy) (okm_628 Hy)
theorem anm_181 (Hy : Hym tys cA base adS Ex) : xall (fun b t => xOK l Dg clm tys cA flm ftm base adS GWm xym xcm xnm xrm Ex codem bmm bpm b t) 1 372 512 codem_181 :=
  And.intro (okm_372 Hy) (okm_884 Hy)
theorem anm_182 (Hy : Hym tys cA base adS Ex) : xall (fun b t => xOK l Dg clm tys cA flm ftm base adS GWm xym xcm xnm xrm Ex codem bmm bpm b t) 2 116 256 codem_182 :=
  And.intro (anm_180 Hy) (anm_181 Hy)
theorem anm_183 (Hy : Hym tys cA base adS Ex) : xall (fun b t => xOK l Dg clm tys cA flm ftm base adS GWm xym xcm xnm xrm Ex codem bmm bpm b t) 1 244 512 codem_183 :=
  And.intro (okm_244 Hy) (okm_756 Hy)
theorem anm_184 (Hy : Hym tys cA base adS Ex) : xall (fun b t => xOK l Dg clm tys cA flm ftm base adS GWm xym xcm xnm xrm Ex codem bmm bpm b t) 1 500 512 codem_184 :=
  And.intro (okm_500 Hy) (okzm 1012)
theorem anm_185 (Hy : Hym tys cA base adS Ex) : xall (fun b t => xOK l Dg clm tys cA flm ftm base adS GWm xym xcm xnm xrm Ex codem bmm bpm b t) 2 244 256 codem_185 :=
  And.intro (anm_183 Hy) (anm_184 Hy)
theorem anm_186 (Hy : Hym tys cA base adS Ex) : xall (fun b t => xOK l Dg clm tys cA flm ftm base adS GWm xym xcm xnm xrm Ex codem bmm bpm b t) 3 116 128 codem_186 :=
  And.intro (anm_182 Hy) (anm_185 Hy)
theorem anm_187 (Hy : Hym tys cA base adS Ex) : xall (fun b t => xOK l Dg clm tys cA flm ftm base adS GWm xym xcm xnm xrm Ex codem bmm bpm b t) 4 52 64 codem_187 :=
  And.intro (anm_179 Hy) (anm_186 Hy)
theorem anm_188 (Hy : Hym tys cA base adS Ex) : xall (fun b t => xOK l Dg clm tys cA flm ftm base adS GWm xym xcm xnm xrm Ex codem bmm bpm b t) 5 20 32 codem_188 :=
  And.intro (anm_172 Hy) (anm_187 Hy)
theorem anm_189 (Hy : Hym tys cA base adS Ex) : xall (fun b t => xOK l Dg clm tys cA flm ftm base adS GWm xym xcm xnm xrm Ex codem bmm bpm b t) 6 4 16 codem_189 :=
  And.intro (anm_157 Hy) (anm_188 Hy)
theorem anm_190 (Hy : Hym tys cA base adS Ex) : xall (fun b t => xOK l Dg clm tys cA flm ftm base adS GWm xym xcm xnm xrm Ex codem bmm bpm b t) 1 12 512 codem_190 :=
  And.intro (okm_12 Hy) (okm_524 Hy)
theorem anm_191 (Hy : Hym tys cA base adS Ex) : xall (fun b t => xOK l Dg clm tys cA flm ftm base adS GWm xym xcm xnm xrm Ex codem bmm bpm b t) 1 268 512 codem_191 :=
  And.intro (okm_268 Hy) (okm_780 Hy)
theorem anm_192 (Hy : Hym tys cA base adS Ex) : xall (fun b t => xOK l Dg clm tys cA flm ftm base adS GWm xym xcm xnm xrm Ex codem bmm bpm b t) 2 12 256 codem_192 :=
  And.intro (anm_190 Hy) (anm_191 Hy)
theorem anm_193 (Hy : Hym tys cA base adS Ex) : xall (fun b t => xOK l Dg clm tys cA flm ftm base adS GWm xym xcm xnm xrm Ex codem bmm bpm b t) 1 140 512 codem_193 :=
  And.intro (okm_140 Hy) (okm_652 Hy)
theorem anm_194 (Hy : Hym tys cA base adS Ex) : xall (fun b t => xOK l Dg clm tys cA flm ftm base adS GWm xym xcm xnm xrm Ex codem bmm bpm b t) 1 396 512 codem_194 :=
  And.intro (okm_396 Hy) (okm_908 Hy)
theorem anm_195 (Hy : Hym tys cA base adS Ex) : xall (fun b t => xOK l Dg clm tys cA flm ftm base adS GWm xym xcm xnm xrm Ex codem bmm bpm b t) 2 140 256 codem_195 :=
  And.intro (anm_193 Hy) (anm_194 Hy)
theorem anm_196 (Hy : Hym tys cA base adS Ex) : xall (fun b t => xOK l Dg clm tys cA flm ftm base adS GWm xym xcm xnm xrm Ex codem bmm bpm b t) 3 12 128 codem_196 :=
  And.intro (anm_192 Hy) (anm_195 Hy)
theorem anm_197 (Hy : Hym tys cA base adS Ex) : xall (fun b t => xOK l Dg clm tys cA flm ftm base adS GWm xym xcm xnm xrm Ex codem bmm bpm b t) 1 76 512 codem_197 :=
  And.intro (okm_76 Hy) (okm_588 Hy)
theorem anm_198 (Hy : Hym tys cA base adS Ex) : xall (fun b t => xOK l Dg clm tys cA flm ftm base adS GWm xym xcm xnm xrm Ex codem bmm bpm b t) 1 332 512 codem_198 :=
  And.intro (okm_332 Hy) (okm_844 Hy)
theorem anm_199 (Hy : Hym tys cA base adS Ex) : xall (fun b t => xOK l Dg clm tys cA flm ftm base adS GWm xym xcm xnm xrm Ex codem bmm bpm b t) 2 76 256 codem_199 :=
  And.intro (anm_197 Hy) (anm_198 Hy)
theorem anm_200 (Hy : Hym tys cA base adS Ex) : xall (fun b t => xOK l Dg clm tys cA flm ftm base adS GWm xym xcm xnm xrm Ex codem bmm bpm b t) 1 204 512 codem_200 :=
  And.intro (okm_204 Hy) (okm_716 Hy)
theorem anm_201 (Hy : Hym tys cA base adS Ex) : xall (fun b t => xOK l Dg clm tys cA flm ftm base adS GWm xym xcm xnm xrm Ex codem bmm bpm b t) 1 460 512 codem_201 :=
  And.intro (okm_460 Hy) (okzm 972)
theorem anm_202 (Hy : Hym tys cA base adS Ex) : xall (fun b t => xOK l Dg clm tys cA flm ftm base adS GWm xym xcm xnm xrm Ex codem bmm bpm b t) 2 204 256 codem_202 :=
  And.intro (anm_200 Hy) (anm_201 Hy)
theorem anm_203 (Hy : Hym tys cA base adS Ex) : xall (fun b t => xOK l Dg clm tys cA flm ftm base adS GWm xym xcm xnm xrm Ex codem bmm bpm b t) 3 76 128 codem_203 :=
  And.intro (anm_199 Hy) (anm_202 Hy)
theorem anm_204 (Hy : Hym tys cA base adS Ex) : xall (fun b t => xOK l Dg clm tys cA flm ftm base adS GWm xym xcm xnm xrm Ex codem bmm bpm b t) 4 12 64 codem_204 :=
  And.intro (anm_196 Hy) (anm_203 Hy)
theorem anm_205 (Hy : Hym tys cA base adS Ex) : xall (fun b t => xOK l Dg clm tys cA flm ftm base adS GWm xym xcm xnm xrm Ex codem bmm bpm b t) 1 44 512 codem_205 :=
  And.intro (okm_44 Hy) (okm_556 Hy)
theorem anm_206 (Hy : Hym tys cA base adS Ex) : xall (fun b t => xOK l Dg clm tys cA flm ftm base adS GWm xym xcm xnm xrm Ex codem bmm bpm b t) 1 300 512 codem_206 :=
  And.intro (okm_300 Hy) (okm_812 Hy)
theorem anm_207 (Hy : Hym tys cA base adS Ex) : xall (fun b t => xOK l Dg clm tys cA flm ftm base adS GWm xym xcm xnm xrm Ex codem bmm bpm b t) 2 44 256 codem_207 :=
  And.intro (anm_205 Hy) (anm_206 Hy)
theorem anm_208 (Hy : Hym tys cA base adS Ex) : xall (fun b t => xOK l Dg clm tys cA flm ftm base adS GWm xym xcm xnm xrm Ex codem bmm bpm b t) 1 172 512 codem_208 :=
  And.intro (okm_172 Hy) (okm_684 Hy)
theorem anm_209 (Hy : Hym tys cA base adS Ex) : xall (fun b t => xOK l Dg clm tys cA flm ftm base adS GWm xym xcm xnm xrm Ex codem bmm bpm b t) 1 428 512 codem_209 :=
  And.intro (okm_428 Hy) (okm_940 Hy)
theorem anm_210 (Hy : Hym tys cA base adS Ex) : xall (fun b t => xOK l Dg clm tys cA flm ftm base adS GWm xym xcm xnm xrm Ex codem bmm bpm b t) 2 172 256 codem_210 :=
  And.intro (anm_208 Hy) (anm_209 Hy)
theorem anm_211 (Hy : Hym tys cA base adS Ex) : xall (fun b t => xOK l Dg clm tys cA flm ftm base adS GWm xym xcm xnm xrm Ex codem bmm bpm b t) 3 44 128 codem_211 :=
  And.intro (anm_207 Hy) (anm_210 Hy)
theorem anm_212 (Hy : Hym tys cA base adS Ex) : xall (fun b t => xOK l Dg clm tys cA flm ftm base adS GWm xym xcm xnm xrm Ex codem bmm bpm b t) 1 108 512 codem_212 :=
  And.intro (okm_108 Hy) (okm_620 Hy)
theorem anm_213 (Hy : Hym tys cA base adS Ex) : xall (fun b t => xOK l Dg clm tys cA flm ftm base adS GWm xym xcm xnm xrm Ex codem bmm bpm b t) 1 364 512 codem_213 :=
  And.intro (okm_364 Hy) (okm_876 Hy)
theorem anm_214 (Hy : Hym tys cA base adS Ex) : xall (fun b t => xOK l Dg clm tys cA flm ftm base adS GWm xym xcm xnm xrm Ex codem bmm bpm b t) 2 108 256 codem_214 :=
  And.intro (anm_212 Hy) (anm_213 Hy)
theorem anm_215 (Hy : Hym tys cA base adS Ex) : xall (fun b t => xOK l Dg clm tys cA flm ftm base adS GWm xym xcm xnm xrm Ex codem bmm bpm b t) 1 236 512 codem_215 :=
  And.intro (okm_236 Hy) (okm_748 Hy)
theorem anm_216 (Hy : Hym tys cA base adS Ex) : xall (fun b t => xOK l Dg clm tys cA flm ftm base adS GWm xym xcm xnm xrm Ex codem bmm bpm b t) 1 492 512 codem_216 :=
  And.intro (okm_492 Hy) (okzm 1004)
theorem anm_217 (Hy : Hym tys cA base adS Ex) : xall (fun b t => xOK l Dg clm tys cA flm ftm base adS GWm xym xcm xnm xrm Ex codem bmm bpm b t) 2 236 256 codem_217 :=
  And.intro (anm_215 Hy) (anm_216 Hy)
theorem anm_218 (Hy : Hym tys cA base adS Ex) : xall (fun b t => xOK l Dg clm tys cA flm ftm base adS GWm xym xcm xnm xrm Ex codem bmm bpm b t) 3 108 128 codem_218 :=
  And.intro (anm_214 Hy) (anm_217 Hy)
theorem anm_219 (Hy : Hym tys cA base adS Ex) : xall (fun b t => xOK l Dg clm tys cA flm ftm base adS GWm xym xcm xnm xrm Ex codem bmm bpm b t) 4 44 64 codem_219 :=
  And.intro (anm_211 Hy) (anm_218 Hy)
theorem anm_220 (Hy : Hym tys cA base adS Ex) : xall (fun b t => xOK l Dg clm tys cA flm ftm base adS GWm xym xcm xnm xrm Ex codem bmm bpm b t) 5 12 32 codem_220 :=
  And.intro (anm_204 Hy) (anm_219 Hy)
theorem anm_221 (Hy : Hym tys cA base adS Ex) : xall (fun b t => xOK l Dg clm tys cA flm ftm base adS GWm xym xcm xnm xrm Ex codem bmm bpm b t) 1 28 512 codem_221 :=
  And.intro (okm_28 Hy) (okm_540 Hy)
theorem anm_222 (Hy : Hym tys cA base adS Ex) : xall (fun b t => xOK l Dg clm tys cA flm ftm base adS GWm xym xcm xnm xrm Ex codem bmm bpm b t) 1 284 512 codem_222 :=
  And.intro (okm_284 Hy) (okm_796 Hy)
theorem anm_223 (Hy : Hym tys cA base adS Ex) : xall (fun b t => xOK l Dg clm tys cA flm ftm base adS GWm xym xcm xnm xrm Ex codem bmm bpm b t) 2 28 256 codem_223 :=
  And.intro (anm_221 Hy) (anm_222 Hy)
theorem anm_224 (Hy : Hym tys cA base adS Ex) : xall (fun b t => xOK l Dg clm tys cA flm ftm base adS GWm xym xcm xnm xrm Ex codem bmm bpm b t) 1 156 512 codem_224 :=
  And.intro (okm_156 Hy) (okm_668 Hy)
theorem anm_225 (Hy : Hym tys cA base adS Ex) : xall (fun b t => xOK l Dg clm tys cA flm ftm base adS GWm xym xcm xnm xrm Ex codem bmm bpm b t) 1 412 512 codem_225 :=
  And.intro (okm_412 Hy) (okm_924 Hy)
theorem anm_226 (Hy : Hym tys cA base adS Ex) : xall (fun b t => xOK l Dg clm tys cA flm ftm base adS GWm xym xcm xnm xrm Ex codem bmm bpm b t) 2 156 256 codem_226 :=
  And.intro (anm_224 Hy) (anm_225 Hy)
theorem anm_227 (Hy : Hym tys cA base adS Ex) : xall (fun b t => xOK l Dg clm tys cA flm ftm base adS GWm xym xcm xnm xrm Ex codem bmm bpm b t) 3 28 128 codem_227 :=
  And.intro (anm_223 Hy) (anm_226 Hy)
theorem anm_228 (Hy : Hym tys cA base adS Ex) : xall (fun b t => xOK l Dg clm tys cA flm ftm base adS GWm xym xcm xnm xrm Ex codem bmm bpm b t) 1 92 512 codem_228 :=
  And.intro (okm_92 Hy) (okm_604 Hy)
theorem anm_229 (Hy : Hym tys cA base adS Ex) : xall (fun b t => xOK l Dg clm tys cA flm ftm base adS GWm xym xcm xnm xrm Ex codem bmm bpm b t) 1 348 512 codem_229 :=
  And.intro (okm_348 Hy) (okm_860 Hy)
theorem anm_230 (Hy : Hym tys cA base adS Ex) : xall (fun b t => xOK l Dg clm tys cA flm ftm base adS GWm xym xcm xnm xrm Ex codem bmm bpm b t) 2 92 256 codem_230 :=
  And.intro (anm_228 Hy) (anm_229 Hy)
theorem anm_231 (Hy : Hym tys cA base adS Ex) : xall (fun b t => xOK l Dg clm tys cA flm ftm base adS GWm xym xcm xnm xrm Ex codem bmm bpm b t) 1 220 512 codem_231 :=
  And.intro (okm_220 Hy) (okm_732 Hy)
theorem anm_232 (Hy : Hym tys cA base adS Ex) : xall (fun b t => xOK l Dg clm tys cA flm ftm base adS GWm xym xcm xnm xrm Ex codem bmm bpm b t) 1 476 512 codem_232 :=
  And.intro (okm_476 Hy) (okzm 988)
theorem anm_233 (Hy : Hym tys cA base adS Ex) : xall (fun b t => xOK l Dg clm tys cA flm ftm base adS GWm xym xcm xnm xrm Ex codem bmm bpm b t) 2 220 256 codem_233 :=
  And.intro (anm_231 Hy) (anm_232 Hy)
theorem anm_234 (Hy : Hym tys cA base adS Ex) : xall (fun b t => xOK l Dg clm tys cA flm ftm base adS GWm xym xcm xnm xrm Ex codem bmm bpm b t) 3 92 128 codem_234 :=
  And.intro (anm_230 Hy) (anm_233 Hy)
theorem anm_235 (Hy : Hym tys cA base adS Ex) : xall (fun b t => xOK l Dg clm tys cA flm ftm base adS GWm xym xcm xnm xrm Ex codem bmm bpm b t) 4 28 64 codem_235 :=
  And.intro (anm_227 Hy) (anm_234 Hy)
theorem anm_236 (Hy : Hym tys cA base adS Ex) : xall (fun b t => xOK l Dg clm tys cA flm ftm base adS GWm xym xcm xnm xrm Ex codem bmm bpm b t) 1 60 512 codem_236 :=
  And.intro (okm_60 Hy) (okm_572 Hy)
theorem anm_237 (Hy : Hym tys cA base adS Ex) : xall (fun b t => xOK l Dg clm tys cA flm ftm base adS GWm xym xcm xnm xrm Ex codem bmm bpm b t) 1 316 512 codem_237 :=
  And.intro (okm_316 Hy) (okm_828 Hy)
theorem anm_238 (Hy : Hym tys cA base adS Ex) : xall (fun b t => xOK l Dg clm tys cA flm ftm base adS GWm xym xcm xnm xrm Ex codem bmm bpm b t) 2 60 256 codem_238 :=
  And.intro (anm_236 Hy) (anm_237 Hy)
theorem anm_239 (Hy : Hym tys cA base adS Ex) : xall (fun b t => xOK l Dg clm tys cA flm ftm base adS GWm xym xcm xnm xrm Ex codem bmm bpm b t) 1 188 512 codem_239 :=
  And.intro (okm_188 Hy) (okm_700 Hy)
theorem anm_240 (Hy : Hym tys cA base adS Ex) : xall (fun b t => xOK l Dg clm tys cA flm ftm base adS GWm xym xcm xnm xrm Ex codem bmm bpm b t) 1 444 512 codem_240 :=
  And.intro (okm_444 Hy) (okm_956 Hy)
theorem anm_241 (Hy : Hym tys cA base adS Ex) : xall (fun b t => xOK l Dg clm tys cA flm ftm base adS GWm xym xcm xnm xrm Ex codem bmm bpm b t) 2 188 256 codem_241 :=
  And.intro (anm_239 Hy) (anm_240 Hy)
theorem anm_242 (Hy : Hym tys cA base adS Ex) : xall (fun b t => xOK l Dg clm tys cA flm ftm base adS GWm xym xcm xnm xrm Ex codem bmm bpm b t) 3 60 128 codem_242 :=
  And.intro (anm_238 Hy) (anm_241 Hy)
theorem anm_243 (Hy : Hym tys cA base adS Ex) : xall (fun b t => xOK l Dg clm tys cA flm ftm base adS GWm xym xcm xnm xrm Ex codem bmm bpm b t) 1 124 512 codem_243 :=
  And.intro (okm_124 Hy) (okm_636 Hy)
theorem anm_244 (Hy : Hym tys cA base adS Ex) : xall (fun b t => xOK l Dg clm tys cA flm ftm base adS GWm xym xcm xnm xrm Ex codem bmm bpm b t) 1 380 512 codem_244 :=
  And.intro (okm_380 Hy) (okm_892 Hy)
theorem anm_245 (Hy : Hym tys cA base adS Ex) : xall (fun b t => xOK l Dg clm tys cA flm ftm base adS GWm xym xcm xnm xrm Ex codem bmm bpm b t) 2 124 256 codem_245 :=
  And.intro (anm_243 Hy) (anm_244 Hy)
theorem anm_246 (Hy : Hym tys cA base adS Ex) : xall (fun b t => xOK l Dg clm tys cA flm ftm base adS GWm xym xcm xnm xrm Ex codem bmm bpm b t) 1 252 512 codem_246 :=
  And.intro (okm_252 Hy) (okm_764 Hy)
theorem anm_247 (Hy : Hym tys cA base adS Ex) : xall (fun b t => xOK l Dg clm tys cA flm ftm base adS GWm xym xcm xnm xrm Ex codem bmm bpm b t) 1 508 512 codem_247 :=
  And.intro (okm_508 Hy) (okzm 1020)
theorem anm_248 (Hy : Hym tys cA base adS Ex) : xall (fun b t => xOK l Dg clm tys cA flm ftm base adS GWm xym xcm xnm xrm Ex codem bmm bpm b t) 2 252 256 codem_248 :=
  And.intro (anm_246 Hy) (anm_247 Hy)
theorem anm_249 (Hy : Hym tys cA base adS Ex) : xall (fun b t => xOK l Dg clm tys cA flm ftm base adS GWm xym xcm xnm xrm Ex codem bmm bpm b t) 3 124 128 codem_249 :=
  And.intro (anm_245 Hy) (anm_248 Hy)
theorem anm_250 (Hy : Hym tys cA base adS Ex) : xall (fun b t => xOK l Dg clm tys cA flm ftm base adS GWm xym xcm xnm xrm Ex codem bmm bpm b t) 4 60 64 codem_250 :=
  And.intro (anm_242 Hy) (anm_249 Hy)
theorem anm_251 (Hy : Hym tys cA base adS Ex) : xall (fun b t => xOK l Dg clm tys cA flm ftm base adS GWm xym xcm xnm xrm Ex codem bmm bpm b t) 5 28 32 codem_251 :=
  And.intro (anm_235 Hy) (anm_250 Hy)
theorem anm_252 (Hy : Hym tys cA base adS Ex) : xall (fun b t => xOK l Dg clm tys cA flm ftm base adS GWm xym xcm xnm xrm Ex codem bmm bpm b t) 6 12 16 codem_252 :=
  And.intro (anm_220 Hy) (anm_251 Hy)
theorem anm_253 (Hy : Hym tys cA base adS Ex) : xall (fun b t => xOK l Dg clm tys cA flm ftm base adS GWm xym xcm xnm xrm Ex codem bmm bpm b t) 7 4 8 codem_253 :=
  And.intro (anm_189 Hy) (anm_252 Hy)
theorem anm_254 (Hy : Hym tys cA base adS Ex) : xall (fun b t => xOK l Dg clm tys cA flm ftm base adS GWm xym xcm xnm xrm Ex codem bmm bpm b t) 8 0 4 codem_254 :=
  And.intro (anm_126 Hy) (anm_253 Hy)
theorem anm_255 (Hy : Hym tys cA base adS Ex) : xall (fun b t => xOK l Dg clm tys cA flm ftm base adS GWm xym xcm xnm xrm Ex codem bmm bpm b t) 1 2 512 codem_255 :=
  And.intro (okm_2 Hy) (okm_514 Hy)
theorem anm_256 (Hy : Hym tys cA base adS Ex) : xall (fun b t => xOK l Dg clm tys cA flm ftm base adS GWm xym xcm xnm xrm Ex codem bmm bpm b t) 1 258 512 codem_256 :=
  And.intro (okm_258 Hy) (okm_770 Hy)
theorem anm_257 (Hy : Hym tys cA base adS Ex) : xall (fun b t => xOK l Dg clm tys cA flm ftm base adS GWm xym xcm xnm xrm Ex codem bmm bpm b t) 2 2 256 codem_257 :=
  And.intro (anm_255 Hy) (anm_256 Hy)
theorem anm_258 (Hy : Hym tys cA base adS Ex) : xall (fun b t => xOK l Dg clm tys cA flm ftm base adS GWm xym xcm xnm xrm Ex codem bmm bpm b t) 1 130 512 codem_258 :=
  And.intro (okm_130 Hy) (okm_642 Hy)
theorem anm_259 (Hy : Hym tys cA base adS Ex) : xall (fun b t => xOK l Dg clm tys cA flm ftm base adS GWm xym xcm xnm xrm Ex codem bmm bpm b t) 1 386 512 codem_259 :=
  And.intro (okm_386 Hy) (okm_898 Hy)
theorem anm_260 (Hy : Hym tys cA base adS Ex) : xall (fun b t => xOK l Dg clm tys cA flm ftm base adS GWm xym xcm xnm xrm Ex codem bmm bpm b t) 2 130 256 codem_260 :=
  And.intro (anm_258 Hy) (anm_259 Hy)
theorem anm_261 (Hy : Hym tys cA base adS Ex) : xall (fun b t => xOK l Dg clm tys cA flm ftm base adS GWm xym xcm xnm xrm Ex codem bmm bpm b t) 3 2 128 codem_261 :=
  And.intro (anm_257 Hy) (anm_260 Hy)
theorem anm_262 (Hy : Hym tys cA base adS Ex) : xall (fun b t => xOK l Dg clm tys cA flm ftm base adS GWm xym xcm xnm xrm Ex codem bmm bpm b t) 1 66 512 codem_262 :=
  And.intro (okm_66 Hy) (okm_578 Hy)
theorem anm_263 (Hy : Hym tys cA base adS Ex) : xall (fun b t => xOK l Dg clm tys cA flm ftm base adS GWm xym xcm xnm xrm Ex codem bmm bpm b t) 1 322 512 codem_263 :=
  And.intro (okm_322 Hy) (okm_834 Hy)
theorem anm_264 (Hy : Hym tys cA base adS Ex) : xall (fun b t => xOK l Dg clm tys cA flm ftm base adS GWm xym xcm xnm xrm Ex codem bmm bpm b t) 2 66 256 codem_264 :=
  And.intro (anm_262 Hy) (anm_263 Hy)
theorem anm_265 (Hy : Hym tys cA base adS Ex) : xall (fun b t => xOK l Dg clm tys cA flm ftm base adS GWm xym xcm xnm xrm Ex codem bmm bpm b t) 1 194 512 codem_265 :=
  And.intro (okm_194 Hy) (okm_706 Hy)
theorem anm_266 (Hy : Hym tys cA base adS Ex) : xall (fun b t => xOK l Dg clm tys cA flm ftm base adS GWm xym xcm xnm xrm Ex codem bmm bpm b t) 1 450 512 codem_266 :=
  And.intro (okm_450 Hy) (okzm 962)
theorem anm_267 (Hy : Hym tys cA base adS Ex) : xall (fun b t => xOK l Dg clm tys cA flm ftm base adS GWm xym xcm xnm xrm Ex codem bmm bpm b t) 2 194 256 codem_267 :=
  And.intro (anm_265 Hy) (anm_266 Hy)
theorem anm_268 (Hy : Hym tys cA base adS Ex) : xall (fun b t => xOK l Dg clm tys cA flm ftm base adS GWm xym xcm xnm xrm Ex codem bmm bpm b t) 3 66 128 codem_268 :=
  And.intro (anm_264 Hy) (anm_267 Hy)
theorem anm_269 (Hy : Hym tys cA base adS Ex) : xall (fun b t => xOK l Dg clm tys cA flm ftm base adS GWm xym xcm xnm xrm Ex codem bmm bpm b t) 4 2 64 codem_269 :=
  And.intro (anm_261 Hy) (anm_268 Hy)
theorem anm_270 (Hy : Hym tys cA base adS Ex) : xall (fun b t => xOK l Dg clm tys cA flm ftm base adS GWm xym xcm xnm xrm Ex codem bmm bpm b t) 1 34 512 codem_270 :=
  And.intro (okm_34 Hy) (okm_546 Hy)
theorem anm_271 (Hy : Hym tys cA base adS Ex) : xall (fun b t => xOK l Dg clm tys cA flm ftm base adS GWm xym xcm xnm xrm Ex codem bmm bpm b t) 1 290 512 codem_271 :=
  And.intro (okm_290 Hy) (okm_802 Hy)
theorem anm_272 (Hy : Hym tys cA base adS Ex) : xall (fun b t => xOK l Dg clm tys cA flm ftm base adS GWm xym xcm xnm xrm Ex codem bmm bpm b t) 2 34 256 codem_272 :=
  And.intro (anm_270 Hy) (anm_271 Hy)
theorem anm_273 (Hy : Hym tys cA base adS Ex) : xall (fun b t => xOK l Dg clm tys cA flm ftm base adS GWm xym xcm xnm xrm Ex codem bmm bpm b t) 1 162 512 codem_273 :=
  And.intro (okm_162 Hy) (okm_674 Hy)
theorem anm_274 (Hy : Hym tys cA base adS Ex) : xall (fun b t => xOK l Dg clm tys cA flm ftm base adS GWm xym xcm xnm xrm Ex codem bmm bpm b t) 1 418 512 codem_274 :=
  And.intro (okm_418 Hy) (okm_930 Hy)
theorem anm_275 (Hy : Hym tys cA base adS Ex) : xall (fun b t => xOK l Dg clm tys cA flm ftm base adS GWm xym xcm xnm xrm Ex codem bmm bpm b t) 2 162 256 codem_275 :=
  And.intro (anm_273 Hy) (anm_274 Hy)
theorem anm_276 (Hy : Hym tys cA base adS Ex) : xall (fun b t => xOK l Dg clm tys cA flm ftm base adS GWm xym xcm xnm xrm Ex codem bmm bpm b t) 3 34 128 codem_276 :=
  And.intro (anm_272 Hy) (anm_275 Hy)
theorem anm_277 (Hy : Hym tys cA base adS Ex) : xall (fun b t => xOK l Dg clm tys cA flm ftm base adS GWm xym xcm xnm xrm Ex codem bmm bpm b t) 1 98 512 codem_277 :=
  And.intro (okm_98 Hy) (okm_610 Hy)
theorem anm_278 (Hy : Hym tys cA base adS Ex) : xall (fun b t => xOK l Dg clm tys cA flm ftm base adS GWm xym xcm xnm xrm Ex codem bmm bpm b t) 1 354 512 codem_278 :=
  And.intro (okm_354 Hy) (okm_866 Hy)
theorem anm_279 (Hy : Hym tys cA base adS Ex) : xall (fun b t => xOK l Dg clm tys cA flm ftm base adS GWm xym xcm xnm xrm Ex codem bmm bpm b t) 2 98 256 codem_279 :=
  And.intro (anm_277 Hy) (anm_278 Hy)
theorem anm_280 (Hy : Hym tys cA base adS Ex) : xall (fun b t => xOK l Dg clm tys cA flm ftm base adS GWm xym xcm xnm xrm Ex codem bmm bpm b t) 1 226 512 codem_280 :=
  And.intro (okm_226 Hy) (okm_738 Hy)
theorem anm_281 (Hy : Hym tys cA base adS Ex) : xall (fun b t => xOK l Dg clm tys cA flm ftm base adS GWm xym xcm xnm xrm Ex codem bmm bpm b t) 1 482 512 codem_281 :=
  And.intro (okm_482 Hy) (okzm 994)
theorem anm_282 (Hy : Hym tys cA base adS Ex) : xall (fun b t => xOK l Dg clm tys cA flm ftm base adS GWm xym xcm xnm xrm Ex codem bmm bpm b t) 2 226 256 codem_282 :=
  And.intro (anm_280 Hy) (anm_281 Hy)
theorem anm_283 (Hy : Hym tys cA base adS Ex) : xall (fun b t => xOK l Dg clm tys cA flm ftm base adS GWm xym xcm xnm xrm Ex codem bmm bpm b t) 3 98 128 codem_283 :=
  And.intro (anm_279 Hy) (anm_282 Hy)
theorem anm_284 (Hy : Hym tys cA base adS Ex) : xall (fun b t => xOK l Dg clm tys cA flm ftm base adS GWm xym xcm xnm xrm Ex codem bmm bpm b t) 4 34 64 codem_284 :=
  And.intro (anm_276 Hy) (anm_283 Hy)
theorem anm_285 (Hy : Hym tys cA base adS Ex) : xall (fun b t => xOK l Dg clm tys cA flm ftm base adS GWm xym xcm xnm xrm Ex codem bmm bpm b t) 5 2 32 codem_285 :=
  And.intro (anm_269 Hy) (anm_284 Hy)
theorem anm_286 (Hy : Hym tys cA base adS Ex) : xall (fun b t => xOK l Dg clm tys cA flm ftm base adS GWm xym xcm xnm xrm Ex codem bmm bpm b t) 1 18 512 codem_286 :=
  And.intro (okm_18 Hy) (okm_530 Hy)
theorem anm_287 (Hy : Hym tys cA base adS Ex) : xall (fun b t => xOK l Dg clm tys cA flm ftm base adS GWm xym xcm xnm xrm Ex codem bmm bpm b t) 1 274 512 codem_287 :=
  And.intro (okm_274 Hy) (okm_786 Hy)
theorem anm_288 (Hy : Hym tys cA base adS Ex) : xall (fun b t => xOK l Dg clm tys cA flm ftm base adS GWm xym xcm xnm xrm Ex codem bmm bpm b t) 2 18 256 codem_288 :=
  And.intro (anm_286 Hy) (anm_287 Hy)
theorem anm_289 (Hy : Hym tys cA base adS Ex) : xall (fun b t => xOK l Dg clm tys cA flm ftm base adS GWm xym xcm xnm xrm Ex codem bmm bpm b t) 1 146 512 codem_289 :=
  And.intro (okm_146 Hy) (okm_658 Hy)
theorem anm_290 (Hy : Hym tys cA base adS Ex) : xall (fun b t => xOK l Dg clm tys cA flm ftm base adS GWm xym xcm xnm xrm Ex codem bmm bpm b t) 1 402 512 codem_290 :=
  And.intro (okm_402 Hy) (okm_914 Hy)
theorem anm_291 (Hy : Hym tys cA base adS Ex) : xall (fun b t => xOK l Dg clm tys cA flm ftm base adS GWm xym xcm xnm xrm Ex codem bmm bpm b t) 2 146 256 codem_291 :=
  And.intro (anm_289 Hy) (anm_290 Hy)
theorem anm_292 (Hy : Hym tys cA base adS Ex) : xall (fun b t => xOK l Dg clm tys cA flm ftm base adS GWm xym xcm xnm xrm Ex codem bmm bpm b t) 3 18 128 codem_292 :=
  And.intro (anm_288 Hy) (anm_291 Hy)
theorem anm_293 (Hy : Hym tys cA base adS Ex) : xall (fun b t => xOK l Dg clm tys cA flm ftm base adS GWm xym xcm xnm xrm Ex codem bmm bpm b t) 1 82 512 codem_293 :=
  And.intro (okm_82 Hy) (okm_594 Hy)
theorem anm_294 (Hy : Hym tys cA base adS Ex) : xall (fun b t => xOK l Dg clm tys cA flm ftm base adS GWm xym xcm xnm xrm Ex codem bmm bpm b t) 1 338 512 codem_294 :=
  And.intro (okm_338 Hy) (okm_850 Hy)
theorem anm_295 (Hy : Hym tys cA base adS Ex) : xall (fun b t => xOK l Dg clm tys cA flm ftm base adS GWm xym xcm xnm xrm Ex codem bmm bpm b t) 2 82 256 codem_295 :=
  And.intro (anm_293 Hy) (anm_294 Hy)
theorem anm_296 (Hy : Hym tys cA base adS Ex) : xall (fun b t => xOK l Dg clm tys cA flm ftm base adS GWm xym xcm xnm xrm Ex codem bmm bpm b t) 1 210 512 codem_296 :=
  And.intro (okm_210 Hy) (okm_722 Hy)
theorem anm_297 (Hy : Hym tys cA base adS Ex) : xall (fun b t => xOK l Dg clm tys cA flm ftm base adS GWm xym xcm xnm xrm Ex codem bmm bpm b t) 1 466 512 codem_297 :=
  And.intro (okm_466 Hy) (okzm 978)
theorem anm_298 (Hy : Hym tys cA base adS Ex) : xall (fun b t => xOK l Dg clm tys cA flm ftm base adS GWm xym xcm xnm xrm Ex codem bmm bpm b t) 2 210 256 codem_298 :=
  And.intro (anm_296 Hy) (anm_297 Hy)
theorem anm_299 (Hy : Hym tys cA base adS Ex) : xall (fun b t => xOK l Dg clm tys cA flm ftm base adS GWm xym xcm xnm xrm Ex codem bmm bpm b t) 3 82 128 codem_299 :=
  And.intro (anm_295 Hy) (anm_298 Hy)
theorem anm_300 (Hy : Hym tys cA base adS Ex) : xall (fun b t => xOK l Dg clm tys cA flm ftm base adS GWm xym xcm xnm xrm Ex codem bmm bpm b t) 4 18 64 codem_300 :=
  And.intro (anm_292 Hy) (anm_299 Hy)
theorem anm_301 (Hy : Hym tys cA base adS Ex) : xall (fun b t => xOK l Dg clm tys cA flm ftm base adS GWm xym xcm xnm xrm Ex codem bmm bpm b t) 1 50 512 codem_301 :=
  And.intro (okm_50 Hy) (okm_562 Hy)
theorem anm_302 (Hy : Hym tys cA base adS Ex) : xall (fun b t => xOK l Dg clm tys cA flm ftm base adS GWm xym xcm xnm xrm Ex codem bmm bpm b t) 1 306 512 codem_302 :=
  And.intro (okm_306 Hy) (okm_818 Hy)
theorem anm_303 (Hy : Hym tys cA base adS Ex) : xall (fun b t => xOK l Dg clm tys cA flm ftm base adS GWm xym xcm xnm xrm Ex codem bmm bpm b t) 2 50 256 codem_303 :=
  And.intro (anm_301 Hy) (anm_302 Hy)
theorem anm_304 (Hy : Hym tys cA base adS Ex) : xall (fun b t => xOK l Dg clm tys cA flm ftm base adS GWm xym xcm xnm xrm Ex codem bmm bpm b t) 1 178 512 codem_304 :=
  And.intro (okm_178 Hy) (okm_690 Hy)
theorem anm_305 (Hy : Hym tys cA base adS Ex) : xall (fun b t => xOK l Dg clm tys cA flm ftm base adS GWm xym xcm xnm xrm Ex codem bmm bpm b t) 1 434 512 codem_305 :=
  And.intro (okm_434 Hy) (okm_946 Hy)
theorem anm_306 (Hy : Hym tys cA base adS Ex) : xall (fun b t => xOK l Dg clm tys cA flm ftm base adS GWm xym xcm xnm xrm Ex codem bmm bpm b t) 2 178 256 codem_306 :=
  And.intro (anm_304 Hy) (anm_305 Hy)
theorem anm_307 (Hy : Hym tys cA base adS Ex) : xall (fun b t => xOK l Dg clm tys cA flm ftm base adS GWm xym xcm xnm xrm Ex codem bmm bpm b t) 3 50 128 codem_307 :=
  And.intro (anm_303 Hy) (anm_306 Hy)
theorem anm_308 (Hy : Hym tys cA base adS Ex) : xall (fun b t => xOK l Dg clm tys cA flm ftm base adS GWm xym xcm xnm xrm Ex codem bmm bpm b t) 1 114 512 codem_308 :=
  And.intro (okm_114 Hy) (okm_626 Hy)
theorem anm_309 (Hy : Hym tys cA base adS Ex) : xall (fun b t => xOK l Dg clm tys cA flm ftm base adS GWm xym xcm xnm xrm Ex codem bmm bpm b t) 1 370 512 codem_309 :=
  And.intro (okm_370 Hy) (okm_882 Hy)
theorem anm_310 (Hy : Hym tys cA base adS Ex) : xall (fun b t => xOK l Dg clm tys cA flm ftm base adS GWm xym xcm xnm xrm Ex codem bmm bpm b t) 2 114 256 codem_310 :=
  And.intro (anm_308 Hy) (anm_309 Hy)
theorem anm_311 (Hy : Hym tys cA base adS Ex) : xall (fun b t => xOK l Dg clm tys cA flm ftm base adS GWm xym xcm xnm xrm Ex codem bmm bpm b t) 1 242 512 codem_311 :=
  And.intro (okm_242 Hy) (okm_754 Hy)
theorem anm_312 (Hy : Hym tys cA base adS Ex) : xall (fun b t => xOK l Dg clm tys cA flm ftm base adS GWm xym xcm xnm xrm Ex codem bmm bpm b t) 1 498 512 codem_312 :=
  And.intro (okm_498 Hy) (okzm 1010)
theorem anm_313 (Hy : Hym tys cA base adS Ex) : xall (fun b t => xOK l Dg clm tys cA flm ftm base adS GWm xym xcm xnm xrm Ex codem bmm bpm b t) 2 242 256 codem_313 :=
  And.intro (anm_311 Hy) (anm_312 Hy)
theorem anm_314 (Hy : Hym tys cA base adS Ex) : xall (fun b t => xOK l Dg clm tys cA flm ftm base adS GWm xym xcm xnm xrm Ex codem bmm bpm b t) 3 114 128 codem_314 :=
  And.intro (anm_310 Hy) (anm_313 Hy)
theorem anm_315 (Hy : Hym tys cA base adS Ex) : xall (fun b t => xOK l Dg clm tys cA flm ftm base adS GWm xym xcm xnm xrm Ex codem bmm bpm b t) 4 50 64 codem_315 :=
  And.intro (anm_307 Hy) (anm_314 Hy)
theorem anm_316 (Hy : Hym tys cA base adS Ex) : xall (fun b t => xOK l Dg clm tys cA flm ftm base adS GWm xym xcm xnm xrm Ex codem bmm bpm b t) 5 18 32 codem_316 :=
  And.intro (anm_300 Hy) (anm_315 Hy)
theorem anm_317 (Hy : Hym tys cA base adS Ex) : xall (fun b t => xOK l Dg clm tys cA flm ftm base adS GWm xym xcm xnm xrm Ex codem bmm bpm b t) 6 2 16 codem_317 :=
  And.intro (anm_285 Hy) (anm_316 Hy)
theorem anm_318 (Hy : Hym tys cA base adS Ex) : xall (fun b t => xOK l Dg clm tys cA flm ftm base adS GWm xym xcm xnm xrm Ex codem bmm bpm b t) 1 10 512 codem_318 :=
  And.intro (okm_10 Hy) (okm_522 Hy)
theorem anm_319 (Hy : Hym tys cA base adS Ex) : xall (fun b t => xOK l Dg clm tys cA flm ftm base adS GWm xym xcm xnm xrm Ex codem bmm bpm b t) 1 266 512 codem_319 :=
  And.intro (okm_266 Hy) (okm_778 Hy)
theorem anm_320 (Hy : Hym tys cA base adS Ex) : xall (fun b t => xOK l Dg clm tys cA flm ftm base adS GWm xym xcm xnm xrm Ex codem bmm bpm b t) 2 10 256 codem_320 :=
  And.intro (anm_318 Hy) (anm_319 Hy)
theorem anm_321 (Hy : Hym tys cA base adS Ex) : xall (fun b t => xOK l Dg clm tys cA flm ftm base adS GWm xym xcm xnm xrm Ex codem bmm bpm b t) 1 138 512 codem_321 :=
  And.intro (okm_138 Hy) (okm_650 Hy)
theorem anm_322 (Hy : Hym tys cA base adS Ex) : xall (fun b t => xOK l Dg clm tys cA flm ftm base adS GWm xym xcm xnm xrm Ex codem bmm bpm b t) 1 394 512 codem_322 :=
  And.intro (okm_394 Hy) (okm_906 Hy)
theorem anm_323 (Hy : Hym tys cA base adS Ex) : xall (fun b t => xOK l Dg clm tys cA flm ftm base adS GWm xym xcm xnm xrm Ex codem bmm bpm b t) 2 138 256 codem_323 :=
  And.intro (anm_321 Hy) (anm_322 Hy)
theorem anm_324 (Hy : Hym tys cA base adS Ex) : xall (fun b t => xOK l Dg clm tys cA flm ftm base adS GWm xym xcm xnm xrm Ex codem bmm bpm b t) 3 10 128 codem_324 :=
  And.intro (anm_320 Hy) (anm_323 Hy)
theorem anm_325 (Hy : Hym tys cA base adS Ex) : xall (fun b t => xOK l Dg clm tys cA flm ftm base adS GWm xym xcm xnm xrm Ex codem bmm bpm b t) 1 74 512 codem_325 :=
  And.intro (okm_74 Hy) (okm_586 Hy)
theorem anm_326 (Hy : Hym tys cA base adS Ex) : xall (fun b t => xOK l Dg clm tys cA flm ftm base adS GWm xym xcm xnm xrm Ex codem bmm bpm b t) 1 330 512 codem_326 :=
  And.intro (okm_330 Hy) (okm_842 Hy)
theorem anm_327 (Hy : Hym tys cA base adS Ex) : xall (fun b t => xOK l Dg clm tys cA flm ftm base adS GWm xym xcm xnm xrm Ex codem bmm bpm b t) 2 74 256 codem_327 :=
  And.intro (anm_325 Hy) (anm_326 Hy)
theorem anm_328 (Hy : Hym tys cA base adS Ex) : xall (fun b t => xOK l Dg clm tys cA flm ftm base adS GWm xym xcm xnm xrm Ex codem bmm bpm b t) 1 202 512 codem_328 :=
  And.intro (okm_202 Hy) (okm_714 Hy)
theorem anm_329 (Hy : Hym tys cA base adS Ex) : xall (fun b t => xOK l Dg clm tys cA flm ftm base adS GWm xym xcm xnm xrm Ex codem bmm bpm b t) 1 458 512 codem_329 :=
  And.intro (okm_458 Hy) (okzm 970)
theorem anm_330 (Hy : Hym tys cA base adS Ex) : xall (fun b t => xOK l Dg clm tys cA flm ftm base adS GWm xym xcm xnm xrm Ex codem bmm bpm b t) 2 202 256 codem_330 :=
  And.intro (anm_328 Hy) (anm_329 Hy)
theorem anm_331 (Hy : Hym tys cA base adS Ex) : xall (fun b t => xOK l Dg clm tys cA flm ftm base adS GWm xym xcm xnm xrm Ex codem bmm bpm b t) 3 74 128 codem_331 :=
  And.intro (anm_327 Hy) (anm_330 Hy)
theorem anm_332 (Hy : Hym tys cA base adS Ex) : xall (fun b t => xOK l Dg clm tys cA flm ftm base adS GWm xym xcm xnm xrm Ex codem bmm bpm b t) 4 10 64 codem_332 :=
  And.intro (anm_324 Hy) (anm_331 Hy)
theorem anm_333 (Hy : Hym tys cA base adS Ex) : xall (fun b t => xOK l Dg clm tys cA flm ftm base adS GWm xym xcm xnm xrm Ex codem bmm bpm b t) 1 42 512 codem_333 :=
  And.intro (okm_42 Hy) (okm_554 Hy)
theorem anm_334 (Hy : Hym tys cA base adS Ex) : xall (fun b t => xOK l Dg clm tys cA flm ftm base adS GWm xym xcm xnm xrm Ex codem bmm bpm b t) 1 298 512 codem_334 :=
  And.intro (okm_298 Hy) (okm_810 Hy)
theorem anm_335 (Hy : Hym tys cA base adS Ex) : xall (fun b t => xOK l Dg clm tys cA flm ftm base adS GWm xym xcm xnm xrm Ex codem bmm bpm b t) 2 42 256 codem_335 :=
  And.intro (anm_333 Hy) (anm_334 Hy)
theorem anm_336 (Hy : Hym tys cA base adS Ex) : xall (fun b t => xOK l Dg clm tys cA flm ftm base adS GWm xym xcm xnm xrm Ex codem bmm bpm b t) 1 170 512 codem_336 :=
  And.intro (okm_170 Hy) (okm_682 Hy)
theorem anm_337 (Hy : Hym tys cA base adS Ex) : xall (fun b t => xOK l Dg clm tys cA flm ftm base adS GWm xym xcm xnm xrm Ex codem bmm bpm b t) 1 426 512 codem_337 :=
  And.intro (okm_426 Hy) (okm_938 Hy)
theorem anm_338 (Hy : Hym tys cA base adS Ex) : xall (fun b t => xOK l Dg clm tys cA flm ftm base adS GWm xym xcm xnm xrm Ex codem bmm bpm b t) 2 170 256 codem_338 :=
  And.intro (anm_336 Hy) (anm_337 Hy)
theorem anm_339 (Hy : Hym tys cA base adS Ex) : xall (fun b t => xOK l Dg clm tys cA flm ftm base adS GWm xym xcm xnm xrm Ex codem bmm bpm b t) 3 42 128 codem_339 :=
  And.intro (anm_335 Hy) (anm_338 Hy)
theorem anm_340 (Hy : Hym tys cA base adS Ex) : xall (fun b t => xOK l Dg clm tys cA flm ftm base adS GWm xym xcm xnm xrm Ex codem bmm bpm b t) 1 106 512 codem_340 :=
  And.intro (okm_106 Hy) (okm_618 Hy)
theorem anm_341 (Hy : Hym tys cA base adS Ex) : xall (fun b t => xOK l Dg clm tys cA flm ftm base adS GWm xym xcm xnm xrm Ex codem bmm bpm b t) 1 362 512 codem_341 :=
  And.intro (okm_362 Hy) (okm_874 Hy)
theorem anm_342 (Hy : Hym tys cA base adS Ex) : xall (fun b t => xOK l Dg clm tys cA flm ftm base adS GWm xym xcm xnm xrm Ex codem bmm bpm b t) 2 106 256 codem_342 :=
  And.intro (anm_340 Hy) (anm_341 Hy)
theorem anm_343 (Hy : Hym tys cA base adS Ex) : xall (fun b t => xOK l Dg clm tys cA flm ftm base adS GWm xym xcm xnm xrm Ex codem bmm bpm b t) 1 234 512 codem_343 :=
  And.intro (okm_234 Hy) (okm_746 Hy)
theorem anm_344 (Hy : Hym tys cA base adS Ex) : xall (fun b t => xOK l Dg clm tys cA flm ftm base adS GWm xym xcm xnm xrm Ex codem bmm bpm b t) 1 490 512 codem_344 :=
  And.intro (okm_490 Hy) (okzm 1002)
theorem anm_345 (Hy : Hym tys cA base adS Ex) : xall (fun b t => xOK l Dg clm tys cA flm ftm base adS GWm xym xcm xnm xrm Ex codem bmm bpm b t) 2 234 256 codem_345 :=
  And.intro (anm_343 Hy) (anm_344 Hy)
theorem anm_346 (Hy : Hym tys cA base adS Ex) : xall (fun b t => xOK l Dg clm tys cA flm ftm base adS GWm xym xcm xnm xrm Ex codem bmm bpm b t) 3 106 128 codem_346 :=
  And.intro (anm_342 Hy) (anm_345 Hy)
theorem anm_347 (Hy : Hym tys cA base adS Ex) : xall (fun b t => xOK l Dg clm tys cA flm ftm base adS GWm xym xcm xnm xrm Ex codem bmm bpm b t) 4 42 64 codem_347 :=
  And.intro (anm_339 Hy) (anm_346 Hy)
theorem anm_348 (Hy : Hym tys cA base adS Ex) : xall (fun b t => xOK l Dg clm tys cA flm ftm base adS GWm xym xcm xnm xrm Ex codem bmm bpm b t) 5 10 32 codem_348 :=
  And.intro (anm_332 Hy) (anm_347 Hy)
theorem anm_349 (Hy : Hym tys cA base adS Ex) : xall (fun b t => xOK l Dg clm tys cA flm ftm base adS GWm xym xcm xnm xrm Ex codem bmm bpm b t) 1 26 512 codem_349 :=
  And.intro (okm_26 Hy) (okm_538 Hy)
theorem anm_350 (Hy : Hym tys cA base adS Ex) : xall (fun b t => xOK l Dg clm tys cA flm ftm base adS GWm xym xcm xnm xrm Ex codem bmm bpm b t) 1 282 512 codem_350 :=
  And.intro (okm_282 Hy) (okm_794 Hy)
theorem anm_351 (Hy : Hym tys cA base adS Ex) : xall (fun b t => xOK l Dg clm tys cA flm ftm base adS GWm xym xcm xnm xrm Ex codem bmm bpm b t) 2 26 256 codem_351 :=
  And.intro (anm_349 Hy) (anm_350 Hy)
theorem anm_352 (Hy : Hym tys cA base adS Ex) : xall (fun b t => xOK l Dg clm tys cA flm ftm base adS GWm xym xcm xnm xrm Ex codem bmm bpm b t) 1 154 512 codem_352 :=
  And.intro (okm_154 Hy) (okm_666 Hy)
theorem anm_353 (Hy : Hym tys cA base adS Ex) : xall (fun b t => xOK l Dg clm tys cA flm ftm base adS GWm xym xcm xnm xrm Ex codem bmm bpm b t) 1 410 512 codem_353 :=
  And.intro (okm_410 Hy) (okm_922 Hy)
theorem anm_354 (Hy : Hym tys cA base adS Ex) : xall (fun b t => xOK l Dg clm tys cA flm ftm base adS GWm xym xcm xnm xrm Ex codem bmm bpm b t) 2 154 256 codem_354 :=
  And.intro (anm_352 Hy) (anm_353 Hy)
theorem anm_355 (Hy : Hym tys cA base adS Ex) : xall (fun b t => xOK l Dg clm tys cA flm ftm base adS GWm xym xcm xnm xrm Ex codem bmm bpm b t) 3 26 128 codem_355 :=
  And.intro (anm_351 Hy) (anm_354 Hy)
theorem anm_356 (Hy : Hym tys cA base adS Ex) : xall (fun b t => xOK l Dg clm tys cA flm ftm base adS GWm xym xcm xnm xrm Ex codem bmm bpm b t) 1 90 512 codem_356 :=
  And.intro (okm_90 Hy) (okm_602 Hy)
theorem anm_357 (Hy : Hym tys cA base adS Ex) : xall (fun b t => xOK l Dg clm tys cA flm ftm base adS GWm xym xcm xnm xrm Ex codem bmm bpm b t) 1 346 512 codem_357 :=
  And.intro (okm_346 Hy) (okm_858 Hy)
theorem anm_358 (Hy : Hym tys cA base adS Ex) : xall (fun b t => xOK l Dg clm tys cA flm ftm base adS GWm xym xcm xnm xrm Ex codem bmm bpm b t) 2 90 256 codem_358 :=
  And.intro (anm_356 Hy) (anm_357 Hy)
theorem anm_359 (Hy : Hym tys cA base adS Ex) : xall (fun b t => xOK l Dg clm tys cA flm ftm base adS GWm xym xcm xnm xrm Ex codem bmm bpm b t) 1 218 512 codem_359 :=
  And.intro (okm_218 Hy) (okm_730 Hy)
theorem anm_360 (Hy : Hym tys cA base adS Ex) : xall (fun b t => xOK l Dg clm tys cA flm ftm base adS GWm xym xcm xnm xrm Ex codem bmm bpm b t) 1 474 512 codem_360 :=
  And.intro (okm_474 Hy) (okzm 986)
theorem anm_361 (Hy : Hym tys cA base adS Ex) : xall (fun b t => xOK l Dg clm tys cA flm ftm base adS GWm xym xcm xnm xrm Ex codem bmm bpm b t) 2 218 256 codem_361 :=
  And.intro (anm_359 Hy) (anm_360 Hy)
theorem anm_362 (Hy : Hym tys cA base adS Ex) : xall (fun b t => xOK l Dg clm tys cA flm ftm base adS GWm xym xcm xnm xrm Ex codem bmm bpm b t) 3 90 128 codem_362 :=
  And.intro (anm_358 Hy) (anm_361 Hy)
theorem anm_363 (Hy : Hym tys cA base adS Ex) : xall (fun b t => xOK l Dg clm tys cA flm ftm base adS GWm xym xcm xnm xrm Ex codem bmm bpm b t) 4 26 64 codem_363 :=
  And.intro (anm_355 Hy) (anm_362 Hy)
theorem anm_364 (Hy : Hym tys cA base adS Ex) : xall (fun b t => xOK l Dg clm tys cA flm ftm base adS GWm xym xcm xnm xrm Ex codem bmm bpm b t) 1 58 512 codem_364 :=
  And.intro (okm_58 Hy) (okm_570 Hy)
theorem anm_365 (Hy : Hym tys cA base adS Ex) : xall (fun b t => xOK l Dg clm tys cA flm ftm base adS GWm xym xcm xnm xrm Ex codem bmm bpm b t) 1 314 512 codem_365 :=
  And.intro (okm_314 Hy) (okm_826 Hy)
theorem anm_366 (Hy : Hym tys cA base adS Ex) : xall (fun b t => xOK l Dg clm tys cA flm ftm base adS GWm xym xcm xnm xrm Ex codem bmm bpm b t) 2 58 256 codem_366 :=
  And.intro (anm_364 Hy) (anm_365 Hy)
theorem anm_367 (Hy : Hym tys cA base adS Ex) : xall (fun b t => xOK l Dg clm tys cA flm ftm base adS GWm xym xcm xnm xrm Ex codem bmm bpm b t) 1 186 512 codem_367 :=
  And.intro (okm_186 Hy) (okm_698 Hy)
theorem anm_368 (Hy : Hym tys cA base adS Ex) : xall (fun b t => xOK l Dg clm tys cA flm ftm base adS GWm xym xcm xnm xrm Ex codem bmm bpm b t) 1 442 512 codem_368 :=
  And.intro (okm_442 Hy) (okm_954 Hy)
theorem anm_369 (Hy : Hym tys cA base adS Ex) : xall (fun b t => xOK l Dg clm tys cA flm ftm base adS GWm xym xcm xnm xrm Ex codem bmm bpm b t) 2 186 256 codem_369 :=
  And.intro (anm_367 Hy) (anm_368 Hy)
theorem anm_370 (Hy : Hym tys cA base adS Ex) : xall (fun b t => xOK l Dg clm tys cA flm ftm base adS GWm xym xcm xnm xrm Ex codem bmm bpm b t) 3 58 128 codem_370 :=
  And.intro (anm_366 Hy) (anm_369 Hy)
theorem anm_371 (Hy : Hym tys cA base adS Ex) : xall (fun b t => xOK l Dg clm tys cA flm ftm base adS GWm xym xcm xnm xrm Ex codem bmm bpm b t) 1 122 512 codem_371 :=
  And.intro (okm_122 Hy) (okm_634 Hy)
theorem anm_372 (Hy : Hym tys cA base adS Ex) : xall (fun b t => xOK l Dg clm tys cA flm ftm base adS GWm xym xcm xnm xrm Ex codem bmm bpm b t) 1 378 512 codem_372 :=
  And.intro (okm_378 Hy) (okm_890 Hy)
theorem anm_373 (Hy : Hym tys cA base adS Ex) : xall (fun b t => xOK l Dg clm tys cA flm ftm base adS GWm xym xcm xnm xrm Ex codem bmm bpm b t) 2 122 256 codem_373 :=
  And.intro (anm_371 Hy) (anm_372 Hy)
theorem anm_374 (Hy : Hym tys cA base adS Ex) : xall (fun b t => xOK l Dg clm tys cA flm ftm base adS GWm xym xcm xnm xrm Ex codem bmm bpm b t) 1 250 512 codem_374 :=
  And.intro (okm_250 Hy) (okm_762 Hy)
theorem anm_375 (Hy : Hym tys cA base adS Ex) : xall (fun b t => xOK l Dg clm tys cA flm ftm base adS GWm xym xcm xnm xrm Ex codem bmm bpm b t) 1 506 512 codem_375 :=
  And.intro (okm_506 Hy) (okzm 1018)
theorem anm_376 (Hy : Hym tys cA base adS Ex) : xall (fun b t => xOK l Dg clm tys cA flm ftm base adS GWm xym xcm xnm xrm Ex codem bmm bpm b t) 2 250 256 codem_376 :=
  And.intro (anm_374 Hy) (anm_375 Hy)
theorem anm_377 (Hy : Hym tys cA base adS Ex) : xall (fun b t => xOK l Dg clm tys cA flm ftm base adS GWm xym xcm xnm xrm Ex codem bmm bpm b t) 3 122 128 codem_377 :=
  And.intro (anm_373 Hy) (anm_376 Hy)
theorem anm_378 (Hy : Hym tys cA base adS Ex) : xall (fun b t => xOK l Dg clm tys cA flm ftm base adS GWm xym xcm xnm xrm Ex codem bmm bpm b t) 4 58 64 codem_378 :=
  And.intro (anm_370 Hy) (anm_377 Hy)
theorem anm_379 (Hy : Hym tys cA base adS Ex) : xall (fun b t => xOK l Dg clm tys cA flm ftm base adS GWm xym xcm xnm xrm Ex codem bmm bpm b t) 5 26 32 codem_379 :=
  And.intro (anm_363 Hy) (anm_378 Hy)
theorem anm_380 (Hy : Hym tys cA base adS Ex) : xall (fun b t => xOK l Dg clm tys cA flm ftm base adS GWm xym xcm xnm xrm Ex codem bmm bpm b t) 6 10 16 codem_380 :=
  And.intro (anm_348 Hy) (anm_379 Hy)
theorem anm_381 (Hy : Hym tys cA base adS Ex) : xall (fun b t => xOK l Dg clm tys cA flm ftm base adS GWm xym xcm xnm xrm Ex codem bmm bpm b t) 7 2 8 codem_381 :=
  And.intro (anm_317 Hy) (anm_380 Hy)
theorem anm_382 (Hy : Hym tys cA base adS Ex) : xall (fun b t => xOK l Dg clm tys cA flm ftm base adS GWm xym xcm xnm xrm Ex codem bmm bpm b t) 1 6 512 codem_382 :=
  And.intro (okm_6 Hy) (okm_518 Hy)
theorem anm_383 (Hy : Hym tys cA base adS Ex) : xall (fun b t => xOK l Dg clm tys cA flm ftm base adS GWm xym xcm xnm xrm Ex codem bmm bpm b t) 1 262 512 codem_383 :=
  And.intro (okm_262 Hy) (okm_774 Hy)
theorem anm_384 (Hy : Hym tys cA base adS Ex) : xall (fun b t => xOK l Dg clm tys cA flm ftm base adS GWm xym xcm xnm xrm Ex codem bmm bpm b t) 2 6 256 codem_384 :=
  And.intro (anm_382 Hy) (anm_383 Hy)
theorem anm_385 (Hy : Hym tys cA base adS Ex) : xall (fun b t => xOK l Dg clm tys cA flm ftm base adS GWm xym xcm xnm xrm Ex codem bmm bpm b t) 1 134 512 codem_385 :=
  And.intro (okm_134 Hy) (okm_646 Hy)
theorem anm_386 (Hy : Hym tys cA base adS Ex) : xall (fun b t => xOK l Dg clm tys cA flm ftm base adS GWm xym xcm xnm xrm Ex codem bmm bpm b t) 1 390 512 codem_386 :=
  And.intro (okm_390 Hy) (okm_902 Hy)
theorem anm_387 (Hy : Hym tys cA base adS Ex) : xall (fun b t => xOK l Dg clm tys cA flm ftm base adS GWm xym xcm xnm xrm Ex codem bmm bpm b t) 2 134 256 codem_387 :=
  And.intro (anm_385 Hy) (anm_386 Hy)
theorem anm_388 (Hy : Hym tys cA base adS Ex) : xall (fun b t => xOK l Dg clm tys cA flm ftm base adS GWm xym xcm xnm xrm Ex codem bmm bpm b t) 3 6 128 codem_388 :=
  And.intro (anm_384 Hy) (anm_387 Hy)
theorem anm_389 (Hy : Hym tys cA base adS Ex) : xall (fun b t => xOK l Dg clm tys cA flm ftm base adS GWm xym xcm xnm xrm Ex codem bmm bpm b t) 1 70 512 codem_389 :=
  And.intro (okm_70 Hy) (okm_582 Hy)
theorem anm_390 (Hy : Hym tys cA base adS Ex) : xall (fun b t => xOK l Dg clm tys cA flm ftm base adS GWm xym xcm xnm xrm Ex codem bmm bpm b t) 1 326 512 codem_390 :=
  And.intro (okm_326 Hy) (okm_838 Hy)
theorem anm_391 (Hy : Hym tys cA base adS Ex) : xall (fun b t => xOK l Dg clm tys cA flm ftm base adS GWm xym xcm xnm xrm Ex codem bmm bpm b t) 2 70 256 codem_391 :=
  And.intro (anm_389 Hy) (anm_390 Hy)
theorem anm_392 (Hy : Hym tys cA base adS Ex) : xall (fun b t => xOK l Dg clm tys cA flm ftm base adS GWm xym xcm xnm xrm Ex codem bmm bpm b t) 1 198 512 codem_392 :=
  And.intro (okm_198 Hy) (okm_710 Hy)
theorem anm_393 (Hy : Hym tys cA base adS Ex) : xall (fun b t => xOK l Dg clm tys cA flm ftm base adS GWm xym xcm xnm xrm Ex codem bmm bpm b t) 1 454 512 codem_393 :=
  And.intro (okm_454 Hy) (okzm 966)
theorem anm_394 (Hy : Hym tys cA base adS Ex) : xall (fun b t => xOK l Dg clm tys cA flm ftm base adS GWm xym xcm xnm xrm Ex codem bmm bpm b t) 2 198 256 codem_394 :=
  And.intro (anm_392 Hy) (anm_393 Hy)
theorem anm_395 (Hy : Hym tys cA base adS Ex) : xall (fun b t => xOK l Dg clm tys cA flm ftm base adS GWm xym xcm xnm xrm Ex codem bmm bpm b t) 3 70 128 codem_395 :=
  And.intro (anm_391 Hy) (anm_394 Hy)
theorem anm_396 (Hy : Hym tys cA base adS Ex) : xall (fun b t => xOK l Dg clm tys cA flm ftm base adS GWm xym xcm xnm xrm Ex codem bmm bpm b t) 4 6 64 codem_396 :=
  And.intro (anm_388 Hy) (anm_395 Hy)
theorem anm_397 (Hy : Hym tys cA base adS Ex) : xall (fun b t => xOK l Dg clm tys cA flm ftm base adS GWm xym xcm xnm xrm Ex codem bmm bpm b t) 1 38 512 codem_397 :=
  And.intro (okm_38 Hy) (okm_550 Hy)
theorem anm_398 (Hy : Hym tys cA base adS Ex) : xall (fun b t => xOK l Dg clm tys cA flm ftm base adS GWm xym xcm xnm xrm Ex codem bmm bpm b t) 1 294 512 codem_398 :=
  And.intro (okm_294 Hy) (okm_806 Hy)
theorem anm_399 (Hy : Hym tys cA base adS Ex) : xall (fun b t => xOK l Dg clm tys cA flm ftm base adS GWm xym xcm xnm xrm Ex codem bmm bpm b t) 2 38 256 codem_399 :=
  And.intro (anm_397 Hy) (anm_398 Hy)
theorem anm_400 (Hy : Hym tys cA base adS Ex) : xall (fun b t => xOK l Dg clm tys cA flm ftm base adS GWm xym xcm xnm xrm Ex codem bmm bpm b t) 1 166 512 codem_400 :=
  And.intro (okm_166 Hy) (okm_678 Hy)
theorem anm_401 (Hy : Hym tys cA base adS Ex) : xall (fun b t => xOK l Dg clm tys cA flm ftm base adS GWm xym xcm xnm xrm Ex codem bmm bpm b t) 1 422 512 codem_401 :=
  And.intro (okm_422 Hy) (okm_934 Hy)
theorem anm_402 (Hy : Hym tys cA base adS Ex) : xall (fun b t => xOK l Dg clm tys cA flm ftm base adS GWm xym xcm xnm xrm Ex codem bmm bpm b t) 2 166 256 codem_402 :=
  And.intro (anm_400 Hy) (anm_401 Hy)
theorem anm_403 (Hy : Hym tys cA base adS Ex) : xall (fun b t => xOK l Dg clm tys cA flm ftm base adS GWm xym xcm xnm xrm Ex codem bmm bpm b t) 3 38 128 codem_403 :=
  And.intro (anm_399 Hy) (anm_402 Hy)
theorem anm_404 (Hy : Hym tys cA base adS Ex) : xall (fun b t => xOK l Dg clm tys cA flm ftm base adS GWm xym xcm xnm xrm Ex codem bmm bpm b t) 1 102 512 codem_404 :=
  And.intro (okm_102 Hy) (okm_614 Hy)
theorem anm_405 (Hy : Hym tys cA base adS Ex) : xall (fun b t => xOK l Dg clm tys cA flm ftm base adS GWm xym xcm xnm xrm Ex codem bmm bpm b t) 1 358 512 codem_405 :=
  And.intro (okm_358 Hy) (okm_870 Hy)
theorem anm_406 (Hy : Hym tys cA base adS Ex) : xall (fun b t => xOK l Dg clm tys cA flm ftm base adS GWm xym xcm xnm xrm Ex codem bmm bpm b t) 2 102 256 codem_406 :=
  And.intro (anm_404 Hy) (anm_405 Hy)
theorem anm_407 (Hy : Hym tys cA base adS Ex) : xall (fun b t => xOK l Dg clm tys cA flm ftm base adS GWm xym xcm xnm xrm Ex codem bmm bpm b t) 1 230 512 codem_407 :=
  And.intro (okm_230 Hy) (okm_742 Hy)
theorem anm_408 (Hy : Hym tys cA base adS Ex) : xall (fun b t => xOK l Dg clm tys cA flm ftm base adS GWm xym xcm xnm xrm Ex codem bmm bpm b t) 1 486 512 codem_408 :=
  And.intro (okm_486 Hy) (okzm 998)
theorem anm_409 (Hy : Hym tys cA base adS Ex) : xall (fun b t => xOK l Dg clm tys cA flm ftm base adS GWm xym xcm xnm xrm Ex codem bmm bpm b t) 2 230 256 codem_409 :=
  And.intro (anm_407 Hy) (anm_408 Hy)
theorem anm_410 (Hy : Hym tys cA base adS Ex) : xall (fun b t => xOK l Dg clm tys cA flm ftm base adS GWm xym xcm xnm xrm Ex codem bmm bpm b t) 3 102 128 codem_410 :=
  And.intro (anm_406 Hy) (anm_409 Hy)
theorem anm_411 (Hy : Hym tys cA base adS Ex) : xall (fun b t => xOK l Dg clm tys cA flm ftm base adS GWm xym xcm xnm xrm Ex codem bmm bpm b t) 4 38 64 codem_411 :=
  And.intro (anm_403 Hy) (anm_410 Hy)
theorem anm_412 (Hy : Hym tys cA base adS Ex) : xall (fun b t => xOK l Dg clm tys cA flm ftm base adS GWm xym xcm xnm xrm Ex codem bmm bpm b t) 5 6 32 codem_412 :=
  And.intro (anm_396 Hy) (anm_411 Hy)
theorem anm_413 (Hy : Hym tys cA base adS Ex) : xall (fun b t => xOK l Dg clm tys cA flm ftm base adS GWm xym xcm xnm xrm Ex codem bmm bpm b t) 1 22 512 codem_413 :=
  And.intro (okm_22 Hy) (okm_534 Hy)
theorem anm_414 (Hy : Hym tys cA base adS Ex) : xall (fun b t => xOK l Dg clm tys cA flm ftm base adS GWm xym xcm xnm xrm Ex codem bmm bpm b t) 1 278 512 codem_414 :=
  And.intro (okm_278 Hy) (okm_790 Hy)
theorem anm_415 (Hy : Hym tys cA base adS Ex) : xall (fun b t => xOK l Dg clm tys cA flm ftm base adS GWm xym xcm xnm xrm Ex codem bmm bpm b t) 2 22 256 codem_415 :=
  And.intro (anm_413 Hy) (anm_414 Hy)
theorem anm_416 (Hy : Hym tys cA base adS Ex) : xall (fun b t => xOK l Dg clm tys cA flm ftm base adS GWm xym xcm xnm xrm Ex codem bmm bpm b t) 1 150 512 codem_416 :=
  And.intro (okm_150 Hy) (okm_662 Hy)
theorem anm_417 (Hy : Hym tys cA base adS Ex) : xall (fun b t => xOK l Dg clm tys cA flm ftm base adS GWm xym xcm xnm xrm Ex codem bmm bpm b t) 1 406 512 codem_417 :=
  And.intro (okm_406 Hy) (okm_918 Hy)
theorem anm_418 (Hy : Hym tys cA base adS Ex) : xall (fun b t => xOK l Dg clm tys cA flm ftm base adS GWm xym xcm xnm xrm Ex codem bmm bpm b t) 2 150 256 codem_418 :=
  And.intro (anm_416 Hy) (anm_417 Hy)
theorem anm_419 (Hy : Hym tys cA base adS Ex) : xall (fun b t => xOK l Dg clm tys cA flm ftm base adS GWm xym xcm xnm xrm Ex codem bmm bpm b t) 3 22 128 codem_419 :=
  And.intro (anm_415 Hy) (anm_418 Hy)
theorem anm_420 (Hy : Hym tys cA base adS Ex) : xall (fun b t => xOK l Dg clm tys cA flm ftm base adS GWm xym xcm xnm xrm Ex codem bmm bpm b t) 1 86 512 codem_420 :=
  And.intro (okm_86 Hy) (okm_598 Hy)
theorem anm_421 (Hy : Hym tys cA base adS Ex) : xall (fun b t => xOK l Dg clm tys cA flm ftm base adS GWm xym xcm xnm xrm Ex codem bmm bpm b t) 1 342 512 codem_421 :=
  And.intro (okm_342 Hy) (okm_854 Hy)
theorem anm_422 (Hy : Hym tys cA base adS Ex) : xall (fun b t => xOK l Dg clm tys cA flm ftm base adS GWm xym xcm xnm xrm Ex codem bmm bpm b t) 2 86 256 codem_422 :=
  And.intro (anm_420 Hy) (anm_421 Hy)
theorem anm_423 (Hy : Hym tys cA base adS Ex) : xall (fun b t => xOK l Dg clm tys cA flm ftm base adS GWm xym xcm xnm xrm Ex codem bmm bpm b t) 1 214 512 codem_423 :=
  And.intro (okm_214 Hy) (okm_726 Hy)
theorem anm_424 (Hy : Hym tys cA base adS Ex) : xall (fun b t => xOK l Dg clm tys cA flm ftm base adS GWm xym xcm xnm xrm Ex codem bmm bpm b t) 1 470 512 codem_424 :=
  And.intro (okm_470 Hy) (okzm 982)
theorem anm_425 (Hy : Hym tys cA base adS Ex) : xall (fun b t => xOK l Dg clm tys cA flm ftm base adS GWm xym xcm xnm xrm Ex codem bmm bpm b t) 2 214 256 codem_425 :=
  And.intro (anm_423 Hy) (anm_424 Hy)
theorem anm_426 (Hy : Hym tys cA base adS Ex) : xall (fun b t => xOK l Dg clm tys cA flm ftm base adS GWm xym xcm xnm xrm Ex codem bmm bpm b t) 3 86 128 codem_426 :=
  And.intro (anm_422 Hy) (anm_425 Hy)
theorem anm_427 (Hy : Hym tys cA base adS Ex) : xall (fun b t => xOK l Dg clm tys cA flm ftm base adS GWm xym xcm xnm xrm Ex codem bmm bpm b t) 4 22 64 codem_427 :=
  And.intro (anm_419 Hy) (anm_426 Hy)
theorem anm_428 (Hy : Hym tys cA base adS Ex) : xall (fun b t => xOK l Dg clm tys cA flm ftm base adS GWm xym xcm xnm xrm Ex codem bmm bpm b t) 1 54 512 codem_428 :=
  And.intro (okm_54 Hy) (okm_566 Hy)
theorem anm_429 (Hy : Hym tys cA base adS Ex) : xall (fun b t => xOK l Dg clm tys cA flm ftm base adS GWm xym xcm xnm xrm Ex codem bmm bpm b t) 1 310 512 codem_429 :=
  And.intro (okm_310 Hy) (okm_822 Hy)
theorem anm_430 (Hy : Hym tys cA base adS Ex) : xall (fun b t => xOK l Dg clm tys cA flm ftm base adS GWm xym xcm xnm xrm Ex codem bmm bpm b t) 2 54 256 codem_430 :=
  And.intro (anm_428 Hy) (anm_429 Hy)
theorem anm_431 (Hy : Hym tys cA base adS Ex) : xall (fun b t => xOK l Dg clm tys cA flm ftm base adS GWm xym xcm xnm xrm Ex codem bmm bpm b t) 1 182 512 codem_431 :=
  And.intro (okm_182 Hy) (okm_694 Hy)
theorem anm_432 (Hy : Hym tys cA base adS Ex) : xall (fun b t => xOK l Dg clm tys cA flm ftm base adS GWm xym xcm xnm xrm Ex codem bmm bpm b t) 1 438 512 codem_432 :=
  And.intro (okm_438 Hy) (okm_950 Hy)
theorem anm_433 (Hy : Hym tys cA base adS Ex) : xall (fun b t => xOK l Dg clm tys cA flm ftm base adS GWm xym xcm xnm xrm Ex codem bmm bpm b t) 2 182 256 codem_433 :=
  And.intro (anm_431 Hy) (anm_432 Hy)
theorem anm_434 (Hy : Hym tys cA base adS Ex) : xall (fun b t => xOK l Dg clm tys cA flm ftm base adS GWm xym xcm xnm xrm Ex codem bmm bpm b t) 3 54 128 codem_434 :=
  And.intro (anm_430 Hy) (anm_433 Hy)
theorem anm_435 (Hy : Hym tys cA base adS Ex) : xall (fun b t => xOK l Dg clm tys cA flm ftm base adS GWm xym xcm xnm xrm Ex codem bmm bpm b t) 1 118 512 codem_435 :=
  And.intro (okm_118 Hy) (okm_630 Hy)
theorem anm_436 (Hy : Hym tys cA base adS Ex) : xall (fun b t => xOK l Dg clm tys cA flm ftm base adS GWm xym xcm xnm xrm Ex codem bmm bpm b t) 1 374 512 codem_436 :=
  And.intro (okm_374 Hy) (okm_886 Hy)
theorem anm_437 (Hy : Hym tys cA base adS Ex) : xall (fun b t => xOK l Dg clm tys cA flm ftm base adS GWm xym xcm xnm xrm Ex codem bmm bpm b t) 2 118 256 codem_437 :=
  And.intro (anm_435 Hy) (anm_436 Hy)
theorem anm_438 (Hy : Hym tys cA base adS Ex) : xall (fun b t => xOK l Dg clm tys cA flm ftm base adS GWm xym xcm xnm xrm Ex codem bmm bpm b t) 1 246 512 codem_438 :=
  And.intro (okm_246 Hy) (okm_758 Hy)
theorem anm_439 (Hy : Hym tys cA base adS Ex) : xall (fun b t => xOK l Dg clm tys cA flm ftm base adS GWm xym xcm xnm xrm Ex codem bmm bpm b t) 1 502 512 codem_439 :=
  And.intro (okm_502 Hy) (okzm 1014)
theorem anm_440 (Hy : Hym tys cA base adS Ex) : xall (fun b t => xOK l Dg clm tys cA flm ftm base adS GWm xym xcm xnm xrm Ex codem bmm bpm b t) 2 246 256 codem_440 :=
  And.intro (anm_438 Hy) (anm_439 Hy)
theorem anm_441 (Hy : Hym tys cA base adS Ex) : xall (fun b t => xOK l Dg clm tys cA flm ftm base adS GWm xym xcm xnm xrm Ex codem bmm bpm b t) 3 118 128 codem_441 :=
  And.intro (anm_437 Hy) (anm_440 Hy)
theorem anm_442 (Hy : Hym tys cA base adS Ex) : xall (fun b t => xOK l Dg clm tys cA flm ftm base adS GWm xym xcm xnm xrm Ex codem bmm bpm b t) 4 54 64 codem_442 :=
  And.intro (anm_434 Hy) (anm_441 Hy)
theorem anm_443 (Hy : Hym tys cA base adS Ex) : xall (fun b t => xOK l Dg clm tys cA flm ftm base adS GWm xym xcm xnm xrm Ex codem bmm bpm b t) 5 22 32 codem_443 :=
  And.intro (anm_427 Hy) (anm_442 Hy)
theorem anm_444 (Hy : Hym tys cA base adS Ex) : xall (fun b t => xOK l Dg clm tys cA flm ftm base adS GWm xym xcm xnm xrm Ex codem bmm bpm b t) 6 6 16 codem_444 :=
  And.intro (anm_412 Hy) (anm_443 Hy)
theorem anm_445 (Hy : Hym tys cA base adS Ex) : xall (fun b t => xOK l Dg clm tys cA flm ftm base adS GWm xym xcm xnm xrm Ex codem bmm bpm b t) 1 14 512 codem_445 :=
  And.intro (okm_14 Hy) (okm_526 Hy)
theorem anm_446 (Hy : Hym tys cA base adS Ex) : xall (fun b t => xOK l Dg clm tys cA flm ftm base adS GWm xym xcm xnm xrm Ex codem bmm bpm b t) 1 270 512 codem_446 :=
  And.intro (okm_270 Hy) (okm_782 Hy)
theorem anm_447 (Hy : Hym tys cA base adS Ex) : xall (fun b t => xOK l Dg clm tys cA flm ftm base adS GWm xym xcm xnm xrm Ex codem bmm bpm b t) 2 14 256 codem_447 :=
  And.intro (anm_445 Hy) (anm_446 Hy)
theorem anm_448 (Hy : Hym tys cA base adS Ex) : xall (fun b t => xOK l Dg clm tys cA flm ftm base adS GWm xym xcm xnm xrm Ex codem bmm bpm b t) 1 142 512 codem_448 :=
  And.intro (okm_142 Hy) (okm_654 Hy)
theorem anm_449 (Hy : Hym tys cA base adS Ex) : xall (fun b t => xOK l Dg clm tys cA flm ftm base adS GWm xym xcm xnm xrm Ex codem bmm bpm b t) 1 398 512 codem_449 :=
  And.intro (okm_398 Hy) (okm_910 Hy)
theorem anm_450 (Hy : Hym tys cA base adS Ex) : xall (fun b t => xOK l Dg clm tys cA flm ftm base adS GWm xym xcm xnm xrm Ex codem bmm bpm b t) 2 142 256 codem_450 :=
  And.intro (anm_448 Hy) (anm_449 Hy)
theorem anm_451 (Hy : Hym tys cA base adS Ex) : xall (fun b t => xOK l Dg clm tys cA flm ftm base adS GWm xym xcm xnm xrm Ex codem bmm bpm b t) 3 14 128 codem_451 :=
  And.intro (anm_447 Hy) (anm_450 Hy)
theorem anm_452 (Hy : Hym tys cA base adS Ex) : xall (fun b t => xOK l Dg clm tys cA flm ftm base adS GWm xym xcm xnm xrm Ex codem bmm bpm b t) 1 78 512 codem_452 :=
  And.intro (okm_78 Hy) (okm_590 Hy)
theorem anm_453 (Hy : Hym tys cA base adS Ex) : xall (fun b t => xOK l Dg clm tys cA flm ftm base adS GWm xym xcm xnm xrm Ex codem bmm bpm b t) 1 334 512 codem_453 :=
  And.intro (okm_334 Hy) (okm_846 Hy)
theorem anm_454 (Hy : Hym tys cA base adS Ex) : xall (fun b t => xOK l Dg clm tys cA flm ftm base adS GWm xym xcm xnm xrm Ex codem bmm bpm b t) 2 78 256 codem_454 :=
  And.intro (anm_452 Hy) (anm_453 Hy)
theorem anm_455 (Hy : Hym tys cA base adS Ex) : xall (fun b t => xOK l Dg clm tys cA flm ftm base adS GWm xym xcm xnm xrm Ex codem bmm bpm b t) 1 206 512 codem_455 :=
  And.intro (okm_206 Hy) (okm_718 Hy)
theorem anm_456 (Hy : Hym tys cA base adS Ex) : xall (fun b t => xOK l Dg clm tys cA flm ftm base adS GWm xym xcm xnm xrm Ex codem bmm bpm b t) 1 462 512 codem_456 :=
  And.intro (okm_462 Hy) (okzm 974)
theorem anm_457 (Hy : Hym tys cA base adS Ex) : xall (fun b t => xOK l Dg clm tys cA flm ftm base adS GWm xym xcm xnm xrm Ex codem bmm bpm b t) 2 206 256 codem_457 :=
  And.intro (anm_455 Hy) (anm_456 Hy)
theorem anm_458 (Hy : Hym tys cA base adS Ex) : xall (fun b t => xOK l Dg clm tys cA flm ftm base adS GWm xym xcm xnm xrm Ex codem bmm bpm b t) 3 78 128 codem_458 :=
  And.intro (anm_454 Hy) (anm_457 Hy)
theorem anm_459 (Hy : Hym tys cA base adS Ex) : xall (fun b t => xOK l Dg clm tys cA flm ftm base adS GWm xym xcm xnm xrm Ex codem bmm bpm b t) 4 14 64 codem_459 :=
  And.intro (anm_451 Hy) (anm_458 Hy)
theorem anm_460 (Hy : Hym tys cA base adS Ex) : xall (fun b t => xOK l Dg clm tys cA flm ftm base adS GWm xym xcm xnm xrm Ex codem bmm bpm b t) 1 46 512 codem_460 :=
  And.intro (okm_46 Hy) (okm_558 Hy)
theorem anm_461 (Hy : Hym tys cA base adS Ex) : xall (fun b t => xOK l Dg clm tys cA flm ftm base adS GWm xym xcm xnm xrm Ex codem bmm bpm b t) 1 302 512 codem_461 :=
  And.intro (okm_302 Hy) (okm_814 Hy)
theorem anm_462 (Hy : Hym tys cA base adS Ex) : xall (fun b t => xOK l Dg clm tys cA flm ftm base adS GWm xym xcm xnm xrm Ex codem bmm bpm b t) 2 46 256 codem_462 :=
  And.intro (anm_460 Hy) (anm_461 Hy)
theorem anm_463 (Hy : Hym tys cA base adS Ex) : xall (fun b t => xOK l Dg clm tys cA flm ftm base adS GWm xym xcm xnm xrm Ex codem bmm bpm b t) 1 174 512 codem_463 :=
  And.intro (okm_174 Hy) (okm_686 Hy)
theorem anm_464 (Hy : Hym tys cA base adS Ex) : xall (fun b t => xOK l Dg clm tys cA flm ftm base adS GWm xym xcm xnm xrm Ex codem bmm bpm b t) 1 430 512 codem_464 :=
  And.intro (okm_430 Hy) (okm_942 Hy)
theorem anm_465 (Hy : Hym tys cA base adS Ex) : xall (fun b t => xOK l Dg clm tys cA flm ftm base adS GWm xym xcm xnm xrm Ex codem bmm bpm b t) 2 174 256 codem_465 :=
  And.intro (anm_463 Hy) (anm_464 Hy)
theorem anm_466 (Hy : Hym tys cA base adS Ex) : xall (fun b t => xOK l Dg clm tys cA flm ftm base adS GWm xym xcm xnm xrm Ex codem bmm bpm b t) 3 46 128 codem_466 :=
  And.intro (anm_462 Hy) (anm_465 Hy)
theorem anm_467 (Hy : Hym tys cA base adS Ex) : xall (fun b t => xOK l Dg clm tys cA flm ftm base adS GWm xym xcm xnm xrm Ex codem bmm bpm b t) 1 110 512 codem_467 :=
  And.intro (okm_110 Hy) (okm_622 Hy)
theorem anm_468 (Hy : Hym tys cA base adS Ex) : xall (fun b t => xOK l Dg clm tys cA flm ftm base adS GWm xym xcm xnm xrm Ex codem bmm bpm b t) 1 366 512 codem_468 :=
  And.intro (okm_366 Hy) (okm_878 Hy)
theorem anm_469 (Hy : Hym tys cA base adS Ex) : xall (fun b t => xOK l Dg clm tys cA flm ftm base adS GWm xym xcm xnm xrm Ex codem bmm bpm b t) 2 110 256 codem_469 :=
  And.intro (anm_467 Hy) (anm_468 Hy)
theorem anm_470 (Hy : Hym tys cA base adS Ex) : xall (fun b t => xOK l Dg clm tys cA flm ftm base adS GWm xym xcm xnm xrm Ex codem bmm bpm b t) 1 238 512 codem_470 :=
  And.intro (okm_238 Hy) (okm_750 Hy)
theorem anm_471 (Hy : Hym tys cA base adS Ex) : xall (fun b t => xOK l Dg clm tys cA flm ftm base adS GWm xym xcm xnm xrm Ex codem bmm bpm b t) 1 494 512 codem_471 :=
  And.intro (okm_494 Hy) (okzm 1006)
theorem anm_472 (Hy : Hym tys cA base adS Ex) : xall (fun b t => xOK l Dg clm tys cA flm ftm base adS GWm xym xcm xnm xrm Ex codem bmm bpm b t) 2 238 256 codem_472 :=
  And.intro (anm_470 Hy) (anm_471 Hy)
theorem anm_473 (Hy : Hym tys cA base adS Ex) : xall (fun b t => xOK l Dg clm tys cA flm ftm base adS GWm xym xcm xnm xrm Ex codem bmm bpm b t) 3 110 128 codem_473 :=
  And.intro (anm_469 Hy) (anm_472 Hy)
theorem anm_474 (Hy : Hym tys cA base adS Ex) : xall (fun b t => xOK l Dg clm tys cA flm ftm base adS GWm xym xcm xnm xrm Ex codem bmm bpm b t) 4 46 64 codem_474 :=
  And.intro (anm_466 Hy) (anm_473 Hy)
theorem anm_475 (Hy : Hym tys cA base adS Ex) : xall (fun b t => xOK l Dg clm tys cA flm ftm base adS GWm xym xcm xnm xrm Ex codem bmm bpm b t) 5 14 32 codem_475 :=
  And.intro (anm_459 Hy) (anm_474 Hy)
theorem anm_476 (Hy : Hym tys cA base adS Ex) : xall (fun b t => xOK l Dg clm tys cA flm ftm base adS GWm xym xcm xnm xrm Ex codem bmm bpm b t) 1 30 512 codem_476 :=
  And.intro (okm_30 Hy) (okm_542 Hy)
theorem anm_477 (Hy : Hym tys cA base adS Ex) : xall (fun b t => xOK l Dg clm tys cA flm ftm base adS GWm xym xcm xnm xrm Ex codem bmm bpm b t) 1 286 512 codem_477 :=
  And.intro (okm_286 Hy) (okm_798 Hy)
theorem anm_478 (Hy : Hym tys cA base adS Ex) : xall (fun b t => xOK l Dg clm tys cA flm ftm base adS GWm xym xcm xnm xrm Ex codem bmm bpm b t) 2 30 256 codem_478 :=
  And.intro (anm_476 Hy) (anm_477 Hy)
theorem anm_479 (Hy : Hym tys cA base adS Ex) : xall (fun b t => xOK l Dg clm tys cA flm ftm base adS GWm xym xcm xnm xrm Ex codem bmm bpm b t) 1 158 512 codem_479 :=
  And.intro (okm_158 Hy) (okm_670 Hy)
theorem anm_480 (Hy : Hym tys cA base adS Ex) : xall (fun b t => xOK l Dg clm tys cA flm ftm base adS GWm xym xcm xnm xrm Ex codem bmm bpm b t) 1 414 512 codem_480 :=
  And.intro (okm_414 Hy) (okm_926 Hy)
theorem anm_481 (Hy : Hym tys cA base adS Ex) : xall (fun b t => xOK l Dg clm tys cA flm ftm base adS GWm xym xcm xnm xrm Ex codem bmm bpm b t) 2 158 256 codem_481 :=
  And.intro (anm_479 Hy) (anm_480 Hy)
theorem anm_482 (Hy : Hym tys cA base adS Ex) : xall (fun b t => xOK l Dg clm tys cA flm ftm base adS GWm xym xcm xnm xrm Ex codem bmm bpm b t) 3 30 128 codem_482 :=
  And.intro (anm_478 Hy) (anm_481 Hy)
theorem anm_483 (Hy : Hym tys cA base adS Ex) : xall (fun b t => xOK l Dg clm tys cA flm ftm base adS GWm xym xcm xnm xrm Ex codem bmm bpm b t) 1 94 512 codem_483 :=
  And.intro (okm_94 Hy) (okm_606 Hy)
theorem anm_484 (Hy : Hym tys cA base adS Ex) : xall (fun b t => xOK l Dg clm tys cA flm ftm base adS GWm xym xcm xnm xrm Ex codem bmm bpm b t) 1 350 512 codem_484 :=
  And.intro (okm_350 Hy) (okm_862 Hy)
theorem anm_485 (Hy : Hym tys cA base adS Ex) : xall (fun b t => xOK l Dg clm tys cA flm ftm base adS GWm xym xcm xnm xrm Ex codem bmm bpm b t) 2 94 256 codem_485 :=
  And.intro (anm_483 Hy) (anm_484 Hy)
theorem anm_486 (Hy : Hym tys cA base adS Ex) : xall (fun b t => xOK l Dg clm tys cA flm ftm base adS GWm xym xcm xnm xrm Ex codem bmm bpm b t) 1 222 512 codem_486 :=
  And.intro (okm_222 Hy) (okm_734 Hy)
theorem anm_487 (Hy : Hym tys cA base adS Ex) : xall (fun b t => xOK l Dg clm tys cA flm ftm base adS GWm xym xcm xnm xrm Ex codem bmm bpm b t) 1 478 512 codem_487 :=
  And.intro (okm_478 Hy) (okzm 990)
theorem anm_488 (Hy : Hym tys cA base adS Ex) : xall (fun b t => xOK l Dg clm tys cA flm ftm base adS GWm xym xcm xnm xrm Ex codem bmm bpm b t) 2 222 256 codem_488 :=
  And.intro (anm_486 Hy) (anm_487 Hy)
theorem anm_489 (Hy : Hym tys cA base adS Ex) : xall (fun b t => xOK l Dg clm tys cA flm ftm base adS GWm xym xcm xnm xrm Ex codem bmm bpm b t) 3 94 128 codem_489 :=
  And.intro (anm_485 Hy) (anm_488 Hy)
theorem anm_490 (Hy : Hym tys cA base adS Ex) : xall (fun b t => xOK l Dg clm tys cA flm ftm base adS GWm xym xcm xnm xrm Ex codem bmm bpm b t) 4 30 64 codem_490 :=
  And.intro (anm_482 Hy) (anm_489 Hy)
theorem anm_491 (Hy : Hym tys cA base adS Ex) : xall (fun b t => xOK l Dg clm tys cA flm ftm base adS GWm xym xcm xnm xrm Ex codem bmm bpm b t) 1 62 512 codem_491 :=
  And.intro (okm_62 Hy) (okm_574 Hy)
theorem anm_492 (Hy : Hym tys cA base adS Ex) : xall (fun b t => xOK l Dg clm tys cA flm ftm base adS GWm xym xcm xnm xrm Ex codem bmm bpm b t) 1 318 512 codem_492 :=
  And.intro (okm_318 Hy) (okm_830 Hy)
theorem anm_493 (Hy : Hym tys cA base adS Ex) : xall (fun b t => xOK l Dg clm tys cA flm ftm base adS GWm xym xcm xnm xrm Ex codem bmm bpm b t) 2 62 256 codem_493 :=
  And.intro (anm_491 Hy) (anm_492 Hy)
theorem anm_494 (Hy : Hym tys cA base adS Ex) : xall (fun b t => xOK l Dg clm tys cA flm ftm base adS GWm xym xcm xnm xrm Ex codem bmm bpm b t) 1 190 512 codem_494 :=
  And.intro (okm_190 Hy) (okm_702 Hy)
theorem anm_495 (Hy : Hym tys cA base adS Ex) : xall (fun b t => xOK l Dg clm tys cA flm ftm base adS GWm xym xcm xnm xrm Ex codem bmm bpm b t) 1 446 512 codem_495 :=
  And.intro (okm_446 Hy) (okm_958 Hy)
theorem anm_496 (Hy : Hym tys cA base adS Ex) : xall (fun b t => xOK l Dg clm tys cA flm ftm base adS GWm xym xcm xnm xrm Ex codem bmm bpm b t) 2 190 256 codem_496 :=
  And.intro (anm_494 Hy) (anm_495 Hy)
theorem anm_497 (Hy : Hym tys cA base adS Ex) : xall (fun b t => xOK l Dg clm tys cA flm ftm base adS GWm xym xcm xnm xrm Ex codem bmm bpm b t) 3 62 128 codem_497 :=
  And.intro (anm_493 Hy) (anm_496 Hy)
theorem anm_498 (Hy : Hym tys cA base adS Ex) : xall (fun b t => xOK l Dg clm tys cA flm ftm base adS GWm xym xcm xnm xrm Ex codem bmm bpm b t) 1 126 512 codem_498 :=
  And.intro (okm_126 Hy) (okm_638 Hy)
theorem anm_499 (Hy : Hym tys cA base adS Ex) : xall (fun b t => xOK l Dg clm tys cA flm ftm base adS GWm xym xcm xnm xrm Ex codem bmm bpm b t) 1 382 512 codem_499 :=
  And.intro (okm_382 Hy) (okm_894 Hy)
theorem anm_500 (Hy : Hym tys cA base adS Ex) : xall (fun b t => xOK l Dg clm tys cA flm ftm base adS GWm xym xcm xnm xrm Ex codem bmm bpm b t) 2 126 256 codem_500 :=
  And.intro (anm_498 Hy) (anm_499 Hy)
theorem anm_501 (Hy : Hym tys cA base adS Ex) : xall (fun b t => xOK l Dg clm tys cA flm ftm base adS GWm xym xcm xnm xrm Ex codem bmm bpm b t) 1 254 512 codem_501 :=
  And.intro (okm_254 Hy) (okm_766 Hy)
theorem anm_502 (Hy : Hym tys cA base adS Ex) : xall (fun b t => xOK l Dg clm tys cA flm ftm base adS GWm xym xcm xnm xrm Ex codem bmm bpm b t) 1 510 512 codem_502 :=
  And.intro (okm_510 Hy) (okzm 1022)
theorem anm_503 (Hy : Hym tys cA base adS Ex) : xall (fun b t => xOK l Dg clm tys cA flm ftm base adS GWm xym xcm xnm xrm Ex codem bmm bpm b t) 2 254 256 codem_503 :=
  And.intro (anm_501 Hy) (anm_502 Hy)
theorem anm_504 (Hy : Hym tys cA base adS Ex) : xall (fun b t => xOK l Dg clm tys cA flm ftm base adS GWm xym xcm xnm xrm Ex codem bmm bpm b t) 3 126 128 codem_504 :=
  And.intro (anm_500 Hy) (anm_503 Hy)
theorem anm_505 (Hy : Hym tys cA base adS Ex) : xall (fun b t => xOK l Dg clm tys cA flm ftm base adS GWm xym xcm xnm xrm Ex codem bmm bpm b t) 4 62 64 codem_505 :=
  And.intro (anm_497 Hy) (anm_504 Hy)
theorem anm_506 (Hy : Hym tys cA base adS Ex) : xall (fun b t => xOK l Dg clm tys cA flm ftm base adS GWm xym xcm xnm xrm Ex codem bmm bpm b t) 5 30 32 codem_506 :=
  And.intro (anm_490 Hy) (anm_505 Hy)
theorem anm_507 (Hy : Hym tys cA base adS Ex) : xall (fun b t => xOK l Dg clm tys cA flm ftm base adS GWm xym xcm xnm xrm Ex codem bmm bpm b t) 6 14 16 codem_507 :=
  And.intro (anm_475 Hy) (anm_506 Hy)
theorem anm_508 (Hy : Hym tys cA base adS Ex) : xall (fun b t => xOK l Dg clm tys cA flm ftm base adS GWm xym xcm xnm xrm Ex codem bmm bpm b t) 7 6 8 codem_508 :=
  And.intro (anm_444 Hy) (anm_507 Hy)
theorem anm_509 (Hy : Hym tys cA base adS Ex) : xall (fun b t => xOK l Dg clm tys cA flm ftm base adS GWm xym xcm xnm xrm Ex codem bmm bpm b t) 8 2 4 codem_509 :=
  And.intro (anm_381 Hy) (anm_508 Hy)
theorem anm_510 (Hy : Hym tys cA base adS Ex) : xall (fun b t => xOK l Dg clm tys cA flm ftm base adS GWm xym xcm xnm xrm Ex codem bmm bpm b t) 9 0 2 codem_510 :=
  And.intro (anm_254 Hy) (anm_509 Hy)
theorem anm_511 (Hy : Hym tys cA base adS Ex) : xall (fun b t => xOK l Dg clm tys cA flm ftm base adS GWm xym xcm xnm xrm Ex codem bmm bpm b t) 1 1 512 codem_511 :=
  And.intro (okm_1 Hy) (okm_513 Hy)
theorem anm_512 (Hy : Hym tys cA base adS Ex) : xall (fun b t => xOK l Dg clm tys cA flm ftm base adS GWm xym xcm xnm xrm Ex codem bmm bpm b t) 1 257 512 codem_512 :=
  And.intro (okm_257 Hy) (okm_769 Hy)
theorem anm_513 (Hy : Hym tys cA base adS Ex) : xall (fun b t => xOK l Dg clm tys cA flm ftm base adS GWm xym xcm xnm xrm Ex codem bmm bpm b t) 2 1 256 codem_513 :=
  And.intro (anm_511 Hy) (anm_512 Hy)
theorem anm_514 (Hy : Hym tys cA base adS Ex) : xall (fun b t => xOK l Dg clm tys cA flm ftm base adS GWm xym xcm xnm xrm Ex codem bmm bpm b t) 1 129 512 codem_514 :=
  And.intro (okm_129 Hy) (okm_641 Hy)
theorem anm_515 (Hy : Hym tys cA base adS Ex) : xall (fun b t => xOK l Dg clm tys cA flm ftm base adS GWm xym xcm xnm xrm Ex codem bmm bpm b t) 1 385 512 codem_515 :=
  And.intro (okm_385 Hy) (okm_897 Hy)
theorem anm_516 (Hy : Hym tys cA base adS Ex) : xall (fun b t => xOK l Dg clm tys cA flm ftm base adS GWm xym xcm xnm xrm Ex codem bmm bpm b t) 2 129 256 codem_516 :=
  And.intro (anm_514 Hy) (anm_515 Hy)
theorem anm_517 (Hy : Hym tys cA base adS Ex) : xall (fun b t => xOK l Dg clm tys cA flm ftm base adS GWm xym xcm xnm xrm Ex codem bmm bpm b t) 3 1 128 codem_517 :=
  And.intro (anm_513 Hy) (anm_516 Hy)
theorem anm_518 (Hy : Hym tys cA base adS Ex) : xall (fun b t => xOK l Dg clm tys cA flm ftm base adS GWm xym xcm xnm xrm Ex codem bmm bpm b t) 1 65 512 codem_518 :=
  And.intro (okm_65 Hy) (okm_577 Hy)
theorem anm_519 (Hy : Hym tys cA base adS Ex) : xall (fun b t => xOK l Dg clm tys cA flm ftm base adS GWm xym xcm xnm xrm Ex codem bmm bpm b t) 1 321 512 codem_519 :=
  And.intro (okm_321 Hy) (okm_833 Hy)
theorem anm_520 (Hy : Hym tys cA base adS Ex) : xall (fun b t => xOK l Dg clm tys cA flm ftm base adS GWm xym xcm xnm xrm Ex codem bmm bpm b t) 2 65 256 codem_520 :=
  And.intro (anm_518 Hy) (anm_519 Hy)
theorem anm_521 (Hy : Hym tys cA base adS Ex) : xall (fun b t => xOK l Dg clm tys cA flm ftm base adS GWm xym xcm xnm xrm Ex codem bmm bpm b t) 1 193 512 codem_521 :=
  And.intro (okm_193 Hy) (okm_705 Hy)
theorem anm_522 (Hy : Hym tys cA base adS Ex) : xall (fun b t => xOK l Dg clm tys cA flm ftm base adS GWm xym xcm xnm xrm Ex codem bmm bpm b t) 1 449 512 codem_522 :=
  And.intro (okm_449 Hy) (okzm 961)
theorem anm_523 (Hy : Hym tys cA base adS Ex) : xall (fun b t => xOK l Dg clm tys cA flm ftm base adS GWm xym xcm xnm xrm Ex codem bmm bpm b t) 2 193 256 codem_523 :=
  And.intro (anm_521 Hy) (anm_522 Hy)
theorem anm_524 (Hy : Hym tys cA base adS Ex) : xall (fun b t => xOK l Dg clm tys cA flm ftm base adS GWm xym xcm xnm xrm Ex codem bmm bpm b t) 3 65 128 codem_524 :=
  And.intro (anm_520 Hy) (anm_523 Hy)
theorem anm_525 (Hy : Hym tys cA base adS Ex) : xall (fun b t => xOK l Dg clm tys cA flm ftm base adS GWm xym xcm xnm xrm Ex codem bmm bpm b t) 4 1 64 codem_525 :=
  And.intro (anm_517 Hy) (anm_524 Hy)
theorem anm_526 (Hy : Hym tys cA base adS Ex) : xall (fun b t => xOK l Dg clm tys cA flm ftm base adS GWm xym xcm xnm xrm Ex codem bmm bpm b t) 1 33 512 codem_526 :=
  And.intro (okm_33 Hy) (okm_545 Hy)
theorem anm_527 (Hy : Hym tys cA base adS Ex) : xall (fun b t => xOK l Dg clm tys cA flm ftm base adS GWm xym xcm xnm xrm Ex codem bmm bpm b t) 1 289 512 codem_527 :=
  And.intro (okm_289 Hy) (okm_801 Hy)
theorem anm_528 (Hy : Hym tys cA base adS Ex) : xall (fun b t => xOK l Dg clm tys cA flm ftm base adS GWm xym xcm xnm xrm Ex codem bmm bpm b t) 2 33 256 codem_528 :=
  And.intro (anm_526 Hy) (anm_527 Hy)
theorem anm_529 (Hy : Hym tys cA base adS Ex) : xall (fun b t => xOK l Dg clm tys cA flm ftm base adS GWm xym xcm xnm xrm Ex codem bmm bpm b t) 1 161 512 codem_529 :=
  And.intro (okm_161 Hy) (okm_673 Hy)
theorem anm_530 (Hy : Hym tys cA base adS Ex) : xall (fun b t => xOK l Dg clm tys cA flm ftm base adS GWm xym xcm xnm xrm Ex codem bmm bpm b t) 1 417 512 codem_530 :=
  And.intro (okm_417 Hy) (okm_929 Hy)
theorem anm_531 (Hy : Hym tys cA base adS Ex) : xall (fun b t => xOK l Dg clm tys cA flm ftm base adS GWm xym xcm xnm xrm Ex codem bmm bpm b t) 2 161 256 codem_531 :=
  And.intro (anm_529 Hy) (anm_530 Hy)
theorem anm_532 (Hy : Hym tys cA base adS Ex) : xall (fun b t => xOK l Dg clm tys cA flm ftm base adS GWm xym xcm xnm xrm Ex codem bmm bpm b t) 3 33 128 codem_532 :=
  And.intro (anm_528 Hy) (anm_531 Hy)
theorem anm_533 (Hy : Hym tys cA base adS Ex) : xall (fun b t => xOK l Dg clm tys cA flm ftm base adS GWm xym xcm xnm xrm Ex codem bmm bpm b t) 1 97 512 codem_533 :=
  And.intro (okm_97 Hy) (okm_609 Hy)
theorem anm_534 (Hy : Hym tys cA base adS Ex) : xall (fun b t => xOK l Dg clm tys cA flm ftm base adS GWm xym xcm xnm xrm Ex codem bmm bpm b t) 1 353 512 codem_534 :=
  And.intro (okm_353 Hy) (okm_865 Hy)
theorem anm_535 (Hy : Hym tys cA base adS Ex) : xall (fun b t => xOK l Dg clm tys cA flm ftm base adS GWm xym xcm xnm xrm Ex codem bmm bpm b t) 2 97 256 codem_535 :=
  And.intro (anm_533 Hy) (anm_534 Hy)
theorem anm_536 (Hy : Hym tys cA base adS Ex) : xall (fun b t => xOK l Dg clm tys cA flm ftm base adS GWm xym xcm xnm xrm Ex codem bmm bpm b t) 1 225 512 codem_536 :=
  And.intro (okm_225 Hy) (okm_737 Hy)
theorem anm_537 (Hy : Hym tys cA base adS Ex) : xall (fun b t => xOK l Dg clm tys cA flm ftm base adS GWm xym xcm xnm xrm Ex codem bmm bpm b t) 1 481 512 codem_537 :=
  And.intro (okm_481 Hy) (okzm 993)
theorem anm_538 (Hy : Hym tys cA base adS Ex) : xall (fun b t => xOK l Dg clm tys cA flm ftm base adS GWm xym xcm xnm xrm Ex codem bmm bpm b t) 2 225 256 codem_538 :=
  And.intro (anm_536 Hy) (anm_537 Hy)
theorem anm_539 (Hy : Hym tys cA base adS Ex) : xall (fun b t => xOK l Dg clm tys cA flm ftm base adS GWm xym xcm xnm xrm Ex codem bmm bpm b t) 3 97 128 codem_539 :=
  And.intro (anm_535 Hy) (anm_538 Hy)
theorem anm_540 (Hy : Hym tys cA base adS Ex) : xall (fun b t => xOK l Dg clm tys cA flm ftm base adS GWm xym xcm xnm xrm Ex codem bmm bpm b t) 4 33 64 codem_540 :=
  And.intro (anm_532 Hy) (anm_539 Hy)
theorem anm_541 (Hy : Hym tys cA base adS Ex) : xall (fun b t => xOK l Dg clm tys cA flm ftm base adS GWm xym xcm xnm xrm Ex codem bmm bpm b t) 5 1 32 codem_541 :=
  And.intro (anm_525 Hy) (anm_540 Hy)
theorem anm_542 (Hy : Hym tys cA base adS Ex) : xall (fun b t => xOK l Dg clm tys cA flm ftm base adS GWm xym xcm xnm xrm Ex codem bmm bpm b t) 1 17 512 codem_542 :=
  And.intro (okm_17 Hy) (okm_529 Hy)
theorem anm_543 (Hy : Hym tys cA base adS Ex) : xall (fun b t => xOK l Dg clm tys cA flm ftm base adS GWm xym xcm xnm xrm Ex codem bmm bpm b t) 1 273 512 codem_543 :=
  And.intro (okm_273 Hy) (okm_785 Hy)
theorem anm_544 (Hy : Hym tys cA base adS Ex) : xall (fun b t => xOK l Dg clm tys cA flm ftm base adS GWm xym xcm xnm xrm Ex codem bmm bpm b t) 2 17 256 codem_544 :=
  And.intro (anm_542 Hy) (anm_543 Hy)
theorem anm_545 (Hy : Hym tys cA base adS Ex) : xall (fun b t => xOK l Dg clm tys cA flm ftm base adS GWm xym xcm xnm xrm Ex codem bmm bpm b t) 1 145 512 codem_545 :=
  And.intro (okm_145 Hy) (okm_657 Hy)
theorem anm_546 (Hy : Hym tys cA base adS Ex) : xall (fun b t => xOK l Dg clm tys cA flm ftm base adS GWm xym xcm xnm xrm Ex codem bmm bpm b t) 1 401 512 codem_546 :=
  And.intro (okm_401 Hy) (okm_913 Hy)
theorem anm_547 (Hy : Hym tys cA base adS Ex) : xall (fun b t => xOK l Dg clm tys cA flm ftm base adS GWm xym xcm xnm xrm Ex codem bmm bpm b t) 2 145 256 codem_547 :=
  And.intro (anm_545 Hy) (anm_546 Hy)
theorem anm_548 (Hy : Hym tys cA base adS Ex) : xall (fun b t => xOK l Dg clm tys cA flm ftm base adS GWm xym xcm xnm xrm Ex codem bmm bpm b t) 3 17 128 codem_548 :=
  And.intro (anm_544 Hy) (anm_547 Hy)
theorem anm_549 (Hy : Hym tys cA base adS Ex) : xall (fun b t => xOK l Dg clm tys cA flm ftm base adS GWm xym xcm xnm xrm Ex codem bmm bpm b t) 1 81 512 codem_549 :=
  And.intro (okm_81 Hy) (okm_593 Hy)
theorem anm_550 (Hy : Hym tys cA base adS Ex) : xall (fun b t => xOK l Dg clm tys cA flm ftm base adS GWm xym xcm xnm xrm Ex codem bmm bpm b t) 1 337 512 codem_550 :=
  And.intro (okm_337 Hy) (okm_849 Hy)
theorem anm_551 (Hy : Hym tys cA base adS Ex) : xall (fun b t => xOK l Dg clm tys cA flm ftm base adS GWm xym xcm xnm xrm Ex codem bmm bpm b t) 2 81 256 codem_551 :=
  And.intro (anm_549 Hy) (anm_550 Hy)
theorem anm_552 (Hy : Hym tys cA base adS Ex) : xall (fun b t => xOK l Dg clm tys cA flm ftm base adS GWm xym xcm xnm xrm Ex codem bmm bpm b t) 1 209 512 codem_552 :=
  And.intro (okm_209 Hy) (okm_721 Hy)
theorem anm_553 (Hy : Hym tys cA base adS Ex) : xall (fun b t => xOK l Dg clm tys cA flm ftm base adS GWm xym xcm xnm xrm Ex codem bmm bpm b t) 1 465 512 codem_553 :=
  And.intro (okm_465 Hy) (okzm 977)
theorem anm_554 (Hy : Hym tys cA base adS Ex) : xall (fun b t => xOK l Dg clm tys cA flm ftm base adS GWm xym xcm xnm xrm Ex codem bmm bpm b t) 2 209 256 codem_554 :=
  And.intro (anm_552 Hy) (anm_553 Hy)
theorem anm_555 (Hy : Hym tys cA base adS Ex) : xall (fun b t => xOK l Dg clm tys cA flm ftm base adS GWm xym xcm xnm xrm Ex codem bmm bpm b t) 3 81 128 codem_555 :=
  And.intro (anm_551 Hy) (anm_554 Hy)
theorem anm_556 (Hy : Hym tys cA base adS Ex) : xall (fun b t => xOK l Dg clm tys cA flm ftm base adS GWm xym xcm xnm xrm Ex codem bmm bpm b t) 4 17 64 codem_556 :=
  And.intro (anm_548 Hy) (anm_555 Hy)
theorem anm_557 (Hy : Hym tys cA base adS Ex) : xall (fun b t => xOK l Dg clm tys cA flm ftm base adS GWm xym xcm xnm xrm Ex codem bmm bpm b t) 1 49 512 codem_557 :=
  And.intro (okm_49 Hy) (okm_561 Hy)
theorem anm_558 (Hy : Hym tys cA base adS Ex) : xall (fun b t => xOK l Dg clm tys cA flm ftm base adS GWm xym xcm xnm xrm Ex codem bmm bpm b t) 1 305 512 codem_558 :=
  And.intro (okm_305 Hy) (okm_817 Hy)
theorem anm_559 (Hy : Hym tys cA base adS Ex) : xall (fun b t => xOK l Dg clm tys cA flm ftm base adS GWm xym xcm xnm xrm Ex codem bmm bpm b t) 2 49 256 codem_559 :=
  And.intro (anm_557 Hy) (anm_558 Hy)
theorem anm_560 (Hy : Hym tys cA base adS Ex) : xall (fun b t => xOK l Dg clm tys cA flm ftm base adS GWm xym xcm xnm xrm Ex codem bmm bpm b t) 1 177 512 codem_560 :=
  And.intro (okm_177 Hy) (okm_689 Hy)
theorem anm_561 (Hy : Hym tys cA base adS Ex) : xall (fun b t => xOK l Dg clm tys cA flm ftm base adS GWm xym xcm xnm xrm Ex codem bmm bpm b t) 1 433 512 codem_561 :=
  And.intro (okm_433 Hy) (okm_945 Hy)
theorem anm_562 (Hy : Hym tys cA base adS Ex) : xall (fun b t => xOK l Dg clm tys cA flm ftm base adS GWm xym xcm xnm xrm Ex codem bmm bpm b t) 2 177 256 codem_562 :=
  And.intro (anm_560 Hy) (anm_561 Hy)
theorem anm_563 (Hy : Hym tys cA base adS Ex) : xall (fun b t => xOK l Dg clm tys cA flm ftm base adS GWm xym xcm xnm xrm Ex codem bmm bpm b t) 3 49 128 codem_563 :=
  And.intro (anm_559 Hy) (anm_562 Hy)
theorem anm_564 (Hy : Hym tys cA base adS Ex) : xall (fun b t => xOK l Dg clm tys cA flm ftm base adS GWm xym xcm xnm xrm Ex codem bmm bpm b t) 1 113 512 codem_564 :=
  And.intro (okm_113 Hy) (okm_625 Hy)
theorem anm_565 (Hy : Hym tys cA base adS Ex) : xall (fun b t => xOK l Dg clm tys cA flm ftm base adS GWm xym xcm xnm xrm Ex codem bmm bpm b t) 1 369 512 codem_565 :=
  And.intro (okm_369 Hy) (okm_881 Hy)
theorem anm_566 (Hy : Hym tys cA base adS Ex) : xall (fun b t => xOK l Dg clm tys cA flm ftm base adS GWm xym xcm xnm xrm Ex codem bmm bpm b t) 2 113 256 codem_566 :=
  And.intro (anm_564 Hy) (anm_565 Hy)
theorem anm_567 (Hy : Hym tys cA base adS Ex) : xall (fun b t => xOK l Dg clm tys cA flm ftm base adS GWm xym xcm xnm xrm Ex codem bmm bpm b t) 1 241 512 codem_567 :=
  And.intro (okm_241 Hy) (okm_753 Hy)
theorem anm_568 (Hy : Hym tys cA base adS Ex) : xall (fun b t => xOK l Dg clm tys cA flm ftm base adS GWm xym xcm xnm xrm Ex codem bmm bpm b t) 1 497 512 codem_568 :=
  And.intro (okm_497 Hy) (okzm 1009)
theorem anm_569 (Hy : Hym tys cA base adS Ex) : xall (fun b t => xOK l Dg clm tys cA flm ftm base adS GWm xym xcm xnm xrm Ex codem bmm bpm b t) 2 241 256 codem_569 :=
  And.intro (anm_567 Hy) (anm_568 Hy)
theorem anm_570 (Hy : Hym tys cA base adS Ex) : xall (fun b t => xOK l Dg clm tys cA flm ftm base adS GWm xym xcm xnm xrm Ex codem bmm bpm b t) 3 113 128 codem_570 :=
  And.intro (anm_566 Hy) (anm_569 Hy)
theorem anm_571 (Hy : Hym tys cA base adS Ex) : xall (fun b t => xOK l Dg clm tys cA flm ftm base adS GWm xym xcm xnm xrm Ex codem bmm bpm b t) 4 49 64 codem_571 :=
  And.intro (anm_563 Hy) (anm_570 Hy)
theorem anm_572 (Hy : Hym tys cA base adS Ex) : xall (fun b t => xOK l Dg clm tys cA flm ftm base adS GWm xym xcm xnm xrm Ex codem bmm bpm b t) 5 17 32 codem_572 :=
  And.intro (anm_556 Hy) (anm_571 Hy)
theorem anm_573 (Hy : Hym tys cA base adS Ex) : xall (fun b t => xOK l Dg clm tys cA flm ftm base adS GWm xym xcm xnm xrm Ex codem bmm bpm b t) 6 1 16 codem_573 :=
  And.intro (anm_541 Hy) (anm_572 Hy)
theorem anm_574 (Hy : Hym tys cA base adS Ex) : xall (fun b t => xOK l Dg clm tys cA flm ftm base adS GWm xym xcm xnm xrm Ex codem bmm bpm b t) 1 9 512 codem_574 :=
  And.intro (okm_9 Hy) (okm_521 Hy)
theorem anm_575 (Hy : Hym tys cA base adS Ex) : xall (fun b t => xOK l Dg clm tys cA flm ftm base adS GWm xym xcm xnm xrm Ex codem bmm bpm b t) 1 265 512 codem_575 :=
  And.intro (okm_265 Hy) (okm_777 Hy)
theorem anm_576 (Hy : Hym tys cA base adS Ex) : xall (fun b t => xOK l Dg clm tys cA flm ftm base adS GWm xym xcm xnm xrm Ex codem bmm bpm b t) 2 9 256 codem_576 :=
  And.intro (anm_574 Hy) (anm_575 Hy)
theorem anm_577 (Hy : Hym tys cA base adS Ex) : xall (fun b t => xOK l Dg clm tys cA flm ftm base adS GWm xym xcm xnm xrm Ex codem bmm bpm b t) 1 137 512 codem_577 :=
  And.intro (okm_137 Hy) (okm_649 Hy)
theorem anm_578 (Hy : Hym tys cA base adS Ex) : xall (fun b t => xOK l Dg clm tys cA flm ftm base adS GWm xym xcm xnm xrm Ex codem bmm bpm b t) 1 393 512 codem_578 :=
  And.intro (okm_393 Hy) (okm_905 Hy)
theorem anm_579 (Hy : Hym tys cA base adS Ex) : xall (fun b t => xOK l Dg clm tys cA flm ftm base adS GWm xym xcm xnm xrm Ex codem bmm bpm b t) 2 137 256 codem_579 :=
  And.intro (anm_577 Hy) (anm_578 Hy)
theorem anm_580 (Hy : Hym tys cA base adS Ex) : xall (fun b t => xOK l Dg clm tys cA flm ftm base adS GWm xym xcm xnm xrm Ex codem bmm bpm b t) 3 9 128 codem_580 :=
  And.intro (anm_576 Hy) (anm_579 Hy)
theorem anm_581 (Hy : Hym tys cA base adS Ex) : xall (fun b t => xOK l Dg clm tys cA flm ftm base adS GWm xym xcm xnm xrm Ex codem bmm bpm b t) 1 73 512 codem_581 :=
  And.intro (okm_73 Hy) (okm_585 Hy)
theorem anm_582 (Hy : Hym tys cA base adS Ex) : xall (fun b t => xOK l Dg clm tys cA flm ftm base adS GWm xym xcm xnm xrm Ex codem bmm bpm b t) 1 329 512 codem_582 :=
  And.intro (okm_329 Hy) (okm_841 Hy)
theorem anm_583 (Hy : Hym tys cA base adS Ex) : xall (fun b t => xOK l Dg clm tys cA flm ftm base adS GWm xym xcm xnm xrm Ex codem bmm bpm b t) 2 73 256 codem_583 :=
  And.intro (anm_581 Hy) (anm_582 Hy)
theorem anm_584 (Hy : Hym tys cA base adS Ex) : xall (fun b t => xOK l Dg clm tys cA flm ftm base adS GWm xym xcm xnm xrm Ex codem bmm bpm b t) 1 201 512 codem_584 :=
  And.intro (okm_201 Hy) (okm_713 Hy)
theorem anm_585 (Hy : Hym tys cA base adS Ex) : xall (fun b t => xOK l Dg clm tys cA flm ftm base adS GWm xym xcm xnm xrm Ex codem bmm bpm b t) 1 457 512 codem_585 :=
  And.intro (okm_457 Hy) (okzm 969)
theorem anm_586 (Hy : Hym tys cA base adS Ex) : xall (fun b t => xOK l Dg clm tys cA flm ftm base adS GWm xym xcm xnm xrm Ex codem bmm bpm b t) 2 201 256 codem_586 :=
  And.intro (anm_584 Hy) (anm_585 Hy)
theorem anm_587 (Hy : Hym tys cA base adS Ex) : xall (fun b t => xOK l Dg clm tys cA flm ftm base adS GWm xym xcm xnm xrm Ex codem bmm bpm b t) 3 73 128 codem_587 :=
  And.intro (anm_583 Hy) (anm_586 Hy)
theorem anm_588 (Hy : Hym tys cA base adS Ex) : xall (fun b t => xOK l Dg clm tys cA flm ftm base adS GWm xym xcm xnm xrm Ex codem bmm bpm b t) 4 9 64 codem_588 :=
  And.intro (anm_580 Hy) (anm_587 Hy)
theorem anm_589 (Hy : Hym tys cA base adS Ex) : xall (fun b t => xOK l Dg clm tys cA flm ftm base adS GWm xym xcm xnm xrm Ex codem bmm bpm b t) 1 41 512 codem_589 :=
  And.intro (okm_41 Hy) (okm_553 Hy)
theorem anm_590 (Hy : Hym tys cA base adS Ex) : xall (fun b t => xOK l Dg clm tys cA flm ftm base adS GWm xym xcm xnm xrm Ex codem bmm bpm b t) 1 297 512 codem_590 :=
  And.intro (okm_297 Hy) (okm_809 Hy)
theorem anm_591 (Hy : Hym tys cA base adS Ex) : xall (fun b t => xOK l Dg clm tys cA flm ftm base adS GWm xym xcm xnm xrm Ex codem bmm bpm b t) 2 41 256 codem_591 :=
  And.intro (anm_589 Hy) (anm_590 Hy)
theorem anm_592 (Hy : Hym tys cA base adS Ex) : xall (fun b t => xOK l Dg clm tys cA flm ftm base adS GWm xym xcm xnm xrm Ex codem bmm bpm b t) 1 169 512 codem_592 :=
  And.intro (okm_169 Hy) (okm_681 Hy)
theorem anm_593 (Hy : Hym tys cA base adS Ex) : xall (fun b t => xOK l Dg clm tys cA flm ftm base adS GWm xym xcm xnm xrm Ex codem bmm bpm b t) 1 425 512 codem_593 :=
  And.intro (okm_425 Hy) (okm_937 Hy)
theorem anm_594 (Hy : Hym tys cA base adS Ex) : xall (fun b t => xOK l Dg clm tys cA flm ftm base adS GWm xym xcm xnm xrm Ex codem bmm bpm b t) 2 169 256 codem_594 :=
  And.intro (anm_592 Hy) (anm_593 Hy)
theorem anm_595 (Hy : Hym tys cA base adS Ex) : xall (fun b t => xOK l Dg clm tys cA flm ftm base adS GWm xym xcm xnm xrm Ex codem bmm bpm b t) 3 41 128 codem_595 :=
  And.intro (anm_591 Hy) (anm_594 Hy)
theorem anm_596 (Hy : Hym tys cA base adS Ex) : xall (fun b t => xOK l Dg clm tys cA flm ftm base adS GWm xym xcm xnm xrm Ex codem bmm bpm b t) 1 105 512 codem_596 :=
  And.intro (okm_105 Hy) (okm_617 Hy)
theorem anm_597 (Hy : Hym tys cA base adS Ex) : xall (fun b t => xOK l Dg clm tys cA flm ftm base adS GWm xym xcm xnm xrm Ex codem bmm bpm b t) 1 361 512 codem_597 :=
  And.intro (okm_361 Hy) (okm_873 Hy)
theorem anm_598 (Hy : Hym tys cA base adS Ex) : xall (fun b t => xOK l Dg clm tys cA flm ftm base adS GWm xym xcm xnm xrm Ex codem bmm bpm b t) 2 105 256 codem_598 :=
  And.intro (anm_596 Hy) (anm_597 Hy)
theorem anm_599 (Hy : Hym tys cA base adS Ex) : xall (fun b t => xOK l Dg clm tys cA flm ftm base adS GWm xym xcm xnm xrm Ex codem bmm bpm b t) 1 233 512 codem_599 :=
  And.intro (okm_233 Hy) (okm_745 Hy)
theorem anm_600 (Hy : Hym tys cA base adS Ex) : xall (fun b t => xOK l Dg clm tys cA flm ftm base adS GWm xym xcm xnm xrm Ex codem bmm bpm b t) 1 489 512 codem_600 :=
  And.intro (okm_489 Hy) (okzm 1001)
theorem anm_601 (Hy : Hym tys cA base adS Ex) : xall (fun b t => xOK l Dg clm tys cA flm ftm base adS GWm xym xcm xnm xrm Ex codem bmm bpm b t) 2 233 256 codem_601 :=
  And.intro (anm_599 Hy) (anm_600 Hy)
theorem anm_602 (Hy : Hym tys cA base adS Ex) : xall (fun b t => xOK l Dg clm tys cA flm ftm base adS GWm xym xcm xnm xrm Ex codem bmm bpm b t) 3 105 128 codem_602 :=
  And.intro (anm_598 Hy) (anm_601 Hy)
theorem anm_603 (Hy : Hym tys cA base adS Ex) : xall (fun b t => xOK l Dg clm tys cA flm ftm base adS GWm xym xcm xnm xrm Ex codem bmm bpm b t) 4 41 64 codem_603 :=
  And.intro (anm_595 Hy) (anm_602 Hy)
theorem anm_604 (Hy : Hym tys cA base adS Ex) : xall (fun b t => xOK l Dg clm tys cA flm ftm base adS GWm xym xcm xnm xrm Ex codem bmm bpm b t) 5 9 32 codem_604 :=
  And.intro (anm_588 Hy) (anm_603 Hy)
theorem anm_605 (Hy : Hym tys cA base adS Ex) : xall (fun b t => xOK l Dg clm tys cA flm ftm base adS GWm xym xcm xnm xrm Ex codem bmm bpm b t) 1 25 512 codem_605 :=
  And.intro (okm_25 Hy) (okm_537 Hy)
theorem anm_606 (Hy : Hym tys cA base adS Ex) : xall (fun b t => xOK l Dg clm tys cA flm ftm base adS GWm xym xcm xnm xrm Ex codem bmm bpm b t) 1 281 512 codem_606 :=
  And.intro (okm_281 Hy) (okm_793 Hy)
theorem anm_607 (Hy : Hym tys cA base adS Ex) : xall (fun b t => xOK l Dg clm tys cA flm ftm base adS GWm xym xcm xnm xrm Ex codem bmm bpm b t) 2 25 256 codem_607 :=
  And.intro (anm_605 Hy) (anm_606 Hy)
theorem anm_608 (Hy : Hym tys cA base adS Ex) : xall (fun b t => xOK l Dg clm tys cA flm ftm base adS GWm xym xcm xnm xrm Ex codem bmm bpm b t) 1 153 512 codem_608 :=
  And.intro (okm_153 Hy) (okm_665 Hy)
theorem anm_609 (Hy : Hym tys cA base adS Ex) : xall (fun b t => xOK l Dg clm tys cA flm ftm base adS GWm xym xcm xnm xrm Ex codem bmm bpm b t) 1 409 512 codem_609 :=
  And.intro (okm_409 Hy) (okm_921 Hy)
theorem anm_610 (Hy : Hym tys cA base adS Ex) : xall (fun b t => xOK l Dg clm tys cA flm ftm base adS GWm xym xcm xnm xrm Ex codem bmm bpm b t) 2 153 256 codem_610 :=
  And.intro (anm_608 Hy) (anm_609 Hy)
theorem anm_611 (Hy : Hym tys cA base adS Ex) : xall (fun b t => xOK l Dg clm tys cA flm ftm base adS GWm xym xcm xnm xrm Ex codem bmm bpm b t) 3 25 128 codem_611 :=
  And.intro (anm_607 Hy) (anm_610 Hy)
theorem anm_612 (Hy : Hym tys cA base adS Ex) : xall (fun b t => xOK l Dg clm tys cA flm ftm base adS GWm xym xcm xnm xrm Ex codem bmm bpm b t) 1 89 512 codem_612 :=
  And.intro (okm_89 Hy) (okm_601 Hy)
theorem anm_613 (Hy : Hym tys cA base adS Ex) : xall (fun b t => xOK l Dg clm tys cA flm ftm base adS GWm xym xcm xnm xrm Ex codem bmm bpm b t) 1 345 512 codem_613 :=
  And.intro (okm_345 Hy) (okm_857 Hy)
theorem anm_614 (Hy : Hym tys cA base adS Ex) : xall (fun b t => xOK l Dg clm tys cA flm ftm base adS GWm xym xcm xnm xrm Ex codem bmm bpm b t) 2 89 256 codem_614 :=
  And.intro (anm_612 Hy) (anm_613 Hy)
theorem anm_615 (Hy : Hym tys cA base adS Ex) : xall (fun b t => xOK l Dg clm tys cA flm ftm base adS GWm xym xcm xnm xrm Ex codem bmm bpm b t) 1 217 512 codem_615 :=
  And.intro (okm_217 Hy) (okm_729 Hy)
theorem anm_616 (Hy : Hym tys cA base adS Ex) : xall (fun b t => xOK l Dg clm tys cA flm ftm base adS GWm xym xcm xnm xrm Ex codem bmm bpm b t) 1 473 512 codem_616 :=
  And.intro (okm_473 Hy) (okzm 985)
theorem anm_617 (Hy : Hym tys cA base adS Ex) : xall (fun b t => xOK l Dg clm tys cA flm ftm base adS GWm xym xcm xnm xrm Ex codem bmm bpm b t) 2 217 256 codem_617 :=
  And.intro (anm_615 Hy) (anm_616 Hy)
theorem anm_618 (Hy : Hym tys cA base adS Ex) : xall (fun b t => xOK l Dg clm tys cA flm ftm base adS GWm xym xcm xnm xrm Ex codem bmm bpm b t) 3 89 128 codem_618 :=
  And.intro (anm_614 Hy) (anm_617 Hy)
theorem anm_619 (Hy : Hym tys cA base adS Ex) : xall (fun b t => xOK l Dg clm tys cA flm ftm base adS GWm xym xcm xnm xrm Ex codem bmm bpm b t) 4 25 64 codem_619 :=
  And.intro (anm_611 Hy) (anm_618 Hy)
theorem anm_620 (Hy : Hym tys cA base adS Ex) : xall (fun b t => xOK l Dg clm tys cA flm ftm base adS GWm xym xcm xnm xrm Ex codem bmm bpm b t) 1 57 512 codem_620 :=
  And.intro (okm_57 Hy) (okm_569 Hy)
theorem anm_621 (Hy : Hym tys cA base adS Ex) : xall (fun b t => xOK l Dg clm tys cA flm ftm base adS GWm xym xcm xnm xrm Ex codem bmm bpm b t) 1 313 512 codem_621 :=
  And.intro (okm_313 Hy) (okm_825 Hy)
theorem anm_622 (Hy : Hym tys cA base adS Ex) : xall (fun b t => xOK l Dg clm tys cA flm ftm base adS GWm xym xcm xnm xrm Ex codem bmm bpm b t) 2 57 256 codem_622 :=
  And.intro (anm_620 Hy) (anm_621 Hy)
theorem anm_623 (Hy : Hym tys cA base adS Ex) : xall (fun b t => xOK l Dg clm tys cA flm ftm base adS GWm xym xcm xnm xrm Ex codem bmm bpm b t) 1 185 512 codem_623 :=
  And.intro (okm_185 Hy) (okm_697 Hy)
theorem anm_624 (Hy : Hym tys cA base adS Ex) : xall (fun b t => xOK l Dg clm tys cA flm ftm base adS GWm xym xcm xnm xrm Ex codem bmm bpm b t) 1 441 512 codem_624 :=
  And.intro (okm_441 Hy) (okm_953 Hy)
theorem anm_625 (Hy : Hym tys cA base adS Ex) : xall (fun b t => xOK l Dg clm tys cA flm ftm base adS GWm xym xcm xnm xrm Ex codem bmm bpm b t) 2 185 256 codem_625 :=
  And.intro (anm_623 Hy) (anm_624 Hy)
theorem anm_626 (Hy : Hym tys cA base adS Ex) : xall (fun b t => xOK l Dg clm tys cA flm ftm base adS GWm xym xcm xnm xrm Ex codem bmm bpm b t) 3 57 128 codem_626 :=
  And.intro (anm_622 Hy) (anm_625 Hy)
theorem anm_627 (Hy : Hym tys cA base adS Ex) : xall (fun b t => xOK l Dg clm tys cA flm ftm base adS GWm xym xcm xnm xrm Ex codem bmm bpm b t) 1 121 512 codem_627 :=
  And.intro (okm_121 Hy) (okm_633 Hy)
theorem anm_628 (Hy : Hym tys cA base adS Ex) : xall (fun b t => xOK l Dg clm tys cA flm ftm base adS GWm xym xcm xnm xrm Ex codem bmm bpm b t) 1 377 512 codem_628 :=
  And.intro (okm_377 Hy) (okm_889 Hy)
theorem anm_629 (Hy : Hym tys cA base adS Ex) : xall (fun b t => xOK l Dg clm tys cA flm ftm base adS GWm xym xcm xnm xrm Ex codem bmm bpm b t) 2 121 256 codem_629 :=
  And.intro (anm_627 Hy) (anm_628 Hy)
theorem anm_630 (Hy : Hym tys cA base adS Ex) : xall (fun b t => xOK l Dg clm tys cA flm ftm base adS GWm xym xcm xnm xrm Ex codem bmm bpm b t) 1 249 512 codem_630 :=
  And.intro (okm_249 Hy) (okm_761 Hy)
theorem anm_631 (Hy : Hym tys cA base adS Ex) : xall (fun b t => xOK l Dg clm tys cA flm ftm base adS GWm xym xcm xnm xrm Ex codem bmm bpm b t) 1 505 512 codem_631 :=
  And.intro (okm_505 Hy) (okzm 1017)
theorem anm_632 (Hy : Hym tys cA base adS Ex) : xall (fun b t => xOK l Dg clm tys cA flm ftm base adS GWm xym xcm xnm xrm Ex codem bmm bpm b t) 2 249 256 codem_632 :=
  And.intro (anm_630 Hy) (anm_631 Hy)
theorem anm_633 (Hy : Hym tys cA base adS Ex) : xall (fun b t => xOK l Dg clm tys cA flm ftm base adS GWm xym xcm xnm xrm Ex codem bmm bpm b t) 3 121 128 codem_633 :=
  And.intro (anm_629 Hy) (anm_632 Hy)
theorem anm_634 (Hy : Hym tys cA base adS Ex) : xall (fun b t => xOK l Dg clm tys cA flm ftm base adS GWm xym xcm xnm xrm Ex codem bmm bpm b t) 4 57 64 codem_634 :=
  And.intro (anm_626 Hy) (anm_633 Hy)
theorem anm_635 (Hy : Hym tys cA base adS Ex) : xall (fun b t => xOK l Dg clm tys cA flm ftm base adS GWm xym xcm xnm xrm Ex codem bmm bpm b t) 5 25 32 codem_635 :=
  And.intro (anm_619 Hy) (anm_634 Hy)
theorem anm_636 (Hy : Hym tys cA base adS Ex) : xall (fun b t => xOK l Dg clm tys cA flm ftm base adS GWm xym xcm xnm xrm Ex codem bmm bpm b t) 6 9 16 codem_636 :=
  And.intro (anm_604 Hy) (anm_635 Hy)
theorem anm_637 (Hy : Hym tys cA base adS Ex) : xall (fun b t => xOK l Dg clm tys cA flm ftm base adS GWm xym xcm xnm xrm Ex codem bmm bpm b t) 7 1 8 codem_637 :=
  And.intro (anm_573 Hy) (anm_636 Hy)
theorem anm_638 (Hy : Hym tys cA base adS Ex) : xall (fun b t => xOK l Dg clm tys cA flm ftm base adS GWm xym xcm xnm xrm Ex codem bmm bpm b t) 1 5 512 codem_638 :=
  And.intro (okm_5 Hy) (okm_517 Hy)
theorem anm_639 (Hy : Hym tys cA base adS Ex) : xall (fun b t => xOK l Dg clm tys cA flm ftm base adS GWm xym xcm xnm xrm Ex codem bmm bpm b t) 1 261 512 codem_639 :=
  And.intro (okm_261 Hy) (okm_773 Hy)
theorem anm_640 (Hy : Hym tys cA base adS Ex) : xall (fun b t => xOK l Dg clm tys cA flm ftm base adS GWm xym xcm xnm xrm Ex codem bmm bpm b t) 2 5 256 codem_640 :=
  And.intro (anm_638 Hy) (anm_639 Hy)
theorem anm_641 (Hy : Hym tys cA base adS Ex) : xall (fun b t => xOK l Dg clm tys cA flm ftm base adS GWm xym xcm xnm xrm Ex codem bmm bpm b t) 1 133 512 codem_641 :=
  And.intro (okm_133 Hy) (okm_645 Hy)
theorem anm_642 (Hy : Hym tys cA base adS Ex) : xall (fun b t => xOK l Dg clm tys cA flm ftm base adS GWm xym xcm xnm xrm Ex codem bmm bpm b t) 1 389 512 codem_642 :=
  And.intro (okm_389 Hy) (okm_901 Hy)
theorem anm_643 (Hy : Hym tys cA base adS Ex) : xall (fun b t => xOK l Dg clm tys cA flm ftm base adS GWm xym xcm xnm xrm Ex codem bmm bpm b t) 2 133 256 codem_643 :=
  And.intro (anm_641 Hy) (anm_642 Hy)
theorem anm_644 (Hy : Hym tys cA base adS Ex) : xall (fun b t => xOK l Dg clm tys cA flm ftm base adS GWm xym xcm xnm xrm Ex codem bmm bpm b t) 3 5 128 codem_644 :=
  And.intro (anm_640 Hy) (anm_643 Hy)
theorem anm_645 (Hy : Hym tys cA base adS Ex) : xall (fun b t => xOK l Dg clm tys cA flm ftm base adS GWm xym xcm xnm xrm Ex codem bmm bpm b t) 1 69 512 codem_645 :=
  And.intro (okm_69 Hy) (okm_581 Hy)
theorem anm_646 (Hy : Hym tys cA base adS Ex) : xall (fun b t => xOK l Dg clm tys cA flm ftm base adS GWm xym xcm xnm xrm Ex codem bmm bpm b t) 1 325 512 codem_646 :=
  And.intro (okm_325 Hy) (okm_837 Hy)
theorem anm_647 (Hy : Hym tys cA base adS Ex) : xall (fun b t => xOK l Dg clm tys cA flm ftm base adS GWm xym xcm xnm xrm Ex codem bmm bpm b t) 2 69 256 codem_647 :=
  And.intro (anm_645 Hy) (anm_646 Hy)
theorem anm_648 (Hy : Hym tys cA base adS Ex) : xall (fun b t => xOK l Dg clm tys cA flm ftm base adS GWm xym xcm xnm xrm Ex codem bmm bpm b t) 1 197 512 codem_648 :=
  And.intro (okm_197 Hy) (okm_709 Hy)
theorem anm_649 (Hy : Hym tys cA base adS Ex) : xall (fun b t => xOK l Dg clm tys cA flm ftm base adS GWm xym xcm xnm xrm Ex codem bmm bpm b t) 1 453 512 codem_649 :=
  And.intro (okm_453 Hy) (okzm 965)
theorem anm_650 (Hy : Hym tys cA base adS Ex) : xall (fun b t => xOK l Dg clm tys cA flm ftm base adS GWm xym xcm xnm xrm Ex codem bmm bpm b t) 2 197 256 codem_650 :=
  And.intro (anm_648 Hy) (anm_649 Hy)
theorem anm_651 (Hy : Hym tys cA base adS Ex) : xall (fun b t => xOK l Dg clm tys cA flm ftm base adS GWm xym xcm xnm xrm Ex codem bmm bpm b t) 3 69 128 codem_651 :=
  And.intro (anm_647 Hy) (anm_650 Hy)
theorem anm_652 (Hy : Hym tys cA base adS Ex) : xall (fun b t => xOK l Dg clm tys cA flm ftm base adS GWm xym xcm xnm xrm Ex codem bmm bpm b t) 4 5 64 codem_652 :=
  And.intro (anm_644 Hy) (anm_651 Hy)
theorem anm_653 (Hy : Hym tys cA base adS Ex) : xall (fun b t => xOK l Dg clm tys cA flm ftm base adS GWm xym xcm xnm xrm Ex codem bmm bpm b t) 1 37 512 codem_653 :=
  And.intro (okm_37 Hy) (okm_549 Hy)
theorem anm_654 (Hy : Hym tys cA base adS Ex) : xall (fun b t => xOK l Dg clm tys cA flm ftm base adS GWm xym xcm xnm xrm Ex codem bmm bpm b t) 1 293 512 codem_654 :=
  And.intro (okm_293 Hy) (okm_805 Hy)
theorem anm_655 (Hy : Hym tys cA base adS Ex) : xall (fun b t => xOK l Dg clm tys cA flm ftm base adS GWm xym xcm xnm xrm Ex codem bmm bpm b t) 2 37 256 codem_655 :=
  And.intro (anm_653 Hy) (anm_654 Hy)
theorem anm_656 (Hy : Hym tys cA base adS Ex) : xall (fun b t => xOK l Dg clm tys cA flm ftm base adS GWm xym xcm xnm xrm Ex codem bmm bpm b t) 1 165 512 codem_656 :=
  And.intro (okm_165 Hy) (okm_677 Hy)
theorem anm_657 (Hy : Hym tys cA base adS Ex) : xall (fun b t => xOK l Dg clm tys cA flm ftm base adS GWm xym xcm xnm xrm Ex codem bmm bpm b t) 1 421 512 codem_657 :=
  And.intro (okm_421 Hy) (okm_933 Hy)
theorem anm_658 (Hy : Hym tys cA base adS Ex) : xall (fun b t => xOK l Dg clm tys cA flm ftm base adS GWm xym xcm xnm xrm Ex codem bmm bpm b t) 2 165 256 codem_658 :=
  And.intro (anm_656 Hy) (anm_657 Hy)
theorem anm_659 (Hy : Hym tys cA base adS Ex) : xall (fun b t => xOK l Dg clm tys cA flm ftm base adS GWm xym xcm xnm xrm Ex codem bmm bpm b t) 3 37 128 codem_659 :=
  And.intro (anm_655 Hy) (anm_658 Hy)
theorem anm_660 (Hy : Hym tys cA base adS Ex) : xall (fun b t => xOK l Dg clm tys cA flm ftm base adS GWm xym xcm xnm xrm Ex codem bmm bpm b t) 1 101 512 codem_660 :=
  And.intro (okm_101 Hy) (okm_613 Hy)
theorem anm_661 (Hy : Hym tys cA base adS Ex) : xall (fun b t => xOK l Dg clm tys cA flm ftm base adS GWm xym xcm xnm xrm Ex codem bmm bpm b t) 1 357 512 codem_661 :=
  And.intro (okm_357 Hy) (okm_869 Hy)
theorem anm_662 (Hy : Hym tys cA base adS Ex) : xall (fun b t => xOK l Dg clm tys cA flm ftm base adS GWm xym xcm xnm xrm Ex codem bmm bpm b t) 2 101 256 codem_662 :=
  And.intro (anm_660 Hy) (anm_661 Hy)
theorem anm_663 (Hy : Hym tys cA base adS Ex) : xall (fun b t => xOK l Dg clm tys cA flm ftm base adS GWm xym xcm xnm xrm Ex codem bmm bpm b t) 1 229 512 codem_663 :=
  And.intro (okm_229 Hy) (okm_741 Hy)
theorem anm_664 (Hy : Hym tys cA base adS Ex) : xall (fun b t => xOK l Dg clm tys cA flm ftm base adS GWm xym xcm xnm xrm Ex codem bmm bpm b t) 1 485 512 codem_664 :=
  And.intro (okm_485 Hy) (okzm 997)
theorem anm_665 (Hy : Hym tys cA base adS Ex) : xall (fun b t => xOK l Dg clm tys cA flm ftm base adS GWm xym xcm xnm xrm Ex codem bmm bpm b t) 2 229 256 codem_665 :=
  And.intro (anm_663 Hy) (anm_664 Hy)
theorem anm_666 (Hy : Hym tys cA base adS Ex) : xall (fun b t => xOK l Dg clm tys cA flm ftm base adS GWm xym xcm xnm xrm Ex codem bmm bpm b t) 3 101 128 codem_666 :=
  And.intro (anm_662 Hy) (anm_665 Hy)
theorem anm_667 (Hy : Hym tys cA base adS Ex) : xall (fun b t => xOK l Dg clm tys cA flm ftm base adS GWm xym xcm xnm xrm Ex codem bmm bpm b t) 4 37 64 codem_667 :=
  And.intro (anm_659 Hy) (anm_666 Hy)
theorem anm_668 (Hy : Hym tys cA base adS Ex) : xall (fun b t => xOK l Dg clm tys cA flm ftm base adS GWm xym xcm xnm xrm Ex codem bmm bpm b t) 5 5 32 codem_668 :=
  And.intro (anm_652 Hy) (anm_667 Hy)
theorem anm_669 (Hy : Hym tys cA base adS Ex) : xall (fun b t => xOK l Dg clm tys cA flm ftm base adS GWm xym xcm xnm xrm Ex codem bmm bpm b t) 1 21 512 codem_669 :=
  And.intro (okm_21 Hy) (okm_533 Hy)
theorem anm_670 (Hy : Hym tys cA base adS Ex) : xall (fun b t => xOK l Dg clm tys cA flm ftm base adS GWm xym xcm xnm xrm Ex codem bmm bpm b t) 1 277 512 codem_670 :=
  And.intro (okm_277 Hy) (okm_789 Hy)
theorem anm_671 (Hy : Hym tys cA base adS Ex) : xall (fun b t => xOK l Dg clm tys cA flm ftm base adS GWm xym xcm xnm xrm Ex codem bmm bpm b t) 2 21 256 codem_671 :=
  And.intro (anm_669 Hy) (anm_670 Hy)
theorem anm_672 (Hy : Hym tys cA base adS Ex) : xall (fun b t => xOK l Dg clm tys cA flm ftm base adS GWm xym xcm xnm xrm Ex codem bmm bpm b t) 1 149 512 codem_672 :=
  And.intro (okm_149 Hy) (okm_661 Hy)
theorem anm_673 (Hy : Hym tys cA base adS Ex) : xall (fun b t => xOK l Dg clm tys cA flm ftm base adS GWm xym xcm xnm xrm Ex codem bmm bpm b t) 1 405 512 codem_673 :=
  And.intro (okm_405 Hy) (okm_917 Hy)
theorem anm_674 (Hy : Hym tys cA base adS Ex) : xall (fun b t => xOK l Dg clm tys cA flm ftm base adS GWm xym xcm xnm xrm Ex codem bmm bpm b t) 2 149 256 codem_674 :=
  And.intro (anm_672 Hy) (anm_673 Hy)
theorem anm_675 (Hy : Hym tys cA base adS Ex) : xall (fun b t => xOK l Dg clm tys cA flm ftm base adS GWm xym xcm xnm xrm Ex codem bmm bpm b t) 3 21 128 codem_675 :=
  And.intro (anm_671 Hy) (anm_674 Hy)
theorem anm_676 (Hy : Hym tys cA base adS Ex) : xall (fun b t => xOK l Dg clm tys cA flm ftm base adS GWm xym xcm xnm xrm Ex codem bmm bpm b t) 1 85 512 codem_676 :=
  And.intro (okm_85 Hy) (okm_597 Hy)
theorem anm_677 (Hy : Hym tys cA base adS Ex) : xall (fun b t => xOK l Dg clm tys cA flm ftm base adS GWm xym xcm xnm xrm Ex codem bmm bpm b t) 1 341 512 codem_677 :=
  And.intro (okm_341 Hy) (okm_853 Hy)
theorem anm_678 (Hy : Hym tys cA base adS Ex) : xall (fun b t => xOK l Dg clm tys cA flm ftm base adS GWm xym xcm xnm xrm Ex codem bmm bpm b t) 2 85 256 codem_678 :=
  And.intro (anm_676 Hy) (anm_677 Hy)
theorem anm_679 (Hy : Hym tys cA base adS Ex) : xall (fun b t => xOK l Dg clm tys cA flm ftm base adS GWm xym xcm xnm xrm Ex codem bmm bpm b t) 1 213 512 codem_679 :=
  And.intro (okm_213 Hy) (okm_725 Hy)
theorem anm_680 (Hy : Hym tys cA base adS Ex) : xall (fun b t => xOK l Dg clm tys cA flm ftm base adS GWm xym xcm xnm xrm Ex codem bmm bpm b t) 1 469 512 codem_680 :=
  And.intro (okm_469 Hy) (okzm 981)
theorem anm_681 (Hy : Hym tys cA base adS Ex) : xall (fun b t => xOK l Dg clm tys cA flm ftm base adS GWm xym xcm xnm xrm Ex codem bmm bpm b t) 2 213 256 codem_681 :=
  And.intro (anm_679 Hy) (anm_680 Hy)
theorem anm_682 (Hy : Hym tys cA base adS Ex) : xall (fun b t => xOK l Dg clm tys cA flm ftm base adS GWm xym xcm xnm xrm Ex codem bmm bpm b t) 3 85 128 codem_682 :=
  And.intro (anm_678 Hy) (anm_681 Hy)
theorem anm_683 (Hy : Hym tys cA base adS Ex) : xall (fun b t => xOK l Dg clm tys cA flm ftm base adS GWm xym xcm xnm xrm Ex codem bmm bpm b t) 4 21 64 codem_683 :=
  And.intro (anm_675 Hy) (anm_682 Hy)
theorem anm_684 (Hy : Hym tys cA base adS Ex) : xall (fun b t => xOK l Dg clm tys cA flm ftm base adS GWm xym xcm xnm xrm Ex codem bmm bpm b t) 1 53 512 codem_684 :=
  And.intro (okm_53 Hy) (okm_565 Hy)
theorem anm_685 (Hy : Hym tys cA base adS Ex) : xall (fun b t => xOK l Dg clm tys cA flm ftm base adS GWm xym xcm xnm xrm Ex codem bmm bpm b t) 1 309 512 codem_685 :=
  And.intro (okm_309 Hy) (okm_821 Hy)
theorem anm_686 (Hy : Hym tys cA base adS Ex) : xall (fun b t => xOK l Dg clm tys cA flm ftm base adS GWm xym xcm xnm xrm Ex codem bmm bpm b t) 2 53 256 codem_686 :=
  And.intro (anm_684 Hy) (anm_685 Hy)
theorem anm_687 (Hy : Hym tys cA base adS Ex) : xall (fun b t => xOK l Dg clm tys cA flm ftm base adS GWm xym xcm xnm xrm Ex codem bmm bpm b t) 1 181 512 codem_687 :=
  And.intro (okm_181 Hy) (okm_693 Hy)
theorem anm_688 (Hy : Hym tys cA base adS Ex) : xall (fun b t => xOK l Dg clm tys cA flm ftm base adS GWm xym xcm xnm xrm Ex codem bmm bpm b t) 1 437 512 codem_688 :=
  And.intro (okm_437 Hy) (okm_949 Hy)
theorem anm_689 (Hy : Hym tys cA base adS Ex) : xall (fun b t => xOK l Dg clm tys cA flm ftm base adS GWm xym xcm xnm xrm Ex codem bmm bpm b t) 2 181 256 codem_689 :=
  And.intro (anm_687 Hy) (anm_688 Hy)
theorem anm_690 (Hy : Hym tys cA base adS Ex) : xall (fun b t => xOK l Dg clm tys cA flm ftm base adS GWm xym xcm xnm xrm Ex codem bmm bpm b t) 3 53 128 codem_690 :=
  And.intro (anm_686 Hy) (anm_689 Hy)
theorem anm_691 (Hy : Hym tys cA base adS Ex) : xall (fun b t => xOK l Dg clm tys cA flm ftm base adS GWm xym xcm xnm xrm Ex codem bmm bpm b t) 1 117 512 codem_691 :=
  And.intro (okm_117 Hy) (okm_629 Hy)
theorem anm_692 (Hy : Hym tys cA base adS Ex) : xall (fun b t => xOK l Dg clm tys cA flm ftm base adS GWm xym xcm xnm xrm Ex codem bmm bpm b t) 1 373 512 codem_692 :=
  And.intro (okm_373 Hy) (okm_885 Hy)
theorem anm_693 (Hy : Hym tys cA base adS Ex) : xall (fun b t => xOK l Dg clm tys cA flm ftm base adS GWm xym xcm xnm xrm Ex codem bmm bpm b t) 2 117 256 codem_693 :=
  And.intro (anm_691 Hy) (anm_692 Hy)
theorem anm_694 (Hy : Hym tys cA base adS Ex) : xall (fun b t => xOK l Dg clm tys cA flm ftm base adS GWm xym xcm xnm xrm Ex codem bmm bpm b t) 1 245 512 codem_694 :=
  And.intro (okm_245 Hy) (okm_757 Hy)
theorem anm_695 (Hy : Hym tys cA base adS Ex) : xall (fun b t => xOK l Dg clm tys cA flm ftm base adS GWm xym xcm xnm xrm Ex codem bmm bpm b t) 1 501 512 codem_695 :=
  And.intro (okm_501 Hy) (okzm 1013)
theorem anm_696 (Hy : Hym tys cA base adS Ex) : xall (fun b t => xOK l Dg clm tys cA flm ftm base adS GWm xym xcm xnm xrm Ex codem bmm bpm b t) 2 245 256 codem_696 :=
  And.intro (anm_694 Hy) (anm_695 Hy)
theorem anm_697 (Hy : Hym tys cA base adS Ex) : xall (fun b t => xOK l Dg clm tys cA flm ftm base adS GWm xym xcm xnm xrm Ex codem bmm bpm b t) 3 117 128 codem_697 :=
  And.intro (anm_693 Hy) (anm_696 Hy)
theorem anm_698 (Hy : Hym tys cA base adS Ex) : xall (fun b t => xOK l Dg clm tys cA flm ftm base adS GWm xym xcm xnm xrm Ex codem bmm bpm b t) 4 53 64 codem_698 :=
  And.intro (anm_690 Hy) (anm_697 Hy)
theorem anm_699 (Hy : Hym tys cA base adS Ex) : xall (fun b t => xOK l Dg clm tys cA flm ftm base adS GWm xym xcm xnm xrm Ex codem bmm bpm b t) 5 21 32 codem_699 :=
  And.intro (anm_683 Hy) (anm_698 Hy)
theorem anm_700 (Hy : Hym tys cA base adS Ex) : xall (fun b t => xOK l Dg clm tys cA flm ftm base adS GWm xym xcm xnm xrm Ex codem bmm bpm b t) 6 5 16 codem_700 :=
  And.intro (anm_668 Hy) (anm_699 Hy)
theorem anm_701 (Hy : Hym tys cA base adS Ex) : xall (fun b t => xOK l Dg clm tys cA flm ftm base adS GWm xym xcm xnm xrm Ex codem bmm bpm b t) 1 13 512 codem_701 :=
  And.intro (okm_13 Hy) (okm_525 Hy)
theorem anm_702 (Hy : Hym tys cA base adS Ex) : xall (fun b t => xOK l Dg clm tys cA flm ftm base adS GWm xym xcm xnm xrm Ex codem bmm bpm b t) 1 269 512 codem_702 :=
  And.intro (okm_269 Hy) (okm_781 Hy)
theorem anm_703 (Hy : Hym tys cA base adS Ex) : xall (fun b t => xOK l Dg clm tys cA flm ftm base adS GWm xym xcm xnm xrm Ex codem bmm bpm b t) 2 13 256 codem_703 :=
  And.intro (anm_701 Hy) (anm_702 Hy)
theorem anm_704 (Hy : Hym tys cA base adS Ex) : xall (fun b t => xOK l Dg clm tys cA flm ftm base adS GWm xym xcm xnm xrm Ex codem bmm bpm b t) 1 141 512 codem_704 :=
  And.intro (okm_141 Hy) (okm_653 Hy)
theorem anm_705 (Hy : Hym tys cA base adS Ex) : xall (fun b t => xOK l Dg clm tys cA flm ftm base adS GWm xym xcm xnm xrm Ex codem bmm bpm b t) 1 397 512 codem_705 :=
  And.intro (okm_397 Hy) (okm_909 Hy)
theorem anm_706 (Hy : Hym tys cA base adS Ex) : xall (fun b t => xOK l Dg clm tys cA flm ftm base adS GWm xym xcm xnm xrm Ex codem bmm bpm b t) 2 141 256 codem_706 :=
  And.intro (anm_704 Hy) (anm_705 Hy)
theorem anm_707 (Hy : Hym tys cA base adS Ex) : xall (fun b t => xOK l Dg clm tys cA flm ftm base adS GWm xym xcm xnm xrm Ex codem bmm bpm b t) 3 13 128 codem_707 :=
  And.intro (anm_703 Hy) (anm_706 Hy)
theorem anm_708 (Hy : Hym tys cA base adS Ex) : xall (fun b t => xOK l Dg clm tys cA flm ftm base adS GWm xym xcm xnm xrm Ex codem bmm bpm b t) 1 77 512 codem_708 :=
  And.intro (okm_77 Hy) (okm_589 Hy)
theorem anm_709 (Hy : Hym tys cA base adS Ex) : xall (fun b t => xOK l Dg clm tys cA flm ftm base adS GWm xym xcm xnm xrm Ex codem bmm bpm b t) 1 333 512 codem_709 :=
  And.intro (okm_333 Hy) (okm_845 Hy)
theorem anm_710 (Hy : Hym tys cA base adS Ex) : xall (fun b t => xOK l Dg clm tys cA flm ftm base adS GWm xym xcm xnm xrm Ex codem bmm bpm b t) 2 77 256 codem_710 :=
  And.intro (anm_708 Hy) (anm_709 Hy)
theorem anm_711 (Hy : Hym tys cA base adS Ex) : xall (fun b t => xOK l Dg clm tys cA flm ftm base adS GWm xym xcm xnm xrm Ex codem bmm bpm b t) 1 205 512 codem_711 :=
  And.intro (okm_205 Hy) (okm_717 Hy)
theorem anm_712 (Hy : Hym tys cA base adS Ex) : xall (fun b t => xOK l Dg clm tys cA flm ftm base adS GWm xym xcm xnm xrm Ex codem bmm bpm b t) 1 461 512 codem_712 :=
  And.intro (okm_461 Hy) (okzm 973)
theorem anm_713 (Hy : Hym tys cA base adS Ex) : xall (fun b t => xOK l Dg clm tys cA flm ftm base adS GWm xym xcm xnm xrm Ex codem bmm bpm b t) 2 205 256 codem_713 :=
  And.intro (anm_711 Hy) (anm_712 Hy)
theorem anm_714 (Hy : Hym tys cA base adS Ex) : xall (fun b t => xOK l Dg clm tys cA flm ftm base adS GWm xym xcm xnm xrm Ex codem bmm bpm b t) 3 77 128 codem_714 :=
  And.intro (anm_710 Hy) (anm_713 Hy)
theorem anm_715 (Hy : Hym tys cA base adS Ex) : xall (fun b t => xOK l Dg clm tys cA flm ftm base adS GWm xym xcm xnm xrm Ex codem bmm bpm b t) 4 13 64 codem_715 :=
  And.intro (anm_707 Hy) (anm_714 Hy)
theorem anm_716 (Hy : Hym tys cA base adS Ex) : xall (fun b t => xOK l Dg clm tys cA flm ftm base adS GWm xym xcm xnm xrm Ex codem bmm bpm b t) 1 45 512 codem_716 :=
  And.intro (okm_45 Hy) (okm_557 Hy)
theorem anm_717 (Hy : Hym tys cA base adS Ex) : xall (fun b t => xOK l Dg clm tys cA flm ftm base adS GWm xym xcm xnm xrm Ex codem bmm bpm b t) 1 301 512 codem_717 :=
  And.intro (okm_301 Hy) (okm_813 Hy)
theorem anm_718 (Hy : Hym tys cA base adS Ex) : xall (fun b t => xOK l Dg clm tys cA flm ftm base adS GWm xym xcm xnm xrm Ex codem bmm bpm b t) 2 45 256 codem_718 :=
  And.intro (anm_716 Hy) (anm_717 Hy)
theorem anm_719 (Hy : Hym tys cA base adS Ex) : xall (fun b t => xOK l Dg clm tys cA flm ftm base adS GWm xym xcm xnm xrm Ex codem bmm bpm b t) 1 173 512 codem_719 :=
  And.intro (okm_173 Hy) (okm_685 Hy)
theorem anm_720 (Hy : Hym tys cA base adS Ex) : xall (fun b t => xOK l Dg clm tys cA flm ftm base adS GWm xym xcm xnm xrm Ex codem bmm bpm b t) 1 429 512 codem_720 :=
  And.intro (okm_429 Hy) (okm_941 Hy)
theorem anm_721 (Hy : Hym tys cA base adS Ex) : xall (fun b t => xOK l Dg clm tys cA flm ftm base adS GWm xym xcm xnm xrm Ex codem bmm bpm b t) 2 173 256 codem_721 :=
  And.intro (anm_719 Hy) (anm_720 Hy)
theorem anm_722 (Hy : Hym tys cA base adS Ex) : xall (fun b t => xOK l Dg clm tys cA flm ftm base adS GWm xym xcm xnm xrm Ex codem bmm bpm b t) 3 45 128 codem_722 :=
  And.intro (anm_718 Hy) (anm_721 Hy)
theorem anm_723 (Hy : Hym tys cA base adS Ex) : xall (fun b t => xOK l Dg clm tys cA flm ftm base adS GWm xym xcm xnm xrm Ex codem bmm bpm b t) 1 109 512 codem_723 :=
  And.intro (okm_109 Hy) (okm_621 Hy)
theorem anm_724 (Hy : Hym tys cA base adS Ex) : xall (fun b t => xOK l Dg clm tys cA flm ftm base adS GWm xym xcm xnm xrm Ex codem bmm bpm b t) 1 365 512 codem_724 :=
  And.intro (okm_365 Hy) (okm_877 Hy)
theorem anm_725 (Hy : Hym tys cA base adS Ex) : xall (fun b t => xOK l Dg clm tys cA flm ftm base adS GWm xym xcm xnm xrm Ex codem bmm bpm b t) 2 109 256 codem_725 :=
  And.intro (anm_723 Hy) (anm_724 Hy)
theorem anm_726 (Hy : Hym tys cA base adS Ex) : xall (fun b t => xOK l Dg clm tys cA flm ftm base adS GWm xym xcm xnm xrm Ex codem bmm bpm b t) 1 237 512 codem_726 :=
  And.intro (okm_237 Hy) (okm_749 Hy)
theorem anm_727 (Hy : Hym tys cA base adS Ex) : xall (fun b t => xOK l Dg clm tys cA flm ftm base adS GWm xym xcm xnm xrm Ex codem bmm bpm b t) 1 493 512 codem_727 :=
  And.intro (okm_493 Hy) (okzm 1005)
theorem anm_728 (Hy : Hym tys cA base adS Ex) : xall (fun b t => xOK l Dg clm tys cA flm ftm base adS GWm xym xcm xnm xrm Ex codem bmm bpm b t) 2 237 256 codem_728 :=
  And.intro (anm_726 Hy) (anm_727 Hy)
theorem anm_729 (Hy : Hym tys cA base adS Ex) : xall (fun b t => xOK l Dg clm tys cA flm ftm base adS GWm xym xcm xnm xrm Ex codem bmm bpm b t) 3 109 128 codem_729 :=
  And.intro (anm_725 Hy) (anm_728 Hy)
theorem anm_730 (Hy : Hym tys cA base adS Ex) : xall (fun b t => xOK l Dg clm tys cA flm ftm base adS GWm xym xcm xnm xrm Ex codem bmm bpm b t) 4 45 64 codem_730 :=
  And.intro (anm_722 Hy) (anm_729 Hy)
theorem anm_731 (Hy : Hym tys cA base adS Ex) : xall (fun b t => xOK l Dg clm tys cA flm ftm base adS GWm xym xcm xnm xrm Ex codem bmm bpm b t) 5 13 32 codem_731 :=
  And.intro (anm_715 Hy) (anm_730 Hy)
theorem anm_732 (Hy : Hym tys cA base adS Ex) : xall (fun b t => xOK l Dg clm tys cA flm ftm base adS GWm xym xcm xnm xrm Ex codem bmm bpm b t) 1 29 512 codem_732 :=
  And.intro (okm_29 Hy) (okm_541 Hy)
theorem anm_733 (Hy : Hym tys cA base adS Ex) : xall (fun b t => xOK l Dg clm tys cA flm ftm base adS GWm xym xcm xnm xrm Ex codem bmm bpm b t) 1 285 512 codem_733 :=
  And.intro (okm_285 Hy) (okm_797 Hy)
theorem anm_734 (Hy : Hym tys cA base adS Ex) : xall (fun b t => xOK l Dg clm tys cA flm ftm base adS GWm xym xcm xnm xrm Ex codem bmm bpm b t) 2 29 256 codem_734 :=
  And.intro (anm_732 Hy) (anm_733 Hy)
theorem anm_735 (Hy : Hym tys cA base adS Ex) : xall (fun b t => xOK l Dg clm tys cA flm ftm base adS GWm xym xcm xnm xrm Ex codem bmm bpm b t) 1 157 512 codem_735 :=
  And.intro (okm_157 Hy) (okm_669 Hy)
theorem anm_736 (Hy : Hym tys cA base adS Ex) : xall (fun b t => xOK l Dg clm tys cA flm ftm base adS GWm xym xcm xnm xrm Ex codem bmm bpm b t) 1 413 512 codem_736 :=
  And.intro (okm_413 Hy) (okm_925 Hy)
theorem anm_737 (Hy : Hym tys cA base adS Ex) : xall (fun b t => xOK l Dg clm tys cA flm ftm base adS GWm xym xcm xnm xrm Ex codem bmm bpm b t) 2 157 256 codem_737 :=
  And.intro (anm_735 Hy) (anm_736 Hy)
theorem anm_738 (Hy : Hym tys cA base adS Ex) : xall (fun b t => xOK l Dg clm tys cA flm ftm base adS GWm xym xcm xnm xrm Ex codem bmm bpm b t) 3 29 128 codem_738 :=
  And.intro (anm_734 Hy) (anm_737 Hy)
theorem anm_739 (Hy : Hym tys cA base adS Ex) : xall (fun b t => xOK l Dg clm tys cA flm ftm base adS GWm xym xcm xnm xrm Ex codem bmm bpm b t) 1 93 512 codem_739 :=
  And.intro (okm_93 Hy) (okm_605 Hy)
theorem anm_740 (Hy : Hym tys cA base adS Ex) : xall (fun b t => xOK l Dg clm tys cA flm ftm base adS GWm xym xcm xnm xrm Ex codem bmm bpm b t) 1 349 512 codem_740 :=
  And.intro (okm_349 Hy) (okm_861 Hy)
theorem anm_741 (Hy : Hym tys cA base adS Ex) : xall (fun b t => xOK l Dg clm tys cA flm ftm base adS GWm xym xcm xnm xrm Ex codem bmm bpm b t) 2 93 256 codem_741 :=
  And.intro (anm_739 Hy) (anm_740 Hy)
theorem anm_742 (Hy : Hym tys cA base adS Ex) : xall (fun b t => xOK l Dg clm tys cA flm ftm base adS GWm xym xcm xnm xrm Ex codem bmm bpm b t) 1 221 512 codem_742 :=
  And.intro (okm_221 Hy) (okm_733 Hy)
theorem anm_743 (Hy : Hym tys cA base adS Ex) : xall (fun b t => xOK l Dg clm tys cA flm ftm base adS GWm xym xcm xnm xrm Ex codem bmm bpm b t) 1 477 512 codem_743 :=
  And.intro (okm_477 Hy) (okzm 989)
theorem anm_744 (Hy : Hym tys cA base adS Ex) : xall (fun b t => xOK l Dg clm tys cA flm ftm base adS GWm xym xcm xnm xrm Ex codem bmm bpm b t) 2 221 256 codem_744 :=
  And.intro (anm_742 Hy) (anm_743 Hy)
theorem anm_745 (Hy : Hym tys cA base adS Ex) : xall (fun b t => xOK l Dg clm tys cA flm ftm base adS GWm xym xcm xnm xrm Ex codem bmm bpm b t) 3 93 128 codem_745 :=
  And.intro (anm_741 Hy) (anm_744 Hy)
theorem anm_746 (Hy : Hym tys cA base adS Ex) : xall (fun b t => xOK l Dg clm tys cA flm ftm base adS GWm xym xcm xnm xrm Ex codem bmm bpm b t) 4 29 64 codem_746 :=
  And.intro (anm_738 Hy) (anm_745 Hy)
theorem anm_747 (Hy : Hym tys cA base adS Ex) : xall (fun b t => xOK l Dg clm tys cA flm ftm base adS GWm xym xcm xnm xrm Ex codem bmm bpm b t) 1 61 512 codem_747 :=
  And.intro (okm_61 Hy) (okm_573 Hy)
theorem anm_748 (Hy : Hym tys cA base adS Ex) : xall (fun b t => xOK l Dg clm tys cA flm ftm base adS GWm xym xcm xnm xrm Ex codem bmm bpm b t) 1 317 512 codem_748 :=
  And.intro (okm_317 Hy) (okm_829 Hy)
theorem anm_749 (Hy : Hym tys cA base adS Ex) : xall (fun b t => xOK l Dg clm tys cA flm ftm base adS GWm xym xcm xnm xrm Ex codem bmm bpm b t) 2 61 256 codem_749 :=
  And.intro (anm_747 Hy) (anm_748 Hy)
theorem anm_750 (Hy : Hym tys cA base adS Ex) : xall (fun b t => xOK l Dg clm tys cA flm ftm base adS GWm xym xcm xnm xrm Ex codem bmm bpm b t) 1 189 512 codem_750 :=
  And.intro (okm_189 Hy) (okm_701 Hy)
theorem anm_751 (Hy : Hym tys cA base adS Ex) : xall (fun b t => xOK l Dg clm tys cA flm ftm base adS GWm xym xcm xnm xrm Ex codem bmm bpm b t) 1 445 512 codem_751 :=
  And.intro (okm_445 Hy) (okm_957 Hy)
theorem anm_752 (Hy : Hym tys cA base adS Ex) : xall (fun b t => xOK l Dg clm tys cA flm ftm base adS GWm xym xcm xnm xrm Ex codem bmm bpm b t) 2 189 256 codem_752 :=
  And.intro (anm_750 Hy) (anm_751 Hy)
theorem anm_753 (Hy : Hym tys cA base adS Ex) : xall (fun b t => xOK l Dg clm tys cA flm ftm base adS GWm xym xcm xnm xrm Ex codem bmm bpm b t) 3 61 128 codem_753 :=
  And.intro (anm_749 Hy) (anm_752 Hy)
theorem anm_754 (Hy : Hym tys cA base adS Ex) : xall (fun b t => xOK l Dg clm tys cA flm ftm base adS GWm xym xcm xnm xrm Ex codem bmm bpm b t) 1 125 512 codem_754 :=
  And.intro (okm_125 Hy) (okm_637 Hy)
theorem anm_755 (Hy : Hym tys cA base adS Ex) : xall (fun b t => xOK l Dg clm tys cA flm ftm base adS GWm xym xcm xnm xrm Ex codem bmm bpm b t) 1 381 512 codem_755 :=
  And.intro (okm_381 Hy) (okm_893 Hy)
theorem anm_756 (Hy : Hym tys cA base adS Ex) : xall (fun b t => xOK l Dg clm tys cA flm ftm base adS GWm xym xcm xnm xrm Ex codem bmm bpm b t) 2 125 256 codem_756 :=
  And.intro (anm_754 Hy) (anm_755 Hy)
theorem anm_757 (Hy : Hym tys cA base adS Ex) : xall (fun b t => xOK l Dg clm tys cA flm ftm base adS GWm xym xcm xnm xrm Ex codem bmm bpm b t) 1 253 512 codem_757 :=
  And.intro (okm_253 Hy) (okm_765 Hy)
theorem anm_758 (Hy : Hym tys cA base adS Ex) : xall (fun b t => xOK l Dg clm tys cA flm ftm base adS GWm xym xcm xnm xrm Ex codem bmm bpm b t) 1 509 512 codem_758 :=
  And.intro (okm_509 Hy) (okzm 1021)
theorem anm_759 (Hy : Hym tys cA base adS Ex) : xall (fun b t => xOK l Dg clm tys cA flm ftm base adS GWm xym xcm xnm xrm Ex codem bmm bpm b t) 2 253 256 codem_759 :=
  And.intro (anm_757 Hy) (anm_758 Hy)
theorem anm_760 (Hy : Hym tys cA base adS Ex) : xall (fun b t => xOK l Dg clm tys cA flm ftm base adS GWm xym xcm xnm xrm Ex codem bmm bpm b t) 3 125 128 codem_760 :=
  And.intro (anm_756 Hy) (anm_759 Hy)
theorem anm_761 (Hy : Hym tys cA base adS Ex) : xall (fun b t => xOK l Dg clm tys cA flm ftm base adS GWm xym xcm xnm xrm Ex codem bmm bpm b t) 4 61 64 codem_761 :=
  And.intro (anm_753 Hy) (anm_760 Hy)
theorem anm_762 (Hy : Hym tys cA base adS Ex) : xall (fun b t => xOK l Dg clm tys cA flm ftm base adS GWm xym xcm xnm xrm Ex codem bmm bpm b t) 5 29 32 codem_762 :=
  And.intro (anm_746 Hy) (anm_761 Hy)
theorem anm_763 (Hy : Hym tys cA base adS Ex) : xall (fun b t => xOK l Dg clm tys cA flm ftm base adS GWm xym xcm xnm xrm Ex codem bmm bpm b t) 6 13 16 codem_763 :=
  And.intro (anm_731 Hy) (anm_762 Hy)
theorem anm_764 (Hy : Hym tys cA base adS Ex) : xall (fun b t => xOK l Dg clm tys cA flm ftm base adS GWm xym xcm xnm xrm Ex codem bmm bpm b t) 7 5 8 codem_764 :=
  And.intro (anm_700 Hy) (anm_763 Hy)
theorem anm_765 (Hy : Hym tys cA base adS Ex) : xall (fun b t => xOK l Dg clm tys cA flm ftm base adS GWm xym xcm xnm xrm Ex codem bmm bpm b t) 8 1 4 codem_765 :=
  And.intro (anm_637 Hy) (anm_764 Hy)
theorem anm_766 (Hy : Hym tys cA base adS Ex) : xall (fun b t => xOK l Dg clm tys cA flm ftm base adS GWm xym xcm xnm xrm Ex codem bmm bpm b t) 1 3 512 codem_766 :=
  And.intro (okm_3 Hy) (okm_515 Hy)
theorem anm_767 (Hy : Hym tys cA base adS Ex) : xall (fun b t => xOK l Dg clm tys cA flm ftm base adS GWm xym xcm xnm xrm Ex codem bmm bpm b t) 1 259 512 codem_767 :=
  And.intro (okm_259 Hy) (okm_771 Hy)
theorem anm_768 (Hy : Hym tys cA base adS Ex) : xall (fun b t => xOK l Dg clm tys cA flm ftm base adS GWm xym xcm xnm xrm Ex codem bmm bpm b t) 2 3 256 codem_768 :=
  And.intro (anm_766 Hy) (anm_767 Hy)
theorem anm_769 (Hy : Hym tys cA base adS Ex) : xall (fun b t => xOK l Dg clm tys cA flm ftm base adS GWm xym xcm xnm xrm Ex codem bmm bpm b t) 1 131 512 codem_769 :=
  And.intro (okm_131 Hy) (okm_643 Hy)
theorem anm_770 (Hy : Hym tys cA base adS Ex) : xall (fun b t => xOK l Dg clm tys cA flm ftm base adS GWm xym xcm xnm xrm Ex codem bmm bpm b t) 1 387 512 codem_770 :=
  And.intro (okm_387 Hy) (okm_899 Hy)
theorem anm_771 (Hy : Hym tys cA base adS Ex) : xall (fun b t => xOK l Dg clm tys cA flm ftm base adS GWm xym xcm xnm xrm Ex codem bmm bpm b t) 2 131 256 codem_771 :=
  And.intro (anm_769 Hy) (anm_770 Hy)
theorem anm_772 (Hy : Hym tys cA base adS Ex) : xall (fun b t => xOK l Dg clm tys cA flm ftm base adS GWm xym xcm xnm xrm Ex codem bmm bpm b t) 3 3 128 codem_772 :=
  And.intro (anm_768 Hy) (anm_771 Hy)
theorem anm_773 (Hy : Hym tys cA base adS Ex) : xall (fun b t => xOK l Dg clm tys cA flm ftm base adS GWm xym xcm xnm xrm Ex codem bmm bpm b t) 1 67 512 codem_773 :=
  And.intro (okm_67 Hy) (okm_579 Hy)
theorem anm_774 (Hy : Hym tys cA base adS Ex) : xall (fun b t => xOK l Dg clm tys cA flm ftm base adS GWm xym xcm xnm xrm Ex codem bmm bpm b t) 1 323 512 codem_774 :=
  And.intro (okm_323 Hy) (okm_835 Hy)
theorem anm_775 (Hy : Hym tys cA base adS Ex) : xall (fun b t => xOK l Dg clm tys cA flm ftm base adS GWm xym xcm xnm xrm Ex codem bmm bpm b t) 2 67 256 codem_775 :=
  And.intro (anm_773 Hy) (anm_774 Hy)
theorem anm_776 (Hy : Hym tys cA base adS Ex) : xall (fun b t => xOK l Dg clm tys cA flm ftm base adS GWm xym xcm xnm xrm Ex codem bmm bpm b t) 1 195 512 codem_776 :=
  And.intro (okm_195 Hy) (okm_707 Hy)
theorem anm_777 (Hy : Hym tys cA base adS Ex) : xall (fun b t => xOK l Dg clm tys cA flm ftm base adS GWm xym xcm xnm xrm Ex codem bmm bpm b t) 1 451 512 codem_777 :=
  And.intro (okm_451 Hy) (okzm 963)
theorem anm_778 (Hy : Hym tys cA base adS Ex) : xall (fun b t => xOK l Dg clm tys cA flm ftm base adS GWm xym xcm xnm xrm Ex codem bmm bpm b t) 2 195 256 codem_778 :=
  And.intro (anm_776 Hy) (anm_777 Hy)
theorem anm_779 (Hy : Hym tys cA base adS Ex) : xall (fun b t => xOK l Dg clm tys cA flm ftm base adS GWm xym xcm xnm xrm Ex codem bmm bpm b t) 3 67 128 codem_779 :=
  And.intro (anm_775 Hy) (anm_778 Hy)
theorem anm_780 (Hy : Hym tys cA base adS Ex) : xall (fun b t => xOK l Dg clm tys cA flm ftm base adS GWm xym xcm xnm xrm Ex codem bmm bpm b t) 4 3 64 codem_780 :=
  And.intro (anm_772 Hy) (anm_779 Hy)
theorem anm_781 (Hy : Hym tys cA base adS Ex) : xall (fun b t => xOK l Dg clm tys cA flm ftm base adS GWm xym xcm xnm xrm Ex codem bmm bpm b t) 1 35 512 codem_781 :=
  And.intro (okm_35 Hy) (okm_547 Hy)
theorem anm_782 (Hy : Hym tys cA base adS Ex) : xall (fun b t => xOK l Dg clm tys cA flm ftm base adS GWm xym xcm xnm xrm Ex codem bmm bpm b t) 1 291 512 codem_782 :=
  And.intro (okm_291 Hy) (okm_803 Hy)
theorem anm_783 (Hy : Hym tys cA base adS Ex) : xall (fun b t => xOK l Dg clm tys cA flm ftm base adS GWm xym xcm xnm xrm Ex codem bmm bpm b t) 2 35 256 codem_783 :=
  And.intro (anm_781 Hy) (anm_782 Hy)
theorem anm_784 (Hy : Hym tys cA base adS Ex) : xall (fun b t => xOK l Dg clm tys cA flm ftm base adS GWm xym xcm xnm xrm Ex codem bmm bpm b t) 1 163 512 codem_784 :=
  And.intro (okm_163 Hy) (okm_675 Hy)
theorem anm_785 (Hy : Hym tys cA base adS Ex) : xall (fun b t => xOK l Dg clm tys cA flm ftm base adS GWm xym xcm xnm xrm Ex codem bmm bpm b t) 1 419 512 codem_785 :=
  And.intro (okm_419 Hy) (okm_931 Hy)
theorem anm_786 (Hy : Hym tys cA base adS Ex) : xall (fun b t => xOK l Dg clm tys cA flm ftm base adS GWm xym xcm xnm xrm Ex codem bmm bpm b t) 2 163 256 codem_786 :=
  And.intro (anm_784 Hy) (anm_785 Hy)
theorem anm_787 (Hy : Hym tys cA base adS Ex) : xall (fun b t => xOK l Dg clm tys cA flm ftm base adS GWm xym xcm xnm xrm Ex codem bmm bpm b t) 3 35 128 codem_787 :=
  And.intro (anm_783 Hy) (anm_786 Hy)
theorem anm_788 (Hy : Hym tys cA base adS Ex) : xall (fun b t => xOK l Dg clm tys cA flm ftm base adS GWm xym xcm xnm xrm Ex codem bmm bpm b t) 1 99 512 codem_788 :=
  And.intro (okm_99 Hy) (okm_611 Hy)
theorem anm_789 (Hy : Hym tys cA base adS Ex) : xall (fun b t => xOK l Dg clm tys cA flm ftm base adS GWm xym xcm xnm xrm Ex codem bmm bpm b t) 1 355 512 codem_789 :=
  And.intro (okm_355 Hy) (okm_867 Hy)
theorem anm_790 (Hy : Hym tys cA base adS Ex) : xall (fun b t => xOK l Dg clm tys cA flm ftm base adS GWm xym xcm xnm xrm Ex codem bmm bpm b t) 2 99 256 codem_790 :=
  And.intro (anm_788 Hy) (anm_789 Hy)
theorem anm_791 (Hy : Hym tys cA base adS Ex) : xall (fun b t => xOK l Dg clm tys cA flm ftm base adS GWm xym xcm xnm xrm Ex codem bmm bpm b t) 1 227 512 codem_791 :=
  And.intro (okm_227 Hy) (okm_739 Hy)
theorem anm_792 (Hy : Hym tys cA base adS Ex) : xall (fun b t => xOK l Dg clm tys cA flm ftm base adS GWm xym xcm xnm xrm Ex codem bmm bpm b t) 1 483 512 codem_792 :=
  And.intro (okm_483 Hy) (okzm 995)
theorem anm_793 (Hy : Hym tys cA base adS Ex) : xall (fun b t => xOK l Dg clm tys cA flm ftm base adS GWm xym xcm xnm xrm Ex codem bmm bpm b t) 2 227 256 codem_793 :=
  And.intro (anm_791 Hy) (anm_792 Hy)
theorem anm_794 (Hy : Hym tys cA base adS Ex) : xall (fun b t => xOK l Dg clm tys cA flm ftm base adS GWm xym xcm xnm xrm Ex codem bmm bpm b t) 3 99 128 codem_794 :=
  And.intro (anm_790 Hy) (anm_793 Hy)
theorem anm_795 (Hy : Hym tys cA base adS Ex) : xall (fun b t => xOK l Dg clm tys cA flm ftm base adS GWm xym xcm xnm xrm Ex codem bmm bpm b t) 4 35 64 codem_795 :=
  And.intro (anm_787 Hy) (anm_794 Hy)
theorem anm_796 (Hy : Hym tys cA base adS Ex) : xall (fun b t => xOK l Dg clm tys cA flm ftm base adS GWm xym xcm xnm xrm Ex codem bmm bpm b t) 5 3 32 codem_796 :=
  And.intro (anm_780 Hy) (anm_795 Hy)
theorem anm_797 (Hy : Hym tys cA base adS Ex) : xall (fun b t => xOK l Dg clm tys cA flm ftm base adS GWm xym xcm xnm xrm Ex codem bmm bpm b t) 1 19 512 codem_797 :=
  And.intro (okm_19 Hy) (okm_531 Hy)
theorem anm_798 (Hy : Hym tys cA base adS Ex) : xall (fun b t => xOK l Dg clm tys cA flm ftm base adS GWm xym xcm xnm xrm Ex codem bmm bpm b t) 1 275 512 codem_798 :=
  And.intro (okm_275 Hy) (okm_787 Hy)
theorem anm_799 (Hy : Hym tys cA base adS Ex) : xall (fun b t => xOK l Dg clm tys cA flm ftm base adS GWm xym xcm xnm xrm Ex codem bmm bpm b t) 2 19 256 codem_799 :=
  And.intro (anm_797 Hy) (anm_798 Hy)
theorem anm_800 (Hy : Hym tys cA base adS Ex) : xall (fun b t => xOK l Dg clm tys cA flm ftm base adS GWm xym xcm xnm xrm Ex codem bmm bpm b t) 1 147 512 codem_800 :=
  And.intro (okm_147 Hy) (okm_659 Hy)
theorem anm_801 (Hy : Hym tys cA base adS Ex) : xall (fun b t => xOK l Dg clm tys cA flm ftm base adS GWm xym xcm xnm xrm Ex codem bmm bpm b t) 1 403 512 codem_801 :=
  And.intro (okm_403 Hy) (okm_915 Hy)
theorem anm_802 (Hy : Hym tys cA base adS Ex) : xall (fun b t => xOK l Dg clm tys cA flm ftm base adS GWm xym xcm xnm xrm Ex codem bmm bpm b t) 2 147 256 codem_802 :=
  And.intro (anm_800 Hy) (anm_801 Hy)
theorem anm_803 (Hy : Hym tys cA base adS Ex) : xall (fun b t => xOK l Dg clm tys cA flm ftm base adS GWm xym xcm xnm xrm Ex codem bmm bpm b t) 3 19 128 codem_803 :=
  And.intro (anm_799 Hy) (anm_802 Hy)
theorem anm_804 (Hy : Hym tys cA base adS Ex) : xall (fun b t => xOK l Dg clm tys cA flm ftm base adS GWm xym xcm xnm xrm Ex codem bmm bpm b t) 1 83 512 codem_804 :=
  And.intro (okm_83 Hy) (okm_595 Hy)
theorem anm_805 (Hy : Hym tys cA base adS Ex) : xall (fun b t => xOK l Dg clm tys cA flm ftm base adS GWm xym xcm xnm xrm Ex codem bmm bpm b t) 1 339 512 codem_805 :=
  And.intro (okm_339 Hy) (okm_851 Hy)
theorem anm_806 (Hy : Hym tys cA base adS Ex) : xall (fun b t => xOK l Dg clm tys cA flm ftm base adS GWm xym xcm xnm xrm Ex codem bmm bpm b t) 2 83 256 codem_806 :=
  And.intro (anm_804 Hy) (anm_805 Hy)
theorem anm_807 (Hy : Hym tys cA base adS Ex) : xall (fun b t => xOK l Dg clm tys cA flm ftm base adS GWm xym xcm xnm xrm Ex codem bmm bpm b t) 1 211 512 codem_807 :=
  And.intro (okm_211 Hy) (okm_723 Hy)
theorem anm_808 (Hy : Hym tys cA base adS Ex) : xall (fun b t => xOK l Dg clm tys cA flm ftm base adS GWm xym xcm xnm xrm Ex codem bmm bpm b t) 1 467 512 codem_808 :=
  And.intro (okm_467 Hy) (okzm 979)
theorem anm_809 (Hy : Hym tys cA base adS Ex) : xall (fun b t => xOK l Dg clm tys cA flm ftm base adS GWm xym xcm xnm xrm Ex codem bmm bpm b t) 2 211 256 codem_809 :=
  And.intro (anm_807 Hy) (anm_808 Hy)
theorem anm_810 (Hy : Hym tys cA base adS Ex) : xall (fun b t => xOK l Dg clm tys cA flm ftm base adS GWm xym xcm xnm xrm Ex codem bmm bpm b t) 3 83 128 codem_810 :=
  And.intro (anm_806 Hy) (anm_809 Hy)
theorem anm_811 (Hy : Hym tys cA base adS Ex) : xall (fun b t => xOK l Dg clm tys cA flm ftm base adS GWm xym xcm xnm xrm Ex codem bmm bpm b t) 4 19 64 codem_811 :=
  And.intro (anm_803 Hy) (anm_810 Hy)
theorem anm_812 (Hy : Hym tys cA base adS Ex) : xall (fun b t => xOK l Dg clm tys cA flm ftm base adS GWm xym xcm xnm xrm Ex codem bmm bpm b t) 1 51 512 codem_812 :=
  And.intro (okm_51 Hy) (okm_563 Hy)
theorem anm_813 (Hy : Hym tys cA base adS Ex) : xall (fun b t => xOK l Dg clm tys cA flm ftm base adS GWm xym xcm xnm xrm Ex codem bmm bpm b t) 1 307 512 codem_813 :=
  And.intro (okm_307 Hy) (okm_819 Hy)
theorem anm_814 (Hy : Hym tys cA base adS Ex) : xall (fun b t => xOK l Dg clm tys cA flm ftm base adS GWm xym xcm xnm xrm Ex codem bmm bpm b t) 2 51 256 codem_814 :=
  And.intro (anm_812 Hy) (anm_813 Hy)
theorem anm_815 (Hy : Hym tys cA base adS Ex) : xall (fun b t => xOK l Dg clm tys cA flm ftm base adS GWm xym xcm xnm xrm Ex codem bmm bpm b t) 1 179 512 codem_815 :=
  And.intro (okm_179 Hy) (okm_691 Hy)
theorem anm_816 (Hy : Hym tys cA base adS Ex) : xall (fun b t => xOK l Dg clm tys cA flm ftm base adS GWm xym xcm xnm xrm Ex codem bmm bpm b t) 1 435 512 codem_816 :=
  And.intro (okm_435 Hy) (okm_947 Hy)
theorem anm_817 (Hy : Hym tys cA base adS Ex) : xall (fun b t => xOK l Dg clm tys cA flm ftm base adS GWm xym xcm xnm xrm Ex codem bmm bpm b t) 2 179 256 codem_817 :=
  And.intro (anm_815 Hy) (anm_816 Hy)
theorem anm_818 (Hy : Hym tys cA base adS Ex) : xall (fun b t => xOK l Dg clm tys cA flm ftm base adS GWm xym xcm xnm xrm Ex codem bmm bpm b t) 3 51 128 codem_818 :=
  And.intro (anm_814 Hy) (anm_817 Hy)
theorem anm_819 (Hy : Hym tys cA base adS Ex) : xall (fun b t => xOK l Dg clm tys cA flm ftm base adS GWm xym xcm xnm xrm Ex codem bmm bpm b t) 1 115 512 codem_819 :=
  And.intro (okm_115 Hy) (okm_627 Hy)
theorem anm_820 (Hy : Hym tys cA base adS Ex) : xall (fun b t => xOK l Dg clm tys cA flm ftm base adS GWm xym xcm xnm xrm Ex codem bmm bpm b t) 1 371 512 codem_820 :=
  And.intro (okm_371 Hy) (okm_883 Hy)
theorem anm_821 (Hy : Hym tys cA base adS Ex) : xall (fun b t => xOK l Dg clm tys cA flm ftm base adS GWm xym xcm xnm xrm Ex codem bmm bpm b t) 2 115 256 codem_821 :=
  And.intro (anm_819 Hy) (anm_820 Hy)
theorem anm_822 (Hy : Hym tys cA base adS Ex) : xall (fun b t => xOK l Dg clm tys cA flm ftm base adS GWm xym xcm xnm xrm Ex codem bmm bpm b t) 1 243 512 codem_822 :=
  And.intro (okm_243 Hy) (okm_755 Hy)
theorem anm_823 (Hy : Hym tys cA base adS Ex) : xall (fun b t => xOK l Dg clm tys cA flm ftm base adS GWm xym xcm xnm xrm Ex codem bmm bpm b t) 1 499 512 codem_823 :=
  And.intro (okm_499 Hy) (okzm 1011)
theorem anm_824 (Hy : Hym tys cA base adS Ex) : xall (fun b t => xOK l Dg clm tys cA flm ftm base adS GWm xym xcm xnm xrm Ex codem bmm bpm b t) 2 243 256 codem_824 :=
  And.intro (anm_822 Hy) (anm_823 Hy)
theorem anm_825 (Hy : Hym tys cA base adS Ex) : xall (fun b t => xOK l Dg clm tys cA flm ftm base adS GWm xym xcm xnm xrm Ex codem bmm bpm b t) 3 115 128 codem_825 :=
  And.intro (anm_821 Hy) (anm_824 Hy)
theorem anm_826 (Hy : Hym tys cA base adS Ex) : xall (fun b t => xOK l Dg clm tys cA flm ftm base adS GWm xym xcm xnm xrm Ex codem bmm bpm b t) 4 51 64 codem_826 :=
  And.intro (anm_818 Hy) (anm_825 Hy)
theorem anm_827 (Hy : Hym tys cA base adS Ex) : xall (fun b t => xOK l Dg clm tys cA flm ftm base adS GWm xym xcm xnm xrm Ex codem bmm bpm b t) 5 19 32 codem_827 :=
  And.intro (anm_811 Hy) (anm_826 Hy)
theorem anm_828 (Hy : Hym tys cA base adS Ex) : xall (fun b t => xOK l Dg clm tys cA flm ftm base adS GWm xym xcm xnm xrm Ex codem bmm bpm b t) 6 3 16 codem_828 :=
  And.intro (anm_796 Hy) (anm_827 Hy)
theorem anm_829 (Hy : Hym tys cA base adS Ex) : xall (fun b t => xOK l Dg clm tys cA flm ftm base adS GWm xym xcm xnm xrm Ex codem bmm bpm b t) 1 11 512 codem_829 :=
  And.intro (okm_11 Hy) (okm_523 Hy)
theorem anm_830 (Hy : Hym tys cA base adS Ex) : xall (fun b t => xOK l Dg clm tys cA flm ftm base adS GWm xym xcm xnm xrm Ex codem bmm bpm b t) 1 267 512 codem_830 :=
  And.intro (okm_267 Hy) (okm_779 Hy)
theorem anm_831 (Hy : Hym tys cA base adS Ex) : xall (fun b t => xOK l Dg clm tys cA flm ftm base adS GWm xym xcm xnm xrm Ex codem bmm bpm b t) 2 11 256 codem_831 :=
  And.intro (anm_829 Hy) (anm_830 Hy)
theorem anm_832 (Hy : Hym tys cA base adS Ex) : xall (fun b t => xOK l Dg clm tys cA flm ftm base adS GWm xym xcm xnm xrm Ex codem bmm bpm b t) 1 139 512 codem_832 :=
  And.intro (okm_139 Hy) (okm_651 Hy)
theorem anm_833 (Hy : Hym tys cA base adS Ex) : xall (fun b t => xOK l Dg clm tys cA flm ftm base adS GWm xym xcm xnm xrm Ex codem bmm bpm b t) 1 395 512 codem_833 :=
  And.intro (okm_395 Hy) (okm_907 Hy)
theorem anm_834 (Hy : Hym tys cA base adS Ex) : xall (fun b t => xOK l Dg clm tys cA flm ftm base adS GWm xym xcm xnm xrm Ex codem bmm bpm b t) 2 139 256 codem_834 :=
  And.intro (anm_832 Hy) (anm_833 Hy)
theorem anm_835 (Hy : Hym tys cA base adS Ex) : xall (fun b t => xOK l Dg clm tys cA flm ftm base adS GWm xym xcm xnm xrm Ex codem bmm bpm b t) 3 11 128 codem_835 :=
  And.intro (anm_831 Hy) (anm_834 Hy)
theorem anm_836 (Hy : Hym tys cA base adS Ex) : xall (fun b t => xOK l Dg clm tys cA flm ftm base adS GWm xym xcm xnm xrm Ex codem bmm bpm b t) 1 75 512 codem_836 :=
  And.intro (okm_75 Hy) (okm_587 Hy)
theorem anm_837 (Hy : Hym tys cA base adS Ex) : xall (fun b t => xOK l Dg clm tys cA flm ftm base adS GWm xym xcm xnm xrm Ex codem bmm bpm b t) 1 331 512 codem_837 :=
  And.intro (okm_331 Hy) (okm_843 Hy)
theorem anm_838 (Hy : Hym tys cA base adS Ex) : xall (fun b t => xOK l Dg clm tys cA flm ftm base adS GWm xym xcm xnm xrm Ex codem bmm bpm b t) 2 75 256 codem_838 :=
  And.intro (anm_836 Hy) (anm_837 Hy)
theorem anm_839 (Hy : Hym tys cA base adS Ex) : xall (fun b t => xOK l Dg clm tys cA flm ftm base adS GWm xym xcm xnm xrm Ex codem bmm bpm b t) 1 203 512 codem_839 :=
  And.intro (okm_203 Hy) (okm_715 Hy)
theorem anm_840 (Hy : Hym tys cA base adS Ex) : xall (fun b t => xOK l Dg clm tys cA flm ftm base adS GWm xym xcm xnm xrm Ex codem bmm bpm b t) 1 459 512 codem_840 :=
  And.intro (okm_459 Hy) (okzm 971)
theorem anm_841 (Hy : Hym tys cA base adS Ex) : xall (fun b t => xOK l Dg clm tys cA flm ftm base adS GWm xym xcm xnm xrm Ex codem bmm bpm b t) 2 203 256 codem_841 :=
  And.intro (anm_839 Hy) (anm_840 Hy)
theorem anm_842 (Hy : Hym tys cA base adS Ex) : xall (fun b t => xOK l Dg clm tys cA flm ftm base adS GWm xym xcm xnm xrm Ex codem bmm bpm b t) 3 75 128 codem_842 :=
  And.intro (anm_838 Hy) (anm_841 Hy)
theorem anm_843 (Hy : Hym tys cA base adS Ex) : xall (fun b t => xOK l Dg clm tys cA flm ftm base adS GWm xym xcm xnm xrm Ex codem bmm bpm b t) 4 11 64 codem_843 :=
  And.intro (anm_835 Hy) (anm_842 Hy)
theorem anm_844 (Hy : Hym tys cA base adS Ex) : xall (fun b t => xOK l Dg clm tys cA flm ftm base adS GWm xym xcm xnm xrm Ex codem bmm bpm b t) 1 43 512 codem_844 :=
  And.intro (okm_43 Hy) (okm_555 Hy)
theorem anm_845 (Hy : Hym tys cA base adS Ex) : xall (fun b t => xOK l Dg clm tys cA flm ftm base adS GWm xym xcm xnm xrm Ex codem bmm bpm b t) 1 299 512 codem_845 :=
  And.intro (okm_299 Hy) (okm_811 Hy)
theorem anm_846 (Hy : Hym tys cA base adS Ex) : xall (fun b t => xOK l Dg clm tys cA flm ftm base adS GWm xym xcm xnm xrm Ex codem bmm bpm b t) 2 43 256 codem_846 :=
  And.intro (anm_844 Hy) (anm_845 Hy)
theorem anm_847 (Hy : Hym tys cA base adS Ex) : xall (fun b t => xOK l Dg clm tys cA flm ftm base adS GWm xym xcm xnm xrm Ex codem bmm bpm b t) 1 171 512 codem_847 :=
  And.intro (okm_171 Hy) (okm_683 Hy)
theorem anm_848 (Hy : Hym tys cA base adS Ex) : xall (fun b t => xOK l Dg clm tys cA flm ftm base adS GWm xym xcm xnm xrm Ex codem bmm bpm b t) 1 427 512 codem_848 :=
  And.intro (okm_427 Hy) (okm_939 Hy)
theorem anm_849 (Hy : Hym tys cA base adS Ex) : xall (fun b t => xOK l Dg clm tys cA flm ftm base adS GWm xym xcm xnm xrm Ex codem bmm bpm b t) 2 171 256 codem_849 :=
  And.intro (anm_847 Hy) (anm_848 Hy)
theorem anm_850 (Hy : Hym tys cA base adS Ex) : xall (fun b t => xOK l Dg clm tys cA flm ftm base adS GWm xym xcm xnm xrm Ex codem bmm bpm b t) 3 43 128 codem_850 :=
  And.intro (anm_846 Hy) (anm_849 Hy)
theorem anm_851 (Hy : Hym tys cA base adS Ex) : xall (fun b t => xOK l Dg clm tys cA flm ftm base adS GWm xym xcm xnm xrm Ex codem bmm bpm b t) 1 107 512 codem_851 :=
  And.intro (okm_107 Hy) (okm_619 Hy)
theorem anm_852 (Hy : Hym tys cA base adS Ex) : xall (fun b t => xOK l Dg clm tys cA flm ftm base adS GWm xym xcm xnm xrm Ex codem bmm bpm b t) 1 363 512 codem_852 :=
  And.intro (okm_363 Hy) (okm_875 Hy)
theorem anm_853 (Hy : Hym tys cA base adS Ex) : xall (fun b t => xOK l Dg clm tys cA flm ftm base adS GWm xym xcm xnm xrm Ex codem bmm bpm b t) 2 107 256 codem_853 :=
  And.intro (anm_851 Hy) (anm_852 Hy)
theorem anm_854 (Hy : Hym tys cA base adS Ex) : xall (fun b t => xOK l Dg clm tys cA flm ftm base adS GWm xym xcm xnm xrm Ex codem bmm bpm b t) 1 235 512 codem_854 :=
  And.intro (okm_235 Hy) (okm_747 Hy)
theorem anm_855 (Hy : Hym tys cA base adS Ex) : xall (fun b t => xOK l Dg clm tys cA flm ftm base adS GWm xym xcm xnm xrm Ex codem bmm bpm b t) 1 491 512 codem_855 :=
  And.intro (okm_491 Hy) (okzm 1003)
theorem anm_856 (Hy : Hym tys cA base adS Ex) : xall (fun b t => xOK l Dg clm tys cA flm ftm base adS GWm xym xcm xnm xrm Ex codem bmm bpm b t) 2 235 256 codem_856 :=
  And.intro (anm_854 Hy) (anm_855 Hy)
theorem anm_857 (Hy : Hym tys cA base adS Ex) : xall (fun b t => xOK l Dg clm tys cA flm ftm base adS GWm xym xcm xnm xrm Ex codem bmm bpm b t) 3 107 128 codem_857 :=
  And.intro (anm_853 Hy) (anm_856 Hy)
theorem anm_858 (Hy : Hym tys cA base adS Ex) : xall (fun b t => xOK l Dg clm tys cA flm ftm base adS GWm xym xcm xnm xrm Ex codem bmm bpm b t) 4 43 64 codem_858 :=
  And.intro (anm_850 Hy) (anm_857 Hy)
theorem anm_859 (Hy : Hym tys cA base adS Ex) : xall (fun b t => xOK l Dg clm tys cA flm ftm base adS GWm xym xcm xnm xrm Ex codem bmm bpm b t) 5 11 32 codem_859 :=
  And.intro (anm_843 Hy) (anm_858 Hy)
theorem anm_860 (Hy : Hym tys cA base adS Ex) : xall (fun b t => xOK l Dg clm tys cA flm ftm base adS GWm xym xcm xnm xrm Ex codem bmm bpm b t) 1 27 512 codem_860 :=
  And.intro (okm_27 Hy) (okm_539 Hy)
theorem anm_861 (Hy : Hym tys cA base adS Ex) : xall (fun b t => xOK l Dg clm tys cA flm ftm base adS GWm xym xcm xnm xrm Ex codem bmm bpm b t) 1 283 512 codem_861 :=
  And.intro (okm_283 Hy) (okm_795 Hy)
theorem anm_862 (Hy : Hym tys cA base adS Ex) : xall (fun b t => xOK l Dg clm tys cA flm ftm base adS GWm xym xcm xnm xrm Ex codem bmm bpm b t) 2 27 256 codem_862 :=
  And.intro (anm_860 Hy) (anm_861 Hy)
theorem anm_863 (Hy : Hym tys cA base adS Ex) : xall (fun b t => xOK l Dg clm tys cA flm ftm base adS GWm xym xcm xnm xrm Ex codem bmm bpm b t) 1 155 512 codem_863 :=
  And.intro (okm_155 Hy) (okm_667 Hy)
theorem anm_864 (Hy : Hym tys cA base adS Ex) : xall (fun b t => xOK l Dg clm tys cA flm ftm base adS GWm xym xcm xnm xrm Ex codem bmm bpm b t) 1 411 512 codem_864 :=
  And.intro (okm_411 Hy) (okm_923 Hy)
theorem anm_865 (Hy : Hym tys cA base adS Ex) : xall (fun b t => xOK l Dg clm tys cA flm ftm base adS GWm xym xcm xnm xrm Ex codem bmm bpm b t) 2 155 256 codem_865 :=
  And.intro (anm_863 Hy) (anm_864 Hy)
theorem anm_866 (Hy : Hym tys cA base adS Ex) : xall (fun b t => xOK l Dg clm tys cA flm ftm base adS GWm xym xcm xnm xrm Ex codem bmm bpm b t) 3 27 128 codem_866 :=
  And.intro (anm_862 Hy) (anm_865 Hy)
theorem anm_867 (Hy : Hym tys cA base adS Ex) : xall (fun b t => xOK l Dg clm tys cA flm ftm base adS GWm xym xcm xnm xrm Ex codem bmm bpm b t) 1 91 512 codem_867 :=
  And.intro (okm_91 Hy) (okm_603 Hy)
theorem anm_868 (Hy : Hym tys cA base adS Ex) : xall (fun b t => xOK l Dg clm tys cA flm ftm base adS GWm xym xcm xnm xrm Ex codem bmm bpm b t) 1 347 512 codem_868 :=
  And.intro (okm_347 Hy) (okm_859 Hy)
theorem anm_869 (Hy : Hym tys cA base adS Ex) : xall (fun b t => xOK l Dg clm tys cA flm ftm base adS GWm xym xcm xnm xrm Ex codem bmm bpm b t) 2 91 256 codem_869 :=
  And.intro (anm_867 Hy) (anm_868 Hy)
theorem anm_870 (Hy : Hym tys cA base adS Ex) : xall (fun b t => xOK l Dg clm tys cA flm ftm base adS GWm xym xcm xnm xrm Ex codem bmm bpm b t) 1 219 512 codem_870 :=
  And.intro (okm_219 Hy) (okm_731 Hy)
theorem anm_871 (Hy : Hym tys cA base adS Ex) : xall (fun b t => xOK l Dg clm tys cA flm ftm base adS GWm xym xcm xnm xrm Ex codem bmm bpm b t) 1 475 512 codem_871 :=
  And.intro (okm_475 Hy) (okzm 987)
theorem anm_872 (Hy : Hym tys cA base adS Ex) : xall (fun b t => xOK l Dg clm tys cA flm ftm base adS GWm xym xcm xnm xrm Ex codem bmm bpm b t) 2 219 256 codem_872 :=
  And.intro (anm_870 Hy) (anm_871 Hy)
theorem anm_873 (Hy : Hym tys cA base adS Ex) : xall (fun b t => xOK l Dg clm tys cA flm ftm base adS GWm xym xcm xnm xrm Ex codem bmm bpm b t) 3 91 128 codem_873 :=
  And.intro (anm_869 Hy) (anm_872 Hy)
theorem anm_874 (Hy : Hym tys cA base adS Ex) : xall (fun b t => xOK l Dg clm tys cA flm ftm base adS GWm xym xcm xnm xrm Ex codem bmm bpm b t) 4 27 64 codem_874 :=
  And.intro (anm_866 Hy) (anm_873 Hy)
theorem anm_875 (Hy : Hym tys cA base adS Ex) : xall (fun b t => xOK l Dg clm tys cA flm ftm base adS GWm xym xcm xnm xrm Ex codem bmm bpm b t) 1 59 512 codem_875 :=
  And.intro (okm_59 Hy) (okm_571 Hy)
theorem anm_876 (Hy : Hym tys cA base adS Ex) : xall (fun b t => xOK l Dg clm tys cA flm ftm base adS GWm xym xcm xnm xrm Ex codem bmm bpm b t) 1 315 512 codem_876 :=
  And.intro (okm_315 Hy) (okm_827 Hy)
theorem anm_877 (Hy : Hym tys cA base adS Ex) : xall (fun b t => xOK l Dg clm tys cA flm ftm base adS GWm xym xcm xnm xrm Ex codem bmm bpm b t) 2 59 256 codem_877 :=
  And.intro (anm_875 Hy) (anm_876 Hy)
theorem anm_878 (Hy : Hym tys cA base adS Ex) : xall (fun b t => xOK l Dg clm tys cA flm ftm base adS GWm xym xcm xnm xrm Ex codem bmm bpm b t) 1 187 512 codem_878 :=
  And.intro (okm_187 Hy) (okm_699 Hy)
theorem anm_879 (Hy : Hym tys cA base adS Ex) : xall (fun b t => xOK l Dg clm tys cA flm ftm base adS GWm xym xcm xnm xrm Ex codem bmm bpm b t) 1 443 512 codem_879 :=
  And.intro (okm_443 Hy) (okm_955 Hy)
theorem anm_880 (Hy : Hym tys cA base adS Ex) : xall (fun b t => xOK l Dg clm tys cA flm ftm base adS GWm xym xcm xnm xrm Ex codem bmm bpm b t) 2 187 256 codem_880 :=
  And.intro (anm_878 Hy) (anm_879 Hy)
theorem anm_881 (Hy : Hym tys cA base adS Ex) : xall (fun b t => xOK l Dg clm tys cA flm ftm base adS GWm xym xcm xnm xrm Ex codem bmm bpm b t) 3 59 128 codem_881 :=
  And.intro (anm_877 Hy) (anm_880 Hy)
theorem anm_882 (Hy : Hym tys cA base adS Ex) : xall (fun b t => xOK l Dg clm tys cA flm ftm base adS GWm xym xcm xnm xrm Ex codem bmm bpm b t) 1 123 512 codem_882 :=
  And.intro (okm_123 Hy) (okm_635 Hy)
theorem anm_883 (Hy : Hym tys cA base adS Ex) : xall (fun b t => xOK l Dg clm tys cA flm ftm base adS GWm xym xcm xnm xrm Ex codem bmm bpm b t) 1 379 512 codem_883 :=
  And.intro (okm_379 Hy) (okm_891 Hy)
theorem anm_884 (Hy : Hym tys cA base adS Ex) : xall (fun b t => xOK l Dg clm tys cA flm ftm base adS GWm xym xcm xnm xrm Ex codem bmm bpm b t) 2 123 256 codem_884 :=
  And.intro (anm_882 Hy) (anm_883 Hy)
theorem anm_885 (Hy : Hym tys cA base adS Ex) : xall (fun b t => xOK l Dg clm tys cA flm ftm base adS GWm xym xcm xnm xrm Ex codem bmm bpm b t) 1 251 512 codem_885 :=
  And.intro (okm_251 Hy) (okm_763 Hy)
theorem anm_886 (Hy : Hym tys cA base adS Ex) : xall (fun b t => xOK l Dg clm tys cA flm ftm base adS GWm xym xcm xnm xrm Ex codem bmm bpm b t) 1 507 512 codem_886 :=
  And.intro (okm_507 Hy) (okzm 1019)
theorem anm_887 (Hy : Hym tys cA base adS Ex) : xall (fun b t => xOK l Dg clm tys cA flm ftm base adS GWm xym xcm xnm xrm Ex codem bmm bpm b t) 2 251 256 codem_887 :=
  And.intro (anm_885 Hy) (anm_886 Hy)
theorem anm_888 (Hy : Hym tys cA base adS Ex) : xall (fun b t => xOK l Dg clm tys cA flm ftm base adS GWm xym xcm xnm xrm Ex codem bmm bpm b t) 3 123 128 codem_888 :=
  And.intro (anm_884 Hy) (anm_887 Hy)
theorem anm_889 (Hy : Hym tys cA base adS Ex) : xall (fun b t => xOK l Dg clm tys cA flm ftm base adS GWm xym xcm xnm xrm Ex codem bmm bpm b t) 4 59 64 codem_889 :=
  And.intro (anm_881 Hy) (anm_888 Hy)
theorem anm_890 (Hy : Hym tys cA base adS Ex) : xall (fun b t => xOK l Dg clm tys cA flm ftm base adS GWm xym xcm xnm xrm Ex codem bmm bpm b t) 5 27 32 codem_890 :=
  And.intro (anm_874 Hy) (anm_889 Hy)
theorem anm_891 (Hy : Hym tys cA base adS Ex) : xall (fun b t => xOK l Dg clm tys cA flm ftm base adS GWm xym xcm xnm xrm Ex codem bmm bpm b t) 6 11 16 codem_891 :=
  And.intro (anm_859 Hy) (anm_890 Hy)
theorem anm_892 (Hy : Hym tys cA base adS Ex) : xall (fun b t => xOK l Dg clm tys cA flm ftm base adS GWm xym xcm xnm xrm Ex codem bmm bpm b t) 7 3 8 codem_892 :=
  And.intro (anm_828 Hy) (anm_891 Hy)
theorem anm_893 (Hy : Hym tys cA base adS Ex) : xall (fun b t => xOK l Dg clm tys cA flm ftm base adS GWm xym xcm xnm xrm Ex codem bmm bpm b t) 1 7 512 codem_893 :=
  And.intro (okm_7 Hy) (okm_519 Hy)
theorem anm_894 (Hy : Hym tys cA base adS Ex) : xall (fun b t => xOK l Dg clm tys cA flm ftm base adS GWm xym xcm xnm xrm Ex codem bmm bpm b t) 1 263 512 codem_894 :=
  And.intro (okm_263 Hy) (okm_775 Hy)
theorem anm_895 (Hy : Hym tys cA base adS Ex) : xall (fun b t => xOK l Dg clm tys cA flm ftm base adS GWm xym xcm xnm xrm Ex codem bmm bpm b t) 2 7 256 codem_895 :=
  And.intro (anm_893 Hy) (anm_894 Hy)
theorem anm_896 (Hy : Hym tys cA base adS Ex) : xall (fun b t => xOK l Dg clm tys cA flm ftm base adS GWm xym xcm xnm xrm Ex codem bmm bpm b t) 1 135 512 codem_896 :=
  And.intro (okm_135 Hy) (okm_647 Hy)
theorem anm_897 (Hy : Hym tys cA base adS Ex) : xall (fun b t => xOK l Dg clm tys cA flm ftm base adS GWm xym xcm xnm xrm Ex codem bmm bpm b t) 1 391 512 codem_897 :=
  And.intro (okm_391 Hy) (okm_903 Hy)
theorem anm_898 (Hy : Hym tys cA base adS Ex) : xall (fun b t => xOK l Dg clm tys cA flm ftm base adS GWm xym xcm xnm xrm Ex codem bmm bpm b t) 2 135 256 codem_898 :=
  And.intro (anm_896 Hy) (anm_897 Hy)
theorem anm_899 (Hy : Hym tys cA base adS Ex) : xall (fun b t => xOK l Dg clm tys cA flm ftm base adS GWm xym xcm xnm xrm Ex codem bmm bpm b t) 3 7 128 codem_899 :=
  And.intro (anm_895 Hy) (anm_898 Hy)
theorem anm_900 (Hy : Hym tys cA base adS Ex) : xall (fun b t => xOK l Dg clm tys cA flm ftm base adS GWm xym xcm xnm xrm Ex codem bmm bpm b t) 1 71 512 codem_900 :=
  And.intro (okm_71 Hy) (okm_583 Hy)
theorem anm_901 (Hy : Hym tys cA base adS Ex) : xall (fun b t => xOK l Dg clm tys cA flm ftm base adS GWm xym xcm xnm xrm Ex codem bmm bpm b t) 1 327 512 codem_901 :=
  And.intro (okm_327 Hy) (okm_839 Hy)
theorem anm_902 (Hy : Hym tys cA base adS Ex) : xall (fun b t => xOK l Dg clm tys cA flm ftm base adS GWm xym xcm xnm xrm Ex codem bmm bpm b t) 2 71 256 codem_902 :=
  And.intro (anm_900 Hy) (anm_901 Hy)
theorem anm_903 (Hy : Hym tys cA base adS Ex) : xall (fun b t => xOK l Dg clm tys cA flm ftm base adS GWm xym xcm xnm xrm Ex codem bmm bpm b t) 1 199 512 codem_903 :=
  And.intro (okm_199 Hy) (okm_711 Hy)
theorem anm_904 (Hy : Hym tys cA base adS Ex) : xall (fun b t => xOK l Dg clm tys cA flm ftm base adS GWm xym xcm xnm xrm Ex codem bmm bpm b t) 1 455 512 codem_904 :=
  And.intro (okm_455 Hy) (okzm 967)
theorem anm_905 (Hy : Hym tys cA base adS Ex) : xall (fun b t => xOK l Dg clm tys cA flm ftm base adS GWm xym xcm xnm xrm Ex codem bmm bpm b t) 2 199 256 codem_905 :=
  And.intro (anm_903 Hy) (anm_904 Hy)
theorem anm_906 (Hy : Hym tys cA base adS Ex) : xall (fun b t => xOK l Dg clm tys cA flm ftm base adS GWm xym xcm xnm xrm Ex codem bmm bpm b t) 3 71 128 codem_906 :=
  And.intro (anm_902 Hy) (anm_905 Hy)
theorem anm_907 (Hy : Hym tys cA base adS Ex) : xall (fun b t => xOK l Dg clm tys cA flm ftm base adS GWm xym xcm xnm xrm Ex codem bmm bpm b t) 4 7 64 codem_907 :=
  And.intro (anm_899 Hy) (anm_906 Hy)
theorem anm_908 (Hy : Hym tys cA base adS Ex) : xall (fun b t => xOK l Dg clm tys cA flm ftm base adS GWm xym xcm xnm xrm Ex codem bmm bpm b t) 1 39 512 codem_908 :=
  And.intro (okm_39 Hy) (okm_551 Hy)
theorem anm_909 (Hy : Hym tys cA base adS Ex) : xall (fun b t => xOK l Dg clm tys cA flm ftm base adS GWm xym xcm xnm xrm Ex codem bmm bpm b t) 1 295 512 codem_909 :=
  And.intro (okm_295 Hy) (okm_807 Hy)
theorem anm_910 (Hy : Hym tys cA base adS Ex) : xall (fun b t => xOK l Dg clm tys cA flm ftm base adS GWm xym xcm xnm xrm Ex codem bmm bpm b t) 2 39 256 codem_910 :=
  And.intro (anm_908 Hy) (anm_909 Hy)
theorem anm_911 (Hy : Hym tys cA base adS Ex) : xall (fun b t => xOK l Dg clm tys cA flm ftm base adS GWm xym xcm xnm xrm Ex codem bmm bpm b t) 1 167 512 codem_911 :=
  And.intro (okm_167 Hy) (okm_679 Hy)
theorem anm_912 (Hy : Hym tys cA base adS Ex) : xall (fun b t => xOK l Dg clm tys cA flm ftm base adS GWm xym xcm xnm xrm Ex codem bmm bpm b t) 1 423 512 codem_912 :=
  And.intro (okm_423 Hy) (okm_935 Hy)
theorem anm_913 (Hy : Hym tys cA base adS Ex) : xall (fun b t => xOK l Dg clm tys cA flm ftm base adS GWm xym xcm xnm xrm Ex codem bmm bpm b t) 2 167 256 codem_913 :=
  And.intro (anm_911 Hy) (anm_912 Hy)
theorem anm_914 (Hy : Hym tys cA base adS Ex) : xall (fun b t => xOK l Dg clm tys cA flm ftm base adS GWm xym xcm xnm xrm Ex codem bmm bpm b t) 3 39 128 codem_914 :=
  And.intro (anm_910 Hy) (anm_913 Hy)
theorem anm_915 (Hy : Hym tys cA base adS Ex) : xall (fun b t => xOK l Dg clm tys cA flm ftm base adS GWm xym xcm xnm xrm Ex codem bmm bpm b t) 1 103 512 codem_915 :=
  And.intro (okm_103 Hy) (okm_615 Hy)
theorem anm_916 (Hy : Hym tys cA base adS Ex) : xall (fun b t => xOK l Dg clm tys cA flm ftm base adS GWm xym xcm xnm xrm Ex codem bmm bpm b t) 1 359 512 codem_916 :=
  And.intro (okm_359 Hy) (okm_871 Hy)
theorem anm_917 (Hy : Hym tys cA base adS Ex) : xall (fun b t => xOK l Dg clm tys cA flm ftm base adS GWm xym xcm xnm xrm Ex codem bmm bpm b t) 2 103 256 codem_917 :=
  And.intro (anm_915 Hy) (anm_916 Hy)
theorem anm_918 (Hy : Hym tys cA base adS Ex) : xall (fun b t => xOK l Dg clm tys cA flm ftm base adS GWm xym xcm xnm xrm Ex codem bmm bpm b t) 1 231 512 codem_918 :=
  And.intro (okm_231 Hy) (okm_743 Hy)
theorem anm_919 (Hy : Hym tys cA base adS Ex) : xall (fun b t => xOK l Dg clm tys cA flm ftm base adS GWm xym xcm xnm xrm Ex codem bmm bpm b t) 1 487 512 codem_919 :=
  And.intro (okm_487 Hy) (okzm 999)
theorem anm_920 (Hy : Hym tys cA base adS Ex) : xall (fun b t => xOK l Dg clm tys cA flm ftm base adS GWm xym xcm xnm xrm Ex codem bmm bpm b t) 2 231 256 codem_920 :=
  And.intro (anm_918 Hy) (anm_919 Hy)
theorem anm_921 (Hy : Hym tys cA base adS Ex) : xall (fun b t => xOK l Dg clm tys cA flm ftm base adS GWm xym xcm xnm xrm Ex codem bmm bpm b t) 3 103 128 codem_921 :=
  And.intro (anm_917 Hy) (anm_920 Hy)
theorem anm_922 (Hy : Hym tys cA base adS Ex) : xall (fun b t => xOK l Dg clm tys cA flm ftm base adS GWm xym xcm xnm xrm Ex codem bmm bpm b t) 4 39 64 codem_922 :=
  And.intro (anm_914 Hy) (anm_921 Hy)
theorem anm_923 (Hy : Hym tys cA base adS Ex) : xall (fun b t => xOK l Dg clm tys cA flm ftm base adS GWm xym xcm xnm xrm Ex codem bmm bpm b t) 5 7 32 codem_923 :=
  And.intro (anm_907 Hy) (anm_922 Hy)
theorem anm_924 (Hy : Hym tys cA base adS Ex) : xall (fun b t => xOK l Dg clm tys cA flm ftm base adS GWm xym xcm xnm xrm Ex codem bmm bpm b t) 1 23 512 codem_924 :=
  And.intro (okm_23 Hy) (okm_535 Hy)
theorem anm_925 (Hy : Hym tys cA base adS Ex) : xall (fun b t => xOK l Dg clm tys cA flm ftm base adS GWm xym xcm xnm xrm Ex codem bmm bpm b t) 1 279 512 codem_925 :=
  And.intro (okm_279 Hy) (okm_791 Hy)
theorem anm_926 (Hy : Hym tys cA base adS Ex) : xall (fun b t => xOK l Dg clm tys cA flm ftm base adS GWm xym xcm xnm xrm Ex codem bmm bpm b t) 2 23 256 codem_926 :=
  And.intro (anm_924 Hy) (anm_925 Hy)
theorem anm_927 (Hy : Hym tys cA base adS Ex) : xall (fun b t => xOK l Dg clm tys cA flm ftm base adS GWm xym xcm xnm xrm Ex codem bmm bpm b t) 1 151 512 codem_927 :=
  And.intro (okm_151 Hy) (okm_663 Hy)
theorem anm_928 (Hy : Hym tys cA base adS Ex) : xall (fun b t => xOK l Dg clm tys cA flm ftm base adS GWm xym xcm xnm xrm Ex codem bmm bpm b t) 1 407 512 codem_928 :=
  And.intro (okm_407 Hy) (okm_919 Hy)
theorem anm_929 (Hy : Hym tys cA base adS Ex) : xall (fun b t => xOK l Dg clm tys cA flm ftm base adS GWm xym xcm xnm xrm Ex codem bmm bpm b t) 2 151 256 codem_929 :=
  And.intro (anm_927 Hy) (anm_928 Hy)
theorem anm_930 (Hy : Hym tys cA base adS Ex) : xall (fun b t => xOK l Dg clm tys cA flm ftm base adS GWm xym xcm xnm xrm Ex codem bmm bpm b t) 3 23 128 codem_930 :=
  And.intro (anm_926 Hy) (anm_929 Hy)
theorem anm_931 (Hy : Hym tys cA base adS Ex) : xall (fun b t => xOK l Dg clm tys cA flm ftm base adS GWm xym xcm xnm xrm Ex codem bmm bpm b t) 1 87 512 codem_931 :=
  And.intro (okm_87 Hy) (okm_599 Hy)
theorem anm_932 (Hy : Hym tys cA base adS Ex) : xall (fun b t => xOK l Dg clm tys cA flm ftm base adS GWm xym xcm xnm xrm Ex codem bmm bpm b t) 1 343 512 codem_932 :=
  And.intro (okm_343 Hy) (okm_855 Hy)
theorem anm_933 (Hy : Hym tys cA base adS Ex) : xall (fun b t => xOK l Dg clm tys cA flm ftm base adS GWm xym xcm xnm xrm Ex codem bmm bpm b t) 2 87 256 codem_933 :=
  And.intro (anm_931 Hy) (anm_932 Hy)
theorem anm_934 (Hy : Hym tys cA base adS Ex) : xall (fun b t => xOK l Dg clm tys cA flm ftm base adS GWm xym xcm xnm xrm Ex codem bmm bpm b t) 1 215 512 codem_934 :=
  And.intro (okm_215 Hy) (okm_727 Hy)
theorem anm_935 (Hy : Hym tys cA base adS Ex) : xall (fun b t => xOK l Dg clm tys cA flm ftm base adS GWm xym xcm xnm xrm Ex codem bmm bpm b t) 1 471 512 codem_935 :=
  And.intro (okm_471 Hy) (okzm 983)
theorem anm_936 (Hy : Hym tys cA base adS Ex) : xall (fun b t => xOK l Dg clm tys cA flm ftm base adS GWm xym xcm xnm xrm Ex codem bmm bpm b t) 2 215 256 codem_936 :=
  And.intro (anm_934 Hy) (anm_935 Hy)
theorem anm_937 (Hy : Hym tys cA base adS Ex) : xall (fun b t => xOK l Dg clm tys cA flm ftm base adS GWm xym xcm xnm xrm Ex codem bmm bpm b t) 3 87 128 codem_937 :=
  And.intro (anm_933 Hy) (anm_936 Hy)
theorem anm_938 (Hy : Hym tys cA base adS Ex) : xall (fun b t => xOK l Dg clm tys cA flm ftm base adS GWm xym xcm xnm xrm Ex codem bmm bpm b t) 4 23 64 codem_938 :=
  And.intro (anm_930 Hy) (anm_937 Hy)
theorem anm_939 (Hy : Hym tys cA base adS Ex) : xall (fun b t => xOK l Dg clm tys cA flm ftm base adS GWm xym xcm xnm xrm Ex codem bmm bpm b t) 1 55 512 codem_939 :=
  And.intro (okm_55 Hy) (okm_567 Hy)
theorem anm_940 (Hy : Hym tys cA base adS Ex) : xall (fun b t => xOK l Dg clm tys cA flm ftm base adS GWm xym xcm xnm xrm Ex codem bmm bpm b t) 1 311 512 codem_940 :=
  And.intro (okm_311 Hy) (okm_823 Hy)
theorem anm_941 (Hy : Hym tys cA base adS Ex) : xall (fun b t => xOK l Dg clm tys cA flm ftm base adS GWm xym xcm xnm xrm Ex codem bmm bpm b t) 2 55 256 codem_941 :=
  And.intro (anm_939 Hy) (anm_940 Hy)
theorem anm_942 (Hy : Hym tys cA base adS Ex) : xall (fun b t => xOK l Dg clm tys cA flm ftm base adS GWm xym xcm xnm xrm Ex codem bmm bpm b t) 1 183 512 codem_942 :=
  And.intro (okm_183 Hy) (okm_695 Hy)
theorem anm_943 (Hy : Hym tys cA base adS Ex) : xall (fun b t => xOK l Dg clm tys cA flm ftm base adS GWm xym xcm xnm xrm Ex codem bmm bpm b t) 1 439 512 codem_943 :=
  And.intro (okm_439 Hy) (okm_951 Hy)
theorem anm_944 (Hy : Hym tys cA base adS Ex) : xall (fun b t => xOK l Dg clm tys cA flm ftm base adS GWm xym xcm xnm xrm Ex codem bmm bpm b t) 2 183 256 codem_944 :=
  And.intro (anm_942 Hy) (anm_943 Hy)
theorem anm_945 (Hy : Hym tys cA base adS Ex) : xall (fun b t => xOK l Dg clm tys cA flm ftm base adS GWm xym xcm xnm xrm Ex codem bmm bpm b t) 3 55 128 codem_945 :=
  And.intro (anm_941 Hy) (anm_944 Hy)
theorem anm_946 (Hy : Hym tys cA base adS Ex) : xall (fun b t => xOK l Dg clm tys cA flm ftm base adS GWm xym xcm xnm xrm Ex codem bmm bpm b t) 1 119 512 codem_946 :=
  And.intro (okm_119 Hy) (okm_631 Hy)
theorem anm_947 (Hy : Hym tys cA base adS Ex) : xall (fun b t => xOK l Dg clm tys cA flm ftm base adS GWm xym xcm xnm xrm Ex codem bmm bpm b t) 1 375 512 codem_947 :=
  And.intro (okm_375 Hy) (okm_887 Hy)
theorem anm_948 (Hy : Hym tys cA base adS Ex) : xall (fun b t => xOK l Dg clm tys cA flm ftm base adS GWm xym xcm xnm xrm Ex codem bmm bpm b t) 2 119 256 codem_948 :=
  And.intro (anm_946 Hy) (anm_947 Hy)
theorem anm_949 (Hy : Hym tys cA base adS Ex) : xall (fun b t => xOK l Dg clm tys cA flm ftm base adS GWm xym xcm xnm xrm Ex codem bmm bpm b t) 1 247 512 codem_949 :=
  And.intro (okm_247 Hy) (okm_759 Hy)
theorem anm_950 (Hy : Hym tys cA base adS Ex) : xall (fun b t => xOK l Dg clm tys cA flm ftm base adS GWm xym xcm xnm xrm Ex codem bmm bpm b t) 1 503 512 codem_950 :=
  And.intro (okm_503 Hy) (okzm 1015)
theorem anm_951 (Hy : Hym tys cA base adS Ex) : xall (fun b t => xOK l Dg clm tys cA flm ftm base adS GWm xym xcm xnm xrm Ex codem bmm bpm b t) 2 247 256 codem_951 :=
  And.intro (anm_949 Hy) (anm_950 Hy)
theorem anm_952 (Hy : Hym tys cA base adS Ex) : xall (fun b t => xOK l Dg clm tys cA flm ftm base adS GWm xym xcm xnm xrm Ex codem bmm bpm b t) 3 119 128 codem_952 :=
  And.intro (anm_948 Hy) (anm_951 Hy)
theorem anm_953 (Hy : Hym tys cA base adS Ex) : xall (fun b t => xOK l Dg clm tys cA flm ftm base adS GWm xym xcm xnm xrm Ex codem bmm bpm b t) 4 55 64 codem_953 :=
  And.intro (anm_945 Hy) (anm_952 Hy)
theorem anm_954 (Hy : Hym tys cA base adS Ex) : xall (fun b t => xOK l Dg clm tys cA flm ftm base adS GWm xym xcm xnm xrm Ex codem bmm bpm b t) 5 23 32 codem_954 :=
  And.intro (anm_938 Hy) (anm_953 Hy)
theorem anm_955 (Hy : Hym tys cA base adS Ex) : xall (fun b t => xOK l Dg clm tys cA flm ftm base adS GWm xym xcm xnm xrm Ex codem bmm bpm b t) 6 7 16 codem_955 :=
  And.intro (anm_923 Hy) (anm_954 Hy)
theorem anm_956 (Hy : Hym tys cA base adS Ex) : xall (fun b t => xOK l Dg clm tys cA flm ftm base adS GWm xym xcm xnm xrm Ex codem bmm bpm b t) 1 15 512 codem_956 :=
  And.intro (okm_15 Hy) (okm_527 Hy)
theorem anm_957 (Hy : Hym tys cA base adS Ex) : xall (fun b t => xOK l Dg clm tys cA flm ftm base adS GWm xym xcm xnm xrm Ex codem bmm bpm b t) 1 271 512 codem_957 :=
  And.intro (okm_271 Hy) (okm_783 Hy)
theorem anm_958 (Hy : Hym tys cA base adS Ex) : xall (fun b t => xOK l Dg clm tys cA flm ftm base adS GWm xym xcm xnm xrm Ex codem bmm bpm b t) 2 15 256 codem_958 :=
  And.intro (anm_956 Hy) (anm_957 Hy)
theorem anm_959 (Hy : Hym tys cA base adS Ex) : xall (fun b t => xOK l Dg clm tys cA flm ftm base adS GWm xym xcm xnm xrm Ex codem bmm bpm b t) 1 143 512 codem_959 :=
  And.intro (okm_143 Hy) (okm_655 Hy)
theorem anm_960 (Hy : Hym tys cA base adS Ex) : xall (fun b t => xOK l Dg clm tys cA flm ftm base adS GWm xym xcm xnm xrm Ex codem bmm bpm b t) 1 399 512 codem_960 :=
  And.intro (okm_399 Hy) (okm_911 Hy)
theorem anm_961 (Hy : Hym tys cA base adS Ex) : xall (fun b t => xOK l Dg clm tys cA flm ftm base adS GWm xym xcm xnm xrm Ex codem bmm bpm b t) 2 143 256 codem_961 :=
  And.intro (anm_959 Hy) (anm_960 Hy)
theorem anm_962 (Hy : Hym tys cA base adS Ex) : xall (fun b t => xOK l Dg clm tys cA flm ftm base adS GWm xym xcm xnm xrm Ex codem bmm bpm b t) 3 15 128 codem_962 :=
  And.intro (anm_958 Hy) (anm_961 Hy)
theorem anm_963 (Hy : Hym tys cA base adS Ex) : xall (fun b t => xOK l Dg clm tys cA flm ftm base adS GWm xym xcm xnm xrm Ex codem bmm bpm b t) 1 79 512 codem_963 :=
  And.intro (okm_79 Hy) (okm_591 Hy)
theorem anm_964 (Hy : Hym tys cA base adS Ex) : xall (fun b t => xOK l Dg clm tys cA flm ftm base adS GWm xym xcm xnm xrm Ex codem bmm bpm b t) 1 335 512 codem_964 :=
  And.intro (okm_335 Hy) (okm_847 Hy)
theorem anm_965 (Hy : Hym tys cA base adS Ex) : xall (fun b t => xOK l Dg clm tys cA flm ftm base adS GWm xym xcm xnm xrm Ex codem bmm bpm b t) 2 79 256 codem_965 :=
  And.intro (anm_963 Hy) (anm_964 Hy)
theorem anm_966 (Hy : Hym tys cA base adS Ex) : xall (fun b t => xOK l Dg clm tys cA flm ftm base adS GWm xym xcm xnm xrm Ex codem bmm bpm b t) 1 207 512 codem_966 :=
  And.intro (okm_207 Hy) (okm_719 Hy)
theorem anm_967 (Hy : Hym tys cA base adS Ex) : xall (fun b t => xOK l Dg clm tys cA flm ftm base adS GWm xym xcm xnm xrm Ex codem bmm bpm b t) 1 463 512 codem_967 :=
  And.intro (okm_463 Hy) (okzm 975)
theorem anm_968 (Hy : Hym tys cA base adS Ex) : xall (fun b t => xOK l Dg clm tys cA flm ftm base adS GWm xym xcm xnm xrm Ex codem bmm bpm b t) 2 207 256 codem_968 :=
  And.intro (anm_966 Hy) (anm_967 Hy)
theorem anm_969 (Hy : Hym tys cA base adS Ex) : xall (fun b t => xOK l Dg clm tys cA flm ftm base adS GWm xym xcm xnm xrm Ex codem bmm bpm b t) 3 79 128 codem_969 :=
  And.intro (anm_965 Hy) (anm_968 Hy)
theorem anm_970 (Hy : Hym tys cA base adS Ex) : xall (fun b t => xOK l Dg clm tys cA flm ftm base adS GWm xym xcm xnm xrm Ex codem bmm bpm b t) 4 15 64 codem_970 :=
  And.intro (anm_962 Hy) (anm_969 Hy)
theorem anm_971 (Hy : Hym tys cA base adS Ex) : xall (fun b t => xOK l Dg clm tys cA flm ftm base adS GWm xym xcm xnm xrm Ex codem bmm bpm b t) 1 47 512 codem_971 :=
  And.intro (okm_47 Hy) (okm_559 Hy)
theorem anm_972 (Hy : Hym tys cA base adS Ex) : xall (fun b t => xOK l Dg clm tys cA flm ftm base adS GWm xym xcm xnm xrm Ex codem bmm bpm b t) 1 303 512 codem_972 :=
  And.intro (okm_303 Hy) (okm_815 Hy)
theorem anm_973 (Hy : Hym tys cA base adS Ex) : xall (fun b t => xOK l Dg clm tys cA flm ftm base adS GWm xym xcm xnm xrm Ex codem bmm bpm b t) 2 47 256 codem_973 :=
  And.intro (anm_971 Hy) (anm_972 Hy)
theorem anm_974 (Hy : Hym tys cA base adS Ex) : xall (fun b t => xOK l Dg clm tys cA flm ftm base adS GWm xym xcm xnm xrm Ex codem bmm bpm b t) 1 175 512 codem_974 :=
  And.intro (okm_175 Hy) (okm_687 Hy)
theorem anm_975 (Hy : Hym tys cA base adS Ex) : xall (fun b t => xOK l Dg clm tys cA flm ftm base adS GWm xym xcm xnm xrm Ex codem bmm bpm b t) 1 431 512 codem_975 :=
  And.intro (okm_431 Hy) (okm_943 Hy)
theorem anm_976 (Hy : Hym tys cA base adS Ex) : xall (fun b t => xOK l Dg clm tys cA flm ftm base adS GWm xym xcm xnm xrm Ex codem bmm bpm b t) 2 175 256 codem_976 :=
  And.intro (anm_974 Hy) (anm_975 Hy)
theorem anm_977 (Hy : Hym tys cA base adS Ex) : xall (fun b t => xOK l Dg clm tys cA flm ftm base adS GWm xym xcm xnm xrm Ex codem bmm bpm b t) 3 47 128 codem_977 :=
  And.intro (anm_973 Hy) (anm_976 Hy)
theorem anm_978 (Hy : Hym tys cA base adS Ex) : xall (fun b t => xOK l Dg clm tys cA flm ftm base adS GWm xym xcm xnm xrm Ex codem bmm bpm b t) 1 111 512 codem_978 :=
  And.intro (okm_111 Hy) (okm_623 Hy)
theorem anm_979 (Hy : Hym tys cA base adS Ex) : xall (fun b t => xOK l Dg clm tys cA flm ftm base adS GWm xym xcm xnm xrm Ex codem bmm bpm b t) 1 367 512 codem_979 :=
  And.intro (okm_367 Hy) (okm_879 Hy)
theorem anm_980 (Hy : Hym tys cA base adS Ex) : xall (fun b t => xOK l Dg clm tys cA flm ftm base adS GWm xym xcm xnm xrm Ex codem bmm bpm b t) 2 111 256 codem_980 :=
  And.intro (anm_978 Hy) (anm_979 Hy)
theorem anm_981 (Hy : Hym tys cA base adS Ex) : xall (fun b t => xOK l Dg clm tys cA flm ftm base adS GWm xym xcm xnm xrm Ex codem bmm bpm b t) 1 239 512 codem_981 :=
  And.intro (okm_239 Hy) (okm_751 Hy)
theorem anm_982 (Hy : Hym tys cA base adS Ex) : xall (fun b t => xOK l Dg clm tys cA flm ftm base adS GWm xym xcm xnm xrm Ex codem bmm bpm b t) 1 495 512 codem_982 :=
  And.intro (okm_495 Hy) (okzm 1007)
theorem anm_983 (Hy : Hym tys cA base adS Ex) : xall (fun b t => xOK l Dg clm tys cA flm ftm base adS GWm xym xcm xnm xrm Ex codem bmm bpm b t) 2 239 256 codem_983 :=
  And.intro (anm_981 Hy) (anm_982 Hy)
theorem anm_984 (Hy : Hym tys cA base adS Ex) : xall (fun b t => xOK l Dg clm tys cA flm ftm base adS GWm xym xcm xnm xrm Ex codem bmm bpm b t) 3 111 128 codem_984 :=
  And.intro (anm_980 Hy) (anm_983 Hy)
theorem anm_985 (Hy : Hym tys cA base adS Ex) : xall (fun b t => xOK l Dg clm tys cA flm ftm base adS GWm xym xcm xnm xrm Ex codem bmm bpm b t) 4 47 64 codem_985 :=
  And.intro (anm_977 Hy) (anm_984 Hy)
theorem anm_986 (Hy : Hym tys cA base adS Ex) : xall (fun b t => xOK l Dg clm tys cA flm ftm base adS GWm xym xcm xnm xrm Ex codem bmm bpm b t) 5 15 32 codem_986 :=
  And.intro (anm_970 Hy) (anm_985 Hy)
theorem anm_987 (Hy : Hym tys cA base adS Ex) : xall (fun b t => xOK l Dg clm tys cA flm ftm base adS GWm xym xcm xnm xrm Ex codem bmm bpm b t) 1 31 512 codem_987 :=
  And.intro (okm_31 Hy) (okm_543 Hy)
theorem anm_988 (Hy : Hym tys cA base adS Ex) : xall (fun b t => xOK l Dg clm tys cA flm ftm base adS GWm xym xcm xnm xrm Ex codem bmm bpm b t) 1 287 512 codem_988 :=
  And.intro (okm_287 Hy) (okm_799 Hy)
theorem anm_989 (Hy : Hym tys cA base adS Ex) : xall (fun b t => xOK l Dg clm tys cA flm ftm base adS GWm xym xcm xnm xrm Ex codem bmm bpm b t) 2 31 256 codem_989 :=
  And.intro (anm_987 Hy) (anm_988 Hy)
theorem anm_990 (Hy : Hym tys cA base adS Ex) : xall (fun b t => xOK l Dg clm tys cA flm ftm base adS GWm xym xcm xnm xrm Ex codem bmm bpm b t) 1 159 512 codem_990 :=
  And.intro (okm_159 Hy) (okm_671 Hy)
theorem anm_991 (Hy : Hym tys cA base adS Ex) : xall (fun b t => xOK l Dg clm tys cA flm ftm base adS GWm xym xcm xnm xrm Ex codem bmm bpm b t) 1 415 512 codem_991 :=
  And.intro (okm_415 Hy) (okm_927 Hy)
theorem anm_992 (Hy : Hym tys cA base adS Ex) : xall (fun b t => xOK l Dg clm tys cA flm ftm base adS GWm xym xcm xnm xrm Ex codem bmm bpm b t) 2 159 256 codem_992 :=
  And.intro (anm_990 Hy) (anm_991 Hy)
theorem anm_993 (Hy : Hym tys cA base adS Ex) : xall (fun b t => xOK l Dg clm tys cA flm ftm base adS GWm xym xcm xnm xrm Ex codem bmm bpm b t) 3 31 128 codem_993 :=
  And.intro (anm_989 Hy) (anm_992 Hy)
theorem anm_994 (Hy : Hym tys cA base adS Ex) : xall (fun b t => xOK l Dg clm tys cA flm ftm base adS GWm xym xcm xnm xrm Ex codem bmm bpm b t) 1 95 512 codem_994 :=
  And.intro (okm_95 Hy) (okm_607 Hy)
theorem anm_995 (Hy : Hym tys cA base adS Ex) : xall (fun b t => xOK l Dg clm tys cA flm ftm base adS GWm xym xcm xnm xrm Ex codem bmm bpm b t) 1 351 512 codem_995 :=
  And.intro (okm_351 Hy) (okm_863 Hy)
theorem anm_996 (Hy : Hym tys cA base adS Ex) : xall (fun b t => xOK l Dg clm tys cA flm ftm base adS GWm xym xcm xnm xrm Ex codem bmm bpm b t) 2 95 256 codem_996 :=
  And.intro (anm_994 Hy) (anm_995 Hy)
theorem anm_997 (Hy : Hym tys cA base adS Ex) : xall (fun b t => xOK l Dg clm tys cA flm ftm base adS GWm xym xcm xnm xrm Ex codem bmm bpm b t) 1 223 512 codem_997 :=
  And.intro (okm_223 Hy) (okm_735 Hy)
theorem anm_998 (Hy : Hym tys cA base adS Ex) : xall (fun b t => xOK l Dg clm tys cA flm ftm base adS GWm xym xcm xnm xrm Ex codem bmm bpm b t) 1 479 512 codem_998 :=
  And.intro (okm_479 Hy) (okzm 991)
theorem anm_999 (Hy : Hym tys cA base adS Ex) : xall (fun b t => xOK l Dg clm tys cA flm ftm base adS GWm xym xcm xnm xrm Ex codem bmm bpm b t) 2 223 256 codem_999 :=
  And.intro (anm_997 Hy) (anm_998 Hy)
theorem anm_1000 (Hy : Hym tys cA base adS Ex) : xall (fun b t => xOK l Dg clm tys cA flm ftm base adS GWm xym xcm xnm xrm Ex codem bmm bpm b t) 3 95 128 codem_1000 :=
  And.intro (anm_996 Hy) (anm_999 Hy)
theorem anm_1001 (Hy : Hym tys cA base adS Ex) : xall (fun b t => xOK l Dg clm tys cA flm ftm base adS GWm xym xcm xnm xrm Ex codem bmm bpm b t) 4 31 64 codem_1001 :=
  And.intro (anm_993 Hy) (anm_1000 Hy)
theorem anm_1002 (Hy : Hym tys cA base adS Ex) : xall (fun b t => xOK l Dg clm tys cA flm ftm base adS GWm xym xcm xnm xrm Ex codem bmm bpm b t) 1 63 512 codem_1002 :=
  And.intro (okm_63 Hy) (okm_575 Hy)
theorem anm_1003 (Hy : Hym tys cA base adS Ex) : xall (fun b t => xOK l Dg clm tys cA flm ftm base adS GWm xym xcm xnm xrm Ex codem bmm bpm b t) 1 319 512 codem_1003 :=
  And.intro (okm_319 Hy) (okm_831 Hy)
theorem anm_1004 (Hy : Hym tys cA base adS Ex) : xall (fun b t => xOK l Dg clm tys cA flm ftm base adS GWm xym xcm xnm xrm Ex codem bmm bpm b t) 2 63 256 codem_1004 :=
  And.intro (anm_1002 Hy) (anm_1003 Hy)
theorem anm_1005 (Hy : Hym tys cA base adS Ex) : xall (fun b t => xOK l Dg clm tys cA flm ftm base adS GWm xym xcm xnm xrm Ex codem bmm bpm b t) 1 191 512 codem_1005 :=
  And.intro (okm_191 Hy) (okm_703 Hy)
theorem anm_1006 (Hy : Hym tys cA base adS Ex) : xall (fun b t => xOK l Dg clm tys cA flm ftm base adS GWm xym xcm xnm xrm Ex codem bmm bpm b t) 1 447 512 codem_1006 :=
  And.intro (okm_447 Hy) (okzm 959)
theorem anm_1007 (Hy : Hym tys cA base adS Ex) : xall (fun b t => xOK l Dg clm tys cA flm ftm base adS GWm xym xcm xnm xrm Ex codem bmm bpm b t) 2 191 256 codem_1007 :=
  And.intro (anm_1005 Hy) (anm_1006 Hy)
theorem anm_1008 (Hy : Hym tys cA base adS Ex) : xall (fun b t => xOK l Dg clm tys cA flm ftm base adS GWm xym xcm xnm xrm Ex codem bmm bpm b t) 3 63 128 codem_1008 :=
  And.intro (anm_1004 Hy) (anm_1007 Hy)
theorem anm_1009 (Hy : Hym tys cA base adS Ex) : xall (fun b t => xOK l Dg clm tys cA flm ftm base adS GWm xym xcm xnm xrm Ex codem bmm bpm b t) 1 127 512 codem_1009 :=
  And.intro (okm_127 Hy) (okm_639 Hy)
theorem anm_1010 (Hy : Hym tys cA base adS Ex) : xall (fun b t => xOK l Dg clm tys cA flm ftm base adS GWm xym xcm xnm xrm Ex codem bmm bpm b t) 1 383 512 codem_1010 :=
  And.intro (okm_383 Hy) (okm_895 Hy)
theorem anm_1011 (Hy : Hym tys cA base adS Ex) : xall (fun b t => xOK l Dg clm tys cA flm ftm base adS GWm xym xcm xnm xrm Ex codem bmm bpm b t) 2 127 256 codem_1011 :=
  And.intro (anm_1009 Hy) (anm_1010 Hy)
theorem anm_1012 (Hy : Hym tys cA base adS Ex) : xall (fun b t => xOK l Dg clm tys cA flm ftm base adS GWm xym xcm xnm xrm Ex codem bmm bpm b t) 1 255 512 codem_1012 :=
  And.intro (okm_255 Hy) (okm_767 Hy)
theorem anm_1013 (Hy : Hym tys cA base adS Ex) : xall (fun b t => xOK l Dg clm tys cA flm ftm base adS GWm xym xcm xnm xrm Ex codem bmm bpm b t) 1 511 512 codem_1013 :=
  And.intro (okm_511 Hy) (okzm 1023)
theorem anm_1014 (Hy : Hym tys cA base adS Ex) : xall (fun b t => xOK l Dg clm tys cA flm ftm base adS GWm xym xcm xnm xrm Ex codem bmm bpm b t) 2 255 256 codem_1014 :=
  And.intro (anm_1012 Hy) (anm_1013 Hy)
theorem anm_1015 (Hy : Hym tys cA base adS Ex) : xall (fun b t => xOK l Dg clm tys cA flm ftm base adS GWm xym xcm xnm xrm Ex codem bmm bpm b t) 3 127 128 codem_1015 :=
  And.intro (anm_1011 Hy) (anm_1014 Hy)
theorem anm_1016 (Hy : Hym tys cA base adS Ex) : xall (fun b t => xOK l Dg clm tys cA flm ftm base adS GWm xym xcm xnm xrm Ex codem bmm bpm b t) 4 63 64 codem_1016 :=
  And.intro (anm_1008 Hy) (anm_1015 Hy)
theorem anm_1017 (Hy : Hym tys cA base adS Ex) : xall (fun b t => xOK l Dg clm tys cA flm ftm base adS GWm xym xcm xnm xrm Ex codem bmm bpm b t) 5 31 32 codem_1017 :=
  And.intro (anm_1001 Hy) (anm_1016 Hy)
theorem anm_1018 (Hy : Hym tys cA base adS Ex) : xall (fun b t => xOK l Dg clm tys cA flm ftm base adS GWm xym xcm xnm xrm Ex codem bmm bpm b t) 6 15 16 codem_1018 :=
  And.intro (anm_986 Hy) (anm_1017 Hy)
theorem anm_1019 (Hy : Hym tys cA base adS Ex) : xall (fun b t => xOK l Dg clm tys cA flm ftm base adS GWm xym xcm xnm xrm Ex codem bmm bpm b t) 7 7 8 codem_1019 :=
  And.intro (anm_955 Hy) (anm_1018 Hy)
theorem anm_1020 (Hy : Hym tys cA base adS Ex) : xall (fun b t => xOK l Dg clm tys cA flm ftm base adS GWm xym xcm xnm xrm Ex codem bmm bpm b t) 8 3 4 codem_1020 :=
  And.intro (anm_892 Hy) (anm_1019 Hy)
theorem anm_1021 (Hy : Hym tys cA base adS Ex) : xall (fun b t => xOK l Dg clm tys cA flm ftm base adS GWm xym xcm xnm xrm Ex codem bmm bpm b t) 9 1 2 codem_1021 :=
  And.intro (anm_765 Hy) (anm_1020 Hy)
theorem anm (Hy : Hym tys cA base adS Ex) : xall (fun b t => xOK l Dg clm tys cA flm ftm base adS GWm xym xcm xnm xrm Ex codem bmm bpm b t) 10 0 1 codem :=
  And.intro (anm_510 Hy) (anm_1021 Hy)
theorem modm (b : Nat) : bmm b = bmm (b % 2 ^ 10) ∧ bpm b = bpm (b % 2 ^ 10) := ⟨congrArg Prod.fst (xget_mod 10 mpm b), congrArg Prod.snd (xget_mod 10 mpm b)⟩
theorem allm (Hy : Hym tys cA base adS Ex) : ∀ b, b < 2 ^ 10 → xOK l Dg clm tys cA flm ftm base adS GWm xym xcm xnm xrm Ex codem bmm bpm b (xget 10 codem b) := fun b hb => by
  have h := xall_get 10 0 1 codem (anm (l := l) (Dg := Dg) Hy) b hb
  rw [Nat.zero_add, Nat.one_mul] at h
  exact h
theorem soundm (Hy : Hym tys cA base adS Ex) : ∀ K, xIH l Dg clm tys cA flm ftm base adS GWm xym xcm xnm xrm Ex codem bmm bpm K := x_sound modm (allm Hy)
end
