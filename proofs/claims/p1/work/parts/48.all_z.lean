/-! All blocks together: the machine is sound. -/
section
variable {l : Launch} {Dg : va_G} {tys : List (ClassId × FieldType)} {cA : Nat → Nat} {base : Nat} {adS : Nat → Nat} {Ex : State → Heap → Prop}

theorem okzz (b : Nat) : xOK l Dg clz tys cA flz ftz base adS GWz xyz xcz xnz xrz Ex codez bmz bpz b bz_no := fun n dl fs fin hI => s_no
theorem anz_0 (Hy : Hyz tys cA base adS Ex) : xall (fun b t => xOK l Dg clz tys cA flz ftz base adS GWz xyz xcz xnz xrz Ex codez bmz bpz b t) 1 0 2048 codez_0 :=
  And.intro (okz_0 Hy) (okz_2048 Hy)
theorem anz_1 (Hy : Hyz tys cA base adS Ex) : xall (fun b t => xOK l Dg clz tys cA flz ftz base adS GWz xyz xcz xnz xrz Ex codez bmz bpz b t) 1 1024 2048 codez_1 :=
  And.intro (okz_1024 Hy) (okzz 3072)
theorem anz_2 (Hy : Hyz tys cA base adS Ex) : xall (fun b t => xOK l Dg clz tys cA flz ftz base adS GWz xyz xcz xnz xrz Ex codez bmz bpz b t) 2 0 1024 codez_2 :=
  And.intro (anz_0 Hy) (anz_1 Hy)
theorem anz_3 (Hy : Hyz tys cA base adS Ex) : xall (fun b t => xOK l Dg clz tys cA flz ftz base adS GWz xyz xcz xnz xrz Ex codez bmz bpz b t) 1 512 2048 codez_3 :=
  And.intro (okz_512 Hy) (okzz 2560)
theorem anz_4 (Hy : Hyz tys cA base adS Ex) : xall (fun b t => xOK l Dg clz tys cA flz ftz base adS GWz xyz xcz xnz xrz Ex codez bmz bpz b t) 1 1536 2048 codez_4 :=
  And.intro (okz_1536 Hy) (okzz 3584)
theorem anz_5 (Hy : Hyz tys cA base adS Ex) : xall (fun b t => xOK l Dg clz tys cA flz ftz base adS GWz xyz xcz xnz xrz Ex codez bmz bpz b t) 2 512 1024 codez_5 :=
  And.intro (anz_3 Hy) (anz_4 Hy)
theorem anz_6 (Hy : Hyz tys cA base adS Ex) : xall (fun b t => xOK l Dg clz tys cA flz ftz base adS GWz xyz xcz xnz xrz Ex codez bmz bpz b t) 3 0 512 codez_6 :=
  And.intro (anz_2 Hy) (anz_5 Hy)
theorem anz_7 (Hy : Hyz tys cA base adS Ex) : xall (fun b t => xOK l Dg clz tys cA flz ftz base adS GWz xyz xcz xnz xrz Ex codez bmz bpz b t) 1 256 2048 codez_7 :=
  And.intro (okz_256 Hy) (okz_2304 Hy)
theorem anz_8 (Hy : Hyz tys cA base adS Ex) : xall (fun b t => xOK l Dg clz tys cA flz ftz base adS GWz xyz xcz xnz xrz Ex codez bmz bpz b t) 1 1280 2048 codez_8 :=
  And.intro (okz_1280 Hy) (okzz 3328)
theorem anz_9 (Hy : Hyz tys cA base adS Ex) : xall (fun b t => xOK l Dg clz tys cA flz ftz base adS GWz xyz xcz xnz xrz Ex codez bmz bpz b t) 2 256 1024 codez_9 :=
  And.intro (anz_7 Hy) (anz_8 Hy)
theorem anz_10 (Hy : Hyz tys cA base adS Ex) : xall (fun b t => xOK l Dg clz tys cA flz ftz base adS GWz xyz xcz xnz xrz Ex codez bmz bpz b t) 1 768 2048 codez_10 :=
  And.intro (okz_768 Hy) (okzz 2816)
theorem anz_11 (Hy : Hyz tys cA base adS Ex) : xall (fun b t => xOK l Dg clz tys cA flz ftz base adS GWz xyz xcz xnz xrz Ex codez bmz bpz b t) 1 1792 2048 codez_11 :=
  And.intro (okz_1792 Hy) (okzz 3840)
theorem anz_12 (Hy : Hyz tys cA base adS Ex) : xall (fun b t => xOK l Dg clz tys cA flz ftz base adS GWz xyz xcz xnz xrz Ex codez bmz bpz b t) 2 768 1024 codez_12 :=
  And.intro (anz_10 Hy) (anz_11 Hy)
theorem anz_13 (Hy : Hyz tys cA base adS Ex) : xall (fun b t => xOK l Dg clz tys cA flz ftz base adS GWz xyz xcz xnz xrz Ex codez bmz bpz b t) 3 256 512 codez_13 :=
  And.intro (anz_9 Hy) (anz_12 Hy)
theorem anz_14 (Hy : Hyz tys cA base adS Ex) : xall (fun b t => xOK l Dg clz tys cA flz ftz base adS GWz xyz xcz xnz xrz Ex codez bmz bpz b t) 4 0 256 codez_14 :=
  And.intro (anz_6 Hy) (anz_13 Hy)
theorem anz_15 (Hy : Hyz tys cA base adS Ex) : xall (fun b t => xOK l Dg clz tys cA flz ftz base adS GWz xyz xcz xnz xrz Ex codez bmz bpz b t) 1 128 2048 codez_15 :=
  And.intro (okz_128 Hy) (okz_2176 Hy)
theorem anz_16 (Hy : Hyz tys cA base adS Ex) : xall (fun b t => xOK l Dg clz tys cA flz ftz base adS GWz xyz xcz xnz xrz Ex codez bmz bpz b t) 1 1152 2048 codez_16 :=
  And.intro (okz_1152 Hy) (okzz 3200)
theorem anz_17 (Hy : Hyz tys cA base adS Ex) : xall (fun b t => xOK l Dg clz tys cA flz ftz base adS GWz xyz xcz xnz xrz Ex codez bmz bpz b t) 2 128 1024 codez_17 :=
  And.intro (anz_15 Hy) (anz_16 Hy)
theorem anz_18 (Hy : Hyz tys cA base adS Ex) : xall (fun b t => xOK l Dg clz tys cA flz ftz base adS GWz xyz xcz xnz xrz Ex codez bmz bpz b t) 1 640 2048 codez_18 :=
  And.intro (okz_640 Hy) (okzz 2688)
theorem anz_19 (Hy : Hyz tys cA base adS Ex) : xall (fun b t => xOK l Dg clz tys cA flz ftz base adS GWz xyz xcz xnz xrz Ex codez bmz bpz b t) 1 1664 2048 codez_19 :=
  And.intro (okz_1664 Hy) (okzz 3712)
theorem anz_20 (Hy : Hyz tys cA base adS Ex) : xall (fun b t => xOK l Dg clz tys cA flz ftz base adS GWz xyz xcz xnz xrz Ex codez bmz bpz b t) 2 640 1024 codez_20 :=
  And.intro (anz_18 Hy) (anz_19 Hy)
theorem anz_21 (Hy : Hyz tys cA base adS Ex) : xall (fun b t => xOK l Dg clz tys cA flz ftz base adS GWz xyz xcz xnz xrz Ex codez bmz bpz b t) 3 128 512 codez_21 :=
  And.intro (anz_17 Hy) (anz_20 Hy)
theorem anz_22 (Hy : Hyz tys cA base adS Ex) : xall (fun b t => xOK l Dg clz tys cA flz ftz base adS GWz xyz xcz xnz xrz Ex codez bmz bpz b t) 1 384 2048 codez_22 :=
  And.intro (okz_384 Hy) (okz_2432 Hy)
theorem anz_23 (Hy : Hyz tys cA base adS Ex) : xall (fun b t => xOK l Dg clz tys cA flz ftz base adS GWz xyz xcz xnz xrz Ex codez bmz bpz b t) 1 1408 2048 codez_23 :=
  And.intro (okz_1408 Hy) (okzz 3456)
theorem anz_24 (Hy : Hyz tys cA base adS Ex) : xall (fun b t => xOK l Dg clz tys cA flz ftz base adS GWz xyz xcz xnz xrz Ex codez bmz bpz b t) 2 384 1024 codez_24 :=
  And.intro (anz_22 Hy) (anz_23 Hy)
theorem anz_25 (Hy : Hyz tys cA base adS Ex) : xall (fun b t => xOK l Dg clz tys cA flz ftz base adS GWz xyz xcz xnz xrz Ex codez bmz bpz b t) 1 896 2048 codez_25 :=
  And.intro (okz_896 Hy) (okzz 2944)
theorem anz_26 (Hy : Hyz tys cA base adS Ex) : xall (fun b t => xOK l Dg clz tys cA flz ftz base adS GWz xyz xcz xnz xrz Ex codez bmz bpz b t) 1 1920 2048 codez_26 :=
  And.intro (okz_1920 Hy) (okzz 3968)
theorem anz_27 (Hy : Hyz tys cA base adS Ex) : xall (fun b t => xOK l Dg clz tys cA flz ftz base adS GWz xyz xcz xnz xrz Ex codez bmz bpz b t) 2 896 1024 codez_27 :=
  And.intro (anz_25 Hy) (anz_26 Hy)
theorem anz_28 (Hy : Hyz tys cA base adS Ex) : xall (fun b t => xOK l Dg clz tys cA flz ftz base adS GWz xyz xcz xnz xrz Ex codez bmz bpz b t) 3 384 512 codez_28 :=
  And.intro (anz_24 Hy) (anz_27 Hy)
theorem anz_29 (Hy : Hyz tys cA base adS Ex) : xall (fun b t => xOK l Dg clz tys cA flz ftz base adS GWz xyz xcz xnz xrz Ex codez bmz bpz b t) 4 128 256 codez_29 :=
  And.intro (anz_21 Hy) (anz_28 Hy)
theorem anz_30 (Hy : Hyz tys cA base adS Ex) : xall (fun b t => xOK l Dg clz tys cA flz ftz base adS GWz xyz xcz xnz xrz Ex codez bmz bpz b t) 5 0 128 codez_30 :=
  And.intro (anz_14 Hy) (anz_29 Hy)
theorem anz_31 (Hy : Hyz tys cA base adS Ex) : xall (fun b t => xOK l Dg clz tys cA flz ftz base adS GWz xyz xcz xnz xrz Ex codez bmz bpz b t) 1 64 2048 codez_31 :=
  And.intro (okz_64 Hy) (okz_2112 Hy)
theorem anz_32 (Hy : Hyz tys cA base adS Ex) : xall (fun b t => xOK l Dg clz tys cA flz ftz base adS GWz xyz xcz xnz xrz Ex codez bmz bpz b t) 1 1088 2048 codez_32 :=
  And.intro (okz_1088 Hy) (okzz 3136)
theorem anz_33 (Hy : Hyz tys cA base adS Ex) : xall (fun b t => xOK l Dg clz tys cA flz ftz base adS GWz xyz xcz xnz xrz Ex codez bmz bpz b t) 2 64 1024 codez_33 :=
  And.intro (anz_31 Hy) (anz_32 Hy)
theorem anz_34 (Hy : Hyz tys cA base adS Ex) : xall (fun b t => xOK l Dg clz tys cA flz ftz base adS GWz xyz xcz xnz xrz Ex codez bmz bpz b t) 1 576 2048 codez_34 :=
  And.intro (okz_576 Hy) (okzz 2624)
theorem anz_35 (Hy : Hyz tys cA base adS Ex) : xall (fun b t => xOK l Dg clz tys cA flz ftz base adS GWz xyz xcz xnz xrz Ex codez bmz bpz b t) 1 1600 2048 codez_35 :=
  And.intro (okz_1600 Hy) (okzz 3648)
theorem anz_36 (Hy : Hyz tys cA base adS Ex) : xall (fun b t => xOK l Dg clz tys cA flz ftz base adS GWz xyz xcz xnz xrz Ex codez bmz bpz b t) 2 576 1024 codez_36 :=
  And.intro (anz_34 Hy) (anz_35 Hy)
theorem anz_37 (Hy : Hyz tys cA base adS Ex) : xall (fun b t => xOK l Dg clz tys cA flz ftz base adS GWz xyz xcz xnz xrz Ex codez bmz bpz b t) 3 64 512 codez_37 :=
  And.intro (anz_33 Hy) (anz_36 Hy)
theorem anz_38 (Hy : Hyz tys cA base adS Ex) : xall (fun b t => xOK l Dg clz tys cA flz ftz base adS GWz xyz xcz xnz xrz Ex codez bmz bpz b t) 1 320 2048 codez_38 :=
  And.intro (okz_320 Hy) (okz_2368 Hy)
theorem anz_39 (Hy : Hyz tys cA base adS Ex) : xall (fun b t => xOK l Dg clz tys cA flz ftz base adS GWz xyz xcz xnz xrz Ex codez bmz bpz b t) 1 1344 2048 codez_39 :=
  And.intro (okz_1344 Hy) (okzz 3392)
theorem anz_40 (Hy : Hyz tys cA base adS Ex) : xall (fun b t => xOK l Dg clz tys cA flz ftz base adS GWz xyz xcz xnz xrz Ex codez bmz bpz b t) 2 320 1024 codez_40 :=
  And.intro (anz_38 Hy) (anz_39 Hy)
theorem anz_41 (Hy : Hyz tys cA base adS Ex) : xall (fun b t => xOK l Dg clz tys cA flz ftz base adS GWz xyz xcz xnz xrz Ex codez bmz bpz b t) 1 832 2048 codez_41 :=
  And.intro (okz_832 Hy) (okzz 2880)
theorem anz_42 (Hy : Hyz tys cA base adS Ex) : xall (fun b t => xOK l Dg clz tys cA flz ftz base adS GWz xyz xcz xnz xrz Ex codez bmz bpz b t) 1 1856 2048 codez_42 :=
  And.intro (okz_1856 Hy) (okzz 3904)
theorem anz_43 (Hy : Hyz tys cA base adS Ex) : xall (fun b t => xOK l Dg clz tys cA flz ftz base adS GWz xyz xcz xnz xrz Ex codez bmz bpz b t) 2 832 1024 codez_43 :=
  And.intro (anz_41 Hy) (anz_42 Hy)
theorem anz_44 (Hy : Hyz tys cA base adS Ex) : xall (fun b t => xOK l Dg clz tys cA flz ftz base adS GWz xyz xcz xnz xrz Ex codez bmz bpz b t) 3 320 512 codez_44 :=
  And.intro (anz_40 Hy) (anz_43 Hy)
theorem anz_45 (Hy : Hyz tys cA base adS Ex) : xall (fun b t => xOK l Dg clz tys cA flz ftz base adS GWz xyz xcz xnz xrz Ex codez bmz bpz b t) 4 64 256 codez_45 :=
  And.intro (anz_37 Hy) (anz_44 Hy)
theorem anz_46 (Hy : Hyz tys cA base adS Ex) : xall (fun b t => xOK l Dg clz tys cA flz ftz base adS GWz xyz xcz xnz xrz Ex codez bmz bpz b t) 1 192 2048 codez_46 :=
  And.intro (okz_192 Hy) (okz_2240 Hy)
theorem anz_47 (Hy : Hyz tys cA base adS Ex) : xall (fun b t => xOK l Dg clz tys cA flz ftz base adS GWz xyz xcz xnz xrz Ex codez bmz bpz b t) 1 1216 2048 codez_47 :=
  And.intro (okz_1216 Hy) (okzz 3264)
theorem anz_48 (Hy : Hyz tys cA base adS Ex) : xall (fun b t => xOK l Dg clz tys cA flz ftz base adS GWz xyz xcz xnz xrz Ex codez bmz bpz b t) 2 192 1024 codez_48 :=
  And.intro (anz_46 Hy) (anz_47 Hy)
theorem anz_49 (Hy : Hyz tys cA base adS Ex) : xall (fun b t => xOK l Dg clz tys cA flz ftz base adS GWz xyz xcz xnz xrz Ex codez bmz bpz b t) 1 704 2048 codez_49 :=
  And.intro (okz_704 Hy) (okzz 2752)
theorem anz_50 (Hy : Hyz tys cA base adS Ex) : xall (fun b t => xOK l Dg clz tys cA flz ftz base adS GWz xyz xcz xnz xrz Ex codez bmz bpz b t) 1 1728 2048 codez_50 :=
  And.intro (okz_1728 Hy) (okzz 3776)
theorem anz_51 (Hy : Hyz tys cA base adS Ex) : xall (fun b t => xOK l Dg clz tys cA flz ftz base adS GWz xyz xcz xnz xrz Ex codez bmz bpz b t) 2 704 1024 codez_51 :=
  And.intro (anz_49 Hy) (anz_50 Hy)
theorem anz_52 (Hy : Hyz tys cA base adS Ex) : xall (fun b t => xOK l Dg clz tys cA flz ftz base adS GWz xyz xcz xnz xrz Ex codez bmz bpz b t) 3 192 512 codez_52 :=
  And.intro (anz_48 Hy) (anz_51 Hy)
theorem anz_53 (Hy : Hyz tys cA base adS Ex) : xall (fun b t => xOK l Dg clz tys cA flz ftz base adS GWz xyz xcz xnz xrz Ex codez bmz bpz b t) 1 448 2048 codez_53 :=
  And.intro (okz_448 Hy) (okz_2496 Hy)
theorem anz_54 (Hy : Hyz tys cA base adS Ex) : xall (fun b t => xOK l Dg clz tys cA flz ftz base adS GWz xyz xcz xnz xrz Ex codez bmz bpz b t) 1 1472 2048 codez_54 :=
  And.intro (okz_1472 Hy) (okzz 3520)
theorem anz_55 (Hy : Hyz tys cA base adS Ex) : xall (fun b t => xOK l Dg clz tys cA flz ftz base adS GWz xyz xcz xnz xrz Ex codez bmz bpz b t) 2 448 1024 codez_55 :=
  And.intro (anz_53 Hy) (anz_54 Hy)
theorem anz_56 (Hy : Hyz tys cA base adS Ex) : xall (fun b t => xOK l Dg clz tys cA flz ftz base adS GWz xyz xcz xnz xrz Ex codez bmz bpz b t) 1 960 2048 codez_56 :=
  And.intro (okz_960 Hy) (okzz 3008)
theorem anz_57 (Hy : Hyz tys cA base adS Ex) : xall (fun b t => xOK l Dg clz tys cA flz ftz base adS GWz xyz xcz xnz xrz Ex codez bmz bpz b t) 1 1984 2048 codez_57 :=
  And.intro (okz_1984 Hy) (okzz 4032)
theorem anz_58 (Hy : Hyz tys cA base adS Ex) : xall (fun b t => xOK l Dg clz tys cA flz ftz base adS GWz xyz xcz xnz xrz Ex codez bmz bpz b t) 2 960 1024 codez_58 :=
  And.intro (anz_56 Hy) (anz_57 Hy)
theorem anz_59 (Hy : Hyz tys cA base adS Ex) : xall (fun b t => xOK l Dg clz tys cA flz ftz base adS GWz xyz xcz xnz xrz Ex codez bmz bpz b t) 3 448 512 codez_59 :=
  And.intro (anz_55 Hy) (anz_58 Hy)
theorem anz_60 (Hy : Hyz tys cA base adS Ex) : xall (fun b t => xOK l Dg clz tys cA flz ftz base adS GWz xyz xcz xnz xrz Ex codez bmz bpz b t) 4 192 256 codez_60 :=
  And.intro (anz_52 Hy) (anz_59 Hy)
theorem anz_61 (Hy : Hyz tys cA base adS Ex) : xall (fun b t => xOK l Dg clz tys cA flz ftz base adS GWz xyz xcz xnz xrz Ex codez bmz bpz b t) 5 64 128 codez_61 :=
  And.intro (anz_45 Hy) (anz_60 Hy)
theorem anz_62 (Hy : Hyz tys cA base adS Ex) : xall (fun b t => xOK l Dg clz tys cA flz ftz base adS GWz xyz xcz xnz xrz Ex codez bmz bpz b t) 6 0 64 codez_62 :=
  And.intro (anz_30 Hy) (anz_61 Hy)
theorem anz_63 (Hy : Hyz tys cA base adS Ex) : xall (fun b t => xOK l Dg clz tys cA flz ftz base adS GWz xyz xcz xnz xrz Ex codez bmz bpz b t) 1 32 2048 codez_63 :=
  And.intro (okz_32 Hy) (okz_2080 Hy)
theorem anz_64 (Hy : Hyz tys cA base adS Ex) : xall (fun b t => xOK l Dg clz tys cA flz ftz base adS GWz xyz xcz xnz xrz Ex codez bmz bpz b t) 1 1056 2048 codez_64 :=
  And.intro (okz_1056 Hy) (okzz 3104)
theorem anz_65 (Hy : Hyz tys cA base adS Ex) : xall (fun b t => xOK l Dg clz tys cA flz ftz base adS GWz xyz xcz xnz xrz Ex codez bmz bpz b t) 2 32 1024 codez_65 :=
  And.intro (anz_63 Hy) (anz_64 Hy)
theorem anz_66 (Hy : Hyz tys cA base adS Ex) : xall (fun b t => xOK l Dg clz tys cA flz ftz base adS GWz xyz xcz xnz xrz Ex codez bmz bpz b t) 1 544 2048 codez_66 :=
  And.intro (okz_544 Hy) (okzz 2592)
theorem anz_67 (Hy : Hyz tys cA base adS Ex) : xall (fun b t => xOK l Dg clz tys cA flz ftz base adS GWz xyz xcz xnz xrz Ex codez bmz bpz b t) 1 1568 2048 codez_67 :=
  And.intro (okz_1568 Hy) (okzz 3616)
theorem anz_68 (Hy : Hyz tys cA base adS Ex) : xall (fun b t => xOK l Dg clz tys cA flz ftz base adS GWz xyz xcz xnz xrz Ex codez bmz bpz b t) 2 544 1024 codez_68 :=
  And.intro (anz_66 Hy) (anz_67 Hy)
theorem anz_69 (Hy : Hyz tys cA base adS Ex) : xall (fun b t => xOK l Dg clz tys cA flz ftz base adS GWz xyz xcz xnz xrz Ex codez bmz bpz b t) 3 32 512 codez_69 :=
  And.intro (anz_65 Hy) (anz_68 Hy)
theorem anz_70 (Hy : Hyz tys cA base adS Ex) : xall (fun b t => xOK l Dg clz tys cA flz ftz base adS GWz xyz xcz xnz xrz Ex codez bmz bpz b t) 1 288 2048 codez_70 :=
  And.intro (okz_288 Hy) (okz_2336 Hy)
theorem anz_71 (Hy : Hyz tys cA base adS Ex) : xall (fun b t => xOK l Dg clz tys cA flz ftz base adS GWz xyz xcz xnz xrz Ex codez bmz bpz b t) 1 1312 2048 codez_71 :=
  And.intro (okz_1312 Hy) (okzz 3360)
theorem anz_72 (Hy : Hyz tys cA base adS Ex) : xall (fun b t => xOK l Dg clz tys cA flz ftz base adS GWz xyz xcz xnz xrz Ex codez bmz bpz b t) 2 288 1024 codez_72 :=
  And.intro (anz_70 Hy) (anz_71 Hy)
theorem anz_73 (Hy : Hyz tys cA base adS Ex) : xall (fun b t => xOK l Dg clz tys cA flz ftz base adS GWz xyz xcz xnz xrz Ex codez bmz bpz b t) 1 800 2048 codez_73 :=
  And.intro (okz_800 Hy) (okzz 2848)
theorem anz_74 (Hy : Hyz tys cA base adS Ex) : xall (fun b t => xOK l Dg clz tys cA flz ftz base adS GWz xyz xcz xnz xrz Ex codez bmz bpz b t) 1 1824 2048 codez_74 :=
  And.intro (okz_1824 Hy) (okzz 3872)
theorem anz_75 (Hy : Hyz tys cA base adS Ex) : xall (fun b t => xOK l Dg clz tys cA flz ftz base adS GWz xyz xcz xnz xrz Ex codez bmz bpz b t) 2 800 1024 codez_75 :=
  And.intro (anz_73 Hy) (anz_74 Hy)
theorem anz_76 (Hy : Hyz tys cA base adS Ex) : xall (fun b t => xOK l Dg clz tys cA flz ftz base adS GWz xyz xcz xnz xrz Ex codez bmz bpz b t) 3 288 512 codez_76 :=
  And.intro (anz_72 Hy) (anz_75 Hy)
theorem anz_77 (Hy : Hyz tys cA base adS Ex) : xall (fun b t => xOK l Dg clz tys cA flz ftz base adS GWz xyz xcz xnz xrz Ex codez bmz bpz b t) 4 32 256 codez_77 :=
  And.intro (anz_69 Hy) (anz_76 Hy)
theorem anz_78 (Hy : Hyz tys cA base adS Ex) : xall (fun b t => xOK l Dg clz tys cA flz ftz base adS GWz xyz xcz xnz xrz Ex codez bmz bpz b t) 1 160 2048 codez_78 :=
  And.intro (okz_160 Hy) (okz_2208 Hy)
theorem anz_79 (Hy : Hyz tys cA base adS Ex) : xall (fun b t => xOK l Dg clz tys cA flz ftz base adS GWz xyz xcz xnz xrz Ex codez bmz bpz b t) 1 1184 2048 codez_79 :=
  And.intro (okz_1184 Hy) (okzz 3232)
theorem anz_80 (Hy : Hyz tys cA base adS Ex) : xall (fun b t => xOK l Dg clz tys cA flz ftz base adS GWz xyz xcz xnz xrz Ex codez bmz bpz b t) 2 160 1024 codez_80 :=
  And.intro (anz_78 Hy) (anz_79 Hy)
theorem anz_81 (Hy : Hyz tys cA base adS Ex) : xall (fun b t => xOK l Dg clz tys cA flz ftz base adS GWz xyz xcz xnz xrz Ex codez bmz bpz b t) 1 672 2048 codez_81 :=
  And.intro (okz_672 Hy) (okzz 2720)
theorem anz_82 (Hy : Hyz tys cA base adS Ex) : xall (fun b t => xOK l Dg clz tys cA flz ftz base adS GWz xyz xcz xnz xrz Ex codez bmz bpz b t) 1 1696 2048 codez_82 :=
  And.intro (okz_1696 Hy) (okzz 3744)
theorem anz_83 (Hy : Hyz tys cA base adS Ex) : xall (fun b t => xOK l Dg clz tys cA flz ftz base adS GWz xyz xcz xnz xrz Ex codez bmz bpz b t) 2 672 1024 codez_83 :=
  And.intro (anz_81 Hy) (anz_82 Hy)
theorem anz_84 (Hy : Hyz tys cA base adS Ex) : xall (fun b t => xOK l Dg clz tys cA flz ftz base adS GWz xyz xcz xnz xrz Ex codez bmz bpz b t) 3 160 512 codez_84 :=
  And.intro (anz_80 Hy) (anz_83 Hy)
theorem anz_85 (Hy : Hyz tys cA base adS Ex) : xall (fun b t => xOK l Dg clz tys cA flz ftz base adS GWz xyz xcz xnz xrz Ex codez bmz bpz b t) 1 416 2048 codez_85 :=
  And.intro (okz_416 Hy) (okz_2464 Hy)
theorem anz_86 (Hy : Hyz tys cA base adS Ex) : xall (fun b t => xOK l Dg clz tys cA flz ftz base adS GWz xyz xcz xnz xrz Ex codez bmz bpz b t) 1 1440 2048 codez_86 :=
  And.intro (okz_1440 Hy) (okzz 3488)
theorem anz_87 (Hy : Hyz tys cA base adS Ex) : xall (fun b t => xOK l Dg clz tys cA flz ftz base adS GWz xyz xcz xnz xrz Ex codez bmz bpz b t) 2 416 1024 codez_87 :=
  And.intro (anz_85 Hy) (anz_86 Hy)
theorem anz_88 (Hy : Hyz tys cA base adS Ex) : xall (fun b t => xOK l Dg clz tys cA flz ftz base adS GWz xyz xcz xnz xrz Ex codez bmz bpz b t) 1 928 2048 codez_88 :=
  And.intro (okz_928 Hy) (okzz 2976)
theorem anz_89 (Hy : Hyz tys cA base adS Ex) : xall (fun b t => xOK l Dg clz tys cA flz ftz base adS GWz xyz xcz xnz xrz Ex codez bmz bpz b t) 1 1952 2048 codez_89 :=
  And.intro (okz_1952 Hy) (okzz 4000)
theorem anz_90 (Hy : Hyz tys cA base adS Ex) : xall (fun b t => xOK l Dg clz tys cA flz ftz base adS GWz xyz xcz xnz xrz Ex codez bmz bpz b t) 2 928 1024 codez_90 :=
  And.intro (anz_88 Hy) (anz_89 Hy)
theorem anz_91 (Hy : Hyz tys cA base adS Ex) : xall (fun b t => xOK l Dg clz tys cA flz ftz base adS GWz xyz xcz xnz xrz Ex codez bmz bpz b t) 3 416 512 codez_91 :=
  And.intro (anz_87 Hy) (anz_90 Hy)
theorem anz_92 (Hy : Hyz tys cA base adS Ex) : xall (fun b t => xOK l Dg clz tys cA flz ftz base adS GWz xyz xcz xnz xrz Ex codez bmz bpz b t) 4 160 256 codez_92 :=
  And.intro (anz_84 Hy) (anz_91 Hy)
theorem anz_93 (Hy : Hyz tys cA base adS Ex) : xall (fun b t => xOK l Dg clz tys cA flz ftz base adS GWz xyz xcz xnz xrz Ex codez bmz bpz b t) 5 32 128 codez_93 :=
  And.intro (anz_77 Hy) (anz_92 Hy)
theorem anz_94 (Hy : Hyz tys cA base adS Ex) : xall (fun b t => xOK l Dg clz tys cA flz ftz base adS GWz xyz xcz xnz xrz Ex codez bmz bpz b t) 1 96 2048 codez_94 :=
  And.intro (okz_96 Hy) (okz_2144 Hy)
theorem anz_95 (Hy : Hyz tys cA base adS Ex) : xall (fun b t => xOK l Dg clz tys cA flz ftz base adS GWz xyz xcz xnz xrz Ex codez bmz bpz b t) 1 1120 2048 codez_95 :=
  And.intro (okz_1120 Hy) (okzz 3168)
theorem anz_96 (Hy : Hyz tys cA base adS Ex) : xall (fun b t => xOK l Dg clz tys cA flz ftz base adS GWz xyz xcz xnz xrz Ex codez bmz bpz b t) 2 96 1024 codez_96 :=
  And.intro (anz_94 Hy) (anz_95 Hy)
theorem anz_97 (Hy : Hyz tys cA base adS Ex) : xall (fun b t => xOK l Dg clz tys cA flz ftz base adS GWz xyz xcz xnz xrz Ex codez bmz bpz b t) 1 608 2048 codez_97 :=
  And.intro (okz_608 Hy) (okzz 2656)
theorem anz_98 (Hy : Hyz tys cA base adS Ex) : xall (fun b t => xOK l Dg clz tys cA flz ftz base adS GWz xyz xcz xnz xrz Ex codez bmz bpz b t) 1 1632 2048 codez_98 :=
  And.intro (okz_1632 Hy) (okzz 3680)
theorem anz_99 (Hy : Hyz tys cA base adS Ex) : xall (fun b t => xOK l Dg clz tys cA flz ftz base adS GWz xyz xcz xnz xrz Ex codez bmz bpz b t) 2 608 1024 codez_99 :=
  And.intro (anz_97 Hy) (anz_98 Hy)
theorem anz_100 (Hy : Hyz tys cA base adS Ex) : xall (fun b t => xOK l Dg clz tys cA flz ftz base adS GWz xyz xcz xnz xrz Ex codez bmz bpz b t) 3 96 512 codez_100 :=
  And.intro (anz_96 Hy) (anz_99 Hy)
theorem anz_101 (Hy : Hyz tys cA base adS Ex) : xall (fun b t => xOK l Dg clz tys cA flz ftz base adS GWz xyz xcz xnz xrz Ex codez bmz bpz b t) 1 352 2048 codez_101 :=
  And.intro (okz_352 Hy) (okz_2400 Hy)
theorem anz_102 (Hy : Hyz tys cA base adS Ex) : xall (fun b t => xOK l Dg clz tys cA flz ftz base adS GWz xyz xcz xnz xrz Ex codez bmz bpz b t) 1 1376 2048 codez_102 :=
  And.intro (okz_1376 Hy) (okzz 3424)
theorem anz_103 (Hy : Hyz tys cA base adS Ex) : xall (fun b t => xOK l Dg clz tys cA flz ftz base adS GWz xyz xcz xnz xrz Ex codez bmz bpz b t) 2 352 1024 codez_103 :=
  And.intro (anz_101 Hy) (anz_102 Hy)
theorem anz_104 (Hy : Hyz tys cA base adS Ex) : xall (fun b t => xOK l Dg clz tys cA flz ftz base adS GWz xyz xcz xnz xrz Ex codez bmz bpz b t) 1 864 2048 codez_104 :=
  And.intro (okz_864 Hy) (okzz 2912)
theorem anz_105 (Hy : Hyz tys cA base adS Ex) : xall (fun b t => xOK l Dg clz tys cA flz ftz base adS GWz xyz xcz xnz xrz Ex codez bmz bpz b t) 1 1888 2048 codez_105 :=
  And.intro (okz_1888 Hy) (okzz 3936)
theorem anz_106 (Hy : Hyz tys cA base adS Ex) : xall (fun b t => xOK l Dg clz tys cA flz ftz base adS GWz xyz xcz xnz xrz Ex codez bmz bpz b t) 2 864 1024 codez_106 :=
  And.intro (anz_104 Hy) (anz_105 Hy)
theorem anz_107 (Hy : Hyz tys cA base adS Ex) : xall (fun b t => xOK l Dg clz tys cA flz ftz base adS GWz xyz xcz xnz xrz Ex codez bmz bpz b t) 3 352 512 codez_107 :=
  And.intro (anz_103 Hy) (anz_106 Hy)
theorem anz_108 (Hy : Hyz tys cA base adS Ex) : xall (fun b t => xOK l Dg clz tys cA flz ftz base adS GWz xyz xcz xnz xrz Ex codez bmz bpz b t) 4 96 256 codez_108 :=
  And.intro (anz_100 Hy) (anz_107 Hy)
theorem anz_109 (Hy : Hyz tys cA base adS Ex) : xall (fun b t => xOK l Dg clz tys cA flz ftz base adS GWz xyz xcz xnz xrz Ex codez bmz bpz b t) 1 224 2048 codez_109 :=
  And.intro (okz_224 Hy) (okz_2272 Hy)
theorem anz_110 (Hy : Hyz tys cA base adS Ex) : xall (fun b t => xOK l Dg clz tys cA flz ftz base adS GWz xyz xcz xnz xrz Ex codez bmz bpz b t) 1 1248 2048 codez_110 :=
  And.intro (okz_1248 Hy) (okzz 3296)
theorem anz_111 (Hy : Hyz tys cA base adS Ex) : xall (fun b t => xOK l Dg clz tys cA flz ftz base adS GWz xyz xcz xnz xrz Ex codez bmz bpz b t) 2 224 1024 codez_111 :=
  And.intro (anz_109 Hy) (anz_110 Hy)
theorem anz_112 (Hy : Hyz tys cA base adS Ex) : xall (fun b t => xOK l Dg clz tys cA flz ftz base adS GWz xyz xcz xnz xrz Ex codez bmz bpz b t) 1 736 2048 codez_112 :=
  And.intro (okz_736 Hy) (okzz 2784)
theorem anz_113 (Hy : Hyz tys cA base adS Ex) : xall (fun b t => xOK l Dg clz tys cA flz ftz base adS GWz xyz xcz xnz xrz Ex codez bmz bpz b t) 1 1760 2048 codez_113 :=
  And.intro (okz_1760 Hy) (okzz 3808)
theorem anz_114 (Hy : Hyz tys cA base adS Ex) : xall (fun b t => xOK l Dg clz tys cA flz ftz base adS GWz xyz xcz xnz xrz Ex codez bmz bpz b t) 2 736 1024 codez_114 :=
  And.intro (anz_112 Hy) (anz_113 Hy)
theorem anz_115 (Hy : Hyz tys cA base adS Ex) : xall (fun b t => xOK l Dg clz tys cA flz ftz base adS GWz xyz xcz xnz xrz Ex codez bmz bpz b t) 3 224 512 codez_115 :=
  And.intro (anz_111 Hy) (anz_114 Hy)
theorem anz_116 (Hy : Hyz tys cA base adS Ex) : xall (fun b t => xOK l Dg clz tys cA flz ftz base adS GWz xyz xcz xnz xrz Ex codez bmz bpz b t) 1 480 2048 codez_116 :=
  And.intro (okz_480 Hy) (okz_2528 Hy)
theorem anz_117 (Hy : Hyz tys cA base adS Ex) : xall (fun b t => xOK l Dg clz tys cA flz ftz base adS GWz xyz xcz xnz xrz Ex codez bmz bpz b t) 1 1504 2048 codez_117 :=
  And.intro (okz_1504 Hy) (okzz 3552)
theorem anz_118 (Hy : Hyz tys cA base adS Ex) : xall (fun b t => xOK l Dg clz tys cA flz ftz base adS GWz xyz xcz xnz xrz Ex codez bmz bpz b t) 2 480 1024 codez_118 :=
  And.intro (anz_116 Hy) (anz_117 Hy)
theorem anz_119 (Hy : Hyz tys cA base adS Ex) : xall (fun b t => xOK l Dg clz tys cA flz ftz base adS GWz xyz xcz xnz xrz Ex codez bmz bpz b t) 1 992 2048 codez_119 :=
  And.intro (okz_992 Hy) (okzz 3040)
theorem anz_120 (Hy : Hyz tys cA base adS Ex) : xall (fun b t => xOK l Dg clz tys cA flz ftz base adS GWz xyz xcz xnz xrz Ex codez bmz bpz b t) 1 2016 2048 codez_120 :=
  And.intro (okz_2016 Hy) (okzz 4064)
theorem anz_121 (Hy : Hyz tys cA base adS Ex) : xall (fun b t => xOK l Dg clz tys cA flz ftz base adS GWz xyz xcz xnz xrz Ex codez bmz bpz b t) 2 992 1024 codez_121 :=
  And.intro (anz_119 Hy) (anz_120 Hy)
theorem anz_122 (Hy : Hyz tys cA base adS Ex) : xall (fun b t => xOK l Dg clz tys cA flz ftz base adS GWz xyz xcz xnz xrz Ex codez bmz bpz b t) 3 480 512 codez_122 :=
  And.intro (anz_118 Hy) (anz_121 Hy)
theorem anz_123 (Hy : Hyz tys cA base adS Ex) : xall (fun b t => xOK l Dg clz tys cA flz ftz base adS GWz xyz xcz xnz xrz Ex codez bmz bpz b t) 4 224 256 codez_123 :=
  And.intro (anz_115 Hy) (anz_122 Hy)
theorem anz_124 (Hy : Hyz tys cA base adS Ex) : xall (fun b t => xOK l Dg clz tys cA flz ftz base adS GWz xyz xcz xnz xrz Ex codez bmz bpz b t) 5 96 128 codez_124 :=
  And.intro (anz_108 Hy) (anz_123 Hy)
theorem anz_125 (Hy : Hyz tys cA base adS Ex) : xall (fun b t => xOK l Dg clz tys cA flz ftz base adS GWz xyz xcz xnz xrz Ex codez bmz bpz b t) 6 32 64 codez_125 :=
  And.intro (anz_93 Hy) (anz_124 Hy)
theorem anz_126 (Hy : Hyz tys cA base adS Ex) : xall (fun b t => xOK l Dg clz tys cA flz ftz base adS GWz xyz xcz xnz xrz Ex codez bmz bpz b t) 7 0 32 codez_126 :=
  And.intro (anz_62 Hy) (anz_125 Hy)
theorem anz_127 (Hy : Hyz tys cA base adS Ex) : xall (fun b t => xOK l Dg clz tys cA flz ftz base adS GWz xyz xcz xnz xrz Ex codez bmz bpz b t) 1 16 2048 codez_127 :=
  And.intro (okz_16 Hy) (okz_2064 Hy)
theorem anz_128 (Hy : Hyz tys cA base adS Ex) : xall (fun b t => xOK l Dg clz tys cA flz ftz base adS GWz xyz xcz xnz xrz Ex codez bmz bpz b t) 1 1040 2048 codez_128 :=
  And.intro (okz_1040 Hy) (okzz 3088)
theorem anz_129 (Hy : Hyz tys cA base adS Ex) : xall (fun b t => xOK l Dg clz tys cA flz ftz base adS GWz xyz xcz xnz xrz Ex codez bmz bpz b t) 2 16 1024 codez_129 :=
  And.intro (anz_127 Hy) (anz_128 Hy)
theorem anz_130 (Hy : Hyz tys cA base adS Ex) : xall (fun b t => xOK l Dg clz tys cA flz ftz base adS GWz xyz xcz xnz xrz Ex codez bmz bpz b t) 1 528 2048 codez_130 :=
  And.intro (okz_528 Hy) (okzz 2576)
theorem anz_131 (Hy : Hyz tys cA base adS Ex) : xall (fun b t => xOK l Dg clz tys cA flz ftz base adS GWz xyz xcz xnz xrz Ex codez bmz bpz b t) 1 1552 2048 codez_131 :=
  And.intro (okz_1552 Hy) (okzz 3600)
theorem anz_132 (Hy : Hyz tys cA base adS Ex) : xall (fun b t => xOK l Dg clz tys cA flz ftz base adS GWz xyz xcz xnz xrz Ex codez bmz bpz b t) 2 528 1024 codez_132 :=
  And.intro (anz_130 Hy) (anz_131 Hy)
theorem anz_133 (Hy : Hyz tys cA base adS Ex) : xall (fun b t => xOK l Dg clz tys cA flz ftz base adS GWz xyz xcz xnz xrz Ex codez bmz bpz b t) 3 16 512 codez_133 :=
  And.intro (anz_129 Hy) (anz_132 Hy)
theorem anz_134 (Hy : Hyz tys cA base adS Ex) : xall (fun b t => xOK l Dg clz tys cA flz ftz base adS GWz xyz xcz xnz xrz Ex codez bmz bpz b t) 1 272 2048 codez_134 :=
  And.intro (okz_272 Hy) (okz_2320 Hy)
theorem anz_135 (Hy : Hyz tys cA base adS Ex) : xall (fun b t => xOK l Dg clz tys cA flz ftz base adS GWz xyz xcz xnz xrz Ex codez bmz bpz b t) 1 1296 2048 codez_135 :=
  And.intro (okz_1296 Hy) (okzz 3344)
theorem anz_136 (Hy : Hyz tys cA base adS Ex) : xall (fun b t => xOK l Dg clz tys cA flz ftz base adS GWz xyz xcz xnz xrz Ex codez bmz bpz b t) 2 272 1024 codez_136 :=
  And.intro (anz_134 Hy) (anz_135 Hy)
theorem anz_137 (Hy : Hyz tys cA base adS Ex) : xall (fun b t => xOK l Dg clz tys cA flz ftz base adS GWz xyz xcz xnz xrz Ex codez bmz bpz b t) 1 784 2048 codez_137 :=
  And.intro (okz_784 Hy) (okzz 2832)
theorem anz_138 (Hy : Hyz tys cA base adS Ex) : xall (fun b t => xOK l Dg clz tys cA flz ftz base adS GWz xyz xcz xnz xrz Ex codez bmz bpz b t) 1 1808 2048 codez_138 :=
  And.intro (okz_1808 Hy) (okzz 3856)
theorem anz_139 (Hy : Hyz tys cA base adS Ex) : xall (fun b t => xOK l Dg clz tys cA flz ftz base adS GWz xyz xcz xnz xrz Ex codez bmz bpz b t) 2 784 1024 codez_139 :=
  And.intro (anz_137 Hy) (anz_138 Hy)
theorem anz_140 (Hy : Hyz tys cA base adS Ex) : xall (fun b t => xOK l Dg clz tys cA flz ftz base adS GWz xyz xcz xnz xrz Ex codez bmz bpz b t) 3 272 512 codez_140 :=
  And.intro (anz_136 Hy) (anz_139 Hy)
theorem anz_141 (Hy : Hyz tys cA base adS Ex) : xall (fun b t => xOK l Dg clz tys cA flz ftz base adS GWz xyz xcz xnz xrz Ex codez bmz bpz b t) 4 16 256 codez_141 :=
  And.intro (anz_133 Hy) (anz_140 Hy)
theorem anz_142 (Hy : Hyz tys cA base adS Ex) : xall (fun b t => xOK l Dg clz tys cA flz ftz base adS GWz xyz xcz xnz xrz Ex codez bmz bpz b t) 1 144 2048 codez_142 :=
  And.intro (okz_144 Hy) (okz_2192 Hy)
theorem anz_143 (Hy : Hyz tys cA base adS Ex) : xall (fun b t => xOK l Dg clz tys cA flz ftz base adS GWz xyz xcz xnz xrz Ex codez bmz bpz b t) 1 1168 2048 codez_143 :=
  And.intro (okz_1168 Hy) (okzz 3216)
theorem anz_144 (Hy : Hyz tys cA base adS Ex) : xall (fun b t => xOK l Dg clz tys cA flz ftz base adS GWz xyz xcz xnz xrz Ex codez bmz bpz b t) 2 144 1024 codez_144 :=
  And.intro (anz_142 Hy) (anz_143 Hy)
theorem anz_145 (Hy : Hyz tys cA base adS Ex) : xall (fun b t => xOK l Dg clz tys cA flz ftz base adS GWz xyz xcz xnz xrz Ex codez bmz bpz b t) 1 656 2048 codez_145 :=
  And.intro (okz_656 Hy) (okzz 2704)
theorem anz_146 (Hy : Hyz tys cA base adS Ex) : xall (fun b t => xOK l Dg clz tys cA flz ftz base adS GWz xyz xcz xnz xrz Ex codez bmz bpz b t) 1 1680 2048 codez_146 :=
  And.intro (okz_1680 Hy) (okzz 3728)
theorem anz_147 (Hy : Hyz tys cA base adS Ex) : xall (fun b t => xOK l Dg clz tys cA flz ftz base adS GWz xyz xcz xnz xrz Ex codez bmz bpz b t) 2 656 1024 codez_147 :=
  And.intro (anz_145 Hy) (anz_146 Hy)
theorem anz_148 (Hy : Hyz tys cA base adS Ex) : xall (fun b t => xOK l Dg clz tys cA flz ftz base adS GWz xyz xcz xnz xrz Ex codez bmz bpz b t) 3 144 512 codez_148 :=
  And.intro (anz_144 Hy) (anz_147 Hy)
theorem anz_149 (Hy : Hyz tys cA base adS Ex) : xall (fun b t => xOK l Dg clz tys cA flz ftz base adS GWz xyz xcz xnz xrz Ex codez bmz bpz b t) 1 400 2048 codez_149 :=
  And.intro (okz_400 Hy) (okz_2448 Hy)
theorem anz_150 (Hy : Hyz tys cA base adS Ex) : xall (fun b t => xOK l Dg clz tys cA flz ftz base adS GWz xyz xcz xnz xrz Ex codez bmz bpz b t) 1 1424 2048 codez_150 :=
  And.intro (okz_1424 Hy) (okzz 3472)
theorem anz_151 (Hy : Hyz tys cA base adS Ex) : xall (fun b t => xOK l Dg clz tys cA flz ftz base adS GWz xyz xcz xnz xrz Ex codez bmz bpz b t) 2 400 1024 codez_151 :=
  And.intro (anz_149 Hy) (anz_150 Hy)
theorem anz_152 (Hy : Hyz tys cA base adS Ex) : xall (fun b t => xOK l Dg clz tys cA flz ftz base adS GWz xyz xcz xnz xrz Ex codez bmz bpz b t) 1 912 2048 codez_152 :=
  And.intro (okz_912 Hy) (okzz 2960)
theorem anz_153 (Hy : Hyz tys cA base adS Ex) : xall (fun b t => xOK l Dg clz tys cA flz ftz base adS GWz xyz xcz xnz xrz Ex codez bmz bpz b t) 1 1936 2048 codez_153 :=
  And.intro (okz_1936 Hy) (okzz 3984)
theorem anz_154 (Hy : Hyz tys cA base adS Ex) : xall (fun b t => xOK l Dg clz tys cA flz ftz base adS GWz xyz xcz xnz xrz Ex codez bmz bpz b t) 2 912 1024 codez_154 :=
  And.intro (anz_152 Hy) (anz_153 Hy)
theorem anz_155 (Hy : Hyz tys cA base adS Ex) : xall (fun b t => xOK l Dg clz tys cA flz ftz base adS GWz xyz xcz xnz xrz Ex codez bmz bpz b t) 3 400 512 codez_155 :=
  And.intro (anz_151 Hy) (anz_154 Hy)
theorem anz_156 (Hy : Hyz tys cA base adS Ex) : xall (fun b t => xOK l Dg clz tys cA flz ftz base adS GWz xyz xcz xnz xrz Ex codez bmz bpz b t) 4 144 256 codez_156 :=
  And.intro (anz_148 Hy) (anz_155 Hy)
theorem anz_157 (Hy : Hyz tys cA base adS Ex) : xall (fun b t => xOK l Dg clz tys cA flz ftz base adS GWz xyz xcz xnz xrz Ex codez bmz bpz b t) 5 16 128 codez_157 :=
  And.intro (anz_141 Hy) (anz_156 Hy)
theorem anz_158 (Hy : Hyz tys cA base adS Ex) : xall (fun b t => xOK l Dg clz tys cA flz ftz base adS GWz xyz xcz xnz xrz Ex codez bmz bpz b t) 1 80 2048 codez_158 :=
  And.intro (okz_80 Hy) (okz_2128 Hy)
theorem anz_159 (Hy : Hyz tys cA base adS Ex) : xall (fun b t => xOK l Dg clz tys cA flz ftz base adS GWz xyz xcz xnz xrz Ex codez bmz bpz b t) 1 1104 2048 codez_159 :=
  And.intro (okz_1104 Hy) (okzz 3152)
theorem anz_160 (Hy : Hyz tys cA base adS Ex) : xall (fun b t => xOK l Dg clz tys cA flz ftz base adS GWz xyz xcz xnz xrz Ex codez bmz bpz b t) 2 80 1024 codez_160 :=
  And.intro (anz_158 Hy) (anz_159 Hy)
theorem anz_161 (Hy : Hyz tys cA base adS Ex) : xall (fun b t => xOK l Dg clz tys cA flz ftz base adS GWz xyz xcz xnz xrz Ex codez bmz bpz b t) 1 592 2048 codez_161 :=
  And.intro (okz_592 Hy) (okzz 2640)
theorem anz_162 (Hy : Hyz tys cA base adS Ex) : xall (fun b t => xOK l Dg clz tys cA flz ftz base adS GWz xyz xcz xnz xrz Ex codez bmz bpz b t) 1 1616 2048 codez_162 :=
  And.intro (okz_1616 Hy) (okzz 3664)
theorem anz_163 (Hy : Hyz tys cA base adS Ex) : xall (fun b t => xOK l Dg clz tys cA flz ftz base adS GWz xyz xcz xnz xrz Ex codez bmz bpz b t) 2 592 1024 codez_163 :=
  And.intro (anz_161 Hy) (anz_162 Hy)
theorem anz_164 (Hy : Hyz tys cA base adS Ex) : xall (fun b t => xOK l Dg clz tys cA flz ftz base adS GWz xyz xcz xnz xrz Ex codez bmz bpz b t) 3 80 512 codez_164 :=
  And.intro (anz_160 Hy) (anz_163 Hy)
theorem anz_165 (Hy : Hyz tys cA base adS Ex) : xall (fun b t => xOK l Dg clz tys cA flz ftz base adS GWz xyz xcz xnz xrz Ex codez bmz bpz b t) 1 336 2048 codez_165 :=
  And.intro (okz_336 Hy) (okz_2384 Hy)
theorem anz_166 (Hy : Hyz tys cA base adS Ex) : xall (fun b t => xOK l Dg clz tys cA flz ftz base adS GWz xyz xcz xnz xrz Ex codez bmz bpz b t) 1 1360 2048 codez_166 :=
  And.intro (okz_1360 Hy) (okzz 3408)
theorem anz_167 (Hy : Hyz tys cA base adS Ex) : xall (fun b t => xOK l Dg clz tys cA flz ftz base adS GWz xyz xcz xnz xrz Ex codez bmz bpz b t) 2 336 1024 codez_167 :=
  And.intro (anz_165 Hy) (anz_166 Hy)
theorem anz_168 (Hy : Hyz tys cA base adS Ex) : xall (fun b t => xOK l Dg clz tys cA flz ftz base adS GWz xyz xcz xnz xrz Ex codez bmz bpz b t) 1 848 2048 codez_168 :=
  And.intro (okz_848 Hy) (okzz 2896)
theorem anz_169 (Hy : Hyz tys cA base adS Ex) : xall (fun b t => xOK l Dg clz tys cA flz ftz base adS GWz xyz xcz xnz xrz Ex codez bmz bpz b t) 1 1872 2048 codez_169 :=
  And.intro (okz_1872 Hy) (okzz 3920)
theorem anz_170 (Hy : Hyz tys cA base adS Ex) : xall (fun b t => xOK l Dg clz tys cA flz ftz base adS GWz xyz xcz xnz xrz Ex codez bmz bpz b t) 2 848 1024 codez_170 :=
  And.intro (anz_168 Hy) (anz_169 Hy)
theorem anz_171 (Hy : Hyz tys cA base adS Ex) : xall (fun b t => xOK l Dg clz tys cA flz ftz base adS GWz xyz xcz xnz xrz Ex codez bmz bpz b t) 3 336 512 codez_171 :=
  And.intro (anz_167 Hy) (anz_170 Hy)
theorem anz_172 (Hy : Hyz tys cA base adS Ex) : xall (fun b t => xOK l Dg clz tys cA flz ftz base adS GWz xyz xcz xnz xrz Ex codez bmz bpz b t) 4 80 256 codez_172 :=
  And.intro (anz_164 Hy) (anz_171 Hy)
theorem anz_173 (Hy : Hyz tys cA base adS Ex) : xall (fun b t => xOK l Dg clz tys cA flz ftz base adS GWz xyz xcz xnz xrz Ex codez bmz bpz b t) 1 208 2048 codez_173 :=
  And.intro (okz_208 Hy) (okz_2256 Hy)
theorem anz_174 (Hy : Hyz tys cA base adS Ex) : xall (fun b t => xOK l Dg clz tys cA flz ftz base adS GWz xyz xcz xnz xrz Ex codez bmz bpz b t) 1 1232 2048 codez_174 :=
  And.intro (okz_1232 Hy) (okzz 3280)
theorem anz_175 (Hy : Hyz tys cA base adS Ex) : xall (fun b t => xOK l Dg clz tys cA flz ftz base adS GWz xyz xcz xnz xrz Ex codez bmz bpz b t) 2 208 1024 codez_175 :=
  And.intro (anz_173 Hy) (anz_174 Hy)
theorem anz_176 (Hy : Hyz tys cA base adS Ex) : xall (fun b t => xOK l Dg clz tys cA flz ftz base adS GWz xyz xcz xnz xrz Ex codez bmz bpz b t) 1 720 2048 codez_176 :=
  And.intro (okz_720 Hy) (okzz 2768)
theorem anz_177 (Hy : Hyz tys cA base adS Ex) : xall (fun b t => xOK l Dg clz tys cA flz ftz base adS GWz xyz xcz xnz xrz Ex codez bmz bpz b t) 1 1744 2048 codez_177 :=
  And.intro (okz_1744 Hy) (okzz 3792)
theorem anz_178 (Hy : Hyz tys cA base adS Ex) : xall (fun b t => xOK l Dg clz tys cA flz ftz base adS GWz xyz xcz xnz xrz Ex codez bmz bpz b t) 2 720 1024 codez_178 :=
  And.intro (anz_176 Hy) (anz_177 Hy)
theorem anz_179 (Hy : Hyz tys cA base adS Ex) : xall (fun b t => xOK l Dg clz tys cA flz ftz base adS GWz xyz xcz xnz xrz Ex codez bmz bpz b t) 3 208 512 codez_179 :=
  And.intro (anz_175 Hy) (anz_178 Hy)
theorem anz_180 (Hy : Hyz tys cA base adS Ex) : xall (fun b t => xOK l Dg clz tys cA flz ftz base adS GWz xyz xcz xnz xrz Ex codez bmz bpz b t) 1 464 2048 codez_180 :=
  And.intro (okz_464 Hy) (okz_2512 Hy)
theorem anz_181 (Hy : Hyz tys cA base adS Ex) : xall (fun b t => xOK l Dg clz tys cA flz ftz base adS GWz xyz xcz xnz xrz Ex codez bmz bpz b t) 1 1488 2048 codez_181 :=
  And.intro (okz_1488 Hy) (okzz 3536)
theorem anz_182 (Hy : Hyz tys cA base adS Ex) : xall (fun b t => xOK l Dg clz tys cA flz ftz base adS GWz xyz xcz xnz xrz Ex codez bmz bpz b t) 2 464 1024 codez_182 :=
  And.intro (anz_180 Hy) (anz_181 Hy)
theorem anz_183 (Hy : Hyz tys cA base adS Ex) : xall (fun b t => xOK l Dg clz tys cA flz ftz base adS GWz xyz xcz xnz xrz Ex codez bmz bpz b t) 1 976 2048 codez_183 :=
  And.intro (okz_976 Hy) (okzz 3024)
theorem anz_184 (Hy : Hyz tys cA base adS Ex) : xall (fun b t => xOK l Dg clz tys cA flz ftz base adS GWz xyz xcz xnz xrz Ex codez bmz bpz b t) 1 2000 2048 codez_184 :=
  And.intro (okz_2000 Hy) (okzz 4048)
theorem anz_185 (Hy : Hyz tys cA base adS Ex) : xall (fun b t => xOK l Dg clz tys cA flz ftz base adS GWz xyz xcz xnz xrz Ex codez bmz bpz b t) 2 976 1024 codez_185 :=
  And.intro (anz_183 Hy) (anz_184 Hy)
theorem anz_186 (Hy : Hyz tys cA base adS Ex) : xall (fun b t => xOK l Dg clz tys cA flz ftz base adS GWz xyz xcz xnz xrz Ex codez bmz bpz b t) 3 464 512 codez_186 :=
  And.intro (anz_182 Hy) (anz_185 Hy)
theorem anz_187 (Hy : Hyz tys cA base adS Ex) : xall (fun b t => xOK l Dg clz tys cA flz ftz base adS GWz xyz xcz xnz xrz Ex codez bmz bpz b t) 4 208 256 codez_187 :=
  And.intro (anz_179 Hy) (anz_186 Hy)
theorem anz_188 (Hy : Hyz tys cA base adS Ex) : xall (fun b t => xOK l Dg clz tys cA flz ftz base adS GWz xyz xcz xnz xrz Ex codez bmz bpz b t) 5 80 128 codez_188 :=
  And.intro (anz_172 Hy) (anz_187 Hy)
theorem anz_189 (Hy : Hyz tys cA base adS Ex) : xall (fun b t => xOK l Dg clz tys cA flz ftz base adS GWz xyz xcz xnz xrz Ex codez bmz bpz b t) 6 16 64 codez_189 :=
  And.intro (anz_157 Hy) (anz_188 Hy)
theorem anz_190 (Hy : Hyz tys cA base adS Ex) : xall (fun b t => xOK l Dg clz tys cA flz ftz base adS GWz xyz xcz xnz xrz Ex codez bmz bpz b t) 1 48 2048 codez_190 :=
  And.intro (okz_48 Hy) (okz_2096 Hy)
theorem anz_191 (Hy : Hyz tys cA base adS Ex) : xall (fun b t => xOK l Dg clz tys cA flz ftz base adS GWz xyz xcz xnz xrz Ex codez bmz bpz b t) 1 1072 2048 codez_191 :=
  And.intro (okz_1072 Hy) (okzz 3120)
theorem anz_192 (Hy : Hyz tys cA base adS Ex) : xall (fun b t => xOK l Dg clz tys cA flz ftz base adS GWz xyz xcz xnz xrz Ex codez bmz bpz b t) 2 48 1024 codez_192 :=
  And.intro (anz_190 Hy) (anz_191 Hy)
theorem anz_193 (Hy : Hyz tys cA base adS Ex) : xall (fun b t => xOK l Dg clz tys cA flz ftz base adS GWz xyz xcz xnz xrz Ex codez bmz bpz b t) 1 560 2048 codez_193 :=
  And.intro (okz_560 Hy) (okzz 2608)
theorem anz_194 (Hy : Hyz tys cA base adS Ex) : xall (fun b t => xOK l Dg clz tys cA flz ftz base adS GWz xyz xcz xnz xrz Ex codez bmz bpz b t) 1 1584 2048 codez_194 :=
  And.intro (okz_1584 Hy) (okzz 3632)
theorem anz_195 (Hy : Hyz tys cA base adS Ex) : xall (fun b t => xOK l Dg clz tys cA flz ftz base adS GWz xyz xcz xnz xrz Ex codez bmz bpz b t) 2 560 1024 codez_195 :=
  And.intro (anz_193 Hy) (anz_194 Hy)
theorem anz_196 (Hy : Hyz tys cA base adS Ex) : xall (fun b t => xOK l Dg clz tys cA flz ftz base adS GWz xyz xcz xnz xrz Ex codez bmz bpz b t) 3 48 512 codez_196 :=
  And.intro (anz_192 Hy) (anz_195 Hy)
theorem anz_197 (Hy : Hyz tys cA base adS Ex) : xall (fun b t => xOK l Dg clz tys cA flz ftz base adS GWz xyz xcz xnz xrz Ex codez bmz bpz b t) 1 304 2048 codez_197 :=
  And.intro (okz_304 Hy) (okz_2352 Hy)
theorem anz_198 (Hy : Hyz tys cA base adS Ex) : xall (fun b t => xOK l Dg clz tys cA flz ftz base adS GWz xyz xcz xnz xrz Ex codez bmz bpz b t) 1 1328 2048 codez_198 :=
  And.intro (okz_1328 Hy) (okzz 3376)
theorem anz_199 (Hy : Hyz tys cA base adS Ex) : xall (fun b t => xOK l Dg clz tys cA flz ftz base adS GWz xyz xcz xnz xrz Ex codez bmz bpz b t) 2 304 1024 codez_199 :=
  And.intro (anz_197 Hy) (anz_198 Hy)
theorem anz_200 (Hy : Hyz tys cA base adS Ex) : xall (fun b t => xOK l Dg clz tys cA flz ftz base adS GWz xyz xcz xnz xrz Ex codez bmz bpz b t) 1 816 2048 codez_200 :=
  And.intro (okz_816 Hy) (okzz 2864)
theorem anz_201 (Hy : Hyz tys cA base adS Ex) : xall (fun b t => xOK l Dg clz tys cA flz ftz base adS GWz xyz xcz xnz xrz Ex codez bmz bpz b t) 1 1840 2048 codez_201 :=
  And.intro (okz_1840 Hy) (okzz 3888)
theorem anz_202 (Hy : Hyz tys cA base adS Ex) : xall (fun b t => xOK l Dg clz tys cA flz ftz base adS GWz xyz xcz xnz xrz Ex codez bmz bpz b t) 2 816 1024 codez_202 :=
  And.intro (anz_200 Hy) (anz_201 Hy)
theorem anz_203 (Hy : Hyz tys cA base adS Ex) : xall (fun b t => xOK l Dg clz tys cA flz ftz base adS GWz xyz xcz xnz xrz Ex codez bmz bpz b t) 3 304 512 codez_203 :=
  And.intro (anz_199 Hy) (anz_202 Hy)
theorem anz_204 (Hy : Hyz tys cA base adS Ex) : xall (fun b t => xOK l Dg clz tys cA flz ftz base adS GWz xyz xcz xnz xrz Ex codez bmz bpz b t) 4 48 256 codez_204 :=
  And.intro (anz_196 Hy) (anz_203 Hy)
theorem anz_205 (Hy : Hyz tys cA base adS Ex) : xall (fun b t => xOK l Dg clz tys cA flz ftz base adS GWz xyz xcz xnz xrz Ex codez bmz bpz b t) 1 176 2048 codez_205 :=
  And.intro (okz_176 Hy) (okz_2224 Hy)
theorem anz_206 (Hy : Hyz tys cA base adS Ex) : xall (fun b t => xOK l Dg clz tys cA flz ftz base adS GWz xyz xcz xnz xrz Ex codez bmz bpz b t) 1 1200 2048 codez_206 :=
  And.intro (okz_1200 Hy) (okzz 3248)
theorem anz_207 (Hy : Hyz tys cA base adS Ex) : xall (fun b t => xOK l Dg clz tys cA flz ftz base adS GWz xyz xcz xnz xrz Ex codez bmz bpz b t) 2 176 1024 codez_207 :=
  And.intro (anz_205 Hy) (anz_206 Hy)
theorem anz_208 (Hy : Hyz tys cA base adS Ex) : xall (fun b t => xOK l Dg clz tys cA flz ftz base adS GWz xyz xcz xnz xrz Ex codez bmz bpz b t) 1 688 2048 codez_208 :=
  And.intro (okz_688 Hy) (okzz 2736)
theorem anz_209 (Hy : Hyz tys cA base adS Ex) : xall (fun b t => xOK l Dg clz tys cA flz ftz base adS GWz xyz xcz xnz xrz Ex codez bmz bpz b t) 1 1712 2048 codez_209 :=
  And.intro (okz_1712 Hy) (okzz 3760)
theorem anz_210 (Hy : Hyz tys cA base adS Ex) : xall (fun b t => xOK l Dg clz tys cA flz ftz base adS GWz xyz xcz xnz xrz Ex codez bmz bpz b t) 2 688 1024 codez_210 :=
  And.intro (anz_208 Hy) (anz_209 Hy)
theorem anz_211 (Hy : Hyz tys cA base adS Ex) : xall (fun b t => xOK l Dg clz tys cA flz ftz base adS GWz xyz xcz xnz xrz Ex codez bmz bpz b t) 3 176 512 codez_211 :=
  And.intro (anz_207 Hy) (anz_210 Hy)
theorem anz_212 (Hy : Hyz tys cA base adS Ex) : xall (fun b t => xOK l Dg clz tys cA flz ftz base adS GWz xyz xcz xnz xrz Ex codez bmz bpz b t) 1 432 2048 codez_212 :=
  And.intro (okz_432 Hy) (okz_2480 Hy)
theorem anz_213 (Hy : Hyz tys cA base adS Ex) : xall (fun b t => xOK l Dg clz tys cA flz ftz base adS GWz xyz xcz xnz xrz Ex codez bmz bpz b t) 1 1456 2048 codez_213 :=
  And.intro (okz_1456 Hy) (okzz 3504)
theorem anz_214 (Hy : Hyz tys cA base adS Ex) : xall (fun b t => xOK l Dg clz tys cA flz ftz base adS GWz xyz xcz xnz xrz Ex codez bmz bpz b t) 2 432 1024 codez_214 :=
  And.intro (anz_212 Hy) (anz_213 Hy)
theorem anz_215 (Hy : Hyz tys cA base adS Ex) : xall (fun b t => xOK l Dg clz tys cA flz ftz base adS GWz xyz xcz xnz xrz Ex codez bmz bpz b t) 1 944 2048 codez_215 :=
  And.intro (okz_944 Hy) (okzz 2992)
theorem anz_216 (Hy : Hyz tys cA base adS Ex) : xall (fun b t => xOK l Dg clz tys cA flz ftz base adS GWz xyz xcz xnz xrz Ex codez bmz bpz b t) 1 1968 2048 codez_216 :=
  And.intro (okz_1968 Hy) (okzz 4016)
theorem anz_217 (Hy : Hyz tys cA base adS Ex) : xall (fun b t => xOK l Dg clz tys cA flz ftz base adS GWz xyz xcz xnz xrz Ex codez bmz bpz b t) 2 944 1024 codez_217 :=
  And.intro (anz_215 Hy) (anz_216 Hy)
theorem anz_218 (Hy : Hyz tys cA base adS Ex) : xall (fun b t => xOK l Dg clz tys cA flz ftz base adS GWz xyz xcz xnz xrz Ex codez bmz bpz b t) 3 432 512 codez_218 :=
  And.intro (anz_214 Hy) (anz_217 Hy)
theorem anz_219 (Hy : Hyz tys cA base adS Ex) : xall (fun b t => xOK l Dg clz tys cA flz ftz base adS GWz xyz xcz xnz xrz Ex codez bmz bpz b t) 4 176 256 codez_219 :=
  And.intro (anz_211 Hy) (anz_218 Hy)
theorem anz_220 (Hy : Hyz tys cA base adS Ex) : xall (fun b t => xOK l Dg clz tys cA flz ftz base adS GWz xyz xcz xnz xrz Ex codez bmz bpz b t) 5 48 128 codez_220 :=
  And.intro (anz_204 Hy) (anz_219 Hy)
theorem anz_221 (Hy : Hyz tys cA base adS Ex) : xall (fun b t => xOK l Dg clz tys cA flz ftz base adS GWz xyz xcz xnz xrz Ex codez bmz bpz b t) 1 112 2048 codez_221 :=
  And.intro (okz_112 Hy) (okz_2160 Hy)
theorem anz_222 (Hy : Hyz tys cA base adS Ex) : xall (fun b t => xOK l Dg clz tys cA flz ftz base adS GWz xyz xcz xnz xrz Ex codez bmz bpz b t) 1 1136 2048 codez_222 :=
  And.intro (okz_1136 Hy) (okzz 3184)
theorem anz_223 (Hy : Hyz tys cA base adS Ex) : xall (fun b t => xOK l Dg clz tys cA flz ftz base adS GWz xyz xcz xnz xrz Ex codez bmz bpz b t) 2 112 1024 codez_223 :=
  And.intro (anz_221 Hy) (anz_222 Hy)
theorem anz_224 (Hy : Hyz tys cA base adS Ex) : xall (fun b t => xOK l Dg clz tys cA flz ftz base adS GWz xyz xcz xnz xrz Ex codez bmz bpz b t) 1 624 2048 codez_224 :=
  And.intro (okz_624 Hy) (okzz 2672)
theorem anz_225 (Hy : Hyz tys cA base adS Ex) : xall (fun b t => xOK l Dg clz tys cA flz ftz base adS GWz xyz xcz xnz xrz Ex codez bmz bpz b t) 1 1648 2048 codez_225 :=
  And.intro (okz_1648 Hy) (okzz 3696)
theorem anz_226 (Hy : Hyz tys cA base adS Ex) : xall (fun b t => xOK l Dg clz tys cA flz ftz base adS GWz xyz xcz xnz xrz Ex codez bmz bpz b t) 2 624 1024 codez_226 :=
  And.intro (anz_224 Hy) (anz_225 Hy)
theorem anz_227 (Hy : Hyz tys cA base adS Ex) : xall (fun b t => xOK l Dg clz tys cA flz ftz base adS GWz xyz xcz xnz xrz Ex codez bmz bpz b t) 3 112 512 codez_227 :=
  And.intro (anz_223 Hy) (anz_226 Hy)
theorem anz_228 (Hy : Hyz tys cA base adS Ex) : xall (fun b t => xOK l Dg clz tys cA flz ftz base adS GWz xyz xcz xnz xrz Ex codez bmz bpz b t) 1 368 2048 codez_228 :=
  And.intro (okz_368 Hy) (okz_2416 Hy)
theorem anz_229 (Hy : Hyz tys cA base adS Ex) : xall (fun b t => xOK l Dg clz tys cA flz ftz base adS GWz xyz xcz xnz xrz Ex codez bmz bpz b t) 1 1392 2048 codez_229 :=
  And.intro (okz_1392 Hy) (okzz 3440)
theorem anz_230 (Hy : Hyz tys cA base adS Ex) : xall (fun b t => xOK l Dg clz tys cA flz ftz base adS GWz xyz xcz xnz xrz Ex codez bmz bpz b t) 2 368 1024 codez_230 :=
  And.intro (anz_228 Hy) (anz_229 Hy)
theorem anz_231 (Hy : Hyz tys cA base adS Ex) : xall (fun b t => xOK l Dg clz tys cA flz ftz base adS GWz xyz xcz xnz xrz Ex codez bmz bpz b t) 1 880 2048 codez_231 :=
  And.intro (okz_880 Hy) (okzz 2928)
theorem anz_232 (Hy : Hyz tys cA base adS Ex) : xall (fun b t => xOK l Dg clz tys cA flz ftz base adS GWz xyz xcz xnz xrz Ex codez bmz bpz b t) 1 1904 2048 codez_232 :=
  And.intro (okz_1904 Hy) (okzz 3952)
theorem anz_233 (Hy : Hyz tys cA base adS Ex) : xall (fun b t => xOK l Dg clz tys cA flz ftz base adS GWz xyz xcz xnz xrz Ex codez bmz bpz b t) 2 880 1024 codez_233 :=
  And.intro (anz_231 Hy) (anz_232 Hy)
theorem anz_234 (Hy : Hyz tys cA base adS Ex) : xall (fun b t => xOK l Dg clz tys cA flz ftz base adS GWz xyz xcz xnz xrz Ex codez bmz bpz b t) 3 368 512 codez_234 :=
  And.intro (anz_230 Hy) (anz_233 Hy)
theorem anz_235 (Hy : Hyz tys cA base adS Ex) : xall (fun b t => xOK l Dg clz tys cA flz ftz base adS GWz xyz xcz xnz xrz Ex codez bmz bpz b t) 4 112 256 codez_235 :=
  And.intro (anz_227 Hy) (anz_234 Hy)
theorem anz_236 (Hy : Hyz tys cA base adS Ex) : xall (fun b t => xOK l Dg clz tys cA flz ftz base adS GWz xyz xcz xnz xrz Ex codez bmz bpz b t) 1 240 2048 codez_236 :=
  And.intro (okz_240 Hy) (okz_2288 Hy)
theorem anz_237 (Hy : Hyz tys cA base adS Ex) : xall (fun b t => xOK l Dg clz tys cA flz ftz base adS GWz xyz xcz xnz xrz Ex codez bmz bpz b t) 1 1264 2048 codez_237 :=
  And.intro (okz_1264 Hy) (okzz 3312)
theorem anz_238 (Hy : Hyz tys cA base adS Ex) : xall (fun b t => xOK l Dg clz tys cA flz ftz base adS GWz xyz xcz xnz xrz Ex codez bmz bpz b t) 2 240 1024 codez_238 :=
  And.intro (anz_236 Hy) (anz_237 Hy)
theorem anz_239 (Hy : Hyz tys cA base adS Ex) : xall (fun b t => xOK l Dg clz tys cA flz ftz base adS GWz xyz xcz xnz xrz Ex codez bmz bpz b t) 1 752 2048 codez_239 :=
  And.intro (okz_752 Hy) (okzz 2800)
theorem anz_240 (Hy : Hyz tys cA base adS Ex) : xall (fun b t => xOK l Dg clz tys cA flz ftz base adS GWz xyz xcz xnz xrz Ex codez bmz bpz b t) 1 1776 2048 codez_240 :=
  And.intro (okz_1776 Hy) (okzz 3824)
theorem anz_241 (Hy : Hyz tys cA base adS Ex) : xall (fun b t => xOK l Dg clz tys cA flz ftz base adS GWz xyz xcz xnz xrz Ex codez bmz bpz b t) 2 752 1024 codez_241 :=
  And.intro (anz_239 Hy) (anz_240 Hy)
theorem anz_242 (Hy : Hyz tys cA base adS Ex) : xall (fun b t => xOK l Dg clz tys cA flz ftz base adS GWz xyz xcz xnz xrz Ex codez bmz bpz b t) 3 240 512 codez_242 :=
  And.intro (anz_238 Hy) (anz_241 Hy)
theorem anz_243 (Hy : Hyz tys cA base adS Ex) : xall (fun b t => xOK l Dg clz tys cA flz ftz base adS GWz xyz xcz xnz xrz Ex codez bmz bpz b t) 1 496 2048 codez_243 :=
  And.intro (okz_496 Hy) (okzz 2544)
theorem anz_244 (Hy : Hyz tys cA base adS Ex) : xall (fun b t => xOK l Dg clz tys cA flz ftz base adS GWz xyz xcz xnz xrz Ex codez bmz bpz b t) 1 1520 2048 codez_244 :=
  And.intro (okz_1520 Hy) (okzz 3568)
theorem anz_245 (Hy : Hyz tys cA base adS Ex) : xall (fun b t => xOK l Dg clz tys cA flz ftz base adS GWz xyz xcz xnz xrz Ex codez bmz bpz b t) 2 496 1024 codez_245 :=
  And.intro (anz_243 Hy) (anz_244 Hy)
theorem anz_246 (Hy : Hyz tys cA base adS Ex) : xall (fun b t => xOK l Dg clz tys cA flz ftz base adS GWz xyz xcz xnz xrz Ex codez bmz bpz b t) 1 1008 2048 codez_246 :=
  And.intro (okz_1008 Hy) (okzz 3056)
theorem anz_247 (Hy : Hyz tys cA base adS Ex) : xall (fun b t => xOK l Dg clz tys cA flz ftz base adS GWz xyz xcz xnz xrz Ex codez bmz bpz b t) 1 2032 2048 codez_247 :=
  And.intro (okz_2032 Hy) (okzz 4080)
theorem anz_248 (Hy : Hyz tys cA base adS Ex) : xall (fun b t => xOK l Dg clz tys cA flz ftz base adS GWz xyz xcz xnz xrz Ex codez bmz bpz b t) 2 1008 1024 codez_248 :=
  And.intro (anz_246 Hy) (anz_247 Hy)
theorem anz_249 (Hy : Hyz tys cA base adS Ex) : xall (fun b t => xOK l Dg clz tys cA flz ftz base adS GWz xyz xcz xnz xrz Ex codez bmz bpz b t) 3 496 512 codez_249 :=
  And.intro (anz_245 Hy) (anz_248 Hy)
theorem anz_250 (Hy : Hyz tys cA base adS Ex) : xall (fun b t => xOK l Dg clz tys cA flz ftz base adS GWz xyz xcz xnz xrz Ex codez bmz bpz b t) 4 240 256 codez_250 :=
  And.intro (anz_242 Hy) (anz_249 Hy)
theorem anz_251 (Hy : Hyz tys cA base adS Ex) : xall (fun b t => xOK l Dg clz tys cA flz ftz base adS GWz xyz xcz xnz xrz Ex codez bmz bpz b t) 5 112 128 codez_251 :=
  And.intro (anz_235 Hy) (anz_250 Hy)
theorem anz_252 (Hy : Hyz tys cA base adS Ex) : xall (fun b t => xOK l Dg clz tys cA flz ftz base adS GWz xyz xcz xnz xrz Ex codez bmz bpz b t) 6 48 64 codez_252 :=
  And.intro (anz_220 Hy) (anz_251 Hy)
theorem anz_253 (Hy : Hyz tys cA base adS Ex) : xall (fun b t => xOK l Dg clz tys cA flz ftz base adS GWz xyz xcz xnz xrz Ex codez bmz bpz b t) 7 16 32 codez_253 :=
  And.intro (anz_189 Hy) (anz_252 Hy)
theorem anz_254 (Hy : Hyz tys cA base adS Ex) : xall (fun b t => xOK l Dg clz tys cA flz ftz base adS GWz xyz xcz xnz xrz Ex codez bmz bpz b t) 8 0 16 codez_254 :=
  And.intro (anz_126 Hy) (anz_253 Hy)
theorem anz_255 (Hy : Hyz tys cA base adS Ex) : xall (fun b t => xOK l Dg clz tys cA flz ftz base adS GWz xyz xcz xnz xrz Ex codez bmz bpz b t) 1 8 2048 codez_255 :=
  And.intro (okz_8 Hy) (okz_2056 Hy)
theorem anz_256 (Hy : Hyz tys cA base adS Ex) : xall (fun b t => xOK l Dg clz tys cA flz ftz base adS GWz xyz xcz xnz xrz Ex codez bmz bpz b t) 1 1032 2048 codez_256 :=
  And.intro (okz_1032 Hy) (okzz 3080)
theorem anz_257 (Hy : Hyz tys cA base adS Ex) : xall (fun b t => xOK l Dg clz tys cA flz ftz base adS GWz xyz xcz xnz xrz Ex codez bmz bpz b t) 2 8 1024 codez_257 :=
  And.intro (anz_255 Hy) (anz_256 Hy)
theorem anz_258 (Hy : Hyz tys cA base adS Ex) : xall (fun b t => xOK l Dg clz tys cA flz ftz base adS GWz xyz xcz xnz xrz Ex codez bmz bpz b t) 1 520 2048 codez_258 :=
  And.intro (okz_520 Hy) (okzz 2568)
theorem anz_259 (Hy : Hyz tys cA base adS Ex) : xall (fun b t => xOK l Dg clz tys cA flz ftz base adS GWz xyz xcz xnz xrz Ex codez bmz bpz b t) 1 1544 2048 codez_259 :=
  And.intro (okz_1544 Hy) (okzz 3592)
theorem anz_260 (Hy : Hyz tys cA base adS Ex) : xall (fun b t => xOK l Dg clz tys cA flz ftz base adS GWz xyz xcz xnz xrz Ex codez bmz bpz b t) 2 520 1024 codez_260 :=
  And.intro (anz_258 Hy) (anz_259 Hy)
theorem anz_261 (Hy : Hyz tys cA base adS Ex) : xall (fun b t => xOK l Dg clz tys cA flz ftz base adS GWz xyz xcz xnz xrz Ex codez bmz bpz b t) 3 8 512 codez_261 :=
  And.intro (anz_257 Hy) (anz_260 Hy)
theorem anz_262 (Hy : Hyz tys cA base adS Ex) : xall (fun b t => xOK l Dg clz tys cA flz ftz base adS GWz xyz xcz xnz xrz Ex codez bmz bpz b t) 1 264 2048 codez_262 :=
  And.intro (okz_264 Hy) (okz_2312 Hy)
theorem anz_263 (Hy : Hyz tys cA base adS Ex) : xall (fun b t => xOK l Dg clz tys cA flz ftz base adS GWz xyz xcz xnz xrz Ex codez bmz bpz b t) 1 1288 2048 codez_263 :=
  And.intro (okz_1288 Hy) (okzz 3336)
theorem anz_264 (Hy : Hyz tys cA base adS Ex) : xall (fun b t => xOK l Dg clz tys cA flz ftz base adS GWz xyz xcz xnz xrz Ex codez bmz bpz b t) 2 264 1024 codez_264 :=
  And.intro (anz_262 Hy) (anz_263 Hy)
theorem anz_265 (Hy : Hyz tys cA base adS Ex) : xall (fun b t => xOK l Dg clz tys cA flz ftz base adS GWz xyz xcz xnz xrz Ex codez bmz bpz b t) 1 776 2048 codez_265 :=
  And.intro (okz_776 Hy) (okzz 2824)
theorem anz_266 (Hy : Hyz tys cA base adS Ex) : xall (fun b t => xOK l Dg clz tys cA flz ftz base adS GWz xyz xcz xnz xrz Ex codez bmz bpz b t) 1 1800 2048 codez_266 :=
  And.intro (okz_1800 Hy) (okzz 3848)
theorem anz_267 (Hy : Hyz tys cA base adS Ex) : xall (fun b t => xOK l Dg clz tys cA flz ftz base adS GWz xyz xcz xnz xrz Ex codez bmz bpz b t) 2 776 1024 codez_267 :=
  And.intro (anz_265 Hy) (anz_266 Hy)
theorem anz_268 (Hy : Hyz tys cA base adS Ex) : xall (fun b t => xOK l Dg clz tys cA flz ftz base adS GWz xyz xcz xnz xrz Ex codez bmz bpz b t) 3 264 512 codez_268 :=
  And.intro (anz_264 Hy) (anz_267 Hy)
theorem anz_269 (Hy : Hyz tys cA base adS Ex) : xall (fun b t => xOK l Dg clz tys cA flz ftz base adS GWz xyz xcz xnz xrz Ex codez bmz bpz b t) 4 8 256 codez_269 :=
  And.intro (anz_261 Hy) (anz_268 Hy)
theorem anz_270 (Hy : Hyz tys cA base adS Ex) : xall (fun b t => xOK l Dg clz tys cA flz ftz base adS GWz xyz xcz xnz xrz Ex codez bmz bpz b t) 1 136 2048 codez_270 :=
  And.intro (okz_136 Hy) (okz_2184 Hy)
theorem anz_271 (Hy : Hyz tys cA base adS Ex) : xall (fun b t => xOK l Dg clz tys cA flz ftz base adS GWz xyz xcz xnz xrz Ex codez bmz bpz b t) 1 1160 2048 codez_271 :=
  And.intro (okz_1160 Hy) (okzz 3208)
theorem anz_272 (Hy : Hyz tys cA base adS Ex) : xall (fun b t => xOK l Dg clz tys cA flz ftz base adS GWz xyz xcz xnz xrz Ex codez bmz bpz b t) 2 136 1024 codez_272 :=
  And.intro (anz_270 Hy) (anz_271 Hy)
theorem anz_273 (Hy : Hyz tys cA base adS Ex) : xall (fun b t => xOK l Dg clz tys cA flz ftz base adS GWz xyz xcz xnz xrz Ex codez bmz bpz b t) 1 648 2048 codez_273 :=
  And.intro (okz_648 Hy) (okzz 2696)
theorem anz_274 (Hy : Hyz tys cA base adS Ex) : xall (fun b t => xOK l Dg clz tys cA flz ftz base adS GWz xyz xcz xnz xrz Ex codez bmz bpz b t) 1 1672 2048 codez_274 :=
  And.intro (okz_1672 Hy) (okzz 3720)
theorem anz_275 (Hy : Hyz tys cA base adS Ex) : xall (fun b t => xOK l Dg clz tys cA flz ftz base adS GWz xyz xcz xnz xrz Ex codez bmz bpz b t) 2 648 1024 codez_275 :=
  And.intro (anz_273 Hy) (anz_274 Hy)
theorem anz_276 (Hy : Hyz tys cA base adS Ex) : xall (fun b t => xOK l Dg clz tys cA flz ftz base adS GWz xyz xcz xnz xrz Ex codez bmz bpz b t) 3 136 512 codez_276 :=
  And.intro (anz_272 Hy) (anz_275 Hy)
theorem anz_277 (Hy : Hyz tys cA base adS Ex) : xall (fun b t => xOK l Dg clz tys cA flz ftz base adS GWz xyz xcz xnz xrz Ex codez bmz bpz b t) 1 392 2048 codez_277 :=
  And.intro (okz_392 Hy) (okz_2440 Hy)
theorem anz_278 (Hy : Hyz tys cA base adS Ex) : xall (fun b t => xOK l Dg clz tys cA flz ftz base adS GWz xyz xcz xnz xrz Ex codez bmz bpz b t) 1 1416 2048 codez_278 :=
  And.intro (okz_1416 Hy) (okzz 3464)
theorem anz_279 (Hy : Hyz tys cA base adS Ex) : xall (fun b t => xOK l Dg clz tys cA flz ftz base adS GWz xyz xcz xnz xrz Ex codez bmz bpz b t) 2 392 1024 codez_279 :=
  And.intro (anz_277 Hy) (anz_278 Hy)
theorem anz_280 (Hy : Hyz tys cA base adS Ex) : xall (fun b t => xOK l Dg clz tys cA flz ftz base adS GWz xyz xcz xnz xrz Ex codez bmz bpz b t) 1 904 2048 codez_280 :=
  And.intro (okz_904 Hy) (okzz 2952)
theorem anz_281 (Hy : Hyz tys cA base adS Ex) : xall (fun b t => xOK l Dg clz tys cA flz ftz base adS GWz xyz xcz xnz xrz Ex codez bmz bpz b t) 1 1928 2048 codez_281 :=
  And.intro (okz_1928 Hy) (okzz 3976)
theorem anz_282 (Hy : Hyz tys cA base adS Ex) : xall (fun b t => xOK l Dg clz tys cA flz ftz base adS GWz xyz xcz xnz xrz Ex codez bmz bpz b t) 2 904 1024 codez_282 :=
  And.intro (anz_280 Hy) (anz_281 Hy)
theorem anz_283 (Hy : Hyz tys cA base adS Ex) : xall (fun b t => xOK l Dg clz tys cA flz ftz base adS GWz xyz xcz xnz xrz Ex codez bmz bpz b t) 3 392 512 codez_283 :=
  And.intro (anz_279 Hy) (anz_282 Hy)
theorem anz_284 (Hy : Hyz tys cA base adS Ex) : xall (fun b t => xOK l Dg clz tys cA flz ftz base adS GWz xyz xcz xnz xrz Ex codez bmz bpz b t) 4 136 256 codez_284 :=
  And.intro (anz_276 Hy) (anz_283 Hy)
theorem anz_285 (Hy : Hyz tys cA base adS Ex) : xall (fun b t => xOK l Dg clz tys cA flz ftz base adS GWz xyz xcz xnz xrz Ex codez bmz bpz b t) 5 8 128 codez_285 :=
  And.intro (anz_269 Hy) (anz_284 Hy)
theorem anz_286 (Hy : Hyz tys cA base adS Ex) : xall (fun b t => xOK l Dg clz tys cA flz ftz base adS GWz xyz xcz xnz xrz Ex codez bmz bpz b t) 1 72 2048 codez_286 :=
  And.intro (okz_72 Hy) (okz_2120 Hy)
theorem anz_287 (Hy : Hyz tys cA base adS Ex) : xall (fun b t => xOK l Dg clz tys cA flz ftz base adS GWz xyz xcz xnz xrz Ex codez bmz bpz b t) 1 1096 2048 codez_287 :=
  And.intro (okz_1096 Hy) (okzz 3144)
theorem anz_288 (Hy : Hyz tys cA base adS Ex) : xall (fun b t => xOK l Dg clz tys cA flz ftz base adS GWz xyz xcz xnz xrz Ex codez bmz bpz b t) 2 72 1024 codez_288 :=
  And.intro (anz_286 Hy) (anz_287 Hy)
theorem anz_289 (Hy : Hyz tys cA base adS Ex) : xall (fun b t => xOK l Dg clz tys cA flz ftz base adS GWz xyz xcz xnz xrz Ex codez bmz bpz b t) 1 584 2048 codez_289 :=
  And.intro (okz_584 Hy) (okzz 2632)
theorem anz_290 (Hy : Hyz tys cA base adS Ex) : xall (fun b t => xOK l Dg clz tys cA flz ftz base adS GWz xyz xcz xnz xrz Ex codez bmz bpz b t) 1 1608 2048 codez_290 :=
  And.intro (okz_1608 Hy) (okzz 3656)
theorem anz_291 (Hy : Hyz tys cA base adS Ex) : xall (fun b t => xOK l Dg clz tys cA flz ftz base adS GWz xyz xcz xnz xrz Ex codez bmz bpz b t) 2 584 1024 codez_291 :=
  And.intro (anz_289 Hy) (anz_290 Hy)
theorem anz_292 (Hy : Hyz tys cA base adS Ex) : xall (fun b t => xOK l Dg clz tys cA flz ftz base adS GWz xyz xcz xnz xrz Ex codez bmz bpz b t) 3 72 512 codez_292 :=
  And.intro (anz_288 Hy) (anz_291 Hy)
theorem anz_293 (Hy : Hyz tys cA base adS Ex) : xall (fun b t => xOK l Dg clz tys cA flz ftz base adS GWz xyz xcz xnz xrz Ex codez bmz bpz b t) 1 328 2048 codez_293 :=
  And.intro (okz_328 Hy) (okz_2376 Hy)
theorem anz_294 (Hy : Hyz tys cA base adS Ex) : xall (fun b t => xOK l Dg clz tys cA flz ftz base adS GWz xyz xcz xnz xrz Ex codez bmz bpz b t) 1 1352 2048 codez_294 :=
  And.intro (okz_1352 Hy) (okzz 3400)
theorem anz_295 (Hy : Hyz tys cA base adS Ex) : xall (fun b t => xOK l Dg clz tys cA flz ftz base adS GWz xyz xcz xnz xrz Ex codez bmz bpz b t) 2 328 1024 codez_295 :=
  And.intro (anz_293 Hy) (anz_294 Hy)
theorem anz_296 (Hy : Hyz tys cA base adS Ex) : xall (fun b t => xOK l Dg clz tys cA flz ftz base adS GWz xyz xcz xnz xrz Ex codez bmz bpz b t) 1 840 2048 codez_296 :=
  And.intro (okz_840 Hy) (okzz 2888)
theorem anz_297 (Hy : Hyz tys cA base adS Ex) : xall (fun b t => xOK l Dg clz tys cA flz ftz base adS GWz xyz xcz xnz xrz Ex codez bmz bpz b t) 1 1864 2048 codez_297 :=
  And.intro (okz_1864 Hy) (okzz 3912)
theorem anz_298 (Hy : Hyz tys cA base adS Ex) : xall (fun b t => xOK l Dg clz tys cA flz ftz base adS GWz xyz xcz xnz xrz Ex codez bmz bpz b t) 2 840 1024 codez_298 :=
  And.intro (anz_296 Hy) (anz_297 Hy)
theorem anz_299 (Hy : Hyz tys cA base adS Ex) : xall (fun b t => xOK l Dg clz tys cA flz ftz base adS GWz xyz xcz xnz xrz Ex codez bmz bpz b t) 3 328 512 codez_299 :=
  And.intro (anz_295 Hy) (anz_298 Hy)
theorem anz_300 (Hy : Hyz tys cA base adS Ex) : xall (fun b t => xOK l Dg clz tys cA flz ftz base adS GWz xyz xcz xnz xrz Ex codez bmz bpz b t) 4 72 256 codez_300 :=
  And.intro (anz_292 Hy) (anz_299 Hy)
theorem anz_301 (Hy : Hyz tys cA base adS Ex) : xall (fun b t => xOK l Dg clz tys cA flz ftz base adS GWz xyz xcz xnz xrz Ex codez bmz bpz b t) 1 200 2048 codez_301 :=
  And.intro (okz_200 Hy) (okz_2248 Hy)
theorem anz_302 (Hy : Hyz tys cA base adS Ex) : xall (fun b t => xOK l Dg clz tys cA flz ftz base adS GWz xyz xcz xnz xrz Ex codez bmz bpz b t) 1 1224 2048 codez_302 :=
  And.intro (okz_1224 Hy) (okzz 3272)
theorem anz_303 (Hy : Hyz tys cA base adS Ex) : xall (fun b t => xOK l Dg clz tys cA flz ftz base adS GWz xyz xcz xnz xrz Ex codez bmz bpz b t) 2 200 1024 codez_303 :=
  And.intro (anz_301 Hy) (anz_302 Hy)
theorem anz_304 (Hy : Hyz tys cA base adS Ex) : xall (fun b t => xOK l Dg clz tys cA flz ftz base adS GWz xyz xcz xnz xrz Ex codez bmz bpz b t) 1 712 2048 codez_304 :=
  And.intro (okz_712 Hy) (okzz 2760)
theorem anz_305 (Hy : Hyz tys cA base adS Ex) : xall (fun b t => xOK l Dg clz tys cA flz ftz base adS GWz xyz xcz xnz xrz Ex codez bmz bpz b t) 1 1736 2048 codez_305 :=
  And.intro (okz_1736 Hy) (okzz 3784)
theorem anz_306 (Hy : Hyz tys cA base adS Ex) : xall (fun b t => xOK l Dg clz tys cA flz ftz base adS GWz xyz xcz xnz xrz Ex codez bmz bpz b t) 2 712 1024 codez_306 :=
  And.intro (anz_304 Hy) (anz_305 Hy)
theorem anz_307 (Hy : Hyz tys cA base adS Ex) : xall (fun b t => xOK l Dg clz tys cA flz ftz base adS GWz xyz xcz xnz xrz Ex codez bmz bpz b t) 3 200 512 codez_307 :=
  And.intro (anz_303 Hy) (anz_306 Hy)
theorem anz_308 (Hy : Hyz tys cA base adS Ex) : xall (fun b t => xOK l Dg clz tys cA flz ftz base adS GWz xyz xcz xnz xrz Ex codez bmz bpz b t) 1 456 2048 codez_308 :=
  And.intro (okz_456 Hy) (okz_2504 Hy)
theorem anz_309 (Hy : Hyz tys cA base adS Ex) : xall (fun b t => xOK l Dg clz tys cA flz ftz base adS GWz xyz xcz xnz xrz Ex codez bmz bpz b t) 1 1480 2048 codez_309 :=
  And.intro (okz_1480 Hy) (okzz 3528)
theorem anz_310 (Hy : Hyz tys cA base adS Ex) : xall (fun b t => xOK l Dg clz tys cA flz ftz base adS GWz xyz xcz xnz xrz Ex codez bmz bpz b t) 2 456 1024 codez_310 :=
  And.intro (anz_308 Hy) (anz_309 Hy)
theorem anz_311 (Hy : Hyz tys cA base adS Ex) : xall (fun b t => xOK l Dg clz tys cA flz ftz base adS GWz xyz xcz xnz xrz Ex codez bmz bpz b t) 1 968 2048 codez_311 :=
  And.intro (okz_968 Hy) (okzz 3016)
theorem anz_312 (Hy : Hyz tys cA base adS Ex) : xall (fun b t => xOK l Dg clz tys cA flz ftz base adS GWz xyz xcz xnz xrz Ex codez bmz bpz b t) 1 1992 2048 codez_312 :=
  And.intro (okz_1992 Hy) (okzz 4040)
theorem anz_313 (Hy : Hyz tys cA base adS Ex) : xall (fun b t => xOK l Dg clz tys cA flz ftz base adS GWz xyz xcz xnz xrz Ex codez bmz bpz b t) 2 968 1024 codez_313 :=
  And.intro (anz_311 Hy) (anz_312 Hy)
theorem anz_314 (Hy : Hyz tys cA base adS Ex) : xall (fun b t => xOK l Dg clz tys cA flz ftz base adS GWz xyz xcz xnz xrz Ex codez bmz bpz b t) 3 456 512 codez_314 :=
  And.intro (anz_310 Hy) (anz_313 Hy)
theorem anz_315 (Hy : Hyz tys cA base adS Ex) : xall (fun b t => xOK l Dg clz tys cA flz ftz base adS GWz xyz xcz xnz xrz Ex codez bmz bpz b t) 4 200 256 codez_315 :=
  And.intro (anz_307 Hy) (anz_314 Hy)
theorem anz_316 (Hy : Hyz tys cA base adS Ex) : xall (fun b t => xOK l Dg clz tys cA flz ftz base adS GWz xyz xcz xnz xrz Ex codez bmz bpz b t) 5 72 128 codez_316 :=
  And.intro (anz_300 Hy) (anz_315 Hy)
theorem anz_317 (Hy : Hyz tys cA base adS Ex) : xall (fun b t => xOK l Dg clz tys cA flz ftz base adS GWz xyz xcz xnz xrz Ex codez bmz bpz b t) 6 8 64 codez_317 :=
  And.intro (anz_285 Hy) (anz_316 Hy)
theorem anz_318 (Hy : Hyz tys cA base adS Ex) : xall (fun b t => xOK l Dg clz tys cA flz ftz base adS GWz xyz xcz xnz xrz Ex codez bmz bpz b t) 1 40 2048 codez_318 :=
  And.intro (okz_40 Hy) (okz_2088 Hy)
theorem anz_319 (Hy : Hyz tys cA base adS Ex) : xall (fun b t => xOK l Dg clz tys cA flz ftz base adS GWz xyz xcz xnz xrz Ex codez bmz bpz b t) 1 1064 2048 codez_319 :=
  And.intro (okz_1064 Hy) (okzz 3112)
theorem anz_320 (Hy : Hyz tys cA base adS Ex) : xall (fun b t => xOK l Dg clz tys cA flz ftz base adS GWz xyz xcz xnz xrz Ex codez bmz bpz b t) 2 40 1024 codez_320 :=
  And.intro (anz_318 Hy) (anz_319 Hy)
theorem anz_321 (Hy : Hyz tys cA base adS Ex) : xall (fun b t => xOK l Dg clz tys cA flz ftz base adS GWz xyz xcz xnz xrz Ex codez bmz bpz b t) 1 552 2048 codez_321 :=
  And.intro (okz_552 Hy) (okzz 2600)
theorem anz_322 (Hy : Hyz tys cA base adS Ex) : xall (fun b t => xOK l Dg clz tys cA flz ftz base adS GWz xyz xcz xnz xrz Ex codez bmz bpz b t) 1 1576 2048 codez_322 :=
  And.intro (okz_1576 Hy) (okzz 3624)
theorem anz_323 (Hy : Hyz tys cA base adS Ex) : xall (fun b t => xOK l Dg clz tys cA flz ftz base adS GWz xyz xcz xnz xrz Ex codez bmz bpz b t) 2 552 1024 codez_323 :=
  And.intro (anz_321 Hy) (anz_322 Hy)
theorem anz_324 (Hy : Hyz tys cA base adS Ex) : xall (fun b t => xOK l Dg clz tys cA flz ftz base adS GWz xyz xcz xnz xrz Ex codez bmz bpz b t) 3 40 512 codez_324 :=
  And.intro (anz_320 Hy) (anz_323 Hy)
theorem anz_325 (Hy : Hyz tys cA base adS Ex) : xall (fun b t => xOK l Dg clz tys cA flz ftz base adS GWz xyz xcz xnz xrz Ex codez bmz bpz b t) 1 296 2048 codez_325 :=
  And.intro (okz_296 Hy) (okz_2344 Hy)
theorem anz_326 (Hy : Hyz tys cA base adS Ex) : xall (fun b t => xOK l Dg clz tys cA flz ftz base adS GWz xyz xcz xnz xrz Ex codez bmz bpz b t) 1 1320 2048 codez_326 :=
  And.intro (okz_1320 Hy) (okzz 3368)
theorem anz_327 (Hy : Hyz tys cA base adS Ex) : xall (fun b t => xOK l Dg clz tys cA flz ftz base adS GWz xyz xcz xnz xrz Ex codez bmz bpz b t) 2 296 1024 codez_327 :=
  And.intro (anz_325 Hy) (anz_326 Hy)
theorem anz_328 (Hy : Hyz tys cA base adS Ex) : xall (fun b t => xOK l Dg clz tys cA flz ftz base adS GWz xyz xcz xnz xrz Ex codez bmz bpz b t) 1 808 2048 codez_328 :=
  And.intro (okz_808 Hy) (okzz 2856)
theorem anz_329 (Hy : Hyz tys cA base adS Ex) : xall (fun b t => xOK l Dg clz tys cA flz ftz base adS GWz xyz xcz xnz xrz Ex codez bmz bpz b t) 1 1832 2048 codez_329 :=
  And.intro (okz_1832 Hy) (okzz 3880)
theorem anz_330 (Hy : Hyz tys cA base adS Ex) : xall (fun b t => xOK l Dg clz tys cA flz ftz base adS GWz xyz xcz xnz xrz Ex codez bmz bpz b t) 2 808 1024 codez_330 :=
  And.intro (anz_328 Hy) (anz_329 Hy)
theorem anz_331 (Hy : Hyz tys cA base adS Ex) : xall (fun b t => xOK l Dg clz tys cA flz ftz base adS GWz xyz xcz xnz xrz Ex codez bmz bpz b t) 3 296 512 codez_331 :=
  And.intro (anz_327 Hy) (anz_330 Hy)
theorem anz_332 (Hy : Hyz tys cA base adS Ex) : xall (fun b t => xOK l Dg clz tys cA flz ftz base adS GWz xyz xcz xnz xrz Ex codez bmz bpz b t) 4 40 256 codez_332 :=
  And.intro (anz_324 Hy) (anz_331 Hy)
theorem anz_333 (Hy : Hyz tys cA base adS Ex) : xall (fun b t => xOK l Dg clz tys cA flz ftz base adS GWz xyz xcz xnz xrz Ex codez bmz bpz b t) 1 168 2048 codez_333 :=
  And.intro (okz_168 Hy) (okz_2216 Hy)
theorem anz_334 (Hy : Hyz tys cA base adS Ex) : xall (fun b t => xOK l Dg clz tys cA flz ftz base adS GWz xyz xcz xnz xrz Ex codez bmz bpz b t) 1 1192 2048 codez_334 :=
  And.intro (okz_1192 Hy) (okzz 3240)
theorem anz_335 (Hy : Hyz tys cA base adS Ex) : xall (fun b t => xOK l Dg clz tys cA flz ftz base adS GWz xyz xcz xnz xrz Ex codez bmz bpz b t) 2 168 1024 codez_335 :=
  And.intro (anz_333 Hy) (anz_334 Hy)
theorem anz_336 (Hy : Hyz tys cA base adS Ex) : xall (fun b t => xOK l Dg clz tys cA flz ftz base adS GWz xyz xcz xnz xrz Ex codez bmz bpz b t) 1 680 2048 codez_336 :=
  And.intro (okz_680 Hy) (okzz 2728)
theorem anz_337 (Hy : Hyz tys cA base adS Ex) : xall (fun b t => xOK l Dg clz tys cA flz ftz base adS GWz xyz xcz xnz xrz Ex codez bmz bpz b t) 1 1704 2048 codez_337 :=
  And.intro (okz_1704 Hy) (okzz 3752)
theorem anz_338 (Hy : Hyz tys cA base adS Ex) : xall (fun b t => xOK l Dg clz tys cA flz ftz base adS GWz xyz xcz xnz xrz Ex codez bmz bpz b t) 2 680 1024 codez_338 :=
  And.intro (anz_336 Hy) (anz_337 Hy)
theorem anz_339 (Hy : Hyz tys cA base adS Ex) : xall (fun b t => xOK l Dg clz tys cA flz ftz base adS GWz xyz xcz xnz xrz Ex codez bmz bpz b t) 3 168 512 codez_339 :=
  And.intro (anz_335 Hy) (anz_338 Hy)
theorem anz_340 (Hy : Hyz tys cA base adS Ex) : xall (fun b t => xOK l Dg clz tys cA flz ftz base adS GWz xyz xcz xnz xrz Ex codez bmz bpz b t) 1 424 2048 codez_340 :=
  And.intro (okz_424 Hy) (okz_2472 Hy)
theorem anz_341 (Hy : Hyz tys cA base adS Ex) : xall (fun b t => xOK l Dg clz tys cA flz ftz base adS GWz xyz xcz xnz xrz Ex codez bmz bpz b t) 1 1448 2048 codez_341 :=
  And.intro (okz_1448 Hy) (okzz 3496)
theorem anz_342 (Hy : Hyz tys cA base adS Ex) : xall (fun b t => xOK l Dg clz tys cA flz ftz base adS GWz xyz xcz xnz xrz Ex codez bmz bpz b t) 2 424 1024 codez_342 :=
  And.intro (anz_340 Hy) (anz_341 Hy)
theorem anz_343 (Hy : Hyz tys cA base adS Ex) : xall (fun b t => xOK l Dg clz tys cA flz ftz base adS GWz xyz xcz xnz xrz Ex codez bmz bpz b t) 1 936 2048 codez_343 :=
  And.intro (okz_936 Hy) (okzz 2984)
theorem anz_344 (Hy : Hyz tys cA base adS Ex) : xall (fun b t => xOK l Dg clz tys cA flz ftz base adS GWz xyz xcz xnz xrz Ex codez bmz bpz b t) 1 1960 2048 codez_344 :=
  And.intro (okz_1960 Hy) (okzz 4008)
theorem anz_345 (Hy : Hyz tys cA base adS Ex) : xall (fun b t => xOK l Dg clz tys cA flz ftz base adS GWz xyz xcz xnz xrz Ex codez bmz bpz b t) 2 936 1024 codez_345 :=
  And.intro (anz_343 Hy) (anz_344 Hy)
theorem anz_346 (Hy : Hyz tys cA base adS Ex) : xall (fun b t => xOK l Dg clz tys cA flz ftz base adS GWz xyz xcz xnz xrz Ex codez bmz bpz b t) 3 424 512 codez_346 :=
  And.intro (anz_342 Hy) (anz_345 Hy)
theorem anz_347 (Hy : Hyz tys cA base adS Ex) : xall (fun b t => xOK l Dg clz tys cA flz ftz base adS GWz xyz xcz xnz xrz Ex codez bmz bpz b t) 4 168 256 codez_347 :=
  And.intro (anz_339 Hy) (anz_346 Hy)
theorem anz_348 (Hy : Hyz tys cA base adS Ex) : xall (fun b t => xOK l Dg clz tys cA flz ftz base adS GWz xyz xcz xnz xrz Ex codez bmz bpz b t) 5 40 128 codez_348 :=
  And.intro (anz_332 Hy) (anz_347 Hy)
theorem anz_349 (Hy : Hyz tys cA base adS Ex) : xall (fun b t => xOK l Dg clz tys cA flz ftz base adS GWz xyz xcz xnz xrz Ex codez bmz bpz b t) 1 104 2048 codez_349 :=
  And.intro (okz_104 Hy) (okz_2152 Hy)
theorem anz_350 (Hy : Hyz tys cA base adS Ex) : xall (fun b t => xOK l Dg clz tys cA flz ftz base adS GWz xyz xcz xnz xrz Ex codez bmz bpz b t) 1 1128 2048 codez_350 :=
  And.intro (okz_1128 Hy) (okzz 3176)
theorem anz_351 (Hy : Hyz tys cA base adS Ex) : xall (fun b t => xOK l Dg clz tys cA flz ftz base adS GWz xyz xcz xnz xrz Ex codez bmz bpz b t) 2 104 1024 codez_351 :=
  And.intro (anz_349 Hy) (anz_350 Hy)
theorem anz_352 (Hy : Hyz tys cA base adS Ex) : xall (fun b t => xOK l Dg clz tys cA flz ftz base adS GWz xyz xcz xnz xrz Ex codez bmz bpz b t) 1 616 2048 codez_352 :=
  And.intro (okz_616 Hy) (okzz 2664)
theorem anz_353 (Hy : Hyz tys cA base adS Ex) : xall (fun b t => xOK l Dg clz tys cA flz ftz base adS GWz xyz xcz xnz xrz Ex codez bmz bpz b t) 1 1640 2048 codez_353 :=
  And.intro (okz_1640 Hy) (okzz 3688)
theorem anz_354 (Hy : Hyz tys cA base adS Ex) : xall (fun b t => xOK l Dg clz tys cA flz ftz base adS GWz xyz xcz xnz xrz Ex codez bmz bpz b t) 2 616 1024 codez_354 :=
  And.intro (anz_352 Hy) (anz_353 Hy)
theorem anz_355 (Hy : Hyz tys cA base adS Ex) : xall (fun b t => xOK l Dg clz tys cA flz ftz base adS GWz xyz xcz xnz xrz Ex codez bmz bpz b t) 3 104 512 codez_355 :=
  And.intro (anz_351 Hy) (anz_354 Hy)
theorem anz_356 (Hy : Hyz tys cA base adS Ex) : xall (fun b t => xOK l Dg clz tys cA flz ftz base adS GWz xyz xcz xnz xrz Ex codez bmz bpz b t) 1 360 2048 codez_356 :=
  And.intro (okz_360 Hy) (okz_2408 Hy)
theorem anz_357 (Hy : Hyz tys cA base adS Ex) : xall (fun b t => xOK l Dg clz tys cA flz ftz base adS GWz xyz xcz xnz xrz Ex codez bmz bpz b t) 1 1384 2048 codez_357 :=
  And.intro (okz_1384 Hy) (okzz 3432)
theorem anz_358 (Hy : Hyz tys cA base adS Ex) : xall (fun b t => xOK l Dg clz tys cA flz ftz base adS GWz xyz xcz xnz xrz Ex codez bmz bpz b t) 2 360 1024 codez_358 :=
  And.intro (anz_356 Hy) (anz_357 Hy)
theorem anz_359 (Hy : Hyz tys cA base adS Ex) : xall (fun b t => xOK l Dg clz tys cA flz ftz base adS GWz xyz xcz xnz xrz Ex codez bmz bpz b t) 1 872 2048 codez_359 :=
  And.intro (okz_872 Hy) (okzz 2920)
theorem anz_360 (Hy : Hyz tys cA base adS Ex) : xall (fun b t => xOK l Dg clz tys cA flz ftz base adS GWz xyz xcz xnz xrz Ex codez bmz bpz b t) 1 1896 2048 codez_360 :=
  And.intro (okz_1896 Hy) (okzz 3944)
theorem anz_361 (Hy : Hyz tys cA base adS Ex) : xall (fun b t => xOK l Dg clz tys cA flz ftz base adS GWz xyz xcz xnz xrz Ex codez bmz bpz b t) 2 872 1024 codez_361 :=
  And.intro (anz_359 Hy) (anz_360 Hy)
theorem anz_362 (Hy : Hyz tys cA base adS Ex) : xall (fun b t => xOK l Dg clz tys cA flz ftz base adS GWz xyz xcz xnz xrz Ex codez bmz bpz b t) 3 360 512 codez_362 :=
  And.intro (anz_358 Hy) (anz_361 Hy)
theorem anz_363 (Hy : Hyz tys cA base adS Ex) : xall (fun b t => xOK l Dg clz tys cA flz ftz base adS GWz xyz xcz xnz xrz Ex codez bmz bpz b t) 4 104 256 codez_363 :=
  And.intro (anz_355 Hy) (anz_362 Hy)
theorem anz_364 (Hy : Hyz tys cA base adS Ex) : xall (fun b t => xOK l Dg clz tys cA flz ftz base adS GWz xyz xcz xnz xrz Ex codez bmz bpz b t) 1 232 2048 codez_364 :=
  And.intro (okz_232 Hy) (okz_2280 Hy)
theorem anz_365 (Hy : Hyz tys cA base adS Ex) : xall (fun b t => xOK l Dg clz tys cA flz ftz base adS GWz xyz xcz xnz xrz Ex codez bmz bpz b t) 1 1256 2048 codez_365 :=
  And.intro (okz_1256 Hy) (okzz 3304)
theorem anz_366 (Hy : Hyz tys cA base adS Ex) : xall (fun b t => xOK l Dg clz tys cA flz ftz base adS GWz xyz xcz xnz xrz Ex codez bmz bpz b t) 2 232 1024 codez_366 :=
  And.intro (anz_364 Hy) (anz_365 Hy)
theorem anz_367 (Hy : Hyz tys cA base adS Ex) : xall (fun b t => xOK l Dg clz tys cA flz ftz base adS GWz xyz xcz xnz xrz Ex codez bmz bpz b t) 1 744 2048 codez_367 :=
  And.intro (okz_744 Hy) (okzz 2792)
theorem anz_368 (Hy : Hyz tys cA base adS Ex) : xall (fun b t => xOK l Dg clz tys cA flz ftz base adS GWz xyz xcz xnz xrz Ex codez bmz bpz b t) 1 1768 2048 codez_368 :=
  And.intro (okz_1768 Hy) (okzz 3816)
theorem anz_369 (Hy : Hyz tys cA base adS Ex) : xall (fun b t => xOK l Dg clz tys cA flz ftz base adS GWz xyz xcz xnz xrz Ex codez bmz bpz b t) 2 744 1024 codez_369 :=
  And.intro (anz_367 Hy) (anz_368 Hy)
theorem anz_370 (Hy : Hyz tys cA base adS Ex) : xall (fun b t => xOK l Dg clz tys cA flz ftz base adS GWz xyz xcz xnz xrz Ex codez bmz bpz b t) 3 232 512 codez_370 :=
  And.intro (anz_366 Hy) (anz_369 Hy)
theorem anz_371 (Hy : Hyz tys cA base adS Ex) : xall (fun b t => xOK l Dg clz tys cA flz ftz base adS GWz xyz xcz xnz xrz Ex codez bmz bpz b t) 1 488 2048 codez_371 :=
  And.intro (okz_488 Hy) (okz_2536 Hy)
theorem anz_372 (Hy : Hyz tys cA base adS Ex) : xall (fun b t => xOK l Dg clz tys cA flz ftz base adS GWz xyz xcz xnz xrz Ex codez bmz bpz b t) 1 1512 2048 codez_372 :=
  And.intro (okz_1512 Hy) (okzz 3560)
theorem anz_373 (Hy : Hyz tys cA base adS Ex) : xall (fun b t => xOK l Dg clz tys cA flz ftz base adS GWz xyz xcz xnz xrz Ex codez bmz bpz b t) 2 488 1024 codez_373 :=
  And.intro (anz_371 Hy) (anz_372 Hy)
theorem anz_374 (Hy : Hyz tys cA base adS Ex) : xall (fun b t => xOK l Dg clz tys cA flz ftz base adS GWz xyz xcz xnz xrz Ex codez bmz bpz b t) 1 1000 2048 codez_374 :=
  And.intro (okz_1000 Hy) (okzz 3048)
theorem anz_375 (Hy : Hyz tys cA base adS Ex) : xall (fun b t => xOK l Dg clz tys cA flz ftz base adS GWz xyz xcz xnz xrz Ex codez bmz bpz b t) 1 2024 2048 codez_375 :=
  And.intro (okz_2024 Hy) (okzz 4072)
theorem anz_376 (Hy : Hyz tys cA base adS Ex) : xall (fun b t => xOK l Dg clz tys cA flz ftz base adS GWz xyz xcz xnz xrz Ex codez bmz bpz b t) 2 1000 1024 codez_376 :=
  And.intro (anz_374 Hy) (anz_375 Hy)
theorem anz_377 (Hy : Hyz tys cA base adS Ex) : xall (fun b t => xOK l Dg clz tys cA flz ftz base adS GWz xyz xcz xnz xrz Ex codez bmz bpz b t) 3 488 512 codez_377 :=
  And.intro (anz_373 Hy) (anz_376 Hy)
theorem anz_378 (Hy : Hyz tys cA base adS Ex) : xall (fun b t => xOK l Dg clz tys cA flz ftz base adS GWz xyz xcz xnz xrz Ex codez bmz bpz b t) 4 232 256 codez_378 :=
  And.intro (anz_370 Hy) (anz_377 Hy)
theorem anz_379 (Hy : Hyz tys cA base adS Ex) : xall (fun b t => xOK l Dg clz tys cA flz ftz base adS GWz xyz xcz xnz xrz Ex codez bmz bpz b t) 5 104 128 codez_379 :=
  And.intro (anz_363 Hy) (anz_378 Hy)
theorem anz_380 (Hy : Hyz tys cA base adS Ex) : xall (fun b t => xOK l Dg clz tys cA flz ftz base adS GWz xyz xcz xnz xrz Ex codez bmz bpz b t) 6 40 64 codez_380 :=
  And.intro (anz_348 Hy) (anz_379 Hy)
theorem anz_381 (Hy : Hyz tys cA base adS Ex) : xall (fun b t => xOK l Dg clz tys cA flz ftz base adS GWz xyz xcz xnz xrz Ex codez bmz bpz b t) 7 8 32 codez_381 :=
  And.intro (anz_317 Hy) (anz_380 Hy)
theorem anz_382 (Hy : Hyz tys cA base adS Ex) : xall (fun b t => xOK l Dg clz tys cA flz ftz base adS GWz xyz xcz xnz xrz Ex codez bmz bpz b t) 1 24 2048 codez_382 :=
  And.intro (okz_24 Hy) (okz_2072 Hy)
theorem anz_383 (Hy : Hyz tys cA base adS Ex) : xall (fun b t => xOK l Dg clz tys cA flz ftz base adS GWz xyz xcz xnz xrz Ex codez bmz bpz b t) 1 1048 2048 codez_383 :=
  And.intro (okz_1048 Hy) (okzz 3096)
theorem anz_384 (Hy : Hyz tys cA base adS Ex) : xall (fun b t => xOK l Dg clz tys cA flz ftz base adS GWz xyz xcz xnz xrz Ex codez bmz bpz b t) 2 24 1024 codez_384 :=
  And.intro (anz_382 Hy) (anz_383 Hy)
theorem anz_385 (Hy : Hyz tys cA base adS Ex) : xall (fun b t => xOK l Dg clz tys cA flz ftz base adS GWz xyz xcz xnz xrz Ex codez bmz bpz b t) 1 536 2048 codez_385 :=
  And.intro (okz_536 Hy) (okzz 2584)
theorem anz_386 (Hy : Hyz tys cA base adS Ex) : xall (fun b t => xOK l Dg clz tys cA flz ftz base adS GWz xyz xcz xnz xrz Ex codez bmz bpz b t) 1 1560 2048 codez_386 :=
  And.intro (okz_1560 Hy) (okzz 3608)
theorem anz_387 (Hy : Hyz tys cA base adS Ex) : xall (fun b t => xOK l Dg clz tys cA flz ftz base adS GWz xyz xcz xnz xrz Ex codez bmz bpz b t) 2 536 1024 codez_387 :=
  And.intro (anz_385 Hy) (anz_386 Hy)
theorem anz_388 (Hy : Hyz tys cA base adS Ex) : xall (fun b t => xOK l Dg clz tys cA flz ftz base adS GWz xyz xcz xnz xrz Ex codez bmz bpz b t) 3 24 512 codez_388 :=
  And.intro (anz_384 Hy) (anz_387 Hy)
theorem anz_389 (Hy : Hyz tys cA base adS Ex) : xall (fun b t => xOK l Dg clz tys cA flz ftz base adS GWz xyz xcz xnz xrz Ex codez bmz bpz b t) 1 280 2048 codez_389 :=
  And.intro (okz_280 Hy) (okz_2328 Hy)
theorem anz_390 (Hy : Hyz tys cA base adS Ex) : xall (fun b t => xOK l Dg clz tys cA flz ftz base adS GWz xyz xcz xnz xrz Ex codez bmz bpz b t) 1 1304 2048 codez_390 :=
  And.intro (okz_1304 Hy) (okzz 3352)
theorem anz_391 (Hy : Hyz tys cA base adS Ex) : xall (fun b t => xOK l Dg clz tys cA flz ftz base adS GWz xyz xcz xnz xrz Ex codez bmz bpz b t) 2 280 1024 codez_391 :=
  And.intro (anz_389 Hy) (anz_390 Hy)
theorem anz_392 (Hy : Hyz tys cA base adS Ex) : xall (fun b t => xOK l Dg clz tys cA flz ftz base adS GWz xyz xcz xnz xrz Ex codez bmz bpz b t) 1 792 2048 codez_392 :=
  And.intro (okz_792 Hy) (okzz 2840)
theorem anz_393 (Hy : Hyz tys cA base adS Ex) : xall (fun b t => xOK l Dg clz tys cA flz ftz base adS GWz xyz xcz xnz xrz Ex codez bmz bpz b t) 1 1816 2048 codez_393 :=
  And.intro (okz_1816 Hy) (okzz 3864)
theorem anz_394 (Hy : Hyz tys cA base adS Ex) : xall (fun b t => xOK l Dg clz tys cA flz ftz base adS GWz xyz xcz xnz xrz Ex codez bmz bpz b t) 2 792 1024 codez_394 :=
  And.intro (anz_392 Hy) (anz_393 Hy)
theorem anz_395 (Hy : Hyz tys cA base adS Ex) : xall (fun b t => xOK l Dg clz tys cA flz ftz base adS GWz xyz xcz xnz xrz Ex codez bmz bpz b t) 3 280 512 codez_395 :=
  And.intro (anz_391 Hy) (anz_394 Hy)
theorem anz_396 (Hy : Hyz tys cA base adS Ex) : xall (fun b t => xOK l Dg clz tys cA flz ftz base adS GWz xyz xcz xnz xrz Ex codez bmz bpz b t) 4 24 256 codez_396 :=
  And.intro (anz_388 Hy) (anz_395 Hy)
theorem anz_397 (Hy : Hyz tys cA base adS Ex) : xall (fun b t => xOK l Dg clz tys cA flz ftz base adS GWz xyz xcz xnz xrz Ex codez bmz bpz b t) 1 152 2048 codez_397 :=
  And.intro (okz_152 Hy) (okz_2200 Hy)
theorem anz_398 (Hy : Hyz tys cA base adS Ex) : xall (fun b t => xOK l Dg clz tys cA flz ftz base adS GWz xyz xcz xnz xrz Ex codez bmz bpz b t) 1 1176 2048 codez_398 :=
  And.intro (okz_1176 Hy) (okzz 3224)
theorem anz_399 (Hy : Hyz tys cA base adS Ex) : xall (fun b t => xOK l Dg clz tys cA flz ftz base adS GWz xyz xcz xnz xrz Ex codez bmz bpz b t) 2 152 1024 codez_399 :=
  And.intro (anz_397 Hy) (anz_398 Hy)
theorem anz_400 (Hy : Hyz tys cA base adS Ex) : xall (fun b t => xOK l Dg clz tys cA flz ftz base adS GWz xyz xcz xnz xrz Ex codez bmz bpz b t) 1 664 2048 codez_400 :=
  And.intro (okz_664 Hy) (okzz 2712)
theorem anz_401 (Hy : Hyz tys cA base adS Ex) : xall (fun b t => xOK l Dg clz tys cA flz ftz base adS GWz xyz xcz xnz xrz Ex codez bmz bpz b t) 1 1688 2048 codez_401 :=
  And.intro (okz_1688 Hy) (okzz 3736)
theorem anz_402 (Hy : Hyz tys cA base adS Ex) : xall (fun b t => xOK l Dg clz tys cA flz ftz base adS GWz xyz xcz xnz xrz Ex codez bmz bpz b t) 2 664 1024 codez_402 :=
  And.intro (anz_400 Hy) (anz_401 Hy)
theorem anz_403 (Hy : Hyz tys cA base adS Ex) : xall (fun b t => xOK l Dg clz tys cA flz ftz base adS GWz xyz xcz xnz xrz Ex codez bmz bpz b t) 3 152 512 codez_403 :=
  And.intro (anz_399 Hy) (anz_402 Hy)
theorem anz_404 (Hy : Hyz tys cA base adS Ex) : xall (fun b t => xOK l Dg clz tys cA flz ftz base adS GWz xyz xcz xnz xrz Ex codez bmz bpz b t) 1 408 2048 codez_404 :=
  And.intro (okz_408 Hy) (okz_2456 Hy)
theorem anz_405 (Hy : Hyz tys cA base adS Ex) : xall (fun b t => xOK l Dg clz tys cA flz ftz base adS GWz xyz xcz xnz xrz Ex codez bmz bpz b t) 1 1432 2048 codez_405 :=
  And.intro (okz_1432 Hy) (okzz 3480)
theorem anz_406 (Hy : Hyz tys cA base adS Ex) : xall (fun b t => xOK l Dg clz tys cA flz ftz base adS GWz xyz xcz xnz xrz Ex codez bmz bpz b t) 2 408 1024 codez_406 :=
  And.intro (anz_404 Hy) (anz_405 Hy)
theorem anz_407 (Hy : Hyz tys cA base adS Ex) : xall (fun b t => xOK l Dg clz tys cA flz ftz base adS GWz xyz xcz xnz xrz Ex codez bmz bpz b t) 1 920 2048 codez_407 :=
  And.intro (okz_920 Hy) (okzz 2968)
theorem anz_408 (Hy : Hyz tys cA base adS Ex) : xall (fun b t => xOK l Dg clz tys cA flz ftz base adS GWz xyz xcz xnz xrz Ex codez bmz bpz b t) 1 1944 2048 codez_408 :=
  And.intro (okz_1944 Hy) (okzz 3992)
theorem anz_409 (Hy : Hyz tys cA base adS Ex) : xall (fun b t => xOK l Dg clz tys cA flz ftz base adS GWz xyz xcz xnz xrz Ex codez bmz bpz b t) 2 920 1024 codez_409 :=
  And.intro (anz_407 Hy) (anz_408 Hy)
theorem anz_410 (Hy : Hyz tys cA base adS Ex) : xall (fun b t => xOK l Dg clz tys cA flz ftz base adS GWz xyz xcz xnz xrz Ex codez bmz bpz b t) 3 408 512 codez_410 :=
  And.intro (anz_406 Hy) (anz_409 Hy)
theorem anz_411 (Hy : Hyz tys cA base adS Ex) : xall (fun b t => xOK l Dg clz tys cA flz ftz base adS GWz xyz xcz xnz xrz Ex codez bmz bpz b t) 4 152 256 codez_411 :=
  And.intro (anz_403 Hy) (anz_410 Hy)
theorem anz_412 (Hy : Hyz tys cA base adS Ex) : xall (fun b t => xOK l Dg clz tys cA flz ftz base adS GWz xyz xcz xnz xrz Ex codez bmz bpz b t) 5 24 128 codez_412 :=
  And.intro (anz_396 Hy) (anz_411 Hy)
theorem anz_413 (Hy : Hyz tys cA base adS Ex) : xall (fun b t => xOK l Dg clz tys cA flz ftz base adS GWz xyz xcz xnz xrz Ex codez bmz bpz b t) 1 88 2048 codez_413 :=
  And.intro (okz_88 Hy) (okz_2136 Hy)
theorem anz_414 (Hy : Hyz tys cA base adS Ex) : xall (fun b t => xOK l Dg clz tys cA flz ftz base adS GWz xyz xcz xnz xrz Ex codez bmz bpz b t) 1 1112 2048 codez_414 :=
  And.intro (okz_1112 Hy) (okzz 3160)
theorem anz_415 (Hy : Hyz tys cA base adS Ex) : xall (fun b t => xOK l Dg clz tys cA flz ftz base adS GWz xyz xcz xnz xrz Ex codez bmz bpz b t) 2 88 1024 codez_415 :=
  And.intro (anz_413 Hy) (anz_414 Hy)
theorem anz_416 (Hy : Hyz tys cA base adS Ex) : xall (fun b t => xOK l Dg clz tys cA flz ftz base adS GWz xyz xcz xnz xrz Ex codez bmz bpz b t) 1 600 2048 codez_416 :=
  And.intro (okz_600 Hy) (okzz 2648)
theorem anz_417 (Hy : Hyz tys cA base adS Ex) : xall (fun b t => xOK l Dg clz tys cA flz ftz base adS GWz xyz xcz xnz xrz Ex codez bmz bpz b t) 1 1624 2048 codez_417 :=
  And.intro (okz_1624 Hy) (okzz 3672)
theorem anz_418 (Hy : Hyz tys cA base adS Ex) : xall (fun b t => xOK l Dg clz tys cA flz ftz base adS GWz xyz xcz xnz xrz Ex codez bmz bpz b t) 2 600 1024 codez_418 :=
  And.intro (anz_416 Hy) (anz_417 Hy)
theorem anz_419 (Hy : Hyz tys cA base adS Ex) : xall (fun b t => xOK l Dg clz tys cA flz ftz base adS GWz xyz xcz xnz xrz Ex codez bmz bpz b t) 3 88 512 codez_419 :=
  And.intro (anz_415 Hy) (anz_418 Hy)
theorem anz_420 (Hy : Hyz tys cA base adS Ex) : xall (fun b t => xOK l Dg clz tys cA flz ftz base adS GWz xyz xcz xnz xrz Ex codez bmz bpz b t) 1 344 2048 codez_420 :=
  And.intro (okz_344 Hy) (okz_2392 Hy)
theorem anz_421 (Hy : Hyz tys cA base adS Ex) : xall (fun b t => xOK l Dg clz tys cA flz ftz base adS GWz xyz xcz xnz xrz Ex codez bmz bpz b t) 1 1368 2048 codez_421 :=
  And.intro (okz_1368 Hy) (okzz 3416)
theorem anz_422 (Hy : Hyz tys cA base adS Ex) : xall (fun b t => xOK l Dg clz tys cA flz ftz base adS GWz xyz xcz xnz xrz Ex codez bmz bpz b t) 2 344 1024 codez_422 :=
  And.intro (anz_420 Hy) (anz_421 Hy)
theorem anz_423 (Hy : Hyz tys cA base adS Ex) : xall (fun b t => xOK l Dg clz tys cA flz ftz base adS GWz xyz xcz xnz xrz Ex codez bmz bpz b t) 1 856 2048 codez_423 :=
  And.intro (okz_856 Hy) (okzz 2904)
theorem anz_424 (Hy : Hyz tys cA base adS Ex) : xall (fun b t => xOK l Dg clz tys cA flz ftz base adS GWz xyz xcz xnz xrz Ex codez bmz bpz b t) 1 1880 2048 codez_424 :=
  And.intro (okz_1880 Hy) (okzz 3928)
theorem anz_425 (Hy : Hyz tys cA base adS Ex) : xall (fun b t => xOK l Dg clz tys cA flz ftz base adS GWz xyz xcz xnz xrz Ex codez bmz bpz b t) 2 856 1024 codez_425 :=
  And.intro (anz_423 Hy) (anz_424 Hy)
theorem anz_426 (Hy : Hyz tys cA base adS Ex) : xall (fun b t => xOK l Dg clz tys cA flz ftz base adS GWz xyz xcz xnz xrz Ex codez bmz bpz b t) 3 344 512 codez_426 :=
  And.intro (anz_422 Hy) (anz_425 Hy)
theorem anz_427 (Hy : Hyz tys cA base adS Ex) : xall (fun b t => xOK l Dg clz tys cA flz ftz base adS GWz xyz xcz xnz xrz Ex codez bmz bpz b t) 4 88 256 codez_427 :=
  And.intro (anz_419 Hy) (anz_426 Hy)
theorem anz_428 (Hy : Hyz tys cA base adS Ex) : xall (fun b t => xOK l Dg clz tys cA flz ftz base adS GWz xyz xcz xnz xrz Ex codez bmz bpz b t) 1 216 2048 codez_428 :=
  And.intro (okz_216 Hy) (okz_2264 Hy)
theorem anz_429 (Hy : Hyz tys cA base adS Ex) : xall (fun b t => xOK l Dg clz tys cA flz ftz base adS GWz xyz xcz xnz xrz Ex codez bmz bpz b t) 1 1240 2048 codez_429 :=
  And.intro (okz_1240 Hy) (okzz 3288)
theorem anz_430 (Hy : Hyz tys cA base adS Ex) : xall (fun b t => xOK l Dg clz tys cA flz ftz base adS GWz xyz xcz xnz xrz Ex codez bmz bpz b t) 2 216 1024 codez_430 :=
  And.intro (anz_428 Hy) (anz_429 Hy)
theorem anz_431 (Hy : Hyz tys cA base adS Ex) : xall (fun b t => xOK l Dg clz tys cA flz ftz base adS GWz xyz xcz xnz xrz Ex codez bmz bpz b t) 1 728 2048 codez_431 :=
  And.intro (okz_728 Hy) (okzz 2776)
theorem anz_432 (Hy : Hyz tys cA base adS Ex) : xall (fun b t => xOK l Dg clz tys cA flz ftz base adS GWz xyz xcz xnz xrz Ex codez bmz bpz b t) 1 1752 2048 codez_432 :=
  And.intro (okz_1752 Hy) (okzz 3800)
theorem anz_433 (Hy : Hyz tys cA base adS Ex) : xall (fun b t => xOK l Dg clz tys cA flz ftz base adS GWz xyz xcz xnz xrz Ex codez bmz bpz b t) 2 728 1024 codez_433 :=
  And.intro (anz_431 Hy) (anz_432 Hy)
theorem anz_434 (Hy : Hyz tys cA base adS Ex) : xall (fun b t => xOK l Dg clz tys cA flz ftz base adS GWz xyz xcz xnz xrz Ex codez bmz bpz b t) 3 216 512 codez_434 :=
  And.intro (anz_430 Hy) (anz_433 Hy)
theorem anz_435 (Hy : Hyz tys cA base adS Ex) : xall (fun b t => xOK l Dg clz tys cA flz ftz base adS GWz xyz xcz xnz xrz Ex codez bmz bpz b t) 1 472 2048 codez_435 :=
  And.intro (okz_472 Hy) (okz_2520 Hy)
theorem anz_436 (Hy : Hyz tys cA base adS Ex) : xall (fun b t => xOK l Dg clz tys cA flz ftz base adS GWz xyz xcz xnz xrz Ex codez bmz bpz b t) 1 1496 2048 codez_436 :=
  And.intro (okz_1496 Hy) (okzz 3544)
theorem anz_437 (Hy : Hyz tys cA base adS Ex) : xall (fun b t => xOK l Dg clz tys cA flz ftz base adS GWz xyz xcz xnz xrz Ex codez bmz bpz b t) 2 472 1024 codez_437 :=
  And.intro (anz_435 Hy) (anz_436 Hy)
theorem anz_438 (Hy : Hyz tys cA base adS Ex) : xall (fun b t => xOK l Dg clz tys cA flz ftz base adS GWz xyz xcz xnz xrz Ex codez bmz bpz b t) 1 984 2048 codez_438 :=
  And.intro (okz_984 Hy) (okzz 3032)
theorem anz_439 (Hy : Hyz tys cA base adS Ex) : xall (fun b t => xOK l Dg clz tys cA flz ftz base adS GWz xyz xcz xnz xrz Ex codez bmz bpz b t) 1 2008 2048 codez_439 :=
  And.intro (okz_2008 Hy) (okzz 4056)
theorem anz_440 (Hy : Hyz tys cA base adS Ex) : xall (fun b t => xOK l Dg clz tys cA flz ftz base adS GWz xyz xcz xnz xrz Ex codez bmz bpz b t) 2 984 1024 codez_440 :=
  And.intro (anz_438 Hy) (anz_439 Hy)
theorem anz_441 (Hy : Hyz tys cA base adS Ex) : xall (fun b t => xOK l Dg clz tys cA flz ftz base adS GWz xyz xcz xnz xrz Ex codez bmz bpz b t) 3 472 512 codez_441 :=
  And.intro (anz_437 Hy) (anz_440 Hy)
theorem anz_442 (Hy : Hyz tys cA base adS Ex) : xall (fun b t => xOK l Dg clz tys cA flz ftz base adS GWz xyz xcz xnz xrz Ex codez bmz bpz b t) 4 216 256 codez_442 :=
  And.intro (anz_434 Hy) (anz_441 Hy)
theorem anz_443 (Hy : Hyz tys cA base adS Ex) : xall (fun b t => xOK l Dg clz tys cA flz ftz base adS GWz xyz xcz xnz xrz Ex codez bmz bpz b t) 5 88 128 codez_443 :=
  And.intro (anz_427 Hy) (anz_442 Hy)
theorem anz_444 (Hy : Hyz tys cA base adS Ex) : xall (fun b t => xOK l Dg clz tys cA flz ftz base adS GWz xyz xcz xnz xrz Ex codez bmz bpz b t) 6 24 64 codez_444 :=
  And.intro (anz_412 Hy) (anz_443 Hy)
theorem anz_445 (Hy : Hyz tys cA base adS Ex) : xall (fun b t => xOK l Dg clz tys cA flz ftz base adS GWz xyz xcz xnz xrz Ex codez bmz bpz b t) 1 56 2048 codez_445 :=
  And.intro (okz_56 Hy) (okz_2104 Hy)
theorem anz_446 (Hy : Hyz tys cA base adS Ex) : xall (fun b t => xOK l Dg clz tys cA flz ftz base adS GWz xyz xcz xnz xrz Ex codez bmz bpz b t) 1 1080 2048 codez_446 :=
  And.intro (okz_1080 Hy) (okzz 3128)
theorem anz_447 (Hy : Hyz tys cA base adS Ex) : xall (fun b t => xOK l Dg clz tys cA flz ftz base adS GWz xyz xcz xnz xrz Ex codez bmz bpz b t) 2 56 1024 codez_447 :=
  And.intro (anz_445 Hy) (anz_446 Hy)
theorem anz_448 (Hy : Hyz tys cA base adS Ex) : xall (fun b t => xOK l Dg clz tys cA flz ftz base adS GWz xyz xcz xnz xrz Ex codez bmz bpz b t) 1 568 2048 codez_448 :=
  And.intro (okz_568 Hy) (okzz 2616)
theorem anz_449 (Hy : Hyz tys cA base adS Ex) : xall (fun b t => xOK l Dg clz tys cA flz ftz base adS GWz xyz xcz xnz xrz Ex codez bmz bpz b t) 1 1592 2048 codez_449 :=
  And.intro (okz_1592 Hy) (okzz 3640)
theorem anz_450 (Hy : Hyz tys cA base adS Ex) : xall (fun b t => xOK l Dg clz tys cA flz ftz base adS GWz xyz xcz xnz xrz Ex codez bmz bpz b t) 2 568 1024 codez_450 :=
  And.intro (anz_448 Hy) (anz_449 Hy)
theorem anz_451 (Hy : Hyz tys cA base adS Ex) : xall (fun b t => xOK l Dg clz tys cA flz ftz base adS GWz xyz xcz xnz xrz Ex codez bmz bpz b t) 3 56 512 codez_451 :=
  And.intro (anz_447 Hy) (anz_450 Hy)
theorem anz_452 (Hy : Hyz tys cA base adS Ex) : xall (fun b t => xOK l Dg clz tys cA flz ftz base adS GWz xyz xcz xnz xrz Ex codez bmz bpz b t) 1 312 2048 codez_452 :=
  And.intro (okz_312 Hy) (okz_2360 Hy)
theorem anz_453 (Hy : Hyz tys cA base adS Ex) : xall (fun b t => xOK l Dg clz tys cA flz ftz base adS GWz xyz xcz xnz xrz Ex codez bmz bpz b t) 1 1336 2048 codez_453 :=
  And.intro (okz_1336 Hy) (okzz 3384)
theorem anz_454 (Hy : Hyz tys cA base adS Ex) : xall (fun b t => xOK l Dg clz tys cA flz ftz base adS GWz xyz xcz xnz xrz Ex codez bmz bpz b t) 2 312 1024 codez_454 :=
  And.intro (anz_452 Hy) (anz_453 Hy)
theorem anz_455 (Hy : Hyz tys cA base adS Ex) : xall (fun b t => xOK l Dg clz tys cA flz ftz base adS GWz xyz xcz xnz xrz Ex codez bmz bpz b t) 1 824 2048 codez_455 :=
  And.intro (okz_824 Hy) (okzz 2872)
theorem anz_456 (Hy : Hyz tys cA base adS Ex) : xall (fun b t => xOK l Dg clz tys cA flz ftz base adS GWz xyz xcz xnz xrz Ex codez bmz bpz b t) 1 1848 2048 codez_456 :=
  And.intro (okz_1848 Hy) (okzz 3896)
theorem anz_457 (Hy : Hyz tys cA base adS Ex) : xall (fun b t => xOK l Dg clz tys cA flz ftz base adS GWz xyz xcz xnz xrz Ex codez bmz bpz b t) 2 824 1024 codez_457 :=
  And.intro (anz_455 Hy) (anz_456 Hy)
theorem anz_458 (Hy : Hyz tys cA base adS Ex) : xall (fun b t => xOK l Dg clz tys cA flz ftz base adS GWz xyz xcz xnz xrz Ex codez bmz bpz b t) 3 312 512 codez_458 :=
  And.intro (anz_454 Hy) (anz_457 Hy)
theorem anz_459 (Hy : Hyz tys cA base adS Ex) : xall (fun b t => xOK l Dg clz tys cA flz ftz base adS GWz xyz xcz xnz xrz Ex codez bmz bpz b t) 4 56 256 codez_459 :=
  And.intro (anz_451 Hy) (anz_458 Hy)
theorem anz_460 (Hy : Hyz tys cA base adS Ex) : xall (fun b t => xOK l Dg clz tys cA flz ftz base adS GWz xyz xcz xnz xrz Ex codez bmz bpz b t) 1 184 2048 codez_460 :=
  And.intro (okz_184 Hy) (okz_2232 Hy)
theorem anz_461 (Hy : Hyz tys cA base adS Ex) : xall (fun b t => xOK l Dg clz tys cA flz ftz base adS GWz xyz xcz xnz xrz Ex codez bmz bpz b t) 1 1208 2048 codez_461 :=
  And.intro (okz_1208 Hy) (okzz 3256)
theorem anz_462 (Hy : Hyz tys cA base adS Ex) : xall (fun b t => xOK l Dg clz tys cA flz ftz base adS GWz xyz xcz xnz xrz Ex codez bmz bpz b t) 2 184 1024 codez_462 :=
  And.intro (anz_460 Hy) (anz_461 Hy)
theorem anz_463 (Hy : Hyz tys cA base adS Ex) : xall (fun b t => xOK l Dg clz tys cA flz ftz base adS GWz xyz xcz xnz xrz Ex codez bmz bpz b t) 1 696 2048 codez_463 :=
  And.intro (okz_696 Hy) (okzz 2744)
theorem anz_464 (Hy : Hyz tys cA base adS Ex) : xall (fun b t => xOK l Dg clz tys cA flz ftz base adS GWz xyz xcz xnz xrz Ex codez bmz bpz b t) 1 1720 2048 codez_464 :=
  And.intro (okz_1720 Hy) (okzz 3768)
theorem anz_465 (Hy : Hyz tys cA base adS Ex) : xall (fun b t => xOK l Dg clz tys cA flz ftz base adS GWz xyz xcz xnz xrz Ex codez bmz bpz b t) 2 696 1024 codez_465 :=
  And.intro (anz_463 Hy) (anz_464 Hy)
theorem anz_466 (Hy : Hyz tys cA base adS Ex) : xall (fun b t => xOK l Dg clz tys cA flz ftz base adS GWz xyz xcz xnz xrz Ex codez bmz bpz b t) 3 184 512 codez_466 :=
  And.intro (anz_462 Hy) (anz_465 Hy)
theorem anz_467 (Hy : Hyz tys cA base adS Ex) : xall (fun b t => xOK l Dg clz tys cA flz ftz base adS GWz xyz xcz xnz xrz Ex codez bmz bpz b t) 1 440 2048 codez_467 :=
  And.intro (okz_440 Hy) (okz_2488 Hy)
theorem anz_468 (Hy : Hyz tys cA base adS Ex) : xall (fun b t => xOK l Dg clz tys cA flz ftz base adS GWz xyz xcz xnz xrz Ex codez bmz bpz b t) 1 1464 2048 codez_468 :=
  And.intro (okz_1464 Hy) (okzz 3512)
theorem anz_469 (Hy : Hyz tys cA base adS Ex) : xall (fun b t => xOK l Dg clz tys cA flz ftz base adS GWz xyz xcz xnz xrz Ex codez bmz bpz b t) 2 440 1024 codez_469 :=
  And.intro (anz_467 Hy) (anz_468 Hy)
theorem anz_470 (Hy : Hyz tys cA base adS Ex) : xall (fun b t => xOK l Dg clz tys cA flz ftz base adS GWz xyz xcz xnz xrz Ex codez bmz bpz b t) 1 952 2048 codez_470 :=
  And.intro (okz_952 Hy) (okzz 3000)
theorem anz_471 (Hy : Hyz tys cA base adS Ex) : xall (fun b t => xOK l Dg clz tys cA flz ftz base adS GWz xyz xcz xnz xrz Ex codez bmz bpz b t) 1 1976 2048 codez_471 :=
  And.intro (okz_1976 Hy) (okzz 4024)
theorem anz_472 (Hy : Hyz tys cA base adS Ex) : xall (fun b t => xOK l Dg clz tys cA flz ftz base adS GWz xyz xcz xnz xrz Ex codez bmz bpz b t) 2 952 1024 codez_472 :=
  And.intro (anz_470 Hy) (anz_471 Hy)
theorem anz_473 (Hy : Hyz tys cA base adS Ex) : xall (fun b t => xOK l Dg clz tys cA flz ftz base adS GWz xyz xcz xnz xrz Ex codez bmz bpz b t) 3 440 512 codez_473 :=
  And.intro (anz_469 Hy) (anz_472 Hy)
theorem anz_474 (Hy : Hyz tys cA base adS Ex) : xall (fun b t => xOK l Dg clz tys cA flz ftz base adS GWz xyz xcz xnz xrz Ex codez bmz bpz b t) 4 184 256 codez_474 :=
  And.intro (anz_466 Hy) (anz_473 Hy)
theorem anz_475 (Hy : Hyz tys cA base adS Ex) : xall (fun b t => xOK l Dg clz tys cA flz ftz base adS GWz xyz xcz xnz xrz Ex codez bmz bpz b t) 5 56 128 codez_475 :=
  And.intro (anz_459 Hy) (anz_474 Hy)
theorem anz_476 (Hy : Hyz tys cA base adS Ex) : xall (fun b t => xOK l Dg clz tys cA flz ftz base adS GWz xyz xcz xnz xrz Ex codez bmz bpz b t) 1 120 2048 codez_476 :=
  And.intro (okz_120 Hy) (okz_2168 Hy)
theorem anz_477 (Hy : Hyz tys cA base adS Ex) : xall (fun b t => xOK l Dg clz tys cA flz ftz base adS GWz xyz xcz xnz xrz Ex codez bmz bpz b t) 1 1144 2048 codez_477 :=
  And.intro (okz_1144 Hy) (okzz 3192)
theorem anz_478 (Hy : Hyz tys cA base adS Ex) : xall (fun b t => xOK l Dg clz tys cA flz ftz base adS GWz xyz xcz xnz xrz Ex codez bmz bpz b t) 2 120 1024 codez_478 :=
  And.intro (anz_476 Hy) (anz_477 Hy)
theorem anz_479 (Hy : Hyz tys cA base adS Ex) : xall (fun b t => xOK l Dg clz tys cA flz ftz base adS GWz xyz xcz xnz xrz Ex codez bmz bpz b t) 1 632 2048 codez_479 :=
  And.intro (okz_632 Hy) (okzz 2680)
theorem anz_480 (Hy : Hyz tys cA base adS Ex) : xall (fun b t => xOK l Dg clz tys cA flz ftz base adS GWz xyz xcz xnz xrz Ex codez bmz bpz b t) 1 1656 2048 codez_480 :=
  And.intro (okz_1656 Hy) (okzz 3704)
theorem anz_481 (Hy : Hyz tys cA base adS Ex) : xall (fun b t => xOK l Dg clz tys cA flz ftz base adS GWz xyz xcz xnz xrz Ex codez bmz bpz b t) 2 632 1024 codez_481 :=
  And.intro (anz_479 Hy) (anz_480 Hy)
theorem anz_482 (Hy : Hyz tys cA base adS Ex) : xall (fun b t => xOK l Dg clz tys cA flz ftz base adS GWz xyz xcz xnz xrz Ex codez bmz bpz b t) 3 120 512 codez_482 :=
  And.intro (anz_478 Hy) (anz_481 Hy)
theorem anz_483 (Hy : Hyz tys cA base adS Ex) : xall (fun b t => xOK l Dg clz tys cA flz ftz base adS GWz xyz xcz xnz xrz Ex codez bmz bpz b t) 1 376 2048 codez_483 :=
  And.intro (okz_376 Hy) (okz_2424 Hy)
theorem anz_484 (Hy : Hyz tys cA base adS Ex) : xall (fun b t => xOK l Dg clz tys cA flz ftz base adS GWz xyz xcz xnz xrz Ex codez bmz bpz b t) 1 1400 2048 codez_484 :=
  And.intro (okz_1400 Hy) (okzz 3448)
theorem anz_485 (Hy : Hyz tys cA base adS Ex) : xall (fun b t => xOK l Dg clz tys cA flz ftz base adS GWz xyz xcz xnz xrz Ex codez bmz bpz b t) 2 376 1024 codez_485 :=
  And.intro (anz_483 Hy) (anz_484 Hy)
theorem anz_486 (Hy : Hyz tys cA base adS Ex) : xall (fun b t => xOK l Dg clz tys cA flz ftz base adS GWz xyz xcz xnz xrz Ex codez bmz bpz b t) 1 888 2048 codez_486 :=
  And.intro (okz_888 Hy) (okzz 2936)
theorem anz_487 (Hy : Hyz tys cA base adS Ex) : xall (fun b t => xOK l Dg clz tys cA flz ftz base adS GWz xyz xcz xnz xrz Ex codez bmz bpz b t) 1 1912 2048 codez_487 :=
  And.intro (okz_1912 Hy) (okzz 3960)
theorem anz_488 (Hy : Hyz tys cA base adS Ex) : xall (fun b t => xOK l Dg clz tys cA flz ftz base adS GWz xyz xcz xnz xrz Ex codez bmz bpz b t) 2 888 1024 codez_488 :=
  And.intro (anz_486 Hy) (anz_487 Hy)
theorem anz_489 (Hy : Hyz tys cA base adS Ex) : xall (fun b t => xOK l Dg clz tys cA flz ftz base adS GWz xyz xcz xnz xrz Ex codez bmz bpz b t) 3 376 512 codez_489 :=
  And.intro (anz_485 Hy) (anz_488 Hy)
theorem anz_490 (Hy : Hyz tys cA base adS Ex) : xall (fun b t => xOK l Dg clz tys cA flz ftz base adS GWz xyz xcz xnz xrz Ex codez bmz bpz b t) 4 120 256 codez_490 :=
  And.intro (anz_482 Hy) (anz_489 Hy)
theorem anz_491 (Hy : Hyz tys cA base adS Ex) : xall (fun b t => xOK l Dg clz tys cA flz ftz base adS GWz xyz xcz xnz xrz Ex codez bmz bpz b t) 1 248 2048 codez_491 :=
  And.intro (okz_248 Hy) (okz_2296 Hy)
theorem anz_492 (Hy : Hyz tys cA base adS Ex) : xall (fun b t => xOK l Dg clz tys cA flz ftz base adS GWz xyz xcz xnz xrz Ex codez bmz bpz b t) 1 1272 2048 codez_492 :=
  And.intro (okz_1272 Hy) (okzz 3320)
theorem anz_493 (Hy : Hyz tys cA base adS Ex) : xall (fun b t => xOK l Dg clz tys cA flz ftz base adS GWz xyz xcz xnz xrz Ex codez bmz bpz b t) 2 248 1024 codez_493 :=
  And.intro (anz_491 Hy) (anz_492 Hy)
theorem anz_494 (Hy : Hyz tys cA base adS Ex) : xall (fun b t => xOK l Dg clz tys cA flz ftz base adS GWz xyz xcz xnz xrz Ex codez bmz bpz b t) 1 760 2048 codez_494 :=
  And.intro (okz_760 Hy) (okzz 2808)
theorem anz_495 (Hy : Hyz tys cA base adS Ex) : xall (fun b t => xOK l Dg clz tys cA flz ftz base adS GWz xyz xcz xnz xrz Ex codez bmz bpz b t) 1 1784 2048 codez_495 :=
  And.intro (okz_1784 Hy) (okzz 3832)
theorem anz_496 (Hy : Hyz tys cA base adS Ex) : xall (fun b t => xOK l Dg clz tys cA flz ftz base adS GWz xyz xcz xnz xrz Ex codez bmz bpz b t) 2 760 1024 codez_496 :=
  And.intro (anz_494 Hy) (anz_495 Hy)
theorem anz_497 (Hy : Hyz tys cA base adS Ex) : xall (fun b t => xOK l Dg clz tys cA flz ftz base adS GWz xyz xcz xnz xrz Ex codez bmz bpz b t) 3 248 512 codez_497 :=
  And.intro (anz_493 Hy) (anz_496 Hy)
theorem anz_498 (Hy : Hyz tys cA base adS Ex) : xall (fun b t => xOK l Dg clz tys cA flz ftz base adS GWz xyz xcz xnz xrz Ex codez bmz bpz b t) 1 504 2048 codez_498 :=
  And.intro (okz_504 Hy) (okzz 2552)
theorem anz_499 (Hy : Hyz tys cA base adS Ex) : xall (fun b t => xOK l Dg clz tys cA flz ftz base adS GWz xyz xcz xnz xrz Ex codez bmz bpz b t) 1 1528 2048 codez_499 :=
  And.intro (okz_1528 Hy) (okzz 3576)
theorem anz_500 (Hy : Hyz tys cA base adS Ex) : xall (fun b t => xOK l Dg clz tys cA flz ftz base adS GWz xyz xcz xnz xrz Ex codez bmz bpz b t) 2 504 1024 codez_500 :=
  And.intro (anz_498 Hy) (anz_499 Hy)
theorem anz_501 (Hy : Hyz tys cA base adS Ex) : xall (fun b t => xOK l Dg clz tys cA flz ftz base adS GWz xyz xcz xnz xrz Ex codez bmz bpz b t) 1 1016 2048 codez_501 :=
  And.intro (okz_1016 Hy) (okzz 3064)
theorem anz_502 (Hy : Hyz tys cA base adS Ex) : xall (fun b t => xOK l Dg clz tys cA flz ftz base adS GWz xyz xcz xnz xrz Ex codez bmz bpz b t) 1 2040 2048 codez_502 :=
  And.intro (okz_2040 Hy) (okzz 4088)
theorem anz_503 (Hy : Hyz tys cA base adS Ex) : xall (fun b t => xOK l Dg clz tys cA flz ftz base adS GWz xyz xcz xnz xrz Ex codez bmz bpz b t) 2 1016 1024 codez_503 :=
  And.intro (anz_501 Hy) (anz_502 Hy)
theorem anz_504 (Hy : Hyz tys cA base adS Ex) : xall (fun b t => xOK l Dg clz tys cA flz ftz base adS GWz xyz xcz xnz xrz Ex codez bmz bpz b t) 3 504 512 codez_504 :=
  And.intro (anz_500 Hy) (anz_503 Hy)
theorem anz_505 (Hy : Hyz tys cA base adS Ex) : xall (fun b t => xOK l Dg clz tys cA flz ftz base adS GWz xyz xcz xnz xrz Ex codez bmz bpz b t) 4 248 256 codez_505 :=
  And.intro (anz_497 Hy) (anz_504 Hy)
theorem anz_506 (Hy : Hyz tys cA base adS Ex) : xall (fun b t => xOK l Dg clz tys cA flz ftz base adS GWz xyz xcz xnz xrz Ex codez bmz bpz b t) 5 120 128 codez_506 :=
  And.intro (anz_490 Hy) (anz_505 Hy)
theorem anz_507 (Hy : Hyz tys cA base adS Ex) : xall (fun b t => xOK l Dg clz tys cA flz ftz base adS GWz xyz xcz xnz xrz Ex codez bmz bpz b t) 6 56 64 codez_507 :=
  And.intro (anz_475 Hy) (anz_506 Hy)
theorem anz_508 (Hy : Hyz tys cA base adS Ex) : xall (fun b t => xOK l Dg clz tys cA flz ftz base adS GWz xyz xcz xnz xrz Ex codez bmz bpz b t) 7 24 32 codez_508 :=
  And.intro (anz_444 Hy) (anz_507 Hy)
theorem anz_509 (Hy : Hyz tys cA base adS Ex) : xall (fun b t => xOK l Dg clz tys cA flz ftz base adS GWz xyz xcz xnz xrz Ex codez bmz bpz b t) 8 8 16 codez_509 :=
  And.intro (anz_381 Hy) (anz_508 Hy)
theorem anz_510 (Hy : Hyz tys cA base adS Ex) : xall (fun b t => xOK l Dg clz tys cA flz ftz base adS GWz xyz xcz xnz xrz Ex codez bmz bpz b t) 9 0 8 codez_510 :=
  And.intro (anz_254 Hy) (anz_509 Hy)
theorem anz_511 (Hy : Hyz tys cA base adS Ex) : xall (fun b t => xOK l Dg clz tys cA flz ftz base adS GWz xyz xcz xnz xrz Ex codez bmz bpz b t) 1 4 2048 codez_511 :=
  And.intro (okz_4 Hy) (okz_2052 Hy)
theorem anz_512 (Hy : Hyz tys cA base adS Ex) : xall (fun b t => xOK l Dg clz tys cA flz ftz base adS GWz xyz xcz xnz xrz Ex codez bmz bpz b t) 1 1028 2048 codez_512 :=
  And.intro (okz_1028 Hy) (okzz 3076)
theorem anz_513 (Hy : Hyz tys cA base adS Ex) : xall (fun b t => xOK l Dg clz tys cA flz ftz base adS GWz xyz xcz xnz xrz Ex codez bmz bpz b t) 2 4 1024 codez_513 :=
  And.intro (anz_511 Hy) (anz_512 Hy)
theorem anz_514 (Hy : Hyz tys cA base adS Ex) : xall (fun b t => xOK l Dg clz tys cA flz ftz base adS GWz xyz xcz xnz xrz Ex codez bmz bpz b t) 1 516 2048 codez_514 :=
  And.intro (okz_516 Hy) (okzz 2564)
theorem anz_515 (Hy : Hyz tys cA base adS Ex) : xall (fun b t => xOK l Dg clz tys cA flz ftz base adS GWz xyz xcz xnz xrz Ex codez bmz bpz b t) 1 1540 2048 codez_515 :=
  And.intro (okz_1540 Hy) (okzz 3588)
theorem anz_516 (Hy : Hyz tys cA base adS Ex) : xall (fun b t => xOK l Dg clz tys cA flz ftz base adS GWz xyz xcz xnz xrz Ex codez bmz bpz b t) 2 516 1024 codez_516 :=
  And.intro (anz_514 Hy) (anz_515 Hy)
theorem anz_517 (Hy : Hyz tys cA base adS Ex) : xall (fun b t => xOK l Dg clz tys cA flz ftz base adS GWz xyz xcz xnz xrz Ex codez bmz bpz b t) 3 4 512 codez_517 :=
  And.intro (anz_513 Hy) (anz_516 Hy)
theorem anz_518 (Hy : Hyz tys cA base adS Ex) : xall (fun b t => xOK l Dg clz tys cA flz ftz base adS GWz xyz xcz xnz xrz Ex codez bmz bpz b t) 1 260 2048 codez_518 :=
  And.intro (okz_260 Hy) (okz_2308 Hy)
theorem anz_519 (Hy : Hyz tys cA base adS Ex) : xall (fun b t => xOK l Dg clz tys cA flz ftz base adS GWz xyz xcz xnz xrz Ex codez bmz bpz b t) 1 1284 2048 codez_519 :=
  And.intro (okz_1284 Hy) (okzz 3332)
theorem anz_520 (Hy : Hyz tys cA base adS Ex) : xall (fun b t => xOK l Dg clz tys cA flz ftz base adS GWz xyz xcz xnz xrz Ex codez bmz bpz b t) 2 260 1024 codez_520 :=
  And.intro (anz_518 Hy) (anz_519 Hy)
theorem anz_521 (Hy : Hyz tys cA base adS Ex) : xall (fun b t => xOK l Dg clz tys cA flz ftz base adS GWz xyz xcz xnz xrz Ex codez bmz bpz b t) 1 772 2048 codez_521 :=
  And.intro (okz_772 Hy) (okzz 2820)
theorem anz_522 (Hy : Hyz tys cA base adS Ex) : xall (fun b t => xOK l Dg clz tys cA flz ftz base adS GWz xyz xcz xnz xrz Ex codez bmz bpz b t) 1 1796 2048 codez_522 :=
  And.intro (okz_1796 Hy) (okzz 3844)
theorem anz_523 (Hy : Hyz tys cA base adS Ex) : xall (fun b t => xOK l Dg clz tys cA flz ftz base adS GWz xyz xcz xnz xrz Ex codez bmz bpz b t) 2 772 1024 codez_523 :=
  And.intro (anz_521 Hy) (anz_522 Hy)
theorem anz_524 (Hy : Hyz tys cA base adS Ex) : xall (fun b t => xOK l Dg clz tys cA flz ftz base adS GWz xyz xcz xnz xrz Ex codez bmz bpz b t) 3 260 512 codez_524 :=
  And.intro (anz_520 Hy) (anz_523 Hy)
theorem anz_525 (Hy : Hyz tys cA base adS Ex) : xall (fun b t => xOK l Dg clz tys cA flz ftz base adS GWz xyz xcz xnz xrz Ex codez bmz bpz b t) 4 4 256 codez_525 :=
  And.intro (anz_517 Hy) (anz_524 Hy)
theorem anz_526 (Hy : Hyz tys cA base adS Ex) : xall (fun b t => xOK l Dg clz tys cA flz ftz base adS GWz xyz xcz xnz xrz Ex codez bmz bpz b t) 1 132 2048 codez_526 :=
  And.intro (okz_132 Hy) (okz_2180 Hy)
theorem anz_527 (Hy : Hyz tys cA base adS Ex) : xall (fun b t => xOK l Dg clz tys cA flz ftz base adS GWz xyz xcz xnz xrz Ex codez bmz bpz b t) 1 1156 2048 codez_527 :=
  And.intro (okz_1156 Hy) (okzz 3204)
theorem anz_528 (Hy : Hyz tys cA base adS Ex) : xall (fun b t => xOK l Dg clz tys cA flz ftz base adS GWz xyz xcz xnz xrz Ex codez bmz bpz b t) 2 132 1024 codez_528 :=
  And.intro (anz_526 Hy) (anz_527 Hy)
theorem anz_529 (Hy : Hyz tys cA base adS Ex) : xall (fun b t => xOK l Dg clz tys cA flz ftz base adS GWz xyz xcz xnz xrz Ex codez bmz bpz b t) 1 644 2048 codez_529 :=
  And.intro (okz_644 Hy) (okzz 2692)
theorem anz_530 (Hy : Hyz tys cA base adS Ex) : xall (fun b t => xOK l Dg clz tys cA flz ftz base adS GWz xyz xcz xnz xrz Ex codez bmz bpz b t) 1 1668 2048 codez_530 :=
  And.intro (okz_1668 Hy) (okzz 3716)
theorem anz_531 (Hy : Hyz tys cA base adS Ex) : xall (fun b t => xOK l Dg clz tys cA flz ftz base adS GWz xyz xcz xnz xrz Ex codez bmz bpz b t) 2 644 1024 codez_531 :=
  And.intro (anz_529 Hy) (anz_530 Hy)
theorem anz_532 (Hy : Hyz tys cA base adS Ex) : xall (fun b t => xOK l Dg clz tys cA flz ftz base adS GWz xyz xcz xnz xrz Ex codez bmz bpz b t) 3 132 512 codez_532 :=
  And.intro (anz_528 Hy) (anz_531 Hy)
theorem anz_533 (Hy : Hyz tys cA base adS Ex) : xall (fun b t => xOK l Dg clz tys cA flz ftz base adS GWz xyz xcz xnz xrz Ex codez bmz bpz b t) 1 388 2048 codez_533 :=
  And.intro (okz_388 Hy) (okz_2436 Hy)
theorem anz_534 (Hy : Hyz tys cA base adS Ex) : xall (fun b t => xOK l Dg clz tys cA flz ftz base adS GWz xyz xcz xnz xrz Ex codez bmz bpz b t) 1 1412 2048 codez_534 :=
  And.intro (okz_1412 Hy) (okzz 3460)
theorem anz_535 (Hy : Hyz tys cA base adS Ex) : xall (fun b t => xOK l Dg clz tys cA flz ftz base adS GWz xyz xcz xnz xrz Ex codez bmz bpz b t) 2 388 1024 codez_535 :=
  And.intro (anz_533 Hy) (anz_534 Hy)
theorem anz_536 (Hy : Hyz tys cA base adS Ex) : xall (fun b t => xOK l Dg clz tys cA flz ftz base adS GWz xyz xcz xnz xrz Ex codez bmz bpz b t) 1 900 2048 codez_536 :=
  And.intro (okz_900 Hy) (okzz 2948)
theorem anz_537 (Hy : Hyz tys cA base adS Ex) : xall (fun b t => xOK l Dg clz tys cA flz ftz base adS GWz xyz xcz xnz xrz Ex codez bmz bpz b t) 1 1924 2048 codez_537 :=
  And.intro (okz_1924 Hy) (okzz 3972)
theorem anz_538 (Hy : Hyz tys cA base adS Ex) : xall (fun b t => xOK l Dg clz tys cA flz ftz base adS GWz xyz xcz xnz xrz Ex codez bmz bpz b t) 2 900 1024 codez_538 :=
  And.intro (anz_536 Hy) (anz_537 Hy)
theorem anz_539 (Hy : Hyz tys cA base adS Ex) : xall (fun b t => xOK l Dg clz tys cA flz ftz base adS GWz xyz xcz xnz xrz Ex codez bmz bpz b t) 3 388 512 codez_539 :=
  And.intro (anz_535 Hy) (anz_538 Hy)
theorem anz_540 (Hy : Hyz tys cA base adS Ex) : xall (fun b t => xOK l Dg clz tys cA flz ftz base adS GWz xyz xcz xnz xrz Ex codez bmz bpz b t) 4 132 256 codez_540 :=
  And.intro (anz_532 Hy) (anz_539 Hy)
theorem anz_541 (Hy : Hyz tys cA base adS Ex) : xall (fun b t => xOK l Dg clz tys cA flz ftz base adS GWz xyz xcz xnz xrz Ex codez bmz bpz b t) 5 4 128 codez_541 :=
  And.intro (anz_525 Hy) (anz_540 Hy)
theorem anz_542 (Hy : Hyz tys cA base adS Ex) : xall (fun b t => xOK l Dg clz tys cA flz ftz base adS GWz xyz xcz xnz xrz Ex codez bmz bpz b t) 1 68 2048 codez_542 :=
  And.intro (okz_68 Hy) (okz_2116 Hy)
theorem anz_543 (Hy : Hyz tys cA base adS Ex) : xall (fun b t => xOK l Dg clz tys cA flz ftz base adS GWz xyz xcz xnz xrz Ex codez bmz bpz b t) 1 1092 2048 codez_543 :=
  And.intro (okz_1092 Hy) (okzz 3140)
theorem anz_544 (Hy : Hyz tys cA base adS Ex) : xall (fun b t => xOK l Dg clz tys cA flz ftz base adS GWz xyz xcz xnz xrz Ex codez bmz bpz b t) 2 68 1024 codez_544 :=
  And.intro (anz_542 Hy) (anz_543 Hy)
theorem anz_545 (Hy : Hyz tys cA base adS Ex) : xall (fun b t => xOK l Dg clz tys cA flz ftz base adS GWz xyz xcz xnz xrz Ex codez bmz bpz b t) 1 580 2048 codez_545 :=
  And.intro (okz_580 Hy) (okzz 2628)
theorem anz_546 (Hy : Hyz tys cA base adS Ex) : xall (fun b t => xOK l Dg clz tys cA flz ftz base adS GWz xyz xcz xnz xrz Ex codez bmz bpz b t) 1 1604 2048 codez_546 :=
  And.intro (okz_1604 Hy) (okzz 3652)
theorem anz_547 (Hy : Hyz tys cA base adS Ex) : xall (fun b t => xOK l Dg clz tys cA flz ftz base adS GWz xyz xcz xnz xrz Ex codez bmz bpz b t) 2 580 1024 codez_547 :=
  And.intro (anz_545 Hy) (anz_546 Hy)
theorem anz_548 (Hy : Hyz tys cA base adS Ex) : xall (fun b t => xOK l Dg clz tys cA flz ftz base adS GWz xyz xcz xnz xrz Ex codez bmz bpz b t) 3 68 512 codez_548 :=
  And.intro (anz_544 Hy) (anz_547 Hy)
theorem anz_549 (Hy : Hyz tys cA base adS Ex) : xall (fun b t => xOK l Dg clz tys cA flz ftz base adS GWz xyz xcz xnz xrz Ex codez bmz bpz b t) 1 324 2048 codez_549 :=
  And.intro (okz_324 Hy) (okz_2372 Hy)
theorem anz_550 (Hy : Hyz tys cA base adS Ex) : xall (fun b t => xOK l Dg clz tys cA flz ftz base adS GWz xyz xcz xnz xrz Ex codez bmz bpz b t) 1 1348 2048 codez_550 :=
  And.intro (okz_1348 Hy) (okzz 3396)
theorem anz_551 (Hy : Hyz tys cA base adS Ex) : xall (fun b t => xOK l Dg clz tys cA flz ftz base adS GWz xyz xcz xnz xrz Ex codez bmz bpz b t) 2 324 1024 codez_551 :=
  And.intro (anz_549 Hy) (anz_550 Hy)
theorem anz_552 (Hy : Hyz tys cA base adS Ex) : xall (fun b t => xOK l Dg clz tys cA flz ftz base adS GWz xyz xcz xnz xrz Ex codez bmz bpz b t) 1 836 2048 codez_552 :=
  And.intro (okz_836 Hy) (okzz 2884)
theorem anz_553 (Hy : Hyz tys cA base adS Ex) : xall (fun b t => xOK l Dg clz tys cA flz ftz base adS GWz xyz xcz xnz xrz Ex codez bmz bpz b t) 1 1860 2048 codez_553 :=
  And.intro (okz_1860 Hy) (okzz 3908)
theorem anz_554 (Hy : Hyz tys cA base adS Ex) : xall (fun b t => xOK l Dg clz tys cA flz ftz base adS GWz xyz xcz xnz xrz Ex codez bmz bpz b t) 2 836 1024 codez_554 :=
  And.intro (anz_552 Hy) (anz_553 Hy)
theorem anz_555 (Hy : Hyz tys cA base adS Ex) : xall (fun b t => xOK l Dg clz tys cA flz ftz base adS GWz xyz xcz xnz xrz Ex codez bmz bpz b t) 3 324 512 codez_555 :=
  And.intro (anz_551 Hy) (anz_554 Hy)
theorem anz_556 (Hy : Hyz tys cA base adS Ex) : xall (fun b t => xOK l Dg clz tys cA flz ftz base adS GWz xyz xcz xnz xrz Ex codez bmz bpz b t) 4 68 256 codez_556 :=
  And.intro (anz_548 Hy) (anz_555 Hy)
theorem anz_557 (Hy : Hyz tys cA base adS Ex) : xall (fun b t => xOK l Dg clz tys cA flz ftz base adS GWz xyz xcz xnz xrz Ex codez bmz bpz b t) 1 196 2048 codez_557 :=
  And.intro (okz_196 Hy) (okz_2244 Hy)
theorem anz_558 (Hy : Hyz tys cA base adS Ex) : xall (fun b t => xOK l Dg clz tys cA flz ftz base adS GWz xyz xcz xnz xrz Ex codez bmz bpz b t) 1 1220 2048 codez_558 :=
  And.intro (okz_1220 Hy) (okzz 3268)
theorem anz_559 (Hy : Hyz tys cA base adS Ex) : xall (fun b t => xOK l Dg clz tys cA flz ftz base adS GWz xyz xcz xnz xrz Ex codez bmz bpz b t) 2 196 1024 codez_559 :=
  And.intro (anz_557 Hy) (anz_558 Hy)
theorem anz_560 (Hy : Hyz tys cA base adS Ex) : xall (fun b t => xOK l Dg clz tys cA flz ftz base adS GWz xyz xcz xnz xrz Ex codez bmz bpz b t) 1 708 2048 codez_560 :=
  And.intro (okz_708 Hy) (okzz 2756)
theorem anz_561 (Hy : Hyz tys cA base adS Ex) : xall (fun b t => xOK l Dg clz tys cA flz ftz base adS GWz xyz xcz xnz xrz Ex codez bmz bpz b t) 1 1732 2048 codez_561 :=
  And.intro (okz_1732 Hy) (okzz 3780)
theorem anz_562 (Hy : Hyz tys cA base adS Ex) : xall (fun b t => xOK l Dg clz tys cA flz ftz base adS GWz xyz xcz xnz xrz Ex codez bmz bpz b t) 2 708 1024 codez_562 :=
  And.intro (anz_560 Hy) (anz_561 Hy)
theorem anz_563 (Hy : Hyz tys cA base adS Ex) : xall (fun b t => xOK l Dg clz tys cA flz ftz base adS GWz xyz xcz xnz xrz Ex codez bmz bpz b t) 3 196 512 codez_563 :=
  And.intro (anz_559 Hy) (anz_562 Hy)
theorem anz_564 (Hy : Hyz tys cA base adS Ex) : xall (fun b t => xOK l Dg clz tys cA flz ftz base adS GWz xyz xcz xnz xrz Ex codez bmz bpz b t) 1 452 2048 codez_564 :=
  And.intro (okz_452 Hy) (okz_2500 Hy)
theorem anz_565 (Hy : Hyz tys cA base adS Ex) : xall (fun b t => xOK l Dg clz tys cA flz ftz base adS GWz xyz xcz xnz xrz Ex codez bmz bpz b t) 1 1476 2048 codez_565 :=
  And.intro (okz_1476 Hy) (okzz 3524)
theorem anz_566 (Hy : Hyz tys cA base adS Ex) : xall (fun b t => xOK l Dg clz tys cA flz ftz base adS GWz xyz xcz xnz xrz Ex codez bmz bpz b t) 2 452 1024 codez_566 :=
  And.intro (anz_564 Hy) (anz_565 Hy)
theorem anz_567 (Hy : Hyz tys cA base adS Ex) : xall (fun b t => xOK l Dg clz tys cA flz ftz base adS GWz xyz xcz xnz xrz Ex codez bmz bpz b t) 1 964 2048 codez_567 :=
  And.intro (okz_964 Hy) (okzz 3012)
theorem anz_568 (Hy : Hyz tys cA base adS Ex) : xall (fun b t => xOK l Dg clz tys cA flz ftz base adS GWz xyz xcz xnz xrz Ex codez bmz bpz b t) 1 1988 2048 codez_568 :=
  And.intro (okz_1988 Hy) (okzz 4036)
theorem anz_569 (Hy : Hyz tys cA base adS Ex) : xall (fun b t => xOK l Dg clz tys cA flz ftz base adS GWz xyz xcz xnz xrz Ex codez bmz bpz b t) 2 964 1024 codez_569 :=
  And.intro (anz_567 Hy) (anz_568 Hy)
theorem anz_570 (Hy : Hyz tys cA base adS Ex) : xall (fun b t => xOK l Dg clz tys cA flz ftz base adS GWz xyz xcz xnz xrz Ex codez bmz bpz b t) 3 452 512 codez_570 :=
  And.intro (anz_566 Hy) (anz_569 Hy)
theorem anz_571 (Hy : Hyz tys cA base adS Ex) : xall (fun b t => xOK l Dg clz tys cA flz ftz base adS GWz xyz xcz xnz xrz Ex codez bmz bpz b t) 4 196 256 codez_571 :=
  And.intro (anz_563 Hy) (anz_570 Hy)
theorem anz_572 (Hy : Hyz tys cA base adS Ex) : xall (fun b t => xOK l Dg clz tys cA flz ftz base adS GWz xyz xcz xnz xrz Ex codez bmz bpz b t) 5 68 128 codez_572 :=
  And.intro (anz_556 Hy) (anz_571 Hy)
theorem anz_573 (Hy : Hyz tys cA base adS Ex) : xall (fun b t => xOK l Dg clz tys cA flz ftz base adS GWz xyz xcz xnz xrz Ex codez bmz bpz b t) 6 4 64 codez_573 :=
  And.intro (anz_541 Hy) (anz_572 Hy)
theorem anz_574 (Hy : Hyz tys cA base adS Ex) : xall (fun b t => xOK l Dg clz tys cA flz ftz base adS GWz xyz xcz xnz xrz Ex codez bmz bpz b t) 1 36 2048 codez_574 :=
  And.intro (okz_36 Hy) (okz_2084 Hy)
theorem anz_575 (Hy : Hyz tys cA base adS Ex) : xall (fun b t => xOK l Dg clz tys cA flz ftz base adS GWz xyz xcz xnz xrz Ex codez bmz bpz b t) 1 1060 2048 codez_575 :=
  And.intro (okz_1060 Hy) (okzz 3108)
theorem anz_576 (Hy : Hyz tys cA base adS Ex) : xall (fun b t => xOK l Dg clz tys cA flz ftz base adS GWz xyz xcz xnz xrz Ex codez bmz bpz b t) 2 36 1024 codez_576 :=
  And.intro (anz_574 Hy) (anz_575 Hy)
theorem anz_577 (Hy : Hyz tys cA base adS Ex) : xall (fun b t => xOK l Dg clz tys cA flz ftz base adS GWz xyz xcz xnz xrz Ex codez bmz bpz b t) 1 548 2048 codez_577 :=
  And.intro (okz_548 Hy) (okzz 2596)
theorem anz_578 (Hy : Hyz tys cA base adS Ex) : xall (fun b t => xOK l Dg clz tys cA flz ftz base adS GWz xyz xcz xnz xrz Ex codez bmz bpz b t) 1 1572 2048 codez_578 :=
  And.intro (okz_1572 Hy) (okzz 3620)
theorem anz_579 (Hy : Hyz tys cA base adS Ex) : xall (fun b t => xOK l Dg clz tys cA flz ftz base adS GWz xyz xcz xnz xrz Ex codez bmz bpz b t) 2 548 1024 codez_579 :=
  And.intro (anz_577 Hy) (anz_578 Hy)
theorem anz_580 (Hy : Hyz tys cA base adS Ex) : xall (fun b t => xOK l Dg clz tys cA flz ftz base adS GWz xyz xcz xnz xrz Ex codez bmz bpz b t) 3 36 512 codez_580 :=
  And.intro (anz_576 Hy) (anz_579 Hy)
theorem anz_581 (Hy : Hyz tys cA base adS Ex) : xall (fun b t => xOK l Dg clz tys cA flz ftz base adS GWz xyz xcz xnz xrz Ex codez bmz bpz b t) 1 292 2048 codez_581 :=
  And.intro (okz_292 Hy) (okz_2340 Hy)
theorem anz_582 (Hy : Hyz tys cA base adS Ex) : xall (fun b t => xOK l Dg clz tys cA flz ftz base adS GWz xyz xcz xnz xrz Ex codez bmz bpz b t) 1 1316 2048 codez_582 :=
  And.intro (okz_1316 Hy) (okzz 3364)
theorem anz_583 (Hy : Hyz tys cA base adS Ex) : xall (fun b t => xOK l Dg clz tys cA flz ftz base adS GWz xyz xcz xnz xrz Ex codez bmz bpz b t) 2 292 1024 codez_583 :=
  And.intro (anz_581 Hy) (anz_582 Hy)
theorem anz_584 (Hy : Hyz tys cA base adS Ex) : xall (fun b t => xOK l Dg clz tys cA flz ftz base adS GWz xyz xcz xnz xrz Ex codez bmz bpz b t) 1 804 2048 codez_584 :=
  And.intro (okz_804 Hy) (okzz 2852)
theorem anz_585 (Hy : Hyz tys cA base adS Ex) : xall (fun b t => xOK l Dg clz tys cA flz ftz base adS GWz xyz xcz xnz xrz Ex codez bmz bpz b t) 1 1828 2048 codez_585 :=
  And.intro (okz_1828 Hy) (okzz 3876)
theorem anz_586 (Hy : Hyz tys cA base adS Ex) : xall (fun b t => xOK l Dg clz tys cA flz ftz base adS GWz xyz xcz xnz xrz Ex codez bmz bpz b t) 2 804 1024 codez_586 :=
  And.intro (anz_584 Hy) (anz_585 Hy)
theorem anz_587 (Hy : Hyz tys cA base adS Ex) : xall (fun b t => xOK l Dg clz tys cA flz ftz base adS GWz xyz xcz xnz xrz Ex codez bmz bpz b t) 3 292 512 codez_587 :=
  And.intro (anz_583 Hy) (anz_586 Hy)
theorem anz_588 (Hy : Hyz tys cA base adS Ex) : xall (fun b t => xOK l Dg clz tys cA flz ftz base adS GWz xyz xcz xnz xrz Ex codez bmz bpz b t) 4 36 256 codez_588 :=
  And.intro (anz_580 Hy) (anz_587 Hy)
theorem anz_589 (Hy : Hyz tys cA base adS Ex) : xall (fun b t => xOK l Dg clz tys cA flz ftz base adS GWz xyz xcz xnz xrz Ex codez bmz bpz b t) 1 164 2048 codez_589 :=
  And.intro (okz_164 Hy) (okz_2212 Hy)
theorem anz_590 (Hy : Hyz tys cA base adS Ex) : xall (fun b t => xOK l Dg clz tys cA flz ftz base adS GWz xyz xcz xnz xrz Ex codez bmz bpz b t) 1 1188 2048 codez_590 :=
  And.intro (okz_1188 Hy) (okzz 3236)
theorem anz_591 (Hy : Hyz tys cA base adS Ex) : xall (fun b t => xOK l Dg clz tys cA flz ftz base adS GWz xyz xcz xnz xrz Ex codez bmz bpz b t) 2 164 1024 codez_591 :=
  And.intro (anz_589 Hy) (anz_590 Hy)
theorem anz_592 (Hy : Hyz tys cA base adS Ex) : xall (fun b t => xOK l Dg clz tys cA flz ftz base adS GWz xyz xcz xnz xrz Ex codez bmz bpz b t) 1 676 2048 codez_592 :=
  And.intro (okz_676 Hy) (okzz 2724)
theorem anz_593 (Hy : Hyz tys cA base adS Ex) : xall (fun b t => xOK l Dg clz tys cA flz ftz base adS GWz xyz xcz xnz xrz Ex codez bmz bpz b t) 1 1700 2048 codez_593 :=
  And.intro (okz_1700 Hy) (okzz 3748)
theorem anz_594 (Hy : Hyz tys cA base adS Ex) : xall (fun b t => xOK l Dg clz tys cA flz ftz base adS GWz xyz xcz xnz xrz Ex codez bmz bpz b t) 2 676 1024 codez_594 :=
  And.intro (anz_592 Hy) (anz_593 Hy)
theorem anz_595 (Hy : Hyz tys cA base adS Ex) : xall (fun b t => xOK l Dg clz tys cA flz ftz base adS GWz xyz xcz xnz xrz Ex codez bmz bpz b t) 3 164 512 codez_595 :=
  And.intro (anz_591 Hy) (anz_594 Hy)
theorem anz_596 (Hy : Hyz tys cA base adS Ex) : xall (fun b t => xOK l Dg clz tys cA flz ftz base adS GWz xyz xcz xnz xrz Ex codez bmz bpz b t) 1 420 2048 codez_596 :=
  And.intro (okz_420 Hy) (okz_2468 Hy)
theorem anz_597 (Hy : Hyz tys cA base adS Ex) : xall (fun b t => xOK l Dg clz tys cA flz ftz base adS GWz xyz xcz xnz xrz Ex codez bmz bpz b t) 1 1444 2048 codez_597 :=
  And.intro (okz_1444 Hy) (okzz 3492)
theorem anz_598 (Hy : Hyz tys cA base adS Ex) : xall (fun b t => xOK l Dg clz tys cA flz ftz base adS GWz xyz xcz xnz xrz Ex codez bmz bpz b t) 2 420 1024 codez_598 :=
  And.intro (anz_596 Hy) (anz_597 Hy)
theorem anz_599 (Hy : Hyz tys cA base adS Ex) : xall (fun b t => xOK l Dg clz tys cA flz ftz base adS GWz xyz xcz xnz xrz Ex codez bmz bpz b t) 1 932 2048 codez_599 :=
  And.intro (okz_932 Hy) (okzz 2980)
theorem anz_600 (Hy : Hyz tys cA base adS Ex) : xall (fun b t => xOK l Dg clz tys cA flz ftz base adS GWz xyz xcz xnz xrz Ex codez bmz bpz b t) 1 1956 2048 codez_600 :=
  And.intro (okz_1956 Hy) (okzz 4004)
theorem anz_601 (Hy : Hyz tys cA base adS Ex) : xall (fun b t => xOK l Dg clz tys cA flz ftz base adS GWz xyz xcz xnz xrz Ex codez bmz bpz b t) 2 932 1024 codez_601 :=
  And.intro (anz_599 Hy) (anz_600 Hy)
theorem anz_602 (Hy : Hyz tys cA base adS Ex) : xall (fun b t => xOK l Dg clz tys cA flz ftz base adS GWz xyz xcz xnz xrz Ex codez bmz bpz b t) 3 420 512 codez_602 :=
  And.intro (anz_598 Hy) (anz_601 Hy)
theorem anz_603 (Hy : Hyz tys cA base adS Ex) : xall (fun b t => xOK l Dg clz tys cA flz ftz base adS GWz xyz xcz xnz xrz Ex codez bmz bpz b t) 4 164 256 codez_603 :=
  And.intro (anz_595 Hy) (anz_602 Hy)
theorem anz_604 (Hy : Hyz tys cA base adS Ex) : xall (fun b t => xOK l Dg clz tys cA flz ftz base adS GWz xyz xcz xnz xrz Ex codez bmz bpz b t) 5 36 128 codez_604 :=
  And.intro (anz_588 Hy) (anz_603 Hy)
theorem anz_605 (Hy : Hyz tys cA base adS Ex) : xall (fun b t => xOK l Dg clz tys cA flz ftz base adS GWz xyz xcz xnz xrz Ex codez bmz bpz b t) 1 100 2048 codez_605 :=
  And.intro (okz_100 Hy) (okz_2148 Hy)
theorem anz_606 (Hy : Hyz tys cA base adS Ex) : xall (fun b t => xOK l Dg clz tys cA flz ftz base adS GWz xyz xcz xnz xrz Ex codez bmz bpz b t) 1 1124 2048 codez_606 :=
  And.intro (okz_1124 Hy) (okzz 3172)
theorem anz_607 (Hy : Hyz tys cA base adS Ex) : xall (fun b t => xOK l Dg clz tys cA flz ftz base adS GWz xyz xcz xnz xrz Ex codez bmz bpz b t) 2 100 1024 codez_607 :=
  And.intro (anz_605 Hy) (anz_606 Hy)
theorem anz_608 (Hy : Hyz tys cA base adS Ex) : xall (fun b t => xOK l Dg clz tys cA flz ftz base adS GWz xyz xcz xnz xrz Ex codez bmz bpz b t) 1 612 2048 codez_608 :=
  And.intro (okz_612 Hy) (okzz 2660)
theorem anz_609 (Hy : Hyz tys cA base adS Ex) : xall (fun b t => xOK l Dg clz tys cA flz ftz base adS GWz xyz xcz xnz xrz Ex codez bmz bpz b t) 1 1636 2048 codez_609 :=
  And.intro (okz_1636 Hy) (okzz 3684)
theorem anz_610 (Hy : Hyz tys cA base adS Ex) : xall (fun b t => xOK l Dg clz tys cA flz ftz base adS GWz xyz xcz xnz xrz Ex codez bmz bpz b t) 2 612 1024 codez_610 :=
  And.intro (anz_608 Hy) (anz_609 Hy)
theorem anz_611 (Hy : Hyz tys cA base adS Ex) : xall (fun b t => xOK l Dg clz tys cA flz ftz base adS GWz xyz xcz xnz xrz Ex codez bmz bpz b t) 3 100 512 codez_611 :=
  And.intro (anz_607 Hy) (anz_610 Hy)
theorem anz_612 (Hy : Hyz tys cA base adS Ex) : xall (fun b t => xOK l Dg clz tys cA flz ftz base adS GWz xyz xcz xnz xrz Ex codez bmz bpz b t) 1 356 2048 codez_612 :=
  And.intro (okz_356 Hy) (okz_2404 Hy)
theorem anz_613 (Hy : Hyz tys cA base adS Ex) : xall (fun b t => xOK l Dg clz tys cA flz ftz base adS GWz xyz xcz xnz xrz Ex codez bmz bpz b t) 1 1380 2048 codez_613 :=
  And.intro (okz_1380 Hy) (okzz 3428)
theorem anz_614 (Hy : Hyz tys cA base adS Ex) : xall (fun b t => xOK l Dg clz tys cA flz ftz base adS GWz xyz xcz xnz xrz Ex codez bmz bpz b t) 2 356 1024 codez_614 :=
  And.intro (anz_612 Hy) (anz_613 Hy)
theorem anz_615 (Hy : Hyz tys cA base adS Ex) : xall (fun b t => xOK l Dg clz tys cA flz ftz base adS GWz xyz xcz xnz xrz Ex codez bmz bpz b t) 1 868 2048 codez_615 :=
  And.intro (okz_868 Hy) (okzz 2916)
theorem anz_616 (Hy : Hyz tys cA base adS Ex) : xall (fun b t => xOK l Dg clz tys cA flz ftz base adS GWz xyz xcz xnz xrz Ex codez bmz bpz b t) 1 1892 2048 codez_616 :=
  And.intro (okz_1892 Hy) (okzz 3940)
theorem anz_617 (Hy : Hyz tys cA base adS Ex) : xall (fun b t => xOK l Dg clz tys cA flz ftz base adS GWz xyz xcz xnz xrz Ex codez bmz bpz b t) 2 868 1024 codez_617 :=
  And.intro (anz_615 Hy) (anz_616 Hy)
theorem anz_618 (Hy : Hyz tys cA base adS Ex) : xall (fun b t => xOK l Dg clz tys cA flz ftz base adS GWz xyz xcz xnz xrz Ex codez bmz bpz b t) 3 356 512 codez_618 :=
  And.intro (anz_614 Hy) (anz_617 Hy)
theorem anz_619 (Hy : Hyz tys cA base adS Ex) : xall (fun b t => xOK l Dg clz tys cA flz ftz base adS GWz xyz xcz xnz xrz Ex codez bmz bpz b t) 4 100 256 codez_619 :=
  And.intro (anz_611 Hy) (anz_618 Hy)
theorem anz_620 (Hy : Hyz tys cA base adS Ex) : xall (fun b t => xOK l Dg clz tys cA flz ftz base adS GWz xyz xcz xnz xrz Ex codez bmz bpz b t) 1 228 2048 codez_620 :=
  And.intro (okz_228 Hy) (okz_2276 Hy)
theorem anz_621 (Hy : Hyz tys cA base adS Ex) : xall (fun b t => xOK l Dg clz tys cA flz ftz base adS GWz xyz xcz xnz xrz Ex codez bmz bpz b t) 1 1252 2048 codez_621 :=
  And.intro (okz_1252 Hy) (okzz 3300)
theorem anz_622 (Hy : Hyz tys cA base adS Ex) : xall (fun b t => xOK l Dg clz tys cA flz ftz base adS GWz xyz xcz xnz xrz Ex codez bmz bpz b t) 2 228 1024 codez_622 :=
  And.intro (anz_620 Hy) (anz_621 Hy)
theorem anz_623 (Hy : Hyz tys cA base adS Ex) : xall (fun b t => xOK l Dg clz tys cA flz ftz base adS GWz xyz xcz xnz xrz Ex codez bmz bpz b t) 1 740 2048 codez_623 :=
  And.intro (okz_740 Hy) (okzz 2788)
theorem anz_624 (Hy : Hyz tys cA base adS Ex) : xall (fun b t => xOK l Dg clz tys cA flz ftz base adS GWz xyz xcz xnz xrz Ex codez bmz bpz b t) 1 1764 2048 codez_624 :=
  And.intro (okz_1764 Hy) (okzz 3812)
theorem anz_625 (Hy : Hyz tys cA base adS Ex) : xall (fun b t => xOK l Dg clz tys cA flz ftz base adS GWz xyz xcz xnz xrz Ex codez bmz bpz b t) 2 740 1024 codez_625 :=
  And.intro (anz_623 Hy) (anz_624 Hy)
theorem anz_626 (Hy : Hyz tys cA base adS Ex) : xall (fun b t => xOK l Dg clz tys cA flz ftz base adS GWz xyz xcz xnz xrz Ex codez bmz bpz b t) 3 228 512 codez_626 :=
  And.intro (anz_622 Hy) (anz_625 Hy)
theorem anz_627 (Hy : Hyz tys cA base adS Ex) : xall (fun b t => xOK l Dg clz tys cA flz ftz base adS GWz xyz xcz xnz xrz Ex codez bmz bpz b t) 1 484 2048 codez_627 :=
  And.intro (okz_484 Hy) (okz_2532 Hy)
theorem anz_628 (Hy : Hyz tys cA base adS Ex) : xall (fun b t => xOK l Dg clz tys cA flz ftz base adS GWz xyz xcz xnz xrz Ex codez bmz bpz b t) 1 1508 2048 codez_628 :=
  And.intro (okz_1508 Hy) (okzz 3556)
theorem anz_629 (Hy : Hyz tys cA base adS Ex) : xall (fun b t => xOK l Dg clz tys cA flz ftz base adS GWz xyz xcz xnz xrz Ex codez bmz bpz b t) 2 484 1024 codez_629 :=
  And.intro (anz_627 Hy) (anz_628 Hy)
theorem anz_630 (Hy : Hyz tys cA base adS Ex) : xall (fun b t => xOK l Dg clz tys cA flz ftz base adS GWz xyz xcz xnz xrz Ex codez bmz bpz b t) 1 996 2048 codez_630 :=
  And.intro (okz_996 Hy) (okzz 3044)
theorem anz_631 (Hy : Hyz tys cA base adS Ex) : xall (fun b t => xOK l Dg clz tys cA flz ftz base adS GWz xyz xcz xnz xrz Ex codez bmz bpz b t) 1 2020 2048 codez_631 :=
  And.intro (okz_2020 Hy) (okzz 4068)
theorem anz_632 (Hy : Hyz tys cA base adS Ex) : xall (fun b t => xOK l Dg clz tys cA flz ftz base adS GWz xyz xcz xnz xrz Ex codez bmz bpz b t) 2 996 1024 codez_632 :=
  And.intro (anz_630 Hy) (anz_631 Hy)
theorem anz_633 (Hy : Hyz tys cA base adS Ex) : xall (fun b t => xOK l Dg clz tys cA flz ftz base adS GWz xyz xcz xnz xrz Ex codez bmz bpz b t) 3 484 512 codez_633 :=
  And.intro (anz_629 Hy) (anz_632 Hy)
theorem anz_634 (Hy : Hyz tys cA base adS Ex) : xall (fun b t => xOK l Dg clz tys cA flz ftz base adS GWz xyz xcz xnz xrz Ex codez bmz bpz b t) 4 228 256 codez_634 :=
  And.intro (anz_626 Hy) (anz_633 Hy)
theorem anz_635 (Hy : Hyz tys cA base adS Ex) : xall (fun b t => xOK l Dg clz tys cA flz ftz base adS GWz xyz xcz xnz xrz Ex codez bmz bpz b t) 5 100 128 codez_635 :=
  And.intro (anz_619 Hy) (anz_634 Hy)
theorem anz_636 (Hy : Hyz tys cA base adS Ex) : xall (fun b t => xOK l Dg clz tys cA flz ftz base adS GWz xyz xcz xnz xrz Ex codez bmz bpz b t) 6 36 64 codez_636 :=
  And.intro (anz_604 Hy) (anz_635 Hy)
theorem anz_637 (Hy : Hyz tys cA base adS Ex) : xall (fun b t => xOK l Dg clz tys cA flz ftz base adS GWz xyz xcz xnz xrz Ex codez bmz bpz b t) 7 4 32 codez_637 :=
  And.intro (anz_573 Hy) (anz_636 Hy)
theorem anz_638 (Hy : Hyz tys cA base adS Ex) : xall (fun b t => xOK l Dg clz tys cA flz ftz base adS GWz xyz xcz xnz xrz Ex codez bmz bpz b t) 1 20 2048 codez_638 :=
  And.intro (okz_20 Hy) (okz_2068 Hy)
theorem anz_639 (Hy : Hyz tys cA base adS Ex) : xall (fun b t => xOK l Dg clz tys cA flz ftz base adS GWz xyz xcz xnz xrz Ex codez bmz bpz b t) 1 1044 2048 codez_639 :=
  And.intro (okz_1044 Hy) (okzz 3092)
theorem anz_640 (Hy : Hyz tys cA base adS Ex) : xall (fun b t => xOK l Dg clz tys cA flz ftz base adS GWz xyz xcz xnz xrz Ex codez bmz bpz b t) 2 20 1024 codez_640 :=
  And.intro (anz_638 Hy) (anz_639 Hy)
theorem anz_641 (Hy : Hyz tys cA base adS Ex) : xall (fun b t => xOK l Dg clz tys cA flz ftz base adS GWz xyz xcz xnz xrz Ex codez bmz bpz b t) 1 532 2048 codez_641 :=
  And.intro (okz_532 Hy) (okzz 2580)
theorem anz_642 (Hy : Hyz tys cA base adS Ex) : xall (fun b t => xOK l Dg clz tys cA flz ftz base adS GWz xyz xcz xnz xrz Ex codez bmz bpz b t) 1 1556 2048 codez_642 :=
  And.intro (okz_1556 Hy) (okzz 3604)
theorem anz_643 (Hy : Hyz tys cA base adS Ex) : xall (fun b t => xOK l Dg clz tys cA flz ftz base adS GWz xyz xcz xnz xrz Ex codez bmz bpz b t) 2 532 1024 codez_643 :=
  And.intro (anz_641 Hy) (anz_642 Hy)
theorem anz_644 (Hy : Hyz tys cA base adS Ex) : xall (fun b t => xOK l Dg clz tys cA flz ftz base adS GWz xyz xcz xnz xrz Ex codez bmz bpz b t) 3 20 512 codez_644 :=
  And.intro (anz_640 Hy) (anz_643 Hy)
theorem anz_645 (Hy : Hyz tys cA base adS Ex) : xall (fun b t => xOK l Dg clz tys cA flz ftz base adS GWz xyz xcz xnz xrz Ex codez bmz bpz b t) 1 276 2048 codez_645 :=
  And.intro (okz_276 Hy) (okz_2324 Hy)
theorem anz_646 (Hy : Hyz tys cA base adS Ex) : xall (fun b t => xOK l Dg clz tys cA flz ftz base adS GWz xyz xcz xnz xrz Ex codez bmz bpz b t) 1 1300 2048 codez_646 :=
  And.intro (okz_1300 Hy) (okzz 3348)
theorem anz_647 (Hy : Hyz tys cA base adS Ex) : xall (fun b t => xOK l Dg clz tys cA flz ftz base adS GWz xyz xcz xnz xrz Ex codez bmz bpz b t) 2 276 1024 codez_647 :=
  And.intro (anz_645 Hy) (anz_646 Hy)
theorem anz_648 (Hy : Hyz tys cA base adS Ex) : xall (fun b t => xOK l Dg clz tys cA flz ftz base adS GWz xyz xcz xnz xrz Ex codez bmz bpz b t) 1 788 2048 codez_648 :=
  And.intro (okz_788 Hy) (okzz 2836)
theorem anz_649 (Hy : Hyz tys cA base adS Ex) : xall (fun b t => xOK l Dg clz tys cA flz ftz base adS GWz xyz xcz xnz xrz Ex codez bmz bpz b t) 1 1812 2048 codez_649 :=
  And.intro (okz_1812 Hy) (okzz 3860)
theorem anz_650 (Hy : Hyz tys cA base adS Ex) : xall (fun b t => xOK l Dg clz tys cA flz ftz base adS GWz xyz xcz xnz xrz Ex codez bmz bpz b t) 2 788 1024 codez_650 :=
  And.intro (anz_648 Hy) (anz_649 Hy)
theorem anz_651 (Hy : Hyz tys cA base adS Ex) : xall (fun b t => xOK l Dg clz tys cA flz ftz base adS GWz xyz xcz xnz xrz Ex codez bmz bpz b t) 3 276 512 codez_651 :=
  And.intro (anz_647 Hy) (anz_650 Hy)
theorem anz_652 (Hy : Hyz tys cA base adS Ex) : xall (fun b t => xOK l Dg clz tys cA flz ftz base adS GWz xyz xcz xnz xrz Ex codez bmz bpz b t) 4 20 256 codez_652 :=
  And.intro (anz_644 Hy) (anz_651 Hy)
theorem anz_653 (Hy : Hyz tys cA base adS Ex) : xall (fun b t => xOK l Dg clz tys cA flz ftz base adS GWz xyz xcz xnz xrz Ex codez bmz bpz b t) 1 148 2048 codez_653 :=
  And.intro (okz_148 Hy) (okz_2196 Hy)
theorem anz_654 (Hy : Hyz tys cA base adS Ex) : xall (fun b t => xOK l Dg clz tys cA flz ftz base adS GWz xyz xcz xnz xrz Ex codez bmz bpz b t) 1 1172 2048 codez_654 :=
  And.intro (okz_1172 Hy) (okzz 3220)
theorem anz_655 (Hy : Hyz tys cA base adS Ex) : xall (fun b t => xOK l Dg clz tys cA flz ftz base adS GWz xyz xcz xnz xrz Ex codez bmz bpz b t) 2 148 1024 codez_655 :=
  And.intro (anz_653 Hy) (anz_654 Hy)
theorem anz_656 (Hy : Hyz tys cA base adS Ex) : xall (fun b t => xOK l Dg clz tys cA flz ftz base adS GWz xyz xcz xnz xrz Ex codez bmz bpz b t) 1 660 2048 codez_656 :=
  And.intro (okz_660 Hy) (okzz 2708)
theorem anz_657 (Hy : Hyz tys cA base adS Ex) : xall (fun b t => xOK l Dg clz tys cA flz ftz base adS GWz xyz xcz xnz xrz Ex codez bmz bpz b t) 1 1684 2048 codez_657 :=
  And.intro (okz_1684 Hy) (okzz 3732)
theorem anz_658 (Hy : Hyz tys cA base adS Ex) : xall (fun b t => xOK l Dg clz tys cA flz ftz base adS GWz xyz xcz xnz xrz Ex codez bmz bpz b t) 2 660 1024 codez_658 :=
  And.intro (anz_656 Hy) (anz_657 Hy)
theorem anz_659 (Hy : Hyz tys cA base adS Ex) : xall (fun b t => xOK l Dg clz tys cA flz ftz base adS GWz xyz xcz xnz xrz Ex codez bmz bpz b t) 3 148 512 codez_659 :=
  And.intro (anz_655 Hy) (anz_658 Hy)
theorem anz_660 (Hy : Hyz tys cA base adS Ex) : xall (fun b t => xOK l Dg clz tys cA flz ftz base adS GWz xyz xcz xnz xrz Ex codez bmz bpz b t) 1 404 2048 codez_660 :=
  And.intro (okz_404 Hy) (okz_2452 Hy)
theorem anz_661 (Hy : Hyz tys cA base adS Ex) : xall (fun b t => xOK l Dg clz tys cA flz ftz base adS GWz xyz xcz xnz xrz Ex codez bmz bpz b t) 1 1428 2048 codez_661 :=
  And.intro (okz_1428 Hy) (okzz 3476)
theorem anz_662 (Hy : Hyz tys cA base adS Ex) : xall (fun b t => xOK l Dg clz tys cA flz ftz base adS GWz xyz xcz xnz xrz Ex codez bmz bpz b t) 2 404 1024 codez_662 :=
  And.intro (anz_660 Hy) (anz_661 Hy)
theorem anz_663 (Hy : Hyz tys cA base adS Ex) : xall (fun b t => xOK l Dg clz tys cA flz ftz base adS GWz xyz xcz xnz xrz Ex codez bmz bpz b t) 1 916 2048 codez_663 :=
  And.intro (okz_916 Hy) (okzz 2964)
theorem anz_664 (Hy : Hyz tys cA base adS Ex) : xall (fun b t => xOK l Dg clz tys cA flz ftz base adS GWz xyz xcz xnz xrz Ex codez bmz bpz b t) 1 1940 2048 codez_664 :=
  And.intro (okz_1940 Hy) (okzz 3988)
theorem anz_665 (Hy : Hyz tys cA base adS Ex) : xall (fun b t => xOK l Dg clz tys cA flz ftz base adS GWz xyz xcz xnz xrz Ex codez bmz bpz b t) 2 916 1024 codez_665 :=
  And.intro (anz_663 Hy) (anz_664 Hy)
theorem anz_666 (Hy : Hyz tys cA base adS Ex) : xall (fun b t => xOK l Dg clz tys cA flz ftz base adS GWz xyz xcz xnz xrz Ex codez bmz bpz b t) 3 404 512 codez_666 :=
  And.intro (anz_662 Hy) (anz_665 Hy)
theorem anz_667 (Hy : Hyz tys cA base adS Ex) : xall (fun b t => xOK l Dg clz tys cA flz ftz base adS GWz xyz xcz xnz xrz Ex codez bmz bpz b t) 4 148 256 codez_667 :=
  And.intro (anz_659 Hy) (anz_666 Hy)
theorem anz_668 (Hy : Hyz tys cA base adS Ex) : xall (fun b t => xOK l Dg clz tys cA flz ftz base adS GWz xyz xcz xnz xrz Ex codez bmz bpz b t) 5 20 128 codez_668 :=
  And.intro (anz_652 Hy) (anz_667 Hy)
theorem anz_669 (Hy : Hyz tys cA base adS Ex) : xall (fun b t => xOK l Dg clz tys cA flz ftz base adS GWz xyz xcz xnz xrz Ex codez bmz bpz b t) 1 84 2048 codez_669 :=
  And.intro (okz_84 Hy) (okz_2132 Hy)
theorem anz_670 (Hy : Hyz tys cA base adS Ex) : xall (fun b t => xOK l Dg clz tys cA flz ftz base adS GWz xyz xcz xnz xrz Ex codez bmz bpz b t) 1 1108 2048 codez_670 :=
  And.intro (okz_1108 Hy) (okzz 3156)
theorem anz_671 (Hy : Hyz tys cA base adS Ex) : xall (fun b t => xOK l Dg clz tys cA flz ftz base adS GWz xyz xcz xnz xrz Ex codez bmz bpz b t) 2 84 1024 codez_671 :=
  And.intro (anz_669 Hy) (anz_670 Hy)
theorem anz_672 (Hy : Hyz tys cA base adS Ex) : xall (fun b t => xOK l Dg clz tys cA flz ftz base adS GWz xyz xcz xnz xrz Ex codez bmz bpz b t) 1 596 2048 codez_672 :=
  And.intro (okz_596 Hy) (okzz 2644)
theorem anz_673 (Hy : Hyz tys cA base adS Ex) : xall (fun b t => xOK l Dg clz tys cA flz ftz base adS GWz xyz xcz xnz xrz Ex codez bmz bpz b t) 1 1620 2048 codez_673 :=
  And.intro (okz_1620 Hy) (okzz 3668)
theorem anz_674 (Hy : Hyz tys cA base adS Ex) : xall (fun b t => xOK l Dg clz tys cA flz ftz base adS GWz xyz xcz xnz xrz Ex codez bmz bpz b t) 2 596 1024 codez_674 :=
  And.intro (anz_672 Hy) (anz_673 Hy)
theorem anz_675 (Hy : Hyz tys cA base adS Ex) : xall (fun b t => xOK l Dg clz tys cA flz ftz base adS GWz xyz xcz xnz xrz Ex codez bmz bpz b t) 3 84 512 codez_675 :=
  And.intro (anz_671 Hy) (anz_674 Hy)
theorem anz_676 (Hy : Hyz tys cA base adS Ex) : xall (fun b t => xOK l Dg clz tys cA flz ftz base adS GWz xyz xcz xnz xrz Ex codez bmz bpz b t) 1 340 2048 codez_676 :=
  And.intro (okz_340 Hy) (okz_2388 Hy)
theorem anz_677 (Hy : Hyz tys cA base adS Ex) : xall (fun b t => xOK l Dg clz tys cA flz ftz base adS GWz xyz xcz xnz xrz Ex codez bmz bpz b t) 1 1364 2048 codez_677 :=
  And.intro (okz_1364 Hy) (okzz 3412)
theorem anz_678 (Hy : Hyz tys cA base adS Ex) : xall (fun b t => xOK l Dg clz tys cA flz ftz base adS GWz xyz xcz xnz xrz Ex codez bmz bpz b t) 2 340 1024 codez_678 :=
  And.intro (anz_676 Hy) (anz_677 Hy)
theorem anz_679 (Hy : Hyz tys cA base adS Ex) : xall (fun b t => xOK l Dg clz tys cA flz ftz base adS GWz xyz xcz xnz xrz Ex codez bmz bpz b t) 1 852 2048 codez_679 :=
  And.intro (okz_852 Hy) (okzz 2900)
theorem anz_680 (Hy : Hyz tys cA base adS Ex) : xall (fun b t => xOK l Dg clz tys cA flz ftz base adS GWz xyz xcz xnz xrz Ex codez bmz bpz b t) 1 1876 2048 codez_680 :=
  And.intro (okz_1876 Hy) (okzz 3924)
theorem anz_681 (Hy : Hyz tys cA base adS Ex) : xall (fun b t => xOK l Dg clz tys cA flz ftz base adS GWz xyz xcz xnz xrz Ex codez bmz bpz b t) 2 852 1024 codez_681 :=
  And.intro (anz_679 Hy) (anz_680 Hy)
theorem anz_682 (Hy : Hyz tys cA base adS Ex) : xall (fun b t => xOK l Dg clz tys cA flz ftz base adS GWz xyz xcz xnz xrz Ex codez bmz bpz b t) 3 340 512 codez_682 :=
  And.intro (anz_678 Hy) (anz_681 Hy)
theorem anz_683 (Hy : Hyz tys cA base adS Ex) : xall (fun b t => xOK l Dg clz tys cA flz ftz base adS GWz xyz xcz xnz xrz Ex codez bmz bpz b t) 4 84 256 codez_683 :=
  And.intro (anz_675 Hy) (anz_682 Hy)
theorem anz_684 (Hy : Hyz tys cA base adS Ex) : xall (fun b t => xOK l Dg clz tys cA flz ftz base adS GWz xyz xcz xnz xrz Ex codez bmz bpz b t) 1 212 2048 codez_684 :=
  And.intro (okz_212 Hy) (okz_2260 Hy)
theorem anz_685 (Hy : Hyz tys cA base adS Ex) : xall (fun b t => xOK l Dg clz tys cA flz ftz base adS GWz xyz xcz xnz xrz Ex codez bmz bpz b t) 1 1236 2048 codez_685 :=
  And.intro (okz_1236 Hy) (okzz 3284)
theorem anz_686 (Hy : Hyz tys cA base adS Ex) : xall (fun b t => xOK l Dg clz tys cA flz ftz base adS GWz xyz xcz xnz xrz Ex codez bmz bpz b t) 2 212 1024 codez_686 :=
  And.intro (anz_684 Hy) (anz_685 Hy)
theorem anz_687 (Hy : Hyz tys cA base adS Ex) : xall (fun b t => xOK l Dg clz tys cA flz ftz base adS GWz xyz xcz xnz xrz Ex codez bmz bpz b t) 1 724 2048 codez_687 :=
  And.intro (okz_724 Hy) (okzz 2772)
theorem anz_688 (Hy : Hyz tys cA base adS Ex) : xall (fun b t => xOK l Dg clz tys cA flz ftz base adS GWz xyz xcz xnz xrz Ex codez bmz bpz b t) 1 1748 2048 codez_688 :=
  And.intro (okz_1748 Hy) (okzz 3796)
theorem anz_689 (Hy : Hyz tys cA base adS Ex) : xall (fun b t => xOK l Dg clz tys cA flz ftz base adS GWz xyz xcz xnz xrz Ex codez bmz bpz b t) 2 724 1024 codez_689 :=
  And.intro (anz_687 Hy) (anz_688 Hy)
theorem anz_690 (Hy : Hyz tys cA base adS Ex) : xall (fun b t => xOK l Dg clz tys cA flz ftz base adS GWz xyz xcz xnz xrz Ex codez bmz bpz b t) 3 212 512 codez_690 :=
  And.intro (anz_686 Hy) (anz_689 Hy)
theorem anz_691 (Hy : Hyz tys cA base adS Ex) : xall (fun b t => xOK l Dg clz tys cA flz ftz base adS GWz xyz xcz xnz xrz Ex codez bmz bpz b t) 1 468 2048 codez_691 :=
  And.intro (okz_468 Hy) (okz_2516 Hy)
theorem anz_692 (Hy : Hyz tys cA base adS Ex) : xall (fun b t => xOK l Dg clz tys cA flz ftz base adS GWz xyz xcz xnz xrz Ex codez bmz bpz b t) 1 1492 2048 codez_692 :=
  And.intro (okz_1492 Hy) (okzz 3540)
theorem anz_693 (Hy : Hyz tys cA base adS Ex) : xall (fun b t => xOK l Dg clz tys cA flz ftz base adS GWz xyz xcz xnz xrz Ex codez bmz bpz b t) 2 468 1024 codez_693 :=
  And.intro (anz_691 Hy) (anz_692 Hy)
theorem anz_694 (Hy : Hyz tys cA base adS Ex) : xall (fun b t => xOK l Dg clz tys cA flz ftz base adS GWz xyz xcz xnz xrz Ex codez bmz bpz b t) 1 980 2048 codez_694 :=
  And.intro (okz_980 Hy) (okzz 3028)
theorem anz_695 (Hy : Hyz tys cA base adS Ex) : xall (fun b t => xOK l Dg clz tys cA flz ftz base adS GWz xyz xcz xnz xrz Ex codez bmz bpz b t) 1 2004 2048 codez_695 :=
  And.intro (okz_2004 Hy) (okzz 4052)
theorem anz_696 (Hy : Hyz tys cA base adS Ex) : xall (fun b t => xOK l Dg clz tys cA flz ftz base adS GWz xyz xcz xnz xrz Ex codez bmz bpz b t) 2 980 1024 codez_696 :=
  And.intro (anz_694 Hy) (anz_695 Hy)
theorem anz_697 (Hy : Hyz tys cA base adS Ex) : xall (fun b t => xOK l Dg clz tys cA flz ftz base adS GWz xyz xcz xnz xrz Ex codez bmz bpz b t) 3 468 512 codez_697 :=
  And.intro (anz_693 Hy) (anz_696 Hy)
theorem anz_698 (Hy : Hyz tys cA base adS Ex) : xall (fun b t => xOK l Dg clz tys cA flz ftz base adS GWz xyz xcz xnz xrz Ex codez bmz bpz b t) 4 212 256 codez_698 :=
  And.intro (anz_690 Hy) (anz_697 Hy)
theorem anz_699 (Hy : Hyz tys cA base adS Ex) : xall (fun b t => xOK l Dg clz tys cA flz ftz base adS GWz xyz xcz xnz xrz Ex codez bmz bpz b t) 5 84 128 codez_699 :=
  And.intro (anz_683 Hy) (anz_698 Hy)
theorem anz_700 (Hy : Hyz tys cA base adS Ex) : xall (fun b t => xOK l Dg clz tys cA flz ftz base adS GWz xyz xcz xnz xrz Ex codez bmz bpz b t) 6 20 64 codez_700 :=
  And.intro (anz_668 Hy) (anz_699 Hy)
theorem anz_701 (Hy : Hyz tys cA base adS Ex) : xall (fun b t => xOK l Dg clz tys cA flz ftz base adS GWz xyz xcz xnz xrz Ex codez bmz bpz b t) 1 52 2048 codez_701 :=
  And.intro (okz_52 Hy) (okz_2100 Hy)
theorem anz_702 (Hy : Hyz tys cA base adS Ex) : xall (fun b t => xOK l Dg clz tys cA flz ftz base adS GWz xyz xcz xnz xrz Ex codez bmz bpz b t) 1 1076 2048 codez_702 :=
  And.intro (okz_1076 Hy) (okzz 3124)
theorem anz_703 (Hy : Hyz tys cA base adS Ex) : xall (fun b t => xOK l Dg clz tys cA flz ftz base adS GWz xyz xcz xnz xrz Ex codez bmz bpz b t) 2 52 1024 codez_703 :=
  And.intro (anz_701 Hy) (anz_702 Hy)
theorem anz_704 (Hy : Hyz tys cA base adS Ex) : xall (fun b t => xOK l Dg clz tys cA flz ftz base adS GWz xyz xcz xnz xrz Ex codez bmz bpz b t) 1 564 2048 codez_704 :=
  And.intro (okz_564 Hy) (okzz 2612)
theorem anz_705 (Hy : Hyz tys cA base adS Ex) : xall (fun b t => xOK l Dg clz tys cA flz ftz base adS GWz xyz xcz xnz xrz Ex codez bmz bpz b t) 1 1588 2048 codez_705 :=
  And.intro (okz_1588 Hy) (okzz 3636)
theorem anz_706 (Hy : Hyz tys cA base adS Ex) : xall (fun b t => xOK l Dg clz tys cA flz ftz base adS GWz xyz xcz xnz xrz Ex codez bmz bpz b t) 2 564 1024 codez_706 :=
  And.intro (anz_704 Hy) (anz_705 Hy)
theorem anz_707 (Hy : Hyz tys cA base adS Ex) : xall (fun b t => xOK l Dg clz tys cA flz ftz base adS GWz xyz xcz xnz xrz Ex codez bmz bpz b t) 3 52 512 codez_707 :=
  And.intro (anz_703 Hy) (anz_706 Hy)
theorem anz_708 (Hy : Hyz tys cA base adS Ex) : xall (fun b t => xOK l Dg clz tys cA flz ftz base adS GWz xyz xcz xnz xrz Ex codez bmz bpz b t) 1 308 2048 codez_708 :=
  And.intro (okz_308 Hy) (okz_2356 Hy)
theorem anz_709 (Hy : Hyz tys cA base adS Ex) : xall (fun b t => xOK l Dg clz tys cA flz ftz base adS GWz xyz xcz xnz xrz Ex codez bmz bpz b t) 1 1332 2048 codez_709 :=
  And.intro (okz_1332 Hy) (okzz 3380)
theorem anz_710 (Hy : Hyz tys cA base adS Ex) : xall (fun b t => xOK l Dg clz tys cA flz ftz base adS GWz xyz xcz xnz xrz Ex codez bmz bpz b t) 2 308 1024 codez_710 :=
  And.intro (anz_708 Hy) (anz_709 Hy)
theorem anz_711 (Hy : Hyz tys cA base adS Ex) : xall (fun b t => xOK l Dg clz tys cA flz ftz base adS GWz xyz xcz xnz xrz Ex codez bmz bpz b t) 1 820 2048 codez_711 :=
  And.intro (okz_820 Hy) (okzz 2868)
theorem anz_712 (Hy : Hyz tys cA base adS Ex) : xall (fun b t => xOK l Dg clz tys cA flz ftz base adS GWz xyz xcz xnz xrz Ex codez bmz bpz b t) 1 1844 2048 codez_712 :=
  And.intro (okz_1844 Hy) (okzz 3892)
theorem anz_713 (Hy : Hyz tys cA base adS Ex) : xall (fun b t => xOK l Dg clz tys cA flz ftz base adS GWz xyz xcz xnz xrz Ex codez bmz bpz b t) 2 820 1024 codez_713 :=
  And.intro (anz_711 Hy) (anz_712 Hy)
theorem anz_714 (Hy : Hyz tys cA base adS Ex) : xall (fun b t => xOK l Dg clz tys cA flz ftz base adS GWz xyz xcz xnz xrz Ex codez bmz bpz b t) 3 308 512 codez_714 :=
  And.intro (anz_710 Hy) (anz_713 Hy)
theorem anz_715 (Hy : Hyz tys cA base adS Ex) : xall (fun b t => xOK l Dg clz tys cA flz ftz base adS GWz xyz xcz xnz xrz Ex codez bmz bpz b t) 4 52 256 codez_715 :=
  And.intro (anz_707 Hy) (anz_714 Hy)
theorem anz_716 (Hy : Hyz tys cA base adS Ex) : xall (fun b t => xOK l Dg clz tys cA flz ftz base adS GWz xyz xcz xnz xrz Ex codez bmz bpz b t) 1 180 2048 codez_716 :=
  And.intro (okz_180 Hy) (okz_2228 Hy)
theorem anz_717 (Hy : Hyz tys cA base adS Ex) : xall (fun b t => xOK l Dg clz tys cA flz ftz base adS GWz xyz xcz xnz xrz Ex codez bmz bpz b t) 1 1204 2048 codez_717 :=
  And.intro (okz_1204 Hy) (okzz 3252)
theorem anz_718 (Hy : Hyz tys cA base adS Ex) : xall (fun b t => xOK l Dg clz tys cA flz ftz base adS GWz xyz xcz xnz xrz Ex codez bmz bpz b t) 2 180 1024 codez_718 :=
  And.intro (anz_716 Hy) (anz_717 Hy)
theorem anz_719 (Hy : Hyz tys cA base adS Ex) : xall (fun b t => xOK l Dg clz tys cA flz ftz base adS GWz xyz xcz xnz xrz Ex codez bmz bpz b t) 1 692 2048 codez_719 :=
  And.intro (okz_692 Hy) (okzz 2740)
theorem anz_720 (Hy : Hyz tys cA base adS Ex) : xall (fun b t => xOK l Dg clz tys cA flz ftz base adS GWz xyz xcz xnz xrz Ex codez bmz bpz b t) 1 1716 2048 codez_720 :=
  And.intro (okz_1716 Hy) (okzz 3764)
theorem anz_721 (Hy : Hyz tys cA base adS Ex) : xall (fun b t => xOK l Dg clz tys cA flz ftz base adS GWz xyz xcz xnz xrz Ex codez bmz bpz b t) 2 692 1024 codez_721 :=
  And.intro (anz_719 Hy) (anz_720 Hy)
theorem anz_722 (Hy : Hyz tys cA base adS Ex) : xall (fun b t => xOK l Dg clz tys cA flz ftz base adS GWz xyz xcz xnz xrz Ex codez bmz bpz b t) 3 180 512 codez_722 :=
  And.intro (anz_718 Hy) (anz_721 Hy)
theorem anz_723 (Hy : Hyz tys cA base adS Ex) : xall (fun b t => xOK l Dg clz tys cA flz ftz base adS GWz xyz xcz xnz xrz Ex codez bmz bpz b t) 1 436 2048 codez_723 :=
  And.intro (okz_436 Hy) (okz_2484 Hy)
theorem anz_724 (Hy : Hyz tys cA base adS Ex) : xall (fun b t => xOK l Dg clz tys cA flz ftz base adS GWz xyz xcz xnz xrz Ex codez bmz bpz b t) 1 1460 2048 codez_724 :=
  And.intro (okz_1460 Hy) (okzz 3508)
theorem anz_725 (Hy : Hyz tys cA base adS Ex) : xall (fun b t => xOK l Dg clz tys cA flz ftz base adS GWz xyz xcz xnz xrz Ex codez bmz bpz b t) 2 436 1024 codez_725 :=
  And.intro (anz_723 Hy) (anz_724 Hy)
theorem anz_726 (Hy : Hyz tys cA base adS Ex) : xall (fun b t => xOK l Dg clz tys cA flz ftz base adS GWz xyz xcz xnz xrz Ex codez bmz bpz b t) 1 948 2048 codez_726 :=
  And.intro (okz_948 Hy) (okzz 2996)
theorem anz_727 (Hy : Hyz tys cA base adS Ex) : xall (fun b t => xOK l Dg clz tys cA flz ftz base adS GWz xyz xcz xnz xrz Ex codez bmz bpz b t) 1 1972 2048 codez_727 :=
  And.intro (okz_1972 Hy) (okzz 4020)
theorem anz_728 (Hy : Hyz tys cA base adS Ex) : xall (fun b t => xOK l Dg clz tys cA flz ftz base adS GWz xyz xcz xnz xrz Ex codez bmz bpz b t) 2 948 1024 codez_728 :=
  And.intro (anz_726 Hy) (anz_727 Hy)
theorem anz_729 (Hy : Hyz tys cA base adS Ex) : xall (fun b t => xOK l Dg clz tys cA flz ftz base adS GWz xyz xcz xnz xrz Ex codez bmz bpz b t) 3 436 512 codez_729 :=
  And.intro (anz_725 Hy) (anz_728 Hy)
theorem anz_730 (Hy : Hyz tys cA base adS Ex) : xall (fun b t => xOK l Dg clz tys cA flz ftz base adS GWz xyz xcz xnz xrz Ex codez bmz bpz b t) 4 180 256 codez_730 :=
  And.intro (anz_722 Hy) (anz_729 Hy)
theorem anz_731 (Hy : Hyz tys cA base adS Ex) : xall (fun b t => xOK l Dg clz tys cA flz ftz base adS GWz xyz xcz xnz xrz Ex codez bmz bpz b t) 5 52 128 codez_731 :=
  And.intro (anz_715 Hy) (anz_730 Hy)
theorem anz_732 (Hy : Hyz tys cA base adS Ex) : xall (fun b t => xOK l Dg clz tys cA flz ftz base adS GWz xyz xcz xnz xrz Ex codez bmz bpz b t) 1 116 2048 codez_732 :=
  And.intro (okz_116 Hy) (okz_2164 Hy)
theorem anz_733 (Hy : Hyz tys cA base adS Ex) : xall (fun b t => xOK l Dg clz tys cA flz ftz base adS GWz xyz xcz xnz xrz Ex codez bmz bpz b t) 1 1140 2048 codez_733 :=
  And.intro (okz_1140 Hy) (okzz 3188)
theorem anz_734 (Hy : Hyz tys cA base adS Ex) : xall (fun b t => xOK l Dg clz tys cA flz ftz base adS GWz xyz xcz xnz xrz Ex codez bmz bpz b t) 2 116 1024 codez_734 :=
  And.intro (anz_732 Hy) (anz_733 Hy)
theorem anz_735 (Hy : Hyz tys cA base adS Ex) : xall (fun b t => xOK l Dg clz tys cA flz ftz base adS GWz xyz xcz xnz xrz Ex codez bmz bpz b t) 1 628 2048 codez_735 :=
  And.intro (okz_628 Hy) (okzz 2676)
theorem anz_736 (Hy : Hyz tys cA base adS Ex) : xall (fun b t => xOK l Dg clz tys cA flz ftz base adS GWz xyz xcz xnz xrz Ex codez bmz bpz b t) 1 1652 2048 codez_736 :=
  And.intro (okz_1652 Hy) (okzz 3700)
theorem anz_737 (Hy : Hyz tys cA base adS Ex) : xall (fun b t => xOK l Dg clz tys cA flz ftz base adS GWz xyz xcz xnz xrz Ex codez bmz bpz b t) 2 628 1024 codez_737 :=
  And.intro (anz_735 Hy) (anz_736 Hy)
theorem anz_738 (Hy : Hyz tys cA base adS Ex) : xall (fun b t => xOK l Dg clz tys cA flz ftz base adS GWz xyz xcz xnz xrz Ex codez bmz bpz b t) 3 116 512 codez_738 :=
  And.intro (anz_734 Hy) (anz_737 Hy)
theorem anz_739 (Hy : Hyz tys cA base adS Ex) : xall (fun b t => xOK l Dg clz tys cA flz ftz base adS GWz xyz xcz xnz xrz Ex codez bmz bpz b t) 1 372 2048 codez_739 :=
  And.intro (okz_372 Hy) (okz_2420 Hy)
theorem anz_740 (Hy : Hyz tys cA base adS Ex) : xall (fun b t => xOK l Dg clz tys cA flz ftz base adS GWz xyz xcz xnz xrz Ex codez bmz bpz b t) 1 1396 2048 codez_740 :=
  And.intro (okz_1396 Hy) (okzz 3444)
theorem anz_741 (Hy : Hyz tys cA base adS Ex) : xall (fun b t => xOK l Dg clz tys cA flz ftz base adS GWz xyz xcz xnz xrz Ex codez bmz bpz b t) 2 372 1024 codez_741 :=
  And.intro (anz_739 Hy) (anz_740 Hy)
theorem anz_742 (Hy : Hyz tys cA base adS Ex) : xall (fun b t => xOK l Dg clz tys cA flz ftz base adS GWz xyz xcz xnz xrz Ex codez bmz bpz b t) 1 884 2048 codez_742 :=
  And.intro (okz_884 Hy) (okzz 2932)
theorem anz_743 (Hy : Hyz tys cA base adS Ex) : xall (fun b t => xOK l Dg clz tys cA flz ftz base adS GWz xyz xcz xnz xrz Ex codez bmz bpz b t) 1 1908 2048 codez_743 :=
  And.intro (okz_1908 Hy) (okzz 3956)
theorem anz_744 (Hy : Hyz tys cA base adS Ex) : xall (fun b t => xOK l Dg clz tys cA flz ftz base adS GWz xyz xcz xnz xrz Ex codez bmz bpz b t) 2 884 1024 codez_744 :=
  And.intro (anz_742 Hy) (anz_743 Hy)
theorem anz_745 (Hy : Hyz tys cA base adS Ex) : xall (fun b t => xOK l Dg clz tys cA flz ftz base adS GWz xyz xcz xnz xrz Ex codez bmz bpz b t) 3 372 512 codez_745 :=
  And.intro (anz_741 Hy) (anz_744 Hy)
theorem anz_746 (Hy : Hyz tys cA base adS Ex) : xall (fun b t => xOK l Dg clz tys cA flz ftz base adS GWz xyz xcz xnz xrz Ex codez bmz bpz b t) 4 116 256 codez_746 :=
  And.intro (anz_738 Hy) (anz_745 Hy)
theorem anz_747 (Hy : Hyz tys cA base adS Ex) : xall (fun b t => xOK l Dg clz tys cA flz ftz base adS GWz xyz xcz xnz xrz Ex codez bmz bpz b t) 1 244 2048 codez_747 :=
  And.intro (okz_244 Hy) (okz_2292 Hy)
theorem anz_748 (Hy : Hyz tys cA base adS Ex) : xall (fun b t => xOK l Dg clz tys cA flz ftz base adS GWz xyz xcz xnz xrz Ex codez bmz bpz b t) 1 1268 2048 codez_748 :=
  And.intro (okz_1268 Hy) (okzz 3316)
theorem anz_749 (Hy : Hyz tys cA base adS Ex) : xall (fun b t => xOK l Dg clz tys cA flz ftz base adS GWz xyz xcz xnz xrz Ex codez bmz bpz b t) 2 244 1024 codez_749 :=
  And.intro (anz_747 Hy) (anz_748 Hy)
theorem anz_750 (Hy : Hyz tys cA base adS Ex) : xall (fun b t => xOK l Dg clz tys cA flz ftz base adS GWz xyz xcz xnz xrz Ex codez bmz bpz b t) 1 756 2048 codez_750 :=
  And.intro (okz_756 Hy) (okzz 2804)
theorem anz_751 (Hy : Hyz tys cA base adS Ex) : xall (fun b t => xOK l Dg clz tys cA flz ftz base adS GWz xyz xcz xnz xrz Ex codez bmz bpz b t) 1 1780 2048 codez_751 :=
  And.intro (okz_1780 Hy) (okzz 3828)
theorem anz_752 (Hy : Hyz tys cA base adS Ex) : xall (fun b t => xOK l Dg clz tys cA flz ftz base adS GWz xyz xcz xnz xrz Ex codez bmz bpz b t) 2 756 1024 codez_752 :=
  And.intro (anz_750 Hy) (anz_751 Hy)
theorem anz_753 (Hy : Hyz tys cA base adS Ex) : xall (fun b t => xOK l Dg clz tys cA flz ftz base adS GWz xyz xcz xnz xrz Ex codez bmz bpz b t) 3 244 512 codez_753 :=
  And.intro (anz_749 Hy) (anz_752 Hy)
theorem anz_754 (Hy : Hyz tys cA base adS Ex) : xall (fun b t => xOK l Dg clz tys cA flz ftz base adS GWz xyz xcz xnz xrz Ex codez bmz bpz b t) 1 500 2048 codez_754 :=
  And.intro (okz_500 Hy) (okzz 2548)
theorem anz_755 (Hy : Hyz tys cA base adS Ex) : xall (fun b t => xOK l Dg clz tys cA flz ftz base adS GWz xyz xcz xnz xrz Ex codez bmz bpz b t) 1 1524 2048 codez_755 :=
  And.intro (okz_1524 Hy) (okzz 3572)
theorem anz_756 (Hy : Hyz tys cA base adS Ex) : xall (fun b t => xOK l Dg clz tys cA flz ftz base adS GWz xyz xcz xnz xrz Ex codez bmz bpz b t) 2 500 1024 codez_756 :=
  And.intro (anz_754 Hy) (anz_755 Hy)
theorem anz_757 (Hy : Hyz tys cA base adS Ex) : xall (fun b t => xOK l Dg clz tys cA flz ftz base adS GWz xyz xcz xnz xrz Ex codez bmz bpz b t) 1 1012 2048 codez_757 :=
  And.intro (okz_1012 Hy) (okzz 3060)
theorem anz_758 (Hy : Hyz tys cA base adS Ex) : xall (fun b t => xOK l Dg clz tys cA flz ftz base adS GWz xyz xcz xnz xrz Ex codez bmz bpz b t) 1 2036 2048 codez_758 :=
  And.intro (okz_2036 Hy) (okzz 4084)
theorem anz_759 (Hy : Hyz tys cA base adS Ex) : xall (fun b t => xOK l Dg clz tys cA flz ftz base adS GWz xyz xcz xnz xrz Ex codez bmz bpz b t) 2 1012 1024 codez_759 :=
  And.intro (anz_757 Hy) (anz_758 Hy)
theorem anz_760 (Hy : Hyz tys cA base adS Ex) : xall (fun b t => xOK l Dg clz tys cA flz ftz base adS GWz xyz xcz xnz xrz Ex codez bmz bpz b t) 3 500 512 codez_760 :=
  And.intro (anz_756 Hy) (anz_759 Hy)
theorem anz_761 (Hy : Hyz tys cA base adS Ex) : xall (fun b t => xOK l Dg clz tys cA flz ftz base adS GWz xyz xcz xnz xrz Ex codez bmz bpz b t) 4 244 256 codez_761 :=
  And.intro (anz_753 Hy) (anz_760 Hy)
theorem anz_762 (Hy : Hyz tys cA base adS Ex) : xall (fun b t => xOK l Dg clz tys cA flz ftz base adS GWz xyz xcz xnz xrz Ex codez bmz bpz b t) 5 116 128 codez_762 :=
  And.intro (anz_746 Hy) (anz_761 Hy)
theorem anz_763 (Hy : Hyz tys cA base adS Ex) : xall (fun b t => xOK l Dg clz tys cA flz ftz base adS GWz xyz xcz xnz xrz Ex codez bmz bpz b t) 6 52 64 codez_763 :=
  And.intro (anz_731 Hy) (anz_762 Hy)
theorem anz_764 (Hy : Hyz tys cA base adS Ex) : xall (fun b t => xOK l Dg clz tys cA flz ftz base adS GWz xyz xcz xnz xrz Ex codez bmz bpz b t) 7 20 32 codez_764 :=
  And.intro (anz_700 Hy) (anz_763 Hy)
theorem anz_765 (Hy : Hyz tys cA base adS Ex) : xall (fun b t => xOK l Dg clz tys cA flz ftz base adS GWz xyz xcz xnz xrz Ex codez bmz bpz b t) 8 4 16 codez_765 :=
  And.intro (anz_637 Hy) (anz_764 Hy)
theorem anz_766 (Hy : Hyz tys cA base adS Ex) : xall (fun b t => xOK l Dg clz tys cA flz ftz base adS GWz xyz xcz xnz xrz Ex codez bmz bpz b t) 1 12 2048 codez_766 :=
  And.intro (okz_12 Hy) (okz_2060 Hy)
theorem anz_767 (Hy : Hyz tys cA base adS Ex) : xall (fun b t => xOK l Dg clz tys cA flz ftz base adS GWz xyz xcz xnz xrz Ex codez bmz bpz b t) 1 1036 2048 codez_767 :=
  And.intro (okz_1036 Hy) (okzz 3084)
theorem anz_768 (Hy : Hyz tys cA base adS Ex) : xall (fun b t => xOK l Dg clz tys cA flz ftz base adS GWz xyz xcz xnz xrz Ex codez bmz bpz b t) 2 12 1024 codez_768 :=
  And.intro (anz_766 Hy) (anz_767 Hy)
theorem anz_769 (Hy : Hyz tys cA base adS Ex) : xall (fun b t => xOK l Dg clz tys cA flz ftz base adS GWz xyz xcz xnz xrz Ex codez bmz bpz b t) 1 524 2048 codez_769 :=
  And.intro (okz_524 Hy) (okzz 2572)
theorem anz_770 (Hy : Hyz tys cA base adS Ex) : xall (fun b t => xOK l Dg clz tys cA flz ftz base adS GWz xyz xcz xnz xrz Ex codez bmz bpz b t) 1 1548 2048 codez_770 :=
  And.intro (okz_1548 Hy) (okzz 3596)
theorem anz_771 (Hy : Hyz tys cA base adS Ex) : xall (fun b t => xOK l Dg clz tys cA flz ftz base adS GWz xyz xcz xnz xrz Ex codez bmz bpz b t) 2 524 1024 codez_771 :=
  And.intro (anz_769 Hy) (anz_770 Hy)
theorem anz_772 (Hy : Hyz tys cA base adS Ex) : xall (fun b t => xOK l Dg clz tys cA flz ftz base adS GWz xyz xcz xnz xrz Ex codez bmz bpz b t) 3 12 512 codez_772 :=
  And.intro (anz_768 Hy) (anz_771 Hy)
theorem anz_773 (Hy : Hyz tys cA base adS Ex) : xall (fun b t => xOK l Dg clz tys cA flz ftz base adS GWz xyz xcz xnz xrz Ex codez bmz bpz b t) 1 268 2048 codez_773 :=
  And.intro (okz_268 Hy) (okz_2316 Hy)
theorem anz_774 (Hy : Hyz tys cA base adS Ex) : xall (fun b t => xOK l Dg clz tys cA flz ftz base adS GWz xyz xcz xnz xrz Ex codez bmz bpz b t) 1 1292 2048 codez_774 :=
  And.intro (okz_1292 Hy) (okzz 3340)
theorem anz_775 (Hy : Hyz tys cA base adS Ex) : xall (fun b t => xOK l Dg clz tys cA flz ftz base adS GWz xyz xcz xnz xrz Ex codez bmz bpz b t) 2 268 1024 codez_775 :=
  And.intro (anz_773 Hy) (anz_774 Hy)
theorem anz_776 (Hy : Hyz tys cA base adS Ex) : xall (fun b t => xOK l Dg clz tys cA flz ftz base adS GWz xyz xcz xnz xrz Ex codez bmz bpz b t) 1 780 2048 codez_776 :=
  And.intro (okz_780 Hy) (okzz 2828)
theorem anz_777 (Hy : Hyz tys cA base adS Ex) : xall (fun b t => xOK l Dg clz tys cA flz ftz base adS GWz xyz xcz xnz xrz Ex codez bmz bpz b t) 1 1804 2048 codez_777 :=
  And.intro (okz_1804 Hy) (okzz 3852)
theorem anz_778 (Hy : Hyz tys cA base adS Ex) : xall (fun b t => xOK l Dg clz tys cA flz ftz base adS GWz xyz xcz xnz xrz Ex codez bmz bpz b t) 2 780 1024 codez_778 :=
  And.intro (anz_776 Hy) (anz_777 Hy)
theorem anz_779 (Hy : Hyz tys cA base adS Ex) : xall (fun b t => xOK l Dg clz tys cA flz ftz base adS GWz xyz xcz xnz xrz Ex codez bmz bpz b t) 3 268 512 codez_779 :=
  And.intro (anz_775 Hy) (anz_778 Hy)
theorem anz_780 (Hy : Hyz tys cA base adS Ex) : xall (fun b t => xOK l Dg clz tys cA flz ftz base adS GWz xyz xcz xnz xrz Ex codez bmz bpz b t) 4 12 256 codez_780 :=
  And.intro (anz_772 Hy) (anz_779 Hy)
theorem anz_781 (Hy : Hyz tys cA base adS Ex) : xall (fun b t => xOK l Dg clz tys cA flz ftz base adS GWz xyz xcz xnz xrz Ex codez bmz bpz b t) 1 140 2048 codez_781 :=
  And.intro (okz_140 Hy) (okz_2188 Hy)
theorem anz_782 (Hy : Hyz tys cA base adS Ex) : xall (fun b t => xOK l Dg clz tys cA flz ftz base adS GWz xyz xcz xnz xrz Ex codez bmz bpz b t) 1 1164 2048 codez_782 :=
  And.intro (okz_1164 Hy) (okzz 3212)
theorem anz_783 (Hy : Hyz tys cA base adS Ex) : xall (fun b t => xOK l Dg clz tys cA flz ftz base adS GWz xyz xcz xnz xrz Ex codez bmz bpz b t) 2 140 1024 codez_783 :=
  And.intro (anz_781 Hy) (anz_782 Hy)
theorem anz_784 (Hy : Hyz tys cA base adS Ex) : xall (fun b t => xOK l Dg clz tys cA flz ftz base adS GWz xyz xcz xnz xrz Ex codez bmz bpz b t) 1 652 2048 codez_784 :=
  And.intro (okz_652 Hy) (okzz 2700)
theorem anz_785 (Hy : Hyz tys cA base adS Ex) : xall (fun b t => xOK l Dg clz tys cA flz ftz base adS GWz xyz xcz xnz xrz Ex codez bmz bpz b t) 1 1676 2048 codez_785 :=
  And.intro (okz_1676 Hy) (okzz 3724)
theorem anz_786 (Hy : Hyz tys cA base adS Ex) : xall (fun b t => xOK l Dg clz tys cA flz ftz base adS GWz xyz xcz xnz xrz Ex codez bmz bpz b t) 2 652 1024 codez_786 :=
  And.intro (anz_784 Hy) (anz_785 Hy)
theorem anz_787 (Hy : Hyz tys cA base adS Ex) : xall (fun b t => xOK l Dg clz tys cA flz ftz base adS GWz xyz xcz xnz xrz Ex codez bmz bpz b t) 3 140 512 codez_787 :=
  And.intro (anz_783 Hy) (anz_786 Hy)
theorem anz_788 (Hy : Hyz tys cA base adS Ex) : xall (fun b t => xOK l Dg clz tys cA flz ftz base adS GWz xyz xcz xnz xrz Ex codez bmz bpz b t) 1 396 2048 codez_788 :=
  And.intro (okz_396 Hy) (okz_2444 Hy)
theorem anz_789 (Hy : Hyz tys cA base adS Ex) : xall (fun b t => xOK l Dg clz tys cA flz ftz base adS GWz xyz xcz xnz xrz Ex codez bmz bpz b t) 1 1420 2048 codez_789 :=
  And.intro (okz_1420 Hy) (okzz 3468)
theorem anz_790 (Hy : Hyz tys cA base adS Ex) : xall (fun b t => xOK l Dg clz tys cA flz ftz base adS GWz xyz xcz xnz xrz Ex codez bmz bpz b t) 2 396 1024 codez_790 :=
  And.intro (anz_788 Hy) (anz_789 Hy)
theorem anz_791 (Hy : Hyz tys cA base adS Ex) : xall (fun b t => xOK l Dg clz tys cA flz ftz base adS GWz xyz xcz xnz xrz Ex codez bmz bpz b t) 1 908 2048 codez_791 :=
  And.intro (okz_908 Hy) (okzz 2956)
theorem anz_792 (Hy : Hyz tys cA base adS Ex) : xall (fun b t => xOK l Dg clz tys cA flz ftz base adS GWz xyz xcz xnz xrz Ex codez bmz bpz b t) 1 1932 2048 codez_792 :=
  And.intro (okz_1932 Hy) (okzz 3980)
theorem anz_793 (Hy : Hyz tys cA base adS Ex) : xall (fun b t => xOK l Dg clz tys cA flz ftz base adS GWz xyz xcz xnz xrz Ex codez bmz bpz b t) 2 908 1024 codez_793 :=
  And.intro (anz_791 Hy) (anz_792 Hy)
theorem anz_794 (Hy : Hyz tys cA base adS Ex) : xall (fun b t => xOK l Dg clz tys cA flz ftz base adS GWz xyz xcz xnz xrz Ex codez bmz bpz b t) 3 396 512 codez_794 :=
  And.intro (anz_790 Hy) (anz_793 Hy)
theorem anz_795 (Hy : Hyz tys cA base adS Ex) : xall (fun b t => xOK l Dg clz tys cA flz ftz base adS GWz xyz xcz xnz xrz Ex codez bmz bpz b t) 4 140 256 codez_795 :=
  And.intro (anz_787 Hy) (anz_794 Hy)
theorem anz_796 (Hy : Hyz tys cA base adS Ex) : xall (fun b t => xOK l Dg clz tys cA flz ftz base adS GWz xyz xcz xnz xrz Ex codez bmz bpz b t) 5 12 128 codez_796 :=
  And.intro (anz_780 Hy) (anz_795 Hy)
theorem anz_797 (Hy : Hyz tys cA base adS Ex) : xall (fun b t => xOK l Dg clz tys cA flz ftz base adS GWz xyz xcz xnz xrz Ex codez bmz bpz b t) 1 76 2048 codez_797 :=
  And.intro (okz_76 Hy) (okz_2124 Hy)
theorem anz_798 (Hy : Hyz tys cA base adS Ex) : xall (fun b t => xOK l Dg clz tys cA flz ftz base adS GWz xyz xcz xnz xrz Ex codez bmz bpz b t) 1 1100 2048 codez_798 :=
  And.intro (okz_1100 Hy) (okzz 3148)
theorem anz_799 (Hy : Hyz tys cA base adS Ex) : xall (fun b t => xOK l Dg clz tys cA flz ftz base adS GWz xyz xcz xnz xrz Ex codez bmz bpz b t) 2 76 1024 codez_799 :=
  And.intro (anz_797 Hy) (anz_798 Hy)
theorem anz_800 (Hy : Hyz tys cA base adS Ex) : xall (fun b t => xOK l Dg clz tys cA flz ftz base adS GWz xyz xcz xnz xrz Ex codez bmz bpz b t) 1 588 2048 codez_800 :=
  And.intro (okz_588 Hy) (okzz 2636)
theorem anz_801 (Hy : Hyz tys cA base adS Ex) : xall (fun b t => xOK l Dg clz tys cA flz ftz base adS GWz xyz xcz xnz xrz Ex codez bmz bpz b t) 1 1612 2048 codez_801 :=
  And.intro (okz_1612 Hy) (okzz 3660)
theorem anz_802 (Hy : Hyz tys cA base adS Ex) : xall (fun b t => xOK l Dg clz tys cA flz ftz base adS GWz xyz xcz xnz xrz Ex codez bmz bpz b t) 2 588 1024 codez_802 :=
  And.intro (anz_800 Hy) (anz_801 Hy)
theorem anz_803 (Hy : Hyz tys cA base adS Ex) : xall (fun b t => xOK l Dg clz tys cA flz ftz base adS GWz xyz xcz xnz xrz Ex codez bmz bpz b t) 3 76 512 codez_803 :=
  And.intro (anz_799 Hy) (anz_802 Hy)
theorem anz_804 (Hy : Hyz tys cA base adS Ex) : xall (fun b t => xOK l Dg clz tys cA flz ftz base adS GWz xyz xcz xnz xrz Ex codez bmz bpz b t) 1 332 2048 codez_804 :=
  And.intro (okz_332 Hy) (okz_2380 Hy)
theorem anz_805 (Hy : Hyz tys cA base adS Ex) : xall (fun b t => xOK l Dg clz tys cA flz ftz base adS GWz xyz xcz xnz xrz Ex codez bmz bpz b t) 1 1356 2048 codez_805 :=
  And.intro (okz_1356 Hy) (okzz 3404)
theorem anz_806 (Hy : Hyz tys cA base adS Ex) : xall (fun b t => xOK l Dg clz tys cA flz ftz base adS GWz xyz xcz xnz xrz Ex codez bmz bpz b t) 2 332 1024 codez_806 :=
  And.intro (anz_804 Hy) (anz_805 Hy)
theorem anz_807 (Hy : Hyz tys cA base adS Ex) : xall (fun b t => xOK l Dg clz tys cA flz ftz base adS GWz xyz xcz xnz xrz Ex codez bmz bpz b t) 1 844 2048 codez_807 :=
  And.intro (okz_844 Hy) (okzz 2892)
theorem anz_808 (Hy : Hyz tys cA base adS Ex) : xall (fun b t => xOK l Dg clz tys cA flz ftz base adS GWz xyz xcz xnz xrz Ex codez bmz bpz b t) 1 1868 2048 codez_808 :=
  And.intro (okz_1868 Hy) (okzz 3916)
theorem anz_809 (Hy : Hyz tys cA base adS Ex) : xall (fun b t => xOK l Dg clz tys cA flz ftz base adS GWz xyz xcz xnz xrz Ex codez bmz bpz b t) 2 844 1024 codez_809 :=
  And.intro (anz_807 Hy) (anz_808 Hy)
theorem anz_810 (Hy : Hyz tys cA base adS Ex) : xall (fun b t => xOK l Dg clz tys cA flz ftz base adS GWz xyz xcz xnz xrz Ex codez bmz bpz b t) 3 332 512 codez_810 :=
  And.intro (anz_806 Hy) (anz_809 Hy)
theorem anz_811 (Hy : Hyz tys cA base adS Ex) : xall (fun b t => xOK l Dg clz tys cA flz ftz base adS GWz xyz xcz xnz xrz Ex codez bmz bpz b t) 4 76 256 codez_811 :=
  And.intro (anz_803 Hy) (anz_810 Hy)
theorem anz_812 (Hy : Hyz tys cA base adS Ex) : xall (fun b t => xOK l Dg clz tys cA flz ftz base adS GWz xyz xcz xnz xrz Ex codez bmz bpz b t) 1 204 2048 codez_812 :=
  And.intro (okz_204 Hy) (okz_2252 Hy)
theorem anz_813 (Hy : Hyz tys cA base adS Ex) : xall (fun b t => xOK l Dg clz tys cA flz ftz base adS GWz xyz xcz xnz xrz Ex codez bmz bpz b t) 1 1228 2048 codez_813 :=
  And.intro (okz_1228 Hy) (okzz 3276)
theorem anz_814 (Hy : Hyz tys cA base adS Ex) : xall (fun b t => xOK l Dg clz tys cA flz ftz base adS GWz xyz xcz xnz xrz Ex codez bmz bpz b t) 2 204 1024 codez_814 :=
  And.intro (anz_812 Hy) (anz_813 Hy)
theorem anz_815 (Hy : Hyz tys cA base adS Ex) : xall (fun b t => xOK l Dg clz tys cA flz ftz base adS GWz xyz xcz xnz xrz Ex codez bmz bpz b t) 1 716 2048 codez_815 :=
  And.intro (okz_716 Hy) (okzz 2764)
theorem anz_816 (Hy : Hyz tys cA base adS Ex) : xall (fun b t => xOK l Dg clz tys cA flz ftz base adS GWz xyz xcz xnz xrz Ex codez bmz bpz b t) 1 1740 2048 codez_816 :=
  And.intro (okz_1740 Hy) (okzz 3788)
theorem anz_817 (Hy : Hyz tys cA base adS Ex) : xall (fun b t => xOK l Dg clz tys cA flz ftz base adS GWz xyz xcz xnz xrz Ex codez bmz bpz b t) 2 716 1024 codez_817 :=
  And.intro (anz_815 Hy) (anz_816 Hy)
theorem anz_818 (Hy : Hyz tys cA base adS Ex) : xall (fun b t => xOK l Dg clz tys cA flz ftz base adS GWz xyz xcz xnz xrz Ex codez bmz bpz b t) 3 204 512 codez_818 :=
  And.intro (anz_814 Hy) (anz_817 Hy)
theorem anz_819 (Hy : Hyz tys cA base adS Ex) : xall (fun b t => xOK l Dg clz tys cA flz ftz base adS GWz xyz xcz xnz xrz Ex codez bmz bpz b t) 1 460 2048 codez_819 :=
  And.intro (okz_460 Hy) (okz_2508 Hy)
theorem anz_820 (Hy : Hyz tys cA base adS Ex) : xall (fun b t => xOK l Dg clz tys cA flz ftz base adS GWz xyz xcz xnz xrz Ex codez bmz bpz b t) 1 1484 2048 codez_820 :=
  And.intro (okz_1484 Hy) (okzz 3532)
theorem anz_821 (Hy : Hyz tys cA base adS Ex) : xall (fun b t => xOK l Dg clz tys cA flz ftz base adS GWz xyz xcz xnz xrz Ex codez bmz bpz b t) 2 460 1024 codez_821 :=
  And.intro (anz_819 Hy) (anz_820 Hy)
theorem anz_822 (Hy : Hyz tys cA base adS Ex) : xall (fun b t => xOK l Dg clz tys cA flz ftz base adS GWz xyz xcz xnz xrz Ex codez bmz bpz b t) 1 972 2048 codez_822 :=
  And.intro (okz_972 Hy) (okzz 3020)
theorem anz_823 (Hy : Hyz tys cA base adS Ex) : xall (fun b t => xOK l Dg clz tys cA flz ftz base adS GWz xyz xcz xnz xrz Ex codez bmz bpz b t) 1 1996 2048 codez_823 :=
  And.intro (okz_1996 Hy) (okzz 4044)
theorem anz_824 (Hy : Hyz tys cA base adS Ex) : xall (fun b t => xOK l Dg clz tys cA flz ftz base adS GWz xyz xcz xnz xrz Ex codez bmz bpz b t) 2 972 1024 codez_824 :=
  And.intro (anz_822 Hy) (anz_823 Hy)
theorem anz_825 (Hy : Hyz tys cA base adS Ex) : xall (fun b t => xOK l Dg clz tys cA flz ftz base adS GWz xyz xcz xnz xrz Ex codez bmz bpz b t) 3 460 512 codez_825 :=
  And.intro (anz_821 Hy) (anz_824 Hy)
theorem anz_826 (Hy : Hyz tys cA base adS Ex) : xall (fun b t => xOK l Dg clz tys cA flz ftz base adS GWz xyz xcz xnz xrz Ex codez bmz bpz b t) 4 204 256 codez_826 :=
  And.intro (anz_818 Hy) (anz_825 Hy)
theorem anz_827 (Hy : Hyz tys cA base adS Ex) : xall (fun b t => xOK l Dg clz tys cA flz ftz base adS GWz xyz xcz xnz xrz Ex codez bmz bpz b t) 5 76 128 codez_827 :=
  And.intro (anz_811 Hy) (anz_826 Hy)
theorem anz_828 (Hy : Hyz tys cA base adS Ex) : xall (fun b t => xOK l Dg clz tys cA flz ftz base adS GWz xyz xcz xnz xrz Ex codez bmz bpz b t) 6 12 64 codez_828 :=
  And.intro (anz_796 Hy) (anz_827 Hy)
theorem anz_829 (Hy : Hyz tys cA base adS Ex) : xall (fun b t => xOK l Dg clz tys cA flz ftz base adS GWz xyz xcz xnz xrz Ex codez bmz bpz b t) 1 44 2048 codez_829 :=
  And.intro (okz_44 Hy) (okz_2092 Hy)
theorem anz_830 (Hy : Hyz tys cA base adS Ex) : xall (fun b t => xOK l Dg clz tys cA flz ftz base adS GWz xyz xcz xnz xrz Ex codez bmz bpz b t) 1 1068 2048 codez_830 :=
  And.intro (okz_1068 Hy) (okzz 3116)
theorem anz_831 (Hy : Hyz tys cA base adS Ex) : xall (fun b t => xOK l Dg clz tys cA flz ftz base adS GWz xyz xcz xnz xrz Ex codez bmz bpz b t) 2 44 1024 codez_831 :=
  And.intro (anz_829 Hy) (anz_830 Hy)
theorem anz_832 (Hy : Hyz tys cA base adS Ex) : xall (fun b t => xOK l Dg clz tys cA flz ftz base adS GWz xyz xcz xnz xrz Ex codez bmz bpz b t) 1 556 2048 codez_832 :=
  And.intro (okz_556 Hy) (okzz 2604)
theorem anz_833 (Hy : Hyz tys cA base adS Ex) : xall (fun b t => xOK l Dg clz tys cA flz ftz base adS GWz xyz xcz xnz xrz Ex codez bmz bpz b t) 1 1580 2048 codez_833 :=
  And.intro (okz_1580 Hy) (okzz 3628)
theorem anz_834 (Hy : Hyz tys cA base adS Ex) : xall (fun b t => xOK l Dg clz tys cA flz ftz base adS GWz xyz xcz xnz xrz Ex codez bmz bpz b t) 2 556 1024 codez_834 :=
  And.intro (anz_832 Hy) (anz_833 Hy)
theorem anz_835 (Hy : Hyz tys cA base adS Ex) : xall (fun b t => xOK l Dg clz tys cA flz ftz base adS GWz xyz xcz xnz xrz Ex codez bmz bpz b t) 3 44 512 codez_835 :=
  And.intro (anz_831 Hy) (anz_834 Hy)
theorem anz_836 (Hy : Hyz tys cA base adS Ex) : xall (fun b t => xOK l Dg clz tys cA flz ftz base adS GWz xyz xcz xnz xrz Ex codez bmz bpz b t) 1 300 2048 codez_836 :=
  And.intro (okz_300 Hy) (okz_2348 Hy)
theorem anz_837 (Hy : Hyz tys cA base adS Ex) : xall (fun b t => xOK l Dg clz tys cA flz ftz base adS GWz xyz xcz xnz xrz Ex codez bmz bpz b t) 1 1324 2048 codez_837 :=
  And.intro (okz_1324 Hy) (okzz 3372)
theorem anz_838 (Hy : Hyz tys cA base adS Ex) : xall (fun b t => xOK l Dg clz tys cA flz ftz base adS GWz xyz xcz xnz xrz Ex codez bmz bpz b t) 2 300 1024 codez_838 :=
  And.intro (anz_836 Hy) (anz_837 Hy)
theorem anz_839 (Hy : Hyz tys cA base adS Ex) : xall (fun b t => xOK l Dg clz tys cA flz ftz base adS GWz xyz xcz xnz xrz Ex codez bmz bpz b t) 1 812 2048 codez_839 :=
  And.intro (okz_812 Hy) (okzz 2860)
theorem anz_840 (Hy : Hyz tys cA base adS Ex) : xall (fun b t => xOK l Dg clz tys cA flz ftz base adS GWz xyz xcz xnz xrz Ex codez bmz bpz b t) 1 1836 2048 codez_840 :=
  And.intro (okz_1836 Hy) (okzz 3884)
theorem anz_841 (Hy : Hyz tys cA base adS Ex) : xall (fun b t => xOK l Dg clz tys cA flz ftz base adS GWz xyz xcz xnz xrz Ex codez bmz bpz b t) 2 812 1024 codez_841 :=
  And.intro (anz_839 Hy) (anz_840 Hy)
theorem anz_842 (Hy : Hyz tys cA base adS Ex) : xall (fun b t => xOK l Dg clz tys cA flz ftz base adS GWz xyz xcz xnz xrz Ex codez bmz bpz b t) 3 300 512 codez_842 :=
  And.intro (anz_838 Hy) (anz_841 Hy)
theorem anz_843 (Hy : Hyz tys cA base adS Ex) : xall (fun b t => xOK l Dg clz tys cA flz ftz base adS GWz xyz xcz xnz xrz Ex codez bmz bpz b t) 4 44 256 codez_843 :=
  And.intro (anz_835 Hy) (anz_842 Hy)
theorem anz_844 (Hy : Hyz tys cA base adS Ex) : xall (fun b t => xOK l Dg clz tys cA flz ftz base adS GWz xyz xcz xnz xrz Ex codez bmz bpz b t) 1 172 2048 codez_844 :=
  And.intro (okz_172 Hy) (okz_2220 Hy)
theorem anz_845 (Hy : Hyz tys cA base adS Ex) : xall (fun b t => xOK l Dg clz tys cA flz ftz base adS GWz xyz xcz xnz xrz Ex codez bmz bpz b t) 1 1196 2048 codez_845 :=
  And.intro (okz_1196 Hy) (okzz 3244)
theorem anz_846 (Hy : Hyz tys cA base adS Ex) : xall (fun b t => xOK l Dg clz tys cA flz ftz base adS GWz xyz xcz xnz xrz Ex codez bmz bpz b t) 2 172 1024 codez_846 :=
  And.intro (anz_844 Hy) (anz_845 Hy)
theorem anz_847 (Hy : Hyz tys cA base adS Ex) : xall (fun b t => xOK l Dg clz tys cA flz ftz base adS GWz xyz xcz xnz xrz Ex codez bmz bpz b t) 1 684 2048 codez_847 :=
  And.intro (okz_684 Hy) (okzz 2732)
theorem anz_848 (Hy : Hyz tys cA base adS Ex) : xall (fun b t => xOK l Dg clz tys cA flz ftz base adS GWz xyz xcz xnz xrz Ex codez bmz bpz b t) 1 1708 2048 codez_848 :=
  And.intro (okz_1708 Hy) (okzz 3756)
theorem anz_849 (Hy : Hyz tys cA base adS Ex) : xall (fun b t => xOK l Dg clz tys cA flz ftz base adS GWz xyz xcz xnz xrz Ex codez bmz bpz b t) 2 684 1024 codez_849 :=
  And.intro (anz_847 Hy) (anz_848 Hy)
theorem anz_850 (Hy : Hyz tys cA base adS Ex) : xall (fun b t => xOK l Dg clz tys cA flz ftz base adS GWz xyz xcz xnz xrz Ex codez bmz bpz b t) 3 172 512 codez_850 :=
  And.intro (anz_846 Hy) (anz_849 Hy)
theorem anz_851 (Hy : Hyz tys cA base adS Ex) : xall (fun b t => xOK l Dg clz tys cA flz ftz base adS GWz xyz xcz xnz xrz Ex codez bmz bpz b t) 1 428 2048 codez_851 :=
  And.intro (okz_428 Hy) (okz_2476 Hy)
theorem anz_852 (Hy : Hyz tys cA base adS Ex) : xall (fun b t => xOK l Dg clz tys cA flz ftz base adS GWz xyz xcz xnz xrz Ex codez bmz bpz b t) 1 1452 2048 codez_852 :=
  And.intro (okz_1452 Hy) (okzz 3500)
theorem anz_853 (Hy : Hyz tys cA base adS Ex) : xall (fun b t => xOK l Dg clz tys cA flz ftz base adS GWz xyz xcz xnz xrz Ex codez bmz bpz b t) 2 428 1024 codez_853 :=
  And.intro (anz_851 Hy) (anz_852 Hy)
theorem anz_854 (Hy : Hyz tys cA base adS Ex) : xall (fun b t => xOK l Dg clz tys cA flz ftz base adS GWz xyz xcz xnz xrz Ex codez bmz bpz b t) 1 940 2048 codez_854 :=
  And.intro (okz_940 Hy) (okzz 2988)
theorem anz_855 (Hy : Hyz tys cA base adS Ex) : xall (fun b t => xOK l Dg clz tys cA flz ftz base adS GWz xyz xcz xnz xrz Ex codez bmz bpz b t) 1 1964 2048 codez_855 :=
  And.intro (okz_1964 Hy) (okzz 4012)
theorem anz_856 (Hy : Hyz tys cA base adS Ex) : xall (fun b t => xOK l Dg clz tys cA flz ftz base adS GWz xyz xcz xnz xrz Ex codez bmz bpz b t) 2 940 1024 codez_856 :=
  And.intro (anz_854 Hy) (anz_855 Hy)
theorem anz_857 (Hy : Hyz tys cA base adS Ex) : xall (fun b t => xOK l Dg clz tys cA flz ftz base adS GWz xyz xcz xnz xrz Ex codez bmz bpz b t) 3 428 512 codez_857 :=
  And.intro (anz_853 Hy) (anz_856 Hy)
theorem anz_858 (Hy : Hyz tys cA base adS Ex) : xall (fun b t => xOK l Dg clz tys cA flz ftz base adS GWz xyz xcz xnz xrz Ex codez bmz bpz b t) 4 172 256 codez_858 :=
  And.intro (anz_850 Hy) (anz_857 Hy)
theorem anz_859 (Hy : Hyz tys cA base adS Ex) : xall (fun b t => xOK l Dg clz tys cA flz ftz base adS GWz xyz xcz xnz xrz Ex codez bmz bpz b t) 5 44 128 codez_859 :=
  And.intro (anz_843 Hy) (anz_858 Hy)
theorem anz_860 (Hy : Hyz tys cA base adS Ex) : xall (fun b t => xOK l Dg clz tys cA flz ftz base adS GWz xyz xcz xnz xrz Ex codez bmz bpz b t) 1 108 2048 codez_860 :=
  And.intro (okz_108 Hy) (okz_2156 Hy)
theorem anz_861 (Hy : Hyz tys cA base adS Ex) : xall (fun b t => xOK l Dg clz tys cA flz ftz base adS GWz xyz xcz xnz xrz Ex codez bmz bpz b t) 1 1132 2048 codez_861 :=
  And.intro (okz_1132 Hy) (okzz 3180)
theorem anz_862 (Hy : Hyz tys cA base adS Ex) : xall (fun b t => xOK l Dg clz tys cA flz ftz base adS GWz xyz xcz xnz xrz Ex codez bmz bpz b t) 2 108 1024 codez_862 :=
  And.intro (anz_860 Hy) (anz_861 Hy)
theorem anz_863 (Hy : Hyz tys cA base adS Ex) : xall (fun b t => xOK l Dg clz tys cA flz ftz base adS GWz xyz xcz xnz xrz Ex codez bmz bpz b t) 1 620 2048 codez_863 :=
  And.intro (okz_620 Hy) (okzz 2668)
theorem anz_864 (Hy : Hyz tys cA base adS Ex) : xall (fun b t => xOK l Dg clz tys cA flz ftz base adS GWz xyz xcz xnz xrz Ex codez bmz bpz b t) 1 1644 2048 codez_864 :=
  And.intro (okz_1644 Hy) (okzz 3692)
theorem anz_865 (Hy : Hyz tys cA base adS Ex) : xall (fun b t => xOK l Dg clz tys cA flz ftz base adS GWz xyz xcz xnz xrz Ex codez bmz bpz b t) 2 620 1024 codez_865 :=
  And.intro (anz_863 Hy) (anz_864 Hy)
theorem anz_866 (Hy : Hyz tys cA base adS Ex) : xall (fun b t => xOK l Dg clz tys cA flz ftz base adS GWz xyz xcz xnz xrz Ex codez bmz bpz b t) 3 108 512 codez_866 :=
  And.intro (anz_862 Hy) (anz_865 Hy)
theorem anz_867 (Hy : Hyz tys cA base adS Ex) : xall (fun b t => xOK l Dg clz tys cA flz ftz base adS GWz xyz xcz xnz xrz Ex codez bmz bpz b t) 1 364 2048 codez_867 :=
  And.intro (okz_364 Hy) (okz_2412 Hy)
theorem anz_868 (Hy : Hyz tys cA base adS Ex) : xall (fun b t => xOK l Dg clz tys cA flz ftz base adS GWz xyz xcz xnz xrz Ex codez bmz bpz b t) 1 1388 2048 codez_868 :=
  And.intro (okz_1388 Hy) (okzz 3436)
theorem anz_869 (Hy : Hyz tys cA base adS Ex) : xall (fun b t => xOK l Dg clz tys cA flz ftz base adS GWz xyz xcz xnz xrz Ex codez bmz bpz b t) 2 364 1024 codez_869 :=
  And.intro (anz_867 Hy) (anz_868 Hy)
theorem anz_870 (Hy : Hyz tys cA base adS Ex) : xall (fun b t => xOK l Dg clz tys cA flz ftz base adS GWz xyz xcz xnz xrz Ex codez bmz bpz b t) 1 876 2048 codez_870 :=
  And.intro (okz_876 Hy) (okzz 2924)
theorem anz_871 (Hy : Hyz tys cA base adS Ex) : xall (fun b t => xOK l Dg clz tys cA flz ftz base adS GWz xyz xcz xnz xrz Ex codez bmz bpz b t) 1 1900 2048 codez_871 :=
  And.intro (okz_1900 Hy) (okzz 3948)
theorem anz_872 (Hy : Hyz tys cA base adS Ex) : xall (fun b t => xOK l Dg clz tys cA flz ftz base adS GWz xyz xcz xnz xrz Ex codez bmz bpz b t) 2 876 1024 codez_872 :=
  And.intro (anz_870 Hy) (anz_871 Hy)
theorem anz_873 (Hy : Hyz tys cA base adS Ex) : xall (fun b t => xOK l Dg clz tys cA flz ftz base adS GWz xyz xcz xnz xrz Ex codez bmz bpz b t) 3 364 512 codez_873 :=
  And.intro (anz_869 Hy) (anz_872 Hy)
theorem anz_874 (Hy : Hyz tys cA base adS Ex) : xall (fun b t => xOK l Dg clz tys cA flz ftz base adS GWz xyz xcz xnz xrz Ex codez bmz bpz b t) 4 108 256 codez_874 :=
  And.intro (anz_866 Hy) (anz_873 Hy)
theorem anz_875 (Hy : Hyz tys cA base adS Ex) : xall (fun b t => xOK l Dg clz tys cA flz ftz base adS GWz xyz xcz xnz xrz Ex codez bmz bpz b t) 1 236 2048 codez_875 :=
  And.intro (okz_236 Hy) (okz_2284 Hy)
theorem anz_876 (Hy : Hyz tys cA base adS Ex) : xall (fun b t => xOK l Dg clz tys cA flz ftz base adS GWz xyz xcz xnz xrz Ex codez bmz bpz b t) 1 1260 2048 codez_876 :=
  And.intro (okz_1260 Hy) (okzz 3308)
theorem anz_877 (Hy : Hyz tys cA base adS Ex) : xall (fun b t => xOK l Dg clz tys cA flz ftz base adS GWz xyz xcz xnz xrz Ex codez bmz bpz b t) 2 236 1024 codez_877 :=
  And.intro (anz_875 Hy) (anz_876 Hy)
theorem anz_878 (Hy : Hyz tys cA base adS Ex) : xall (fun b t => xOK l Dg clz tys cA flz ftz base adS GWz xyz xcz xnz xrz Ex codez bmz bpz b t) 1 748 2048 codez_878 :=
  And.intro (okz_748 Hy) (okzz 2796)
theorem anz_879 (Hy : Hyz tys cA base adS Ex) : xall (fun b t => xOK l Dg clz tys cA flz ftz base adS GWz xyz xcz xnz xrz Ex codez bmz bpz b t) 1 1772 2048 codez_879 :=
  And.intro (okz_1772 Hy) (okzz 3820)
theorem anz_880 (Hy : Hyz tys cA base adS Ex) : xall (fun b t => xOK l Dg clz tys cA flz ftz base adS GWz xyz xcz xnz xrz Ex codez bmz bpz b t) 2 748 1024 codez_880 :=
  And.intro (anz_878 Hy) (anz_879 Hy)
theorem anz_881 (Hy : Hyz tys cA base adS Ex) : xall (fun b t => xOK l Dg clz tys cA flz ftz base adS GWz xyz xcz xnz xrz Ex codez bmz bpz b t) 3 236 512 codez_881 :=
  And.intro (anz_877 Hy) (anz_880 Hy)
theorem anz_882 (Hy : Hyz tys cA base adS Ex) : xall (fun b t => xOK l Dg clz tys cA flz ftz base adS GWz xyz xcz xnz xrz Ex codez bmz bpz b t) 1 492 2048 codez_882 :=
  And.intro (okz_492 Hy) (okz_2540 Hy)
theorem anz_883 (Hy : Hyz tys cA base adS Ex) : xall (fun b t => xOK l Dg clz tys cA flz ftz base adS GWz xyz xcz xnz xrz Ex codez bmz bpz b t) 1 1516 2048 codez_883 :=
  And.intro (okz_1516 Hy) (okzz 3564)
theorem anz_884 (Hy : Hyz tys cA base adS Ex) : xall (fun b t => xOK l Dg clz tys cA flz ftz base adS GWz xyz xcz xnz xrz Ex codez bmz bpz b t) 2 492 1024 codez_884 :=
  And.intro (anz_882 Hy) (anz_883 Hy)
theorem anz_885 (Hy : Hyz tys cA base adS Ex) : xall (fun b t => xOK l Dg clz tys cA flz ftz base adS GWz xyz xcz xnz xrz Ex codez bmz bpz b t) 1 1004 2048 codez_885 :=
  And.intro (okz_1004 Hy) (okzz 3052)
theorem anz_886 (Hy : Hyz tys cA base adS Ex) : xall (fun b t => xOK l Dg clz tys cA flz ftz base adS GWz xyz xcz xnz xrz Ex codez bmz bpz b t) 1 2028 2048 codez_886 :=
  And.intro (okz_2028 Hy) (okzz 4076)
theorem anz_887 (Hy : Hyz tys cA base adS Ex) : xall (fun b t => xOK l Dg clz tys cA flz ftz base adS GWz xyz xcz xnz xrz Ex codez bmz bpz b t) 2 1004 1024 codez_887 :=
  And.intro (anz_885 Hy) (anz_886 Hy)
theorem anz_888 (Hy : Hyz tys cA base adS Ex) : xall (fun b t => xOK l Dg clz tys cA flz ftz base adS GWz xyz xcz xnz xrz Ex codez bmz bpz b t) 3 492 512 codez_888 :=
  And.intro (anz_884 Hy) (anz_887 Hy)
theorem anz_889 (Hy : Hyz tys cA base adS Ex) : xall (fun b t => xOK l Dg clz tys cA flz ftz base adS GWz xyz xcz xnz xrz Ex codez bmz bpz b t) 4 236 256 codez_889 :=
  And.intro (anz_881 Hy) (anz_888 Hy)
theorem anz_890 (Hy : Hyz tys cA base adS Ex) : xall (fun b t => xOK l Dg clz tys cA flz ftz base adS GWz xyz xcz xnz xrz Ex codez bmz bpz b t) 5 108 128 codez_890 :=
  And.intro (anz_874 Hy) (anz_889 Hy)
theorem anz_891 (Hy : Hyz tys cA base adS Ex) : xall (fun b t => xOK l Dg clz tys cA flz ftz base adS GWz xyz xcz xnz xrz Ex codez bmz bpz b t) 6 44 64 codez_891 :=
  And.intro (anz_859 Hy) (anz_890 Hy)
theorem anz_892 (Hy : Hyz tys cA base adS Ex) : xall (fun b t => xOK l Dg clz tys cA flz ftz base adS GWz xyz xcz xnz xrz Ex codez bmz bpz b t) 7 12 32 codez_892 :=
  And.intro (anz_828 Hy) (anz_891 Hy)
theorem anz_893 (Hy : Hyz tys cA base adS Ex) : xall (fun b t => xOK l Dg clz tys cA flz ftz base adS GWz xyz xcz xnz xrz Ex codez bmz bpz b t) 1 28 2048 codez_893 :=
  And.intro (okz_28 Hy) (okz_2076 Hy)
theorem anz_894 (Hy : Hyz tys cA base adS Ex) : xall (fun b t => xOK l Dg clz tys cA flz ftz base adS GWz xyz xcz xnz xrz Ex codez bmz bpz b t) 1 1052 2048 codez_894 :=
  And.intro (okz_1052 Hy) (okzz 3100)
theorem anz_895 (Hy : Hyz tys cA base adS Ex) : xall (fun b t => xOK l Dg clz tys cA flz ftz base adS GWz xyz xcz xnz xrz Ex codez bmz bpz b t) 2 28 1024 codez_895 :=
  And.intro (anz_893 Hy) (anz_894 Hy)
theorem anz_896 (Hy : Hyz tys cA base adS Ex) : xall (fun b t => xOK l Dg clz tys cA flz ftz base adS GWz xyz xcz xnz xrz Ex codez bmz bpz b t) 1 540 2048 codez_896 :=
  And.intro (okz_540 Hy) (okzz 2588)
theorem anz_897 (Hy : Hyz tys cA base adS Ex) : xall (fun b t => xOK l Dg clz tys cA flz ftz base adS GWz xyz xcz xnz xrz Ex codez bmz bpz b t) 1 1564 2048 codez_897 :=
  And.intro (okz_1564 Hy) (okzz 3612)
theorem anz_898 (Hy : Hyz tys cA base adS Ex) : xall (fun b t => xOK l Dg clz tys cA flz ftz base adS GWz xyz xcz xnz xrz Ex codez bmz bpz b t) 2 540 1024 codez_898 :=
  And.intro (anz_896 Hy) (anz_897 Hy)
theorem anz_899 (Hy : Hyz tys cA base adS Ex) : xall (fun b t => xOK l Dg clz tys cA flz ftz base adS GWz xyz xcz xnz xrz Ex codez bmz bpz b t) 3 28 512 codez_899 :=
  And.intro (anz_895 Hy) (anz_898 Hy)
theorem anz_900 (Hy : Hyz tys cA base adS Ex) : xall (fun b t => xOK l Dg clz tys cA flz ftz base adS GWz xyz xcz xnz xrz Ex codez bmz bpz b t) 1 284 2048 codez_900 :=
  And.intro (okz_284 Hy) (okz_2332 Hy)
theorem anz_901 (Hy : Hyz tys cA base adS Ex) : xall (fun b t => xOK l Dg clz tys cA flz ftz base adS GWz xyz xcz xnz xrz Ex codez bmz bpz b t) 1 1308 2048 codez_901 :=
  And.intro (okz_1308 Hy) (okzz 3356)
theorem anz_902 (Hy : Hyz tys cA base adS Ex) : xall (fun b t => xOK l Dg clz tys cA flz ftz base adS GWz xyz xcz xnz xrz Ex codez bmz bpz b t) 2 284 1024 codez_902 :=
  And.intro (anz_900 Hy) (anz_901 Hy)
theorem anz_903 (Hy : Hyz tys cA base adS Ex) : xall (fun b t => xOK l Dg clz tys cA flz ftz base adS GWz xyz xcz xnz xrz Ex codez bmz bpz b t) 1 796 2048 codez_903 :=
  And.intro (okz_796 Hy) (okzz 2844)
theorem anz_904 (Hy : Hyz tys cA base adS Ex) : xall (fun b t => xOK l Dg clz tys cA flz ftz base adS GWz xyz xcz xnz xrz Ex codez bmz bpz b t) 1 1820 2048 codez_904 :=
  And.intro (okz_1820 Hy) (okzz 3868)
theorem anz_905 (Hy : Hyz tys cA base adS Ex) : xall (fun b t => xOK l Dg clz tys cA flz ftz base adS GWz xyz xcz xnz xrz Ex codez bmz bpz b t) 2 796 1024 codez_905 :=
  And.intro (anz_903 Hy) (anz_904 Hy)
theorem anz_906 (Hy : Hyz tys cA base adS Ex) : xall (fun b t => xOK l Dg clz tys cA flz ftz base adS GWz xyz xcz xnz xrz Ex codez bmz bpz b t) 3 284 512 codez_906 :=
  And.intro (anz_902 Hy) (anz_905 Hy)
theorem anz_907 (Hy : Hyz tys cA base adS Ex) : xall (fun b t => xOK l Dg clz tys cA flz ftz base adS GWz xyz xcz xnz xrz Ex codez bmz bpz b t) 4 28 256 codez_907 :=
  And.intro (anz_899 Hy) (anz_906 Hy)
theorem anz_908 (Hy : Hyz tys cA base adS Ex) : xall (fun b t => xOK l Dg clz tys cA flz ftz base adS GWz xyz xcz xnz xrz Ex codez bmz bpz b t) 1 156 2048 codez_908 :=
  And.intro (okz_156 Hy) (okz_2204 Hy)
theorem anz_909 (Hy : Hyz tys cA base adS Ex) : xall (fun b t => xOK l Dg clz tys cA flz ftz base adS GWz xyz xcz xnz xrz Ex codez bmz bpz b t) 1 1180 2048 codez_909 :=
  And.intro (okz_1180 Hy) (okzz 3228)
theorem anz_910 (Hy : Hyz tys cA base adS Ex) : xall (fun b t => xOK l Dg clz tys cA flz ftz base adS GWz xyz xcz xnz xrz Ex codez bmz bpz b t) 2 156 1024 codez_910 :=
  And.intro (anz_908 Hy) (anz_909 Hy)
theorem anz_911 (Hy : Hyz tys cA base adS Ex) : xall (fun b t => xOK l Dg clz tys cA flz ftz base adS GWz xyz xcz xnz xrz Ex codez bmz bpz b t) 1 668 2048 codez_911 :=
  And.intro (okz_668 Hy) (okzz 2716)
theorem anz_912 (Hy : Hyz tys cA base adS Ex) : xall (fun b t => xOK l Dg clz tys cA flz ftz base adS GWz xyz xcz xnz xrz Ex codez bmz bpz b t) 1 1692 2048 codez_912 :=
  And.intro (okz_1692 Hy) (okzz 3740)
theorem anz_913 (Hy : Hyz tys cA base adS Ex) : xall (fun b t => xOK l Dg clz tys cA flz ftz base adS GWz xyz xcz xnz xrz Ex codez bmz bpz b t) 2 668 1024 codez_913 :=
  And.intro (anz_911 Hy) (anz_912 Hy)
theorem anz_914 (Hy : Hyz tys cA base adS Ex) : xall (fun b t => xOK l Dg clz tys cA flz ftz base adS GWz xyz xcz xnz xrz Ex codez bmz bpz b t) 3 156 512 codez_914 :=
  And.intro (anz_910 Hy) (anz_913 Hy)
theorem anz_915 (Hy : Hyz tys cA base adS Ex) : xall (fun b t => xOK l Dg clz tys cA flz ftz base adS GWz xyz xcz xnz xrz Ex codez bmz bpz b t) 1 412 2048 codez_915 :=
  And.intro (okz_412 Hy) (okz_2460 Hy)
theorem anz_916 (Hy : Hyz tys cA base adS Ex) : xall (fun b t => xOK l Dg clz tys cA flz ftz base adS GWz xyz xcz xnz xrz Ex codez bmz bpz b t) 1 1436 2048 codez_916 :=
  And.intro (okz_1436 Hy) (okzz 3484)
theorem anz_917 (Hy : Hyz tys cA base adS Ex) : xall (fun b t => xOK l Dg clz tys cA flz ftz base adS GWz xyz xcz xnz xrz Ex codez bmz bpz b t) 2 412 1024 codez_917 :=
  And.intro (anz_915 Hy) (anz_916 Hy)
theorem anz_918 (Hy : Hyz tys cA base adS Ex) : xall (fun b t => xOK l Dg clz tys cA flz ftz base adS GWz xyz xcz xnz xrz Ex codez bmz bpz b t) 1 924 2048 codez_918 :=
  And.intro (okz_924 Hy) (okzz 2972)
theorem anz_919 (Hy : Hyz tys cA base adS Ex) : xall (fun b t => xOK l Dg clz tys cA flz ftz base adS GWz xyz xcz xnz xrz Ex codez bmz bpz b t) 1 1948 2048 codez_919 :=
  And.intro (okz_1948 Hy) (okzz 3996)
theorem anz_920 (Hy : Hyz tys cA base adS Ex) : xall (fun b t => xOK l Dg clz tys cA flz ftz base adS GWz xyz xcz xnz xrz Ex codez bmz bpz b t) 2 924 1024 codez_920 :=
  And.intro (anz_918 Hy) (anz_919 Hy)
theorem anz_921 (Hy : Hyz tys cA base adS Ex) : xall (fun b t => xOK l Dg clz tys cA flz ftz base adS GWz xyz xcz xnz xrz Ex codez bmz bpz b t) 3 412 512 codez_921 :=
  And.intro (anz_917 Hy) (anz_920 Hy)
theorem anz_922 (Hy : Hyz tys cA base adS Ex) : xall (fun b t => xOK l Dg clz tys cA flz ftz base adS GWz xyz xcz xnz xrz Ex codez bmz bpz b t) 4 156 256 codez_922 :=
  And.intro (anz_914 Hy) (anz_921 Hy)
theorem anz_923 (Hy : Hyz tys cA base adS Ex) : xall (fun b t => xOK l Dg clz tys cA flz ftz base adS GWz xyz xcz xnz xrz Ex codez bmz bpz b t) 5 28 128 codez_923 :=
  And.intro (anz_907 Hy) (anz_922 Hy)
theorem anz_924 (Hy : Hyz tys cA base adS Ex) : xall (fun b t => xOK l Dg clz tys cA flz ftz base adS GWz xyz xcz xnz xrz Ex codez bmz bpz b t) 1 92 2048 codez_924 :=
  And.intro (okz_92 Hy) (okz_2140 Hy)
theorem anz_925 (Hy : Hyz tys cA base adS Ex) : xall (fun b t => xOK l Dg clz tys cA flz ftz base adS GWz xyz xcz xnz xrz Ex codez bmz bpz b t) 1 1116 2048 codez_925 :=
  And.intro (okz_1116 Hy) (okzz 3164)
theorem anz_926 (Hy : Hyz tys cA base adS Ex) : xall (fun b t => xOK l Dg clz tys cA flz ftz base adS GWz xyz xcz xnz xrz Ex codez bmz bpz b t) 2 92 1024 codez_926 :=
  And.intro (anz_924 Hy) (anz_925 Hy)
theorem anz_927 (Hy : Hyz tys cA base adS Ex) : xall (fun b t => xOK l Dg clz tys cA flz ftz base adS GWz xyz xcz xnz xrz Ex codez bmz bpz b t) 1 604 2048 codez_927 :=
  And.intro (okz_604 Hy) (okzz 2652)
theorem anz_928 (Hy : Hyz tys cA base adS Ex) : xall (fun b t => xOK l Dg clz tys cA flz ftz base adS GWz xyz xcz xnz xrz Ex codez bmz bpz b t) 1 1628 2048 codez_928 :=
  And.intro (okz_1628 Hy) (okzz 3676)
theorem anz_929 (Hy : Hyz tys cA base adS Ex) : xall (fun b t => xOK l Dg clz tys cA flz ftz base adS GWz xyz xcz xnz xrz Ex codez bmz bpz b t) 2 604 1024 codez_929 :=
  And.intro (anz_927 Hy) (anz_928 Hy)
theorem anz_930 (Hy : Hyz tys cA base adS Ex) : xall (fun b t => xOK l Dg clz tys cA flz ftz base adS GWz xyz xcz xnz xrz Ex codez bmz bpz b t) 3 92 512 codez_930 :=
  And.intro (anz_926 Hy) (anz_929 Hy)
theorem anz_931 (Hy : Hyz tys cA base adS Ex) : xall (fun b t => xOK l Dg clz tys cA flz ftz base adS GWz xyz xcz xnz xrz Ex codez bmz bpz b t) 1 348 2048 codez_931 :=
  And.intro (okz_348 Hy) (okz_2396 Hy)
theorem anz_932 (Hy : Hyz tys cA base adS Ex) : xall (fun b t => xOK l Dg clz tys cA flz ftz base adS GWz xyz xcz xnz xrz Ex codez bmz bpz b t) 1 1372 2048 codez_932 :=
  And.intro (okz_1372 Hy) (okzz 3420)
theorem anz_933 (Hy : Hyz tys cA base adS Ex) : xall (fun b t => xOK l Dg clz tys cA flz ftz base adS GWz xyz xcz xnz xrz Ex codez bmz bpz b t) 2 348 1024 codez_933 :=
  And.intro (anz_931 Hy) (anz_932 Hy)
theorem anz_934 (Hy : Hyz tys cA base adS Ex) : xall (fun b t => xOK l Dg clz tys cA flz ftz base adS GWz xyz xcz xnz xrz Ex codez bmz bpz b t) 1 860 2048 codez_934 :=
  And.intro (okz_860 Hy) (okzz 2908)
theorem anz_935 (Hy : Hyz tys cA base adS Ex) : xall (fun b t => xOK l Dg clz tys cA flz ftz base adS GWz xyz xcz xnz xrz Ex codez bmz bpz b t) 1 1884 2048 codez_935 :=
  And.intro (okz_1884 Hy) (okzz 3932)
theorem anz_936 (Hy : Hyz tys cA base adS Ex) : xall (fun b t => xOK l Dg clz tys cA flz ftz base adS GWz xyz xcz xnz xrz Ex codez bmz bpz b t) 2 860 1024 codez_936 :=
  And.intro (anz_934 Hy) (anz_935 Hy)
theorem anz_937 (Hy : Hyz tys cA base adS Ex) : xall (fun b t => xOK l Dg clz tys cA flz ftz base adS GWz xyz xcz xnz xrz Ex codez bmz bpz b t) 3 348 512 codez_937 :=
  And.intro (anz_933 Hy) (anz_936 Hy)
theorem anz_938 (Hy : Hyz tys cA base adS Ex) : xall (fun b t => xOK l Dg clz tys cA flz ftz base adS GWz xyz xcz xnz xrz Ex codez bmz bpz b t) 4 92 256 codez_938 :=
  And.intro (anz_930 Hy) (anz_937 Hy)
theorem anz_939 (Hy : Hyz tys cA base adS Ex) : xall (fun b t => xOK l Dg clz tys cA flz ftz base adS GWz xyz xcz xnz xrz Ex codez bmz bpz b t) 1 220 2048 codez_939 :=
  And.intro (okz_220 Hy) (okz_2268 Hy)
theorem anz_940 (Hy : Hyz tys cA base adS Ex) : xall (fun b t => xOK l Dg clz tys cA flz ftz base adS GWz xyz xcz xnz xrz Ex codez bmz bpz b t) 1 1244 2048 codez_940 :=
  And.intro (okz_1244 Hy) (okzz 3292)
theorem anz_941 (Hy : Hyz tys cA base adS Ex) : xall (fun b t => xOK l Dg clz tys cA flz ftz base adS GWz xyz xcz xnz xrz Ex codez bmz bpz b t) 2 220 1024 codez_941 :=
  And.intro (anz_939 Hy) (anz_940 Hy)
theorem anz_942 (Hy : Hyz tys cA base adS Ex) : xall (fun b t => xOK l Dg clz tys cA flz ftz base adS GWz xyz xcz xnz xrz Ex codez bmz bpz b t) 1 732 2048 codez_942 :=
  And.intro (okz_732 Hy) (okzz 2780)
theorem anz_943 (Hy : Hyz tys cA base adS Ex) : xall (fun b t => xOK l Dg clz tys cA flz ftz base adS GWz xyz xcz xnz xrz Ex codez bmz bpz b t) 1 1756 2048 codez_943 :=
  And.intro (okz_1756 Hy) (okzz 3804)
theorem anz_944 (Hy : Hyz tys cA base adS Ex) : xall (fun b t => xOK l Dg clz tys cA flz ftz base adS GWz xyz xcz xnz xrz Ex codez bmz bpz b t) 2 732 1024 codez_944 :=
  And.intro (anz_942 Hy) (anz_943 Hy)
theorem anz_945 (Hy : Hyz tys cA base adS Ex) : xall (fun b t => xOK l Dg clz tys cA flz ftz base adS GWz xyz xcz xnz xrz Ex codez bmz bpz b t) 3 220 512 codez_945 :=
  And.intro (anz_941 Hy) (anz_944 Hy)
theorem anz_946 (Hy : Hyz tys cA base adS Ex) : xall (fun b t => xOK l Dg clz tys cA flz ftz base adS GWz xyz xcz xnz xrz Ex codez bmz bpz b t) 1 476 2048 codez_946 :=
  And.intro (okz_476 Hy) (okz_2524 Hy)
theorem anz_947 (Hy : Hyz tys cA base adS Ex) : xall (fun b t => xOK l Dg clz tys cA flz ftz base adS GWz xyz xcz xnz xrz Ex codez bmz bpz b t) 1 1500 2048 codez_947 :=
  And.intro (okz_1500 Hy) (okzz 3548)
theorem anz_948 (Hy : Hyz tys cA base adS Ex) : xall (fun b t => xOK l Dg clz tys cA flz ftz base adS GWz xyz xcz xnz xrz Ex codez bmz bpz b t) 2 476 1024 codez_948 :=
  And.intro (anz_946 Hy) (anz_947 Hy)
theorem anz_949 (Hy : Hyz tys cA base adS Ex) : xall (fun b t => xOK l Dg clz tys cA flz ftz base adS GWz xyz xcz xnz xrz Ex codez bmz bpz b t) 1 988 2048 codez_949 :=
  And.intro (okz_988 Hy) (okzz 3036)
theorem anz_950 (Hy : Hyz tys cA base adS Ex) : xall (fun b t => xOK l Dg clz tys cA flz ftz base adS GWz xyz xcz xnz xrz Ex codez bmz bpz b t) 1 2012 2048 codez_950 :=
  And.intro (okz_2012 Hy) (okzz 4060)
theorem anz_951 (Hy : Hyz tys cA base adS Ex) : xall (fun b t => xOK l Dg clz tys cA flz ftz base adS GWz xyz xcz xnz xrz Ex codez bmz bpz b t) 2 988 1024 codez_951 :=
  And.intro (anz_949 Hy) (anz_950 Hy)
theorem anz_952 (Hy : Hyz tys cA base adS Ex) : xall (fun b t => xOK l Dg clz tys cA flz ftz base adS GWz xyz xcz xnz xrz Ex codez bmz bpz b t) 3 476 512 codez_952 :=
  And.intro (anz_948 Hy) (anz_951 Hy)
theorem anz_953 (Hy : Hyz tys cA base adS Ex) : xall (fun b t => xOK l Dg clz tys cA flz ftz base adS GWz xyz xcz xnz xrz Ex codez bmz bpz b t) 4 220 256 codez_953 :=
  And.intro (anz_945 Hy) (anz_952 Hy)
theorem anz_954 (Hy : Hyz tys cA base adS Ex) : xall (fun b t => xOK l Dg clz tys cA flz ftz base adS GWz xyz xcz xnz xrz Ex codez bmz bpz b t) 5 92 128 codez_954 :=
  And.intro (anz_938 Hy) (anz_953 Hy)
theorem anz_955 (Hy : Hyz tys cA base adS Ex) : xall (fun b t => xOK l Dg clz tys cA flz ftz base adS GWz xyz xcz xnz xrz Ex codez bmz bpz b t) 6 28 64 codez_955 :=
  And.intro (anz_923 Hy) (anz_954 Hy)
theorem anz_956 (Hy : Hyz tys cA base adS Ex) : xall (fun b t => xOK l Dg clz tys cA flz ftz base adS GWz xyz xcz xnz xrz Ex codez bmz bpz b t) 1 60 2048 codez_956 :=
  And.intro (okz_60 Hy) (okz_2108 Hy)
theorem anz_957 (Hy : Hyz tys cA base adS Ex) : xall (fun b t => xOK l Dg clz tys cA flz ftz base adS GWz xyz xcz xnz xrz Ex codez bmz bpz b t) 1 1084 2048 codez_957 :=
  And.intro (okz_1084 Hy) (okzz 3132)
theorem anz_958 (Hy : Hyz tys cA base adS Ex) : xall (fun b t => xOK l Dg clz tys cA flz ftz base adS GWz xyz xcz xnz xrz Ex codez bmz bpz b t) 2 60 1024 codez_958 :=
  And.intro (anz_956 Hy) (anz_957 Hy)
theorem anz_959 (Hy : Hyz tys cA base adS Ex) : xall (fun b t => xOK l Dg clz tys cA flz ftz base adS GWz xyz xcz xnz xrz Ex codez bmz bpz b t) 1 572 2048 codez_959 :=
  And.intro (okz_572 Hy) (okzz 2620)
theorem anz_960 (Hy : Hyz tys cA base adS Ex) : xall (fun b t => xOK l Dg clz tys cA flz ftz base adS GWz xyz xcz xnz xrz Ex codez bmz bpz b t) 1 1596 2048 codez_960 :=
  And.intro (okz_1596 Hy) (okzz 3644)
theorem anz_961 (Hy : Hyz tys cA base adS Ex) : xall (fun b t => xOK l Dg clz tys cA flz ftz base adS GWz xyz xcz xnz xrz Ex codez bmz bpz b t) 2 572 1024 codez_961 :=
  And.intro (anz_959 Hy) (anz_960 Hy)
theorem anz_962 (Hy : Hyz tys cA base adS Ex) : xall (fun b t => xOK l Dg clz tys cA flz ftz base adS GWz xyz xcz xnz xrz Ex codez bmz bpz b t) 3 60 512 codez_962 :=
  And.intro (anz_958 Hy) (anz_961 Hy)
theorem anz_963 (Hy : Hyz tys cA base adS Ex) : xall (fun b t => xOK l Dg clz tys cA flz ftz base adS GWz xyz xcz xnz xrz Ex codez bmz bpz b t) 1 316 2048 codez_963 :=
  And.intro (okz_316 Hy) (okz_2364 Hy)
theorem anz_964 (Hy : Hyz tys cA base adS Ex) : xall (fun b t => xOK l Dg clz tys cA flz ftz base adS GWz xyz xcz xnz xrz Ex codez bmz bpz b t) 1 1340 2048 codez_964 :=
  And.intro (okz_1340 Hy) (okzz 3388)
theorem anz_965 (Hy : Hyz tys cA base adS Ex) : xall (fun b t => xOK l Dg clz tys cA flz ftz base adS GWz xyz xcz xnz xrz Ex codez bmz bpz b t) 2 316 1024 codez_965 :=
  And.intro (anz_963 Hy) (anz_964 Hy)
theorem anz_966 (Hy : Hyz tys cA base adS Ex) : xall (fun b t => xOK l Dg clz tys cA flz ftz base adS GWz xyz xcz xnz xrz Ex codez bmz bpz b t) 1 828 2048 codez_966 :=
  And.intro (okz_828 Hy) (okzz 2876)
theorem anz_967 (Hy : Hyz tys cA base adS Ex) : xall (fun b t => xOK l Dg clz tys cA flz ftz base adS GWz xyz xcz xnz xrz Ex codez bmz bpz b t) 1 1852 2048 codez_967 :=
  And.intro (okz_1852 Hy) (okzz 3900)
theorem anz_968 (Hy : Hyz tys cA base adS Ex) : xall (fun b t => xOK l Dg clz tys cA flz ftz base adS GWz xyz xcz xnz xrz Ex codez bmz bpz b t) 2 828 1024 codez_968 :=
  And.intro (anz_966 Hy) (anz_967 Hy)
theorem anz_969 (Hy : Hyz tys cA base adS Ex) : xall (fun b t => xOK l Dg clz tys cA flz ftz base adS GWz xyz xcz xnz xrz Ex codez bmz bpz b t) 3 316 512 codez_969 :=
  And.intro (anz_965 Hy) (anz_968 Hy)
theorem anz_970 (Hy : Hyz tys cA base adS Ex) : xall (fun b t => xOK l Dg clz tys cA flz ftz base adS GWz xyz xcz xnz xrz Ex codez bmz bpz b t) 4 60 256 codez_970 :=
  And.intro (anz_962 Hy) (anz_969 Hy)
theorem anz_971 (Hy : Hyz tys cA base adS Ex) : xall (fun b t => xOK l Dg clz tys cA flz ftz base adS GWz xyz xcz xnz xrz Ex codez bmz bpz b t) 1 188 2048 codez_971 :=
  And.intro (okz_188 Hy) (okz_2236 Hy)
theorem anz_972 (Hy : Hyz tys cA base adS Ex) : xall (fun b t => xOK l Dg clz tys cA flz ftz base adS GWz xyz xcz xnz xrz Ex codez bmz bpz b t) 1 1212 2048 codez_972 :=
  And.intro (okz_1212 Hy) (okzz 3260)
theorem anz_973 (Hy : Hyz tys cA base adS Ex) : xall (fun b t => xOK l Dg clz tys cA flz ftz base adS GWz xyz xcz xnz xrz Ex codez bmz bpz b t) 2 188 1024 codez_973 :=
  And.intro (anz_971 Hy) (anz_972 Hy)
theorem anz_974 (Hy : Hyz tys cA base adS Ex) : xall (fun b t => xOK l Dg clz tys cA flz ftz base adS GWz xyz xcz xnz xrz Ex codez bmz bpz b t) 1 700 2048 codez_974 :=
  And.intro (okz_700 Hy) (okzz 2748)
theorem anz_975 (Hy : Hyz tys cA base adS Ex) : xall (fun b t => xOK l Dg clz tys cA flz ftz base adS GWz xyz xcz xnz xrz Ex codez bmz bpz b t) 1 1724 2048 codez_975 :=
  And.intro (okz_1724 Hy) (okzz 3772)
theorem anz_976 (Hy : Hyz tys cA base adS Ex) : xall (fun b t => xOK l Dg clz tys cA flz ftz base adS GWz xyz xcz xnz xrz Ex codez bmz bpz b t) 2 700 1024 codez_976 :=
  And.intro (anz_974 Hy) (anz_975 Hy)
theorem anz_977 (Hy : Hyz tys cA base adS Ex) : xall (fun b t => xOK l Dg clz tys cA flz ftz base adS GWz xyz xcz xnz xrz Ex codez bmz bpz b t) 3 188 512 codez_977 :=
  And.intro (anz_973 Hy) (anz_976 Hy)
theorem anz_978 (Hy : Hyz tys cA base adS Ex) : xall (fun b t => xOK l Dg clz tys cA flz ftz base adS GWz xyz xcz xnz xrz Ex codez bmz bpz b t) 1 444 2048 codez_978 :=
  And.intro (okz_444 Hy) (okz_2492 Hy)
theorem anz_979 (Hy : Hyz tys cA base adS Ex) : xall (fun b t => xOK l Dg clz tys cA flz ftz base adS GWz xyz xcz xnz xrz Ex codez bmz bpz b t) 1 1468 2048 codez_979 :=
  And.intro (okz_1468 Hy) (okzz 3516)
theorem anz_980 (Hy : Hyz tys cA base adS Ex) : xall (fun b t => xOK l Dg clz tys cA flz ftz base adS GWz xyz xcz xnz xrz Ex codez bmz bpz b t) 2 444 1024 codez_980 :=
  And.intro (anz_978 Hy) (anz_979 Hy)
theorem anz_981 (Hy : Hyz tys cA base adS Ex) : xall (fun b t => xOK l Dg clz tys cA flz ftz base adS GWz xyz xcz xnz xrz Ex codez bmz bpz b t) 1 956 2048 codez_981 :=
  And.intro (okz_956 Hy) (okzz 3004)
theorem anz_982 (Hy : Hyz tys cA base adS Ex) : xall (fun b t => xOK l Dg clz tys cA flz ftz base adS GWz xyz xcz xnz xrz Ex codez bmz bpz b t) 1 1980 2048 codez_982 :=
  And.intro (okz_1980 Hy) (okzz 4028)
theorem anz_983 (Hy : Hyz tys cA base adS Ex) : xall (fun b t => xOK l Dg clz tys cA flz ftz base adS GWz xyz xcz xnz xrz Ex codez bmz bpz b t) 2 956 1024 codez_983 :=
  And.intro (anz_981 Hy) (anz_982 Hy)
theorem anz_984 (Hy : Hyz tys cA base adS Ex) : xall (fun b t => xOK l Dg clz tys cA flz ftz base adS GWz xyz xcz xnz xrz Ex codez bmz bpz b t) 3 444 512 codez_984 :=
  And.intro (anz_980 Hy) (anz_983 Hy)
theorem anz_985 (Hy : Hyz tys cA base adS Ex) : xall (fun b t => xOK l Dg clz tys cA flz ftz base adS GWz xyz xcz xnz xrz Ex codez bmz bpz b t) 4 188 256 codez_985 :=
  And.intro (anz_977 Hy) (anz_984 Hy)
theorem anz_986 (Hy : Hyz tys cA base adS Ex) : xall (fun b t => xOK l Dg clz tys cA flz ftz base adS GWz xyz xcz xnz xrz Ex codez bmz bpz b t) 5 60 128 codez_986 :=
  And.intro (anz_970 Hy) (anz_985 Hy)
theorem anz_987 (Hy : Hyz tys cA base adS Ex) : xall (fun b t => xOK l Dg clz tys cA flz ftz base adS GWz xyz xcz xnz xrz Ex codez bmz bpz b t) 1 124 2048 codez_987 :=
  And.intro (okz_124 Hy) (okz_2172 Hy)
theorem anz_988 (Hy : Hyz tys cA base adS Ex) : xall (fun b t => xOK l Dg clz tys cA flz ftz base adS GWz xyz xcz xnz xrz Ex codez bmz bpz b t) 1 1148 2048 codez_988 :=
  And.intro (okz_1148 Hy) (okzz 3196)
theorem anz_989 (Hy : Hyz tys cA base adS Ex) : xall (fun b t => xOK l Dg clz tys cA flz ftz base adS GWz xyz xcz xnz xrz Ex codez bmz bpz b t) 2 124 1024 codez_989 :=
  And.intro (anz_987 Hy) (anz_988 Hy)
theorem anz_990 (Hy : Hyz tys cA base adS Ex) : xall (fun b t => xOK l Dg clz tys cA flz ftz base adS GWz xyz xcz xnz xrz Ex codez bmz bpz b t) 1 636 2048 codez_990 :=
  And.intro (okz_636 Hy) (okzz 2684)
theorem anz_991 (Hy : Hyz tys cA base adS Ex) : xall (fun b t => xOK l Dg clz tys cA flz ftz base adS GWz xyz xcz xnz xrz Ex codez bmz bpz b t) 1 1660 2048 codez_991 :=
  And.intro (okz_1660 Hy) (okzz 3708)
theorem anz_992 (Hy : Hyz tys cA base adS Ex) : xall (fun b t => xOK l Dg clz tys cA flz ftz base adS GWz xyz xcz xnz xrz Ex codez bmz bpz b t) 2 636 1024 codez_992 :=
  And.intro (anz_990 Hy) (anz_991 Hy)
theorem anz_993 (Hy : Hyz tys cA base adS Ex) : xall (fun b t => xOK l Dg clz tys cA flz ftz base adS GWz xyz xcz xnz xrz Ex codez bmz bpz b t) 3 124 512 codez_993 :=
  And.intro (anz_989 Hy) (anz_992 Hy)
theorem anz_994 (Hy : Hyz tys cA base adS Ex) : xall (fun b t => xOK l Dg clz tys cA flz ftz base adS GWz xyz xcz xnz xrz Ex codez bmz bpz b t) 1 380 2048 codez_994 :=
  And.intro (okz_380 Hy) (okz_2428 Hy)
theorem anz_995 (Hy : Hyz tys cA base adS Ex) : xall (fun b t => xOK l Dg clz tys cA flz ftz base adS GWz xyz xcz xnz xrz Ex codez bmz bpz b t) 1 1404 2048 codez_995 :=
  And.intro (okz_1404 Hy) (okzz 3452)
theorem anz_996 (Hy : Hyz tys cA base adS Ex) : xall (fun b t => xOK l Dg clz tys cA flz ftz base adS GWz xyz xcz xnz xrz Ex codez bmz bpz b t) 2 380 1024 codez_996 :=
  And.intro (anz_994 Hy) (anz_995 Hy)
theorem anz_997 (Hy : Hyz tys cA base adS Ex) : xall (fun b t => xOK l Dg clz tys cA flz ftz base adS GWz xyz xcz xnz xrz Ex codez bmz bpz b t) 1 892 2048 codez_997 :=
  And.intro (okz_892 Hy) (okzz 2940)
theorem anz_998 (Hy : Hyz tys cA base adS Ex) : xall (fun b t => xOK l Dg clz tys cA flz ftz base adS GWz xyz xcz xnz xrz Ex codez bmz bpz b t) 1 1916 2048 codez_998 :=
  And.intro (okz_1916 Hy) (okzz 3964)
theorem anz_999 (Hy : Hyz tys cA base adS Ex) : xall (fun b t => xOK l Dg clz tys cA flz ftz base adS GWz xyz xcz xnz xrz Ex codez bmz bpz b t) 2 892 1024 codez_999 :=
  And.intro (anz_997 Hy) (anz_998 Hy)
theorem anz_1000 (Hy : Hyz tys cA base adS Ex) : xall (fun b t => xOK l Dg clz tys cA flz ftz base adS GWz xyz xcz xnz xrz Ex codez bmz bpz b t) 3 380 512 codez_1000 :=
  And.intro (anz_996 Hy) (anz_999 Hy)
theorem anz_1001 (Hy : Hyz tys cA base adS Ex) : xall (fun b t => xOK l Dg clz tys cA flz ftz base adS GWz xyz xcz xnz xrz Ex codez bmz bpz b t) 4 124 256 codez_1001 :=
  And.intro (anz_993 Hy) (anz_1000 Hy)
theorem anz_1002 (Hy : Hyz tys cA base adS Ex) : xall (fun b t => xOK l Dg clz tys cA flz ftz base adS GWz xyz xcz xnz xrz Ex codez bmz bpz b t) 1 252 2048 codez_1002 :=
  And.intro (okz_252 Hy) (okz_2300 Hy)
theorem anz_1003 (Hy : Hyz tys cA base adS Ex) : xall (fun b t => xOK l Dg clz tys cA flz ftz base adS GWz xyz xcz xnz xrz Ex codez bmz bpz b t) 1 1276 2048 codez_1003 :=
  And.intro (okz_1276 Hy) (okzz 3324)
theorem anz_1004 (Hy : Hyz tys cA base adS Ex) : xall (fun b t => xOK l Dg clz tys cA flz ftz base adS GWz xyz xcz xnz xrz Ex codez bmz bpz b t) 2 252 1024 codez_1004 :=
  And.intro (anz_1002 Hy) (anz_1003 Hy)
theorem anz_1005 (Hy : Hyz tys cA base adS Ex) : xall (fun b t => xOK l Dg clz tys cA flz ftz base adS GWz xyz xcz xnz xrz Ex codez bmz bpz b t) 1 764 2048 codez_1005 :=
  And.intro (okz_764 Hy) (okzz 2812)
theorem anz_1006 (Hy : Hyz tys cA base adS Ex) : xall (fun b t => xOK l Dg clz tys cA flz ftz base adS GWz xyz xcz xnz xrz Ex codez bmz bpz b t) 1 1788 2048 codez_1006 :=
  And.intro (okz_1788 Hy) (okzz 3836)
theorem anz_1007 (Hy : Hyz tys cA base adS Ex) : xall (fun b t => xOK l Dg clz tys cA flz ftz base adS GWz xyz xcz xnz xrz Ex codez bmz bpz b t) 2 764 1024 codez_1007 :=
  And.intro (anz_1005 Hy) (anz_1006 Hy)
theorem anz_1008 (Hy : Hyz tys cA base adS Ex) : xall (fun b t => xOK l Dg clz tys cA flz ftz base adS GWz xyz xcz xnz xrz Ex codez bmz bpz b t) 3 252 512 codez_1008 :=
  And.intro (anz_1004 Hy) (anz_1007 Hy)
theorem anz_1009 (Hy : Hyz tys cA base adS Ex) : xall (fun b t => xOK l Dg clz tys cA flz ftz base adS GWz xyz xcz xnz xrz Ex codez bmz bpz b t) 1 508 2048 codez_1009 :=
  And.intro (okz_508 Hy) (okzz 2556)
theorem anz_1010 (Hy : Hyz tys cA base adS Ex) : xall (fun b t => xOK l Dg clz tys cA flz ftz base adS GWz xyz xcz xnz xrz Ex codez bmz bpz b t) 1 1532 2048 codez_1010 :=
  And.intro (okz_1532 Hy) (okzz 3580)
theorem anz_1011 (Hy : Hyz tys cA base adS Ex) : xall (fun b t => xOK l Dg clz tys cA flz ftz base adS GWz xyz xcz xnz xrz Ex codez bmz bpz b t) 2 508 1024 codez_1011 :=
  And.intro (anz_1009 Hy) (anz_1010 Hy)
theorem anz_1012 (Hy : Hyz tys cA base adS Ex) : xall (fun b t => xOK l Dg clz tys cA flz ftz base adS GWz xyz xcz xnz xrz Ex codez bmz bpz b t) 1 1020 2048 codez_1012 :=
  And.intro (okz_1020 Hy) (okzz 3068)
theorem anz_1013 (Hy : Hyz tys cA base adS Ex) : xall (fun b t => xOK l Dg clz tys cA flz ftz base adS GWz xyz xcz xnz xrz Ex codez bmz bpz b t) 1 2044 2048 codez_1013 :=
  And.intro (okz_2044 Hy) (okzz 4092)
theorem anz_1014 (Hy : Hyz tys cA base adS Ex) : xall (fun b t => xOK l Dg clz tys cA flz ftz base adS GWz xyz xcz xnz xrz Ex codez bmz bpz b t) 2 1020 1024 codez_1014 :=
  And.intro (anz_1012 Hy) (anz_1013 Hy)
theorem anz_1015 (Hy : Hyz tys cA base adS Ex) : xall (fun b t => xOK l Dg clz tys cA flz ftz base adS GWz xyz xcz xnz xrz Ex codez bmz bpz b t) 3 508 512 codez_1015 :=
  And.intro (anz_1011 Hy) (anz_1014 Hy)
theorem anz_1016 (Hy : Hyz tys cA base adS Ex) : xall (fun b t => xOK l Dg clz tys cA flz ftz base adS GWz xyz xcz xnz xrz Ex codez bmz bpz b t) 4 252 256 codez_1016 :=
  And.intro (anz_1008 Hy) (anz_1015 Hy)
theorem anz_1017 (Hy : Hyz tys cA base adS Ex) : xall (fun b t => xOK l Dg clz tys cA flz ftz base adS GWz xyz xcz xnz xrz Ex codez bmz bpz b t) 5 124 128 codez_1017 :=
  And.intro (anz_1001 Hy) (anz_1016 Hy)
theorem anz_1018 (Hy : Hyz tys cA base adS Ex) : xall (fun b t => xOK l Dg clz tys cA flz ftz base adS GWz xyz xcz xnz xrz Ex codez bmz bpz b t) 6 60 64 codez_1018 :=
  And.intro (anz_986 Hy) (anz_1017 Hy)
theorem anz_1019 (Hy : Hyz tys cA base adS Ex) : xall (fun b t => xOK l Dg clz tys cA flz ftz base adS GWz xyz xcz xnz xrz Ex codez bmz bpz b t) 7 28 32 codez_1019 :=
  And.intro (anz_955 Hy) (anz_1018 Hy)
theorem anz_1020 (Hy : Hyz tys cA base adS Ex) : xall (fun b t => xOK l Dg clz tys cA flz ftz base adS GWz xyz xcz xnz xrz Ex codez bmz bpz b t) 8 12 16 codez_1020 :=
  And.intro (anz_892 Hy) (anz_1019 Hy)
theorem anz_1021 (Hy : Hyz tys cA base adS Ex) : xall (fun b t => xOK l Dg clz tys cA flz ftz base adS GWz xyz xcz xnz xrz Ex codez bmz bpz b t) 9 4 8 codez_1021 :=
  And.intro (anz_765 Hy) (anz_1020 Hy)
theorem anz_1022 (Hy : Hyz tys cA base adS Ex) : xall (fun b t => xOK l Dg clz tys cA flz ftz base adS GWz xyz xcz xnz xrz Ex codez bmz bpz b t) 10 0 4 codez_1022 :=
  And.intro (anz_510 Hy) (anz_1021 Hy)
theorem anz_1023 (Hy : Hyz tys cA base adS Ex) : xall (fun b t => xOK l Dg clz tys cA flz ftz base adS GWz xyz xcz xnz xrz Ex codez bmz bpz b t) 1 2 2048 codez_1023 :=
  And.intro (okz_2 Hy) (okz_2050 Hy)
theorem anz_1024 (Hy : Hyz tys cA base adS Ex) : xall (fun b t => xOK l Dg clz tys cA flz ftz base adS GWz xyz xcz xnz xrz Ex codez bmz bpz b t) 1 1026 2048 codez_1024 :=
  And.intro (okz_1026 Hy) (okzz 3074)
theorem anz_1025 (Hy : Hyz tys cA base adS Ex) : xall (fun b t => xOK l Dg clz tys cA flz ftz base adS GWz xyz xcz xnz xrz Ex codez bmz bpz b t) 2 2 1024 codez_1025 :=
  And.intro (anz_1023 Hy) (anz_1024 Hy)
theorem anz_1026 (Hy : Hyz tys cA base adS Ex) : xall (fun b t => xOK l Dg clz tys cA flz ftz base adS GWz xyz xcz xnz xrz Ex codez bmz bpz b t) 1 514 2048 codez_1026 :=
  And.intro (okz_514 Hy) (okzz 2562)
theorem anz_1027 (Hy : Hyz tys cA base adS Ex) : xall (fun b t => xOK l Dg clz tys cA flz ftz base adS GWz xyz xcz xnz xrz Ex codez bmz bpz b t) 1 1538 2048 codez_1027 :=
  And.intro (okz_1538 Hy) (okzz 3586)
theorem anz_1028 (Hy : Hyz tys cA base adS Ex) : xall (fun b t => xOK l Dg clz tys cA flz ftz base adS GWz xyz xcz xnz xrz Ex codez bmz bpz b t) 2 514 1024 codez_1028 :=
  And.intro (anz_1026 Hy) (anz_1027 Hy)
theorem anz_1029 (Hy : Hyz tys cA base adS Ex) : xall (fun b t => xOK l Dg clz tys cA flz ftz base adS GWz xyz xcz xnz xrz Ex codez bmz bpz b t) 3 2 512 codez_1029 :=
  And.intro (anz_1025 Hy) (anz_1028 Hy)
theorem anz_1030 (Hy : Hyz tys cA base adS Ex) : xall (fun b t => xOK l Dg clz tys cA flz ftz base adS GWz xyz xcz xnz xrz Ex codez bmz bpz b t) 1 258 2048 codez_1030 :=
  And.intro (okz_258 Hy) (okz_2306 Hy)
theorem anz_1031 (Hy : Hyz tys cA base adS Ex) : xall (fun b t => xOK l Dg clz tys cA flz ftz base adS GWz xyz xcz xnz xrz Ex codez bmz bpz b t) 1 1282 2048 codez_1031 :=
  And.intro (okz_1282 Hy) (okzz 3330)
theorem anz_1032 (Hy : Hyz tys cA base adS Ex) : xall (fun b t => xOK l Dg clz tys cA flz ftz base adS GWz xyz xcz xnz xrz Ex codez bmz bpz b t) 2 258 1024 codez_1032 :=
  And.intro (anz_1030 Hy) (anz_1031 Hy)
theorem anz_1033 (Hy : Hyz tys cA base adS Ex) : xall (fun b t => xOK l Dg clz tys cA flz ftz base adS GWz xyz xcz xnz xrz Ex codez bmz bpz b t) 1 770 2048 codez_1033 :=
  And.intro (okz_770 Hy) (okzz 2818)
theorem anz_1034 (Hy : Hyz tys cA base adS Ex) : xall (fun b t => xOK l Dg clz tys cA flz ftz base adS GWz xyz xcz xnz xrz Ex codez bmz bpz b t) 1 1794 2048 codez_1034 :=
  And.intro (okz_1794 Hy) (okzz 3842)
theorem anz_1035 (Hy : Hyz tys cA base adS Ex) : xall (fun b t => xOK l Dg clz tys cA flz ftz base adS GWz xyz xcz xnz xrz Ex codez bmz bpz b t) 2 770 1024 codez_1035 :=
  And.intro (anz_1033 Hy) (anz_1034 Hy)
theorem anz_1036 (Hy : Hyz tys cA base adS Ex) : xall (fun b t => xOK l Dg clz tys cA flz ftz base adS GWz xyz xcz xnz xrz Ex codez bmz bpz b t) 3 258 512 codez_1036 :=
  And.intro (anz_1032 Hy) (anz_1035 Hy)
theorem anz_1037 (Hy : Hyz tys cA base adS Ex) : xall (fun b t => xOK l Dg clz tys cA flz ftz base adS GWz xyz xcz xnz xrz Ex codez bmz bpz b t) 4 2 256 codez_1037 :=
  And.intro (anz_1029 Hy) (anz_1036 Hy)
theorem anz_1038 (Hy : Hyz tys cA base adS Ex) : xall (fun b t => xOK l Dg clz tys cA flz ftz base adS GWz xyz xcz xnz xrz Ex codez bmz bpz b t) 1 130 2048 codez_1038 :=
  And.intro (okz_130 Hy) (okz_2178 Hy)
theorem anz_1039 (Hy : Hyz tys cA base adS Ex) : xall (fun b t => xOK l Dg clz tys cA flz ftz base adS GWz xyz xcz xnz xrz Ex codez bmz bpz b t) 1 1154 2048 codez_1039 :=
  And.intro (okz_1154 Hy) (okzz 3202)
theorem anz_1040 (Hy : Hyz tys cA base adS Ex) : xall (fun b t => xOK l Dg clz tys cA flz ftz base adS GWz xyz xcz xnz xrz Ex codez bmz bpz b t) 2 130 1024 codez_1040 :=
  And.intro (anz_1038 Hy) (anz_1039 Hy)
theorem anz_1041 (Hy : Hyz tys cA base adS Ex) : xall (fun b t => xOK l Dg clz tys cA flz ftz base adS GWz xyz xcz xnz xrz Ex codez bmz bpz b t) 1 642 2048 codez_1041 :=
  And.intro (okz_642 Hy) (okzz 2690)
theorem anz_1042 (Hy : Hyz tys cA base adS Ex) : xall (fun b t => xOK l Dg clz tys cA flz ftz base adS GWz xyz xcz xnz xrz Ex codez bmz bpz b t) 1 1666 2048 codez_1042 :=
  And.intro (okz_1666 Hy) (okzz 3714)
theorem anz_1043 (Hy : Hyz tys cA base adS Ex) : xall (fun b t => xOK l Dg clz tys cA flz ftz base adS GWz xyz xcz xnz xrz Ex codez bmz bpz b t) 2 642 1024 codez_1043 :=
  And.intro (anz_1041 Hy) (anz_1042 Hy)
theorem anz_1044 (Hy : Hyz tys cA base adS Ex) : xall (fun b t => xOK l Dg clz tys cA flz ftz base adS GWz xyz xcz xnz xrz Ex codez bmz bpz b t) 3 130 512 codez_1044 :=
  And.intro (anz_1040 Hy) (anz_1043 Hy)
theorem anz_1045 (Hy : Hyz tys cA base adS Ex) : xall (fun b t => xOK l Dg clz tys cA flz ftz base adS GWz xyz xcz xnz xrz Ex codez bmz bpz b t) 1 386 2048 codez_1045 :=
  And.intro (okz_386 Hy) (okz_2434 Hy)
theorem anz_1046 (Hy : Hyz tys cA base adS Ex) : xall (fun b t => xOK l Dg clz tys cA flz ftz base adS GWz xyz xcz xnz xrz Ex codez bmz bpz b t) 1 1410 2048 codez_1046 :=
  And.intro (okz_1410 Hy) (okzz 3458)
theorem anz_1047 (Hy : Hyz tys cA base adS Ex) : xall (fun b t => xOK l Dg clz tys cA flz ftz base adS GWz xyz xcz xnz xrz Ex codez bmz bpz b t) 2 386 1024 codez_1047 :=
  And.intro (anz_1045 Hy) (anz_1046 Hy)
theorem anz_1048 (Hy : Hyz tys cA base adS Ex) : xall (fun b t => xOK l Dg clz tys cA flz ftz base adS GWz xyz xcz xnz xrz Ex codez bmz bpz b t) 1 898 2048 codez_1048 :=
  And.intro (okz_898 Hy) (okzz 2946)
theorem anz_1049 (Hy : Hyz tys cA base adS Ex) : xall (fun b t => xOK l Dg clz tys cA flz ftz base adS GWz xyz xcz xnz xrz Ex codez bmz bpz b t) 1 1922 2048 codez_1049 :=
  And.intro (okz_1922 Hy) (okzz 3970)
theorem anz_1050 (Hy : Hyz tys cA base adS Ex) : xall (fun b t => xOK l Dg clz tys cA flz ftz base adS GWz xyz xcz xnz xrz Ex codez bmz bpz b t) 2 898 1024 codez_1050 :=
  And.intro (anz_1048 Hy) (anz_1049 Hy)
theorem anz_1051 (Hy : Hyz tys cA base adS Ex) : xall (fun b t => xOK l Dg clz tys cA flz ftz base adS GWz xyz xcz xnz xrz Ex codez bmz bpz b t) 3 386 512 codez_1051 :=
  And.intro (anz_1047 Hy) (anz_1050 Hy)
theorem anz_1052 (Hy : Hyz tys cA base adS Ex) : xall (fun b t => xOK l Dg clz tys cA flz ftz base adS GWz xyz xcz xnz xrz Ex codez bmz bpz b t) 4 130 256 codez_1052 :=
  And.intro (anz_1044 Hy) (anz_1051 Hy)
theorem anz_1053 (Hy : Hyz tys cA base adS Ex) : xall (fun b t => xOK l Dg clz tys cA flz ftz base adS GWz xyz xcz xnz xrz Ex codez bmz bpz b t) 5 2 128 codez_1053 :=
  And.intro (anz_1037 Hy) (anz_1052 Hy)
theorem anz_1054 (Hy : Hyz tys cA base adS Ex) : xall (fun b t => xOK l Dg clz tys cA flz ftz base adS GWz xyz xcz xnz xrz Ex codez bmz bpz b t) 1 66 2048 codez_1054 :=
  And.intro (okz_66 Hy) (okz_2114 Hy)
theorem anz_1055 (Hy : Hyz tys cA base adS Ex) : xall (fun b t => xOK l Dg clz tys cA flz ftz base adS GWz xyz xcz xnz xrz Ex codez bmz bpz b t) 1 1090 2048 codez_1055 :=
  And.intro (okz_1090 Hy) (okzz 3138)
theorem anz_1056 (Hy : Hyz tys cA base adS Ex) : xall (fun b t => xOK l Dg clz tys cA flz ftz base adS GWz xyz xcz xnz xrz Ex codez bmz bpz b t) 2 66 1024 codez_1056 :=
  And.intro (anz_1054 Hy) (anz_1055 Hy)
theorem anz_1057 (Hy : Hyz tys cA base adS Ex) : xall (fun b t => xOK l Dg clz tys cA flz ftz base adS GWz xyz xcz xnz xrz Ex codez bmz bpz b t) 1 578 2048 codez_1057 :=
  And.intro (okz_578 Hy) (okzz 2626)
theorem anz_1058 (Hy : Hyz tys cA base adS Ex) : xall (fun b t => xOK l Dg clz tys cA flz ftz base adS GWz xyz xcz xnz xrz Ex codez bmz bpz b t) 1 1602 2048 codez_1058 :=
  And.intro (okz_1602 Hy) (okzz 3650)
theorem anz_1059 (Hy : Hyz tys cA base adS Ex) : xall (fun b t => xOK l Dg clz tys cA flz ftz base adS GWz xyz xcz xnz xrz Ex codez bmz bpz b t) 2 578 1024 codez_1059 :=
  And.intro (anz_1057 Hy) (anz_1058 Hy)
theorem anz_1060 (Hy : Hyz tys cA base adS Ex) : xall (fun b t => xOK l Dg clz tys cA flz ftz base adS GWz xyz xcz xnz xrz Ex codez bmz bpz b t) 3 66 512 codez_1060 :=
  And.intro (anz_1056 Hy) (anz_1059 Hy)
theorem anz_1061 (Hy : Hyz tys cA base adS Ex) : xall (fun b t => xOK l Dg clz tys cA flz ftz base adS GWz xyz xcz xnz xrz Ex codez bmz bpz b t) 1 322 2048 codez_1061 :=
  And.intro (okz_322 Hy) (okz_2370 Hy)
theorem anz_1062 (Hy : Hyz tys cA base adS Ex) : xall (fun b t => xOK l Dg clz tys cA flz ftz base adS GWz xyz xcz xnz xrz Ex codez bmz bpz b t) 1 1346 2048 codez_1062 :=
  And.intro (okz_1346 Hy) (okzz 3394)
theorem anz_1063 (Hy : Hyz tys cA base adS Ex) : xall (fun b t => xOK l Dg clz tys cA flz ftz base adS GWz xyz xcz xnz xrz Ex codez bmz bpz b t) 2 322 1024 codez_1063 :=
  And.intro (anz_1061 Hy) (anz_1062 Hy)
theorem anz_1064 (Hy : Hyz tys cA base adS Ex) : xall (fun b t => xOK l Dg clz tys cA flz ftz base adS GWz xyz xcz xnz xrz Ex codez bmz bpz b t) 1 834 2048 codez_1064 :=
  And.intro (okz_834 Hy) (okzz 2882)
theorem anz_1065 (Hy : Hyz tys cA base adS Ex) : xall (fun b t => xOK l Dg clz tys cA flz ftz base adS GWz xyz xcz xnz xrz Ex codez bmz bpz b t) 1 1858 2048 codez_1065 :=
  And.intro (okz_1858 Hy) (okzz 3906)
theorem anz_1066 (Hy : Hyz tys cA base adS Ex) : xall (fun b t => xOK l Dg clz tys cA flz ftz base adS GWz xyz xcz xnz xrz Ex codez bmz bpz b t) 2 834 1024 codez_1066 :=
  And.intro (anz_1064 Hy) (anz_1065 Hy)
theorem anz_1067 (Hy : Hyz tys cA base adS Ex) : xall (fun b t => xOK l Dg clz tys cA flz ftz base adS GWz xyz xcz xnz xrz Ex codez bmz bpz b t) 3 322 512 codez_1067 :=
  And.intro (anz_1063 Hy) (anz_1066 Hy)
theorem anz_1068 (Hy : Hyz tys cA base adS Ex) : xall (fun b t => xOK l Dg clz tys cA flz ftz base adS GWz xyz xcz xnz xrz Ex codez bmz bpz b t) 4 66 256 codez_1068 :=
  And.intro (anz_1060 Hy) (anz_1067 Hy)
theorem anz_1069 (Hy : Hyz tys cA base adS Ex) : xall (fun b t => xOK l Dg clz tys cA flz ftz base adS GWz xyz xcz xnz xrz Ex codez bmz bpz b t) 1 194 2048 codez_1069 :=
  And.intro (okz_194 Hy) (okz_2242 Hy)
theorem anz_1070 (Hy : Hyz tys cA base adS Ex) : xall (fun b t => xOK l Dg clz tys cA flz ftz base adS GWz xyz xcz xnz xrz Ex codez bmz bpz b t) 1 1218 2048 codez_1070 :=
  And.intro (okz_1218 Hy) (okzz 3266)
theorem anz_1071 (Hy : Hyz tys cA base adS Ex) : xall (fun b t => xOK l Dg clz tys cA flz ftz base adS GWz xyz xcz xnz xrz Ex codez bmz bpz b t) 2 194 1024 codez_1071 :=
  And.intro (anz_1069 Hy) (anz_1070 Hy)
theorem anz_1072 (Hy : Hyz tys cA base adS Ex) : xall (fun b t => xOK l Dg clz tys cA flz ftz base adS GWz xyz xcz xnz xrz Ex codez bmz bpz b t) 1 706 2048 codez_1072 :=
  And.intro (okz_706 Hy) (okzz 2754)
theorem anz_1073 (Hy : Hyz tys cA base adS Ex) : xall (fun b t => xOK l Dg clz tys cA flz ftz base adS GWz xyz xcz xnz xrz Ex codez bmz bpz b t) 1 1730 2048 codez_1073 :=
  And.intro (okz_1730 Hy) (okzz 3778)
theorem anz_1074 (Hy : Hyz tys cA base adS Ex) : xall (fun b t => xOK l Dg clz tys cA flz ftz base adS GWz xyz xcz xnz xrz Ex codez bmz bpz b t) 2 706 1024 codez_1074 :=
  And.intro (anz_1072 Hy) (anz_1073 Hy)
theorem anz_1075 (Hy : Hyz tys cA base adS Ex) : xall (fun b t => xOK l Dg clz tys cA flz ftz base adS GWz xyz xcz xnz xrz Ex codez bmz bpz b t) 3 194 512 codez_1075 :=
  And.intro (anz_1071 Hy) (anz_1074 Hy)
theorem anz_1076 (Hy : Hyz tys cA base adS Ex) : xall (fun b t => xOK l Dg clz tys cA flz ftz base adS GWz xyz xcz xnz xrz Ex codez bmz bpz b t) 1 450 2048 codez_1076 :=
  And.intro (okz_450 Hy) (okz_2498 Hy)
theorem anz_1077 (Hy : Hyz tys cA base adS Ex) : xall (fun b t => xOK l Dg clz tys cA flz ftz base adS GWz xyz xcz xnz xrz Ex codez bmz bpz b t) 1 1474 2048 codez_1077 :=
  And.intro (okz_1474 Hy) (okzz 3522)
theorem anz_1078 (Hy : Hyz tys cA base adS Ex) : xall (fun b t => xOK l Dg clz tys cA flz ftz base adS GWz xyz xcz xnz xrz Ex codez bmz bpz b t) 2 450 1024 codez_1078 :=
  And.intro (anz_1076 Hy) (anz_1077 Hy)
theorem anz_1079 (Hy : Hyz tys cA base adS Ex) : xall (fun b t => xOK l Dg clz tys cA flz ftz base adS GWz xyz xcz xnz xrz Ex codez bmz bpz b t) 1 962 2048 codez_1079 :=
  And.intro (okz_962 Hy) (okzz 3010)
theorem anz_1080 (Hy : Hyz tys cA base adS Ex) : xall (fun b t => xOK l Dg clz tys cA flz ftz base adS GWz xyz xcz xnz xrz Ex codez bmz bpz b t) 1 1986 2048 codez_1080 :=
  And.intro (okz_1986 Hy) (okzz 4034)
theorem anz_1081 (Hy : Hyz tys cA base adS Ex) : xall (fun b t => xOK l Dg clz tys cA flz ftz base adS GWz xyz xcz xnz xrz Ex codez bmz bpz b t) 2 962 1024 codez_1081 :=
  And.intro (anz_1079 Hy) (anz_1080 Hy)
theorem anz_1082 (Hy : Hyz tys cA base adS Ex) : xall (fun b t => xOK l Dg clz tys cA flz ftz base adS GWz xyz xcz xnz xrz Ex codez bmz bpz b t) 3 450 512 codez_1082 :=
  And.intro (anz_1078 Hy) (anz_1081 Hy)
theorem anz_1083 (Hy : Hyz tys cA base adS Ex) : xall (fun b t => xOK l Dg clz tys cA flz ftz base adS GWz xyz xcz xnz xrz Ex codez bmz bpz b t) 4 194 256 codez_1083 :=
  And.intro (anz_1075 Hy) (anz_1082 Hy)
theorem anz_1084 (Hy : Hyz tys cA base adS Ex) : xall (fun b t => xOK l Dg clz tys cA flz ftz base adS GWz xyz xcz xnz xrz Ex codez bmz bpz b t) 5 66 128 codez_1084 :=
  And.intro (anz_1068 Hy) (anz_1083 Hy)
theorem anz_1085 (Hy : Hyz tys cA base adS Ex) : xall (fun b t => xOK l Dg clz tys cA flz ftz base adS GWz xyz xcz xnz xrz Ex codez bmz bpz b t) 6 2 64 codez_1085 :=
  And.intro (anz_1053 Hy) (anz_1084 Hy)
theorem anz_1086 (Hy : Hyz tys cA base adS Ex) : xall (fun b t => xOK l Dg clz tys cA flz ftz base adS GWz xyz xcz xnz xrz Ex codez bmz bpz b t) 1 34 2048 codez_1086 :=
  And.intro (okz_34 Hy) (okz_2082 Hy)
theorem anz_1087 (Hy : Hyz tys cA base adS Ex) : xall (fun b t => xOK l Dg clz tys cA flz ftz base adS GWz xyz xcz xnz xrz Ex codez bmz bpz b t) 1 1058 2048 codez_1087 :=
  And.intro (okz_1058 Hy) (okzz 3106)
theorem anz_1088 (Hy : Hyz tys cA base adS Ex) : xall (fun b t => xOK l Dg clz tys cA flz ftz base adS GWz xyz xcz xnz xrz Ex codez bmz bpz b t) 2 34 1024 codez_1088 :=
  And.intro (anz_1086 Hy) (anz_1087 Hy)
theorem anz_1089 (Hy : Hyz tys cA base adS Ex) : xall (fun b t => xOK l Dg clz tys cA flz ftz base adS GWz xyz xcz xnz xrz Ex codez bmz bpz b t) 1 546 2048 codez_1089 :=
  And.intro (okz_546 Hy) (okzz 2594)
theorem anz_1090 (Hy : Hyz tys cA base adS Ex) : xall (fun b t => xOK l Dg clz tys cA flz ftz base adS GWz xyz xcz xnz xrz Ex codez bmz bpz b t) 1 1570 2048 codez_1090 :=
  And.intro (okz_1570 Hy) (okzz 3618)
theorem anz_1091 (Hy : Hyz tys cA base adS Ex) : xall (fun b t => xOK l Dg clz tys cA flz ftz base adS GWz xyz xcz xnz xrz Ex codez bmz bpz b t) 2 546 1024 codez_1091 :=
  And.intro (anz_1089 Hy) (anz_1090 Hy)
theorem anz_1092 (Hy : Hyz tys cA base adS Ex) : xall (fun b t => xOK l Dg clz tys cA flz ftz base adS GWz xyz xcz xnz xrz Ex codez bmz bpz b t) 3 34 512 codez_1092 :=
  And.intro (anz_1088 Hy) (anz_1091 Hy)
theorem anz_1093 (Hy : Hyz tys cA base adS Ex) : xall (fun b t => xOK l Dg clz tys cA flz ftz base adS GWz xyz xcz xnz xrz Ex codez bmz bpz b t) 1 290 2048 codez_1093 :=
  And.intro (okz_290 Hy) (okz_2338 Hy)
theorem anz_1094 (Hy : Hyz tys cA base adS Ex) : xall (fun b t => xOK l Dg clz tys cA flz ftz base adS GWz xyz xcz xnz xrz Ex codez bmz bpz b t) 1 1314 2048 codez_1094 :=
  And.intro (okz_1314 Hy) (okzz 3362)
theorem anz_1095 (Hy : Hyz tys cA base adS Ex) : xall (fun b t => xOK l Dg clz tys cA flz ftz base adS GWz xyz xcz xnz xrz Ex codez bmz bpz b t) 2 290 1024 codez_1095 :=
  And.intro (anz_1093 Hy) (anz_1094 Hy)
theorem anz_1096 (Hy : Hyz tys cA base adS Ex) : xall (fun b t => xOK l Dg clz tys cA flz ftz base adS GWz xyz xcz xnz xrz Ex codez bmz bpz b t) 1 802 2048 codez_1096 :=
  And.intro (okz_802 Hy) (okzz 2850)
theorem anz_1097 (Hy : Hyz tys cA base adS Ex) : xall (fun b t => xOK l Dg clz tys cA flz ftz base adS GWz xyz xcz xnz xrz Ex codez bmz bpz b t) 1 1826 2048 codez_1097 :=
  And.intro (okz_1826 Hy) (okzz 3874)
theorem anz_1098 (Hy : Hyz tys cA base adS Ex) : xall (fun b t => xOK l Dg clz tys cA flz ftz base adS GWz xyz xcz xnz xrz Ex codez bmz bpz b t) 2 802 1024 codez_1098 :=
  And.intro (anz_1096 Hy) (anz_1097 Hy)
theorem anz_1099 (Hy : Hyz tys cA base adS Ex) : xall (fun b t => xOK l Dg clz tys cA flz ftz base adS GWz xyz xcz xnz xrz Ex codez bmz bpz b t) 3 290 512 codez_1099 :=
  And.intro (anz_1095 Hy) (anz_1098 Hy)
theorem anz_1100 (Hy : Hyz tys cA base adS Ex) : xall (fun b t => xOK l Dg clz tys cA flz ftz base adS GWz xyz xcz xnz xrz Ex codez bmz bpz b t) 4 34 256 codez_1100 :=
  And.intro (anz_1092 Hy) (anz_1099 Hy)
theorem anz_1101 (Hy : Hyz tys cA base adS Ex) : xall (fun b t => xOK l Dg clz tys cA flz ftz base adS GWz xyz xcz xnz xrz Ex codez bmz bpz b t) 1 162 2048 codez_1101 :=
  And.intro (okz_162 Hy) (okz_2210 Hy)
theorem anz_1102 (Hy : Hyz tys cA base adS Ex) : xall (fun b t => xOK l Dg clz tys cA flz ftz base adS GWz xyz xcz xnz xrz Ex codez bmz bpz b t) 1 1186 2048 codez_1102 :=
  And.intro (okz_1186 Hy) (okzz 3234)
theorem anz_1103 (Hy : Hyz tys cA base adS Ex) : xall (fun b t => xOK l Dg clz tys cA flz ftz base adS GWz xyz xcz xnz xrz Ex codez bmz bpz b t) 2 162 1024 codez_1103 :=
  And.intro (anz_1101 Hy) (anz_1102 Hy)
theorem anz_1104 (Hy : Hyz tys cA base adS Ex) : xall (fun b t => xOK l Dg clz tys cA flz ftz base adS GWz xyz xcz xnz xrz Ex codez bmz bpz b t) 1 674 2048 codez_1104 :=
  And.intro (okz_674 Hy) (okzz 2722)
theorem anz_1105 (Hy : Hyz tys cA base adS Ex) : xall (fun b t => xOK l Dg clz tys cA flz ftz base adS GWz xyz xcz xnz xrz Ex codez bmz bpz b t) 1 1698 2048 codez_1105 :=
  And.intro (okz_1698 Hy) (okzz 3746)
theorem anz_1106 (Hy : Hyz tys cA base adS Ex) : xall (fun b t => xOK l Dg clz tys cA flz ftz base adS GWz xyz xcz xnz xrz Ex codez bmz bpz b t) 2 674 1024 codez_1106 :=
  And.intro (anz_1104 Hy) (anz_1105 Hy)
theorem anz_1107 (Hy : Hyz tys cA base adS Ex) : xall (fun b t => xOK l Dg clz tys cA flz ftz base adS GWz xyz xcz xnz xrz Ex codez bmz bpz b t) 3 162 512 codez_1107 :=
  And.intro (anz_1103 Hy) (anz_1106 Hy)
theorem anz_1108 (Hy : Hyz tys cA base adS Ex) : xall (fun b t => xOK l Dg clz tys cA flz ftz base adS GWz xyz xcz xnz xrz Ex codez bmz bpz b t) 1 418 2048 codez_1108 :=
  And.intro (okz_418 Hy) (okz_2466 Hy)
theorem anz_1109 (Hy : Hyz tys cA base adS Ex) : xall (fun b t => xOK l Dg clz tys cA flz ftz base adS GWz xyz xcz xnz xrz Ex codez bmz bpz b t) 1 1442 2048 codez_1109 :=
  And.intro (okz_1442 Hy) (okzz 3490)
theorem anz_1110 (Hy : Hyz tys cA base adS Ex) : xall (fun b t => xOK l Dg clz tys cA flz ftz base adS GWz xyz xcz xnz xrz Ex codez bmz bpz b t) 2 418 1024 codez_1110 :=
  And.intro (anz_1108 Hy) (anz_1109 Hy)
theorem anz_1111 (Hy : Hyz tys cA base adS Ex) : xall (fun b t => xOK l Dg clz tys cA flz ftz base adS GWz xyz xcz xnz xrz Ex codez bmz bpz b t) 1 930 2048 codez_1111 :=
  And.intro (okz_930 Hy) (okzz 2978)
theorem anz_1112 (Hy : Hyz tys cA base adS Ex) : xall (fun b t => xOK l Dg clz tys cA flz ftz base adS GWz xyz xcz xnz xrz Ex codez bmz bpz b t) 1 1954 2048 codez_1112 :=
  And.intro (okz_1954 Hy) (okzz 4002)
theorem anz_1113 (Hy : Hyz tys cA base adS Ex) : xall (fun b t => xOK l Dg clz tys cA flz ftz base adS GWz xyz xcz xnz xrz Ex codez bmz bpz b t) 2 930 1024 codez_1113 :=
  And.intro (anz_1111 Hy) (anz_1112 Hy)
theorem anz_1114 (Hy : Hyz tys cA base adS Ex) : xall (fun b t => xOK l Dg clz tys cA flz ftz base adS GWz xyz xcz xnz xrz Ex codez bmz bpz b t) 3 418 512 codez_1114 :=
  And.intro (anz_1110 Hy) (anz_1113 Hy)
theorem anz_1115 (Hy : Hyz tys cA base adS Ex) : xall (fun b t => xOK l Dg clz tys cA flz ftz base adS GWz xyz xcz xnz xrz Ex codez bmz bpz b t) 4 162 256 codez_1115 :=
  And.intro (anz_1107 Hy) (anz_1114 Hy)
theorem anz_1116 (Hy : Hyz tys cA base adS Ex) : xall (fun b t => xOK l Dg clz tys cA flz ftz base adS GWz xyz xcz xnz xrz Ex codez bmz bpz b t) 5 34 128 codez_1116 :=
  And.intro (anz_1100 Hy) (anz_1115 Hy)
theorem anz_1117 (Hy : Hyz tys cA base adS Ex) : xall (fun b t => xOK l Dg clz tys cA flz ftz base adS GWz xyz xcz xnz xrz Ex codez bmz bpz b t) 1 98 2048 codez_1117 :=
  And.intro (okz_98 Hy) (okz_2146 Hy)
theorem anz_1118 (Hy : Hyz tys cA base adS Ex) : xall (fun b t => xOK l Dg clz tys cA flz ftz base adS GWz xyz xcz xnz xrz Ex codez bmz bpz b t) 1 1122 2048 codez_1118 :=
  And.intro (okz_1122 Hy) (okzz 3170)
theorem anz_1119 (Hy : Hyz tys cA base adS Ex) : xall (fun b t => xOK l Dg clz tys cA flz ftz base adS GWz xyz xcz xnz xrz Ex codez bmz bpz b t) 2 98 1024 codez_1119 :=
  And.intro (anz_1117 Hy) (anz_1118 Hy)
theorem anz_1120 (Hy : Hyz tys cA base adS Ex) : xall (fun b t => xOK l Dg clz tys cA flz ftz base adS GWz xyz xcz xnz xrz Ex codez bmz bpz b t) 1 610 2048 codez_1120 :=
  And.intro (okz_610 Hy) (okzz 2658)
theorem anz_1121 (Hy : Hyz tys cA base adS Ex) : xall (fun b t => xOK l Dg clz tys cA flz ftz base adS GWz xyz xcz xnz xrz Ex codez bmz bpz b t) 1 1634 2048 codez_1121 :=
  And.intro (okz_1634 Hy) (okzz 3682)
theorem anz_1122 (Hy : Hyz tys cA base adS Ex) : xall (fun b t => xOK l Dg clz tys cA flz ftz base adS GWz xyz xcz xnz xrz Ex codez bmz bpz b t) 2 610 1024 codez_1122 :=
  And.intro (anz_1120 Hy) (anz_1121 Hy)
theorem anz_1123 (Hy : Hyz tys cA base adS Ex) : xall (fun b t => xOK l Dg clz tys cA flz ftz base adS GWz xyz xcz xnz xrz Ex codez bmz bpz b t) 3 98 512 codez_1123 :=
  And.intro (anz_1119 Hy) (anz_1122 Hy)
theorem anz_1124 (Hy : Hyz tys cA base adS Ex) : xall (fun b t => xOK l Dg clz tys cA flz ftz base adS GWz xyz xcz xnz xrz Ex codez bmz bpz b t) 1 354 2048 codez_1124 :=
  And.intro (okz_354 Hy) (okz_2402 Hy)
theorem anz_1125 (Hy : Hyz tys cA base adS Ex) : xall (fun b t => xOK l Dg clz tys cA flz ftz base adS GWz xyz xcz xnz xrz Ex codez bmz bpz b t) 1 1378 2048 codez_1125 :=
  And.intro (okz_1378 Hy) (okzz 3426)
theorem anz_1126 (Hy : Hyz tys cA base adS Ex) : xall (fun b t => xOK l Dg clz tys cA flz ftz base adS GWz xyz xcz xnz xrz Ex codez bmz bpz b t) 2 354 1024 codez_1126 :=
  And.intro (anz_1124 Hy) (anz_1125 Hy)
theorem anz_1127 (Hy : Hyz tys cA base adS Ex) : xall (fun b t => xOK l Dg clz tys cA flz ftz base adS GWz xyz xcz xnz xrz Ex codez bmz bpz b t) 1 866 2048 codez_1127 :=
  And.intro (okz_866 Hy) (okzz 2914)
theorem anz_1128 (Hy : Hyz tys cA base adS Ex) : xall (fun b t => xOK l Dg clz tys cA flz ftz base adS GWz xyz xcz xnz xrz Ex codez bmz bpz b t) 1 1890 2048 codez_1128 :=
  And.intro (okz_1890 Hy) (okzz 3938)
theorem anz_1129 (Hy : Hyz tys cA base adS Ex) : xall (fun b t => xOK l Dg clz tys cA flz ftz base adS GWz xyz xcz xnz xrz Ex codez bmz bpz b t) 2 866 1024 codez_1129 :=
  And.intro (anz_1127 Hy) (anz_1128 Hy)
theorem anz_1130 (Hy : Hyz tys cA base adS Ex) : xall (fun b t => xOK l Dg clz tys cA flz ftz base adS GWz xyz xcz xnz xrz Ex codez bmz bpz b t) 3 354 512 codez_1130 :=
  And.intro (anz_1126 Hy) (anz_1129 Hy)
theorem anz_1131 (Hy : Hyz tys cA base adS Ex) : xall (fun b t => xOK l Dg clz tys cA flz ftz base adS GWz xyz xcz xnz xrz Ex codez bmz bpz b t) 4 98 256 codez_1131 :=
  And.intro (anz_1123 Hy) (anz_1130 Hy)
theorem anz_1132 (Hy : Hyz tys cA base adS Ex) : xall (fun b t => xOK l Dg clz tys cA flz ftz base adS GWz xyz xcz xnz xrz Ex codez bmz bpz b t) 1 226 2048 codez_1132 :=
  And.intro (okz_226 Hy) (okz_2274 Hy)
theorem anz_1133 (Hy : Hyz tys cA base adS Ex) : xall (fun b t => xOK l Dg clz tys cA flz ftz base adS GWz xyz xcz xnz xrz Ex codez bmz bpz b t) 1 1250 2048 codez_1133 :=
  And.intro (okz_1250 Hy) (okzz 3298)
theorem anz_1134 (Hy : Hyz tys cA base adS Ex) : xall (fun b t => xOK l Dg clz tys cA flz ftz base adS GWz xyz xcz xnz xrz Ex codez bmz bpz b t) 2 226 1024 codez_1134 :=
  And.intro (anz_1132 Hy) (anz_1133 Hy)
theorem anz_1135 (Hy : Hyz tys cA base adS Ex) : xall (fun b t => xOK l Dg clz tys cA flz ftz base adS GWz xyz xcz xnz xrz Ex codez bmz bpz b t) 1 738 2048 codez_1135 :=
  And.intro (okz_738 Hy) (okzz 2786)
theorem anz_1136 (Hy : Hyz tys cA base adS Ex) : xall (fun b t => xOK l Dg clz tys cA flz ftz base adS GWz xyz xcz xnz xrz Ex codez bmz bpz b t) 1 1762 2048 codez_1136 :=
  And.intro (okz_1762 Hy) (okzz 3810)
theorem anz_1137 (Hy : Hyz tys cA base adS Ex) : xall (fun b t => xOK l Dg clz tys cA flz ftz base adS GWz xyz xcz xnz xrz Ex codez bmz bpz b t) 2 738 1024 codez_1137 :=
  And.intro (anz_1135 Hy) (anz_1136 Hy)
theorem anz_1138 (Hy : Hyz tys cA base adS Ex) : xall (fun b t => xOK l Dg clz tys cA flz ftz base adS GWz xyz xcz xnz xrz Ex codez bmz bpz b t) 3 226 512 codez_1138 :=
  And.intro (anz_1134 Hy) (anz_1137 Hy)
theorem anz_1139 (Hy : Hyz tys cA base adS Ex) : xall (fun b t => xOK l Dg clz tys cA flz ftz base adS GWz xyz xcz xnz xrz Ex codez bmz bpz b t) 1 482 2048 codez_1139 :=
  And.intro (okz_482 Hy) (okz_2530 Hy)
theorem anz_1140 (Hy : Hyz tys cA base adS Ex) : xall (fun b t => xOK l Dg clz tys cA flz ftz base adS GWz xyz xcz xnz xrz Ex codez bmz bpz b t) 1 1506 2048 codez_1140 :=
  And.intro (okz_1506 Hy) (okzz 3554)
theorem anz_1141 (Hy : Hyz tys cA base adS Ex) : xall (fun b t => xOK l Dg clz tys cA flz ftz base adS GWz xyz xcz xnz xrz Ex codez bmz bpz b t) 2 482 1024 codez_1141 :=
  And.intro (anz_1139 Hy) (anz_1140 Hy)
theorem anz_1142 (Hy : Hyz tys cA base adS Ex) : xall (fun b t => xOK l Dg clz tys cA flz ftz base adS GWz xyz xcz xnz xrz Ex codez bmz bpz b t) 1 994 2048 codez_1142 :=
  And.intro (okz_994 Hy) (okzz 3042)
theorem anz_1143 (Hy : Hyz tys cA base adS Ex) : xall (fun b t => xOK l Dg clz tys cA flz ftz base adS GWz xyz xcz xnz xrz Ex codez bmz bpz b t) 1 2018 2048 codez_1143 :=
  And.intro (okz_2018 Hy) (okzz 4066)
theorem anz_1144 (Hy : Hyz tys cA base adS Ex) : xall (fun b t => xOK l Dg clz tys cA flz ftz base adS GWz xyz xcz xnz xrz Ex codez bmz bpz b t) 2 994 1024 codez_1144 :=
  And.intro (anz_1142 Hy) (anz_1143 Hy)
theorem anz_1145 (Hy : Hyz tys cA base adS Ex) : xall (fun b t => xOK l Dg clz tys cA flz ftz base adS GWz xyz xcz xnz xrz Ex codez bmz bpz b t) 3 482 512 codez_1145 :=
  And.intro (anz_1141 Hy) (anz_1144 Hy)
theorem anz_1146 (Hy : Hyz tys cA base adS Ex) : xall (fun b t => xOK l Dg clz tys cA flz ftz base adS GWz xyz xcz xnz xrz Ex codez bmz bpz b t) 4 226 256 codez_1146 :=
  And.intro (anz_1138 Hy) (anz_1145 Hy)
theorem anz_1147 (Hy : Hyz tys cA base adS Ex) : xall (fun b t => xOK l Dg clz tys cA flz ftz base adS GWz xyz xcz xnz xrz Ex codez bmz bpz b t) 5 98 128 codez_1147 :=
  And.intro (anz_1131 Hy) (anz_1146 Hy)
theorem anz_1148 (Hy : Hyz tys cA base adS Ex) : xall (fun b t => xOK l Dg clz tys cA flz ftz base adS GWz xyz xcz xnz xrz Ex codez bmz bpz b t) 6 34 64 codez_1148 :=
  And.intro (anz_1116 Hy) (anz_1147 Hy)
theorem anz_1149 (Hy : Hyz tys cA base adS Ex) : xall (fun b t => xOK l Dg clz tys cA flz ftz base adS GWz xyz xcz xnz xrz Ex codez bmz bpz b t) 7 2 32 codez_1149 :=
  And.intro (anz_1085 Hy) (anz_1148 Hy)
theorem anz_1150 (Hy : Hyz tys cA base adS Ex) : xall (fun b t => xOK l Dg clz tys cA flz ftz base adS GWz xyz xcz xnz xrz Ex codez bmz bpz b t) 1 18 2048 codez_1150 :=
  And.intro (okz_18 Hy) (okz_2066 Hy)
theorem anz_1151 (Hy : Hyz tys cA base adS Ex) : xall (fun b t => xOK l Dg clz tys cA flz ftz base adS GWz xyz xcz xnz xrz Ex codez bmz bpz b t) 1 1042 2048 codez_1151 :=
  And.intro (okz_1042 Hy) (okzz 3090)
theorem anz_1152 (Hy : Hyz tys cA base adS Ex) : xall (fun b t => xOK l Dg clz tys cA flz ftz base adS GWz xyz xcz xnz xrz Ex codez bmz bpz b t) 2 18 1024 codez_1152 :=
  And.intro (anz_1150 Hy) (anz_1151 Hy)
theorem anz_1153 (Hy : Hyz tys cA base adS Ex) : xall (fun b t => xOK l Dg clz tys cA flz ftz base adS GWz xyz xcz xnz xrz Ex codez bmz bpz b t) 1 530 2048 codez_1153 :=
  And.intro (okz_530 Hy) (okzz 2578)
theorem anz_1154 (Hy : Hyz tys cA base adS Ex) : xall (fun b t => xOK l Dg clz tys cA flz ftz base adS GWz xyz xcz xnz xrz Ex codez bmz bpz b t) 1 1554 2048 codez_1154 :=
  And.intro (okz_1554 Hy) (okzz 3602)
theorem anz_1155 (Hy : Hyz tys cA base adS Ex) : xall (fun b t => xOK l Dg clz tys cA flz ftz base adS GWz xyz xcz xnz xrz Ex codez bmz bpz b t) 2 530 1024 codez_1155 :=
  And.intro (anz_1153 Hy) (anz_1154 Hy)
theorem anz_1156 (Hy : Hyz tys cA base adS Ex) : xall (fun b t => xOK l Dg clz tys cA flz ftz base adS GWz xyz xcz xnz xrz Ex codez bmz bpz b t) 3 18 512 codez_1156 :=
  And.intro (anz_1152 Hy) (anz_1155 Hy)
theorem anz_1157 (Hy : Hyz tys cA base adS Ex) : xall (fun b t => xOK l Dg clz tys cA flz ftz base adS GWz xyz xcz xnz xrz Ex codez bmz bpz b t) 1 274 2048 codez_1157 :=
  And.intro (okz_274 Hy) (okz_2322 Hy)
theorem anz_1158 (Hy : Hyz tys cA base adS Ex) : xall (fun b t => xOK l Dg clz tys cA flz ftz base adS GWz xyz xcz xnz xrz Ex codez bmz bpz b t) 1 1298 2048 codez_1158 :=
  And.intro (okz_1298 Hy) (okzz 3346)
theorem anz_1159 (Hy : Hyz tys cA base adS Ex) : xall (fun b t => xOK l Dg clz tys cA flz ftz base adS GWz xyz xcz xnz xrz Ex codez bmz bpz b t) 2 274 1024 codez_1159 :=
  And.intro (anz_1157 Hy) (anz_1158 Hy)
theorem anz_1160 (Hy : Hyz tys cA base adS Ex) : xall (fun b t => xOK l Dg clz tys cA flz ftz base adS GWz xyz xcz xnz xrz Ex codez bmz bpz b t) 1 786 2048 codez_1160 :=
  And.intro (okz_786 Hy) (okzz 2834)
theorem anz_1161 (Hy : Hyz tys cA base adS Ex) : xall (fun b t => xOK l Dg clz tys cA flz ftz base adS GWz xyz xcz xnz xrz Ex codez bmz bpz b t) 1 1810 2048 codez_1161 :=
  And.intro (okz_1810 Hy) (okzz 3858)
theorem anz_1162 (Hy : Hyz tys cA base adS Ex) : xall (fun b t => xOK l Dg clz tys cA flz ftz base adS GWz xyz xcz xnz xrz Ex codez bmz bpz b t) 2 786 1024 codez_1162 :=
  And.intro (anz_1160 Hy) (anz_1161 Hy)
theorem anz_1163 (Hy : Hyz tys cA base adS Ex) : xall (fun b t => xOK l Dg clz tys cA flz ftz base adS GWz xyz xcz xnz xrz Ex codez bmz bpz b t) 3 274 512 codez_1163 :=
  And.intro (anz_1159 Hy) (anz_1162 Hy)
theorem anz_1164 (Hy : Hyz tys cA base adS Ex) : xall (fun b t => xOK l Dg clz tys cA flz ftz base adS GWz xyz xcz xnz xrz Ex codez bmz bpz b t) 4 18 256 codez_1164 :=
  And.intro (anz_1156 Hy) (anz_1163 Hy)
theorem anz_1165 (Hy : Hyz tys cA base adS Ex) : xall (fun b t => xOK l Dg clz tys cA flz ftz base adS GWz xyz xcz xnz xrz Ex codez bmz bpz b t) 1 146 2048 codez_1165 :=
  And.intro (okz_146 Hy) (okz_2194 Hy)
theorem anz_1166 (Hy : Hyz tys cA base adS Ex) : xall (fun b t => xOK l Dg clz tys cA flz ftz base adS GWz xyz xcz xnz xrz Ex codez bmz bpz b t) 1 1170 2048 codez_1166 :=
  And.intro (okz_1170 Hy) (okzz 3218)
theorem anz_1167 (Hy : Hyz tys cA base adS Ex) : xall (fun b t => xOK l Dg clz tys cA flz ftz base adS GWz xyz xcz xnz xrz Ex codez bmz bpz b t) 2 146 1024 codez_1167 :=
  And.intro (anz_1165 Hy) (anz_1166 Hy)
theorem anz_1168 (Hy : Hyz tys cA base adS Ex) : xall (fun b t => xOK l Dg clz tys cA flz ftz base adS GWz xyz xcz xnz xrz Ex codez bmz bpz b t) 1 658 2048 codez_1168 :=
  And.intro (okz_658 Hy) (okzz 2706)
theorem anz_1169 (Hy : Hyz tys cA base adS Ex) : xall (fun b t => xOK l Dg clz tys cA flz ftz base adS GWz xyz xcz xnz xrz Ex codez bmz bpz b t) 1 1682 2048 codez_1169 :=
  And.intro (okz_1682 Hy) (okzz 3730)
theorem anz_1170 (Hy : Hyz tys cA base adS Ex) : xall (fun b t => xOK l Dg clz tys cA flz ftz base adS GWz xyz xcz xnz xrz Ex codez bmz bpz b t) 2 658 1024 codez_1170 :=
  And.intro (anz_1168 Hy) (anz_1169 Hy)
theorem anz_1171 (Hy : Hyz tys cA base adS Ex) : xall (fun b t => xOK l Dg clz tys cA flz ftz base adS GWz xyz xcz xnz xrz Ex codez bmz bpz b t) 3 146 512 codez_1171 :=
  And.intro (anz_1167 Hy) (anz_1170 Hy)
theorem anz_1172 (Hy : Hyz tys cA base adS Ex) : xall (fun b t => xOK l Dg clz tys cA flz ftz base adS GWz xyz xcz xnz xrz Ex codez bmz bpz b t) 1 402 2048 codez_1172 :=
  And.intro (okz_402 Hy) (okz_2450 Hy)
theorem anz_1173 (Hy : Hyz tys cA base adS Ex) : xall (fun b t => xOK l Dg clz tys cA flz ftz base adS GWz xyz xcz xnz xrz Ex codez bmz bpz b t) 1 1426 2048 codez_1173 :=
  And.intro (okz_1426 Hy) (okzz 3474)
theorem anz_1174 (Hy : Hyz tys cA base adS Ex) : xall (fun b t => xOK l Dg clz tys cA flz ftz base adS GWz xyz xcz xnz xrz Ex codez bmz bpz b t) 2 402 1024 codez_1174 :=
  And.intro (anz_1172 Hy) (anz_1173 Hy)
theorem anz_1175 (Hy : Hyz tys cA base adS Ex) : xall (fun b t => xOK l Dg clz tys cA flz ftz base adS GWz xyz xcz xnz xrz Ex codez bmz bpz b t) 1 914 2048 codez_1175 :=
  And.intro (okz_914 Hy) (okzz 2962)
theorem anz_1176 (Hy : Hyz tys cA base adS Ex) : xall (fun b t => xOK l Dg clz tys cA flz ftz base adS GWz xyz xcz xnz xrz Ex codez bmz bpz b t) 1 1938 2048 codez_1176 :=
  And.intro (okz_1938 Hy) (okzz 3986)
theorem anz_1177 (Hy : Hyz tys cA base adS Ex) : xall (fun b t => xOK l Dg clz tys cA flz ftz base adS GWz xyz xcz xnz xrz Ex codez bmz bpz b t) 2 914 1024 codez_1177 :=
  And.intro (anz_1175 Hy) (anz_1176 Hy)
theorem anz_1178 (Hy : Hyz tys cA base adS Ex) : xall (fun b t => xOK l Dg clz tys cA flz ftz base adS GWz xyz xcz xnz xrz Ex codez bmz bpz b t) 3 402 512 codez_1178 :=
  And.intro (anz_1174 Hy) (anz_1177 Hy)
theorem anz_1179 (Hy : Hyz tys cA base adS Ex) : xall (fun b t => xOK l Dg clz tys cA flz ftz base adS GWz xyz xcz xnz xrz Ex codez bmz bpz b t) 4 146 256 codez_1179 :=
  And.intro (anz_1171 Hy) (anz_1178 Hy)
theorem anz_1180 (Hy : Hyz tys cA base adS Ex) : xall (fun b t => xOK l Dg clz tys cA flz ftz base adS GWz xyz xcz xnz xrz Ex codez bmz bpz b t) 5 18 128 codez_1180 :=
  And.intro (anz_1164 Hy) (anz_1179 Hy)
theorem anz_1181 (Hy : Hyz tys cA base adS Ex) : xall (fun b t => xOK l Dg clz tys cA flz ftz base adS GWz xyz xcz xnz xrz Ex codez bmz bpz b t) 1 82 2048 codez_1181 :=
  And.intro (okz_82 Hy) (okz_2130 Hy)
theorem anz_1182 (Hy : Hyz tys cA base adS Ex) : xall (fun b t => xOK l Dg clz tys cA flz ftz base adS GWz xyz xcz xnz xrz Ex codez bmz bpz b t) 1 1106 2048 codez_1182 :=
  And.intro (okz_1106 Hy) (okzz 3154)
theorem anz_1183 (Hy : Hyz tys cA base adS Ex) : xall (fun b t => xOK l Dg clz tys cA flz ftz base adS GWz xyz xcz xnz xrz Ex codez bmz bpz b t) 2 82 1024 codez_1183 :=
  And.intro (anz_1181 Hy) (anz_1182 Hy)
theorem anz_1184 (Hy : Hyz tys cA base adS Ex) : xall (fun b t => xOK l Dg clz tys cA flz ftz base adS GWz xyz xcz xnz xrz Ex codez bmz bpz b t) 1 594 2048 codez_1184 :=
  And.intro (okz_594 Hy) (okzz 2642)
theorem anz_1185 (Hy : Hyz tys cA base adS Ex) : xall (fun b t => xOK l Dg clz tys cA flz ftz base adS GWz xyz xcz xnz xrz Ex codez bmz bpz b t) 1 1618 2048 codez_1185 :=
  And.intro (okz_1618 Hy) (okzz 3666)
theorem anz_1186 (Hy : Hyz tys cA base adS Ex) : xall (fun b t => xOK l Dg clz tys cA flz ftz base adS GWz xyz xcz xnz xrz Ex codez bmz bpz b t) 2 594 1024 codez_1186 :=
  And.intro (anz_1184 Hy) (anz_1185 Hy)
theorem anz_1187 (Hy : Hyz tys cA base adS Ex) : xall (fun b t => xOK l Dg clz tys cA flz ftz base adS GWz xyz xcz xnz xrz Ex codez bmz bpz b t) 3 82 512 codez_1187 :=
  And.intro (anz_1183 Hy) (anz_1186 Hy)
theorem anz_1188 (Hy : Hyz tys cA base adS Ex) : xall (fun b t => xOK l Dg clz tys cA flz ftz base adS GWz xyz xcz xnz xrz Ex codez bmz bpz b t) 1 338 2048 codez_1188 :=
  And.intro (okz_338 Hy) (okz_2386 Hy)
theorem anz_1189 (Hy : Hyz tys cA base adS Ex) : xall (fun b t => xOK l Dg clz tys cA flz ftz base adS GWz xyz xcz xnz xrz Ex codez bmz bpz b t) 1 1362 2048 codez_1189 :=
  And.intro (okz_1362 Hy) (okzz 3410)
theorem anz_1190 (Hy : Hyz tys cA base adS Ex) : xall (fun b t => xOK l Dg clz tys cA flz ftz base adS GWz xyz xcz xnz xrz Ex codez bmz bpz b t) 2 338 1024 codez_1190 :=
  And.intro (anz_1188 Hy) (anz_1189 Hy)
theorem anz_1191 (Hy : Hyz tys cA base adS Ex) : xall (fun b t => xOK l Dg clz tys cA flz ftz base adS GWz xyz xcz xnz xrz Ex codez bmz bpz b t) 1 850 2048 codez_1191 :=
  And.intro (okz_850 Hy) (okzz 2898)
theorem anz_1192 (Hy : Hyz tys cA base adS Ex) : xall (fun b t => xOK l Dg clz tys cA flz ftz base adS GWz xyz xcz xnz xrz Ex codez bmz bpz b t) 1 1874 2048 codez_1192 :=
  And.intro (okz_1874 Hy) (okzz 3922)
theorem anz_1193 (Hy : Hyz tys cA base adS Ex) : xall (fun b t => xOK l Dg clz tys cA flz ftz base adS GWz xyz xcz xnz xrz Ex codez bmz bpz b t) 2 850 1024 codez_1193 :=
  And.intro (anz_1191 Hy) (anz_1192 Hy)
theorem anz_1194 (Hy : Hyz tys cA base adS Ex) : xall (fun b t => xOK l Dg clz tys cA flz ftz base adS GWz xyz xcz xnz xrz Ex codez bmz bpz b t) 3 338 512 codez_1194 :=
  And.intro (anz_1190 Hy) (anz_1193 Hy)
theorem anz_1195 (Hy : Hyz tys cA base adS Ex) : xall (fun b t => xOK l Dg clz tys cA flz ftz base adS GWz xyz xcz xnz xrz Ex codez bmz bpz b t) 4 82 256 codez_1195 :=
  And.intro (anz_1187 Hy) (anz_1194 Hy)
theorem anz_1196 (Hy : Hyz tys cA base adS Ex) : xall (fun b t => xOK l Dg clz tys cA flz ftz base adS GWz xyz xcz xnz xrz Ex codez bmz bpz b t) 1 210 2048 codez_1196 :=
  And.intro (okz_210 Hy) (okz_2258 Hy)
theorem anz_1197 (Hy : Hyz tys cA base adS Ex) : xall (fun b t => xOK l Dg clz tys cA flz ftz base adS GWz xyz xcz xnz xrz Ex codez bmz bpz b t) 1 1234 2048 codez_1197 :=
  And.intro (okz_1234 Hy) (okzz 3282)
theorem anz_1198 (Hy : Hyz tys cA base adS Ex) : xall (fun b t => xOK l Dg clz tys cA flz ftz base adS GWz xyz xcz xnz xrz Ex codez bmz bpz b t) 2 210 1024 codez_1198 :=
  And.intro (anz_1196 Hy) (anz_1197 Hy)
theorem anz_1199 (Hy : Hyz tys cA base adS Ex) : xall (fun b t => xOK l Dg clz tys cA flz ftz base adS GWz xyz xcz xnz xrz Ex codez bmz bpz b t) 1 722 2048 codez_1199 :=
  And.intro (okz_722 Hy) (okzz 2770)
theorem anz_1200 (Hy : Hyz tys cA base adS Ex) : xall (fun b t => xOK l Dg clz tys cA flz ftz base adS GWz xyz xcz xnz xrz Ex codez bmz bpz b t) 1 1746 2048 codez_1200 :=
  And.intro (okz_1746 Hy) (okzz 3794)
theorem anz_1201 (Hy : Hyz tys cA base adS Ex) : xall (fun b t => xOK l Dg clz tys cA flz ftz base adS GWz xyz xcz xnz xrz Ex codez bmz bpz b t) 2 722 1024 codez_1201 :=
  And.intro (anz_1199 Hy) (anz_1200 Hy)
theorem anz_1202 (Hy : Hyz tys cA base adS Ex) : xall (fun b t => xOK l Dg clz tys cA flz ftz base adS GWz xyz xcz xnz xrz Ex codez bmz bpz b t) 3 210 512 codez_1202 :=
  And.intro (anz_1198 Hy) (anz_1201 Hy)
theorem anz_1203 (Hy : Hyz tys cA base adS Ex) : xall (fun b t => xOK l Dg clz tys cA flz ftz base adS GWz xyz xcz xnz xrz Ex codez bmz bpz b t) 1 466 2048 codez_1203 :=
  And.intro (okz_466 Hy) (okz_2514 Hy)
theorem anz_1204 (Hy : Hyz tys cA base adS Ex) : xall (fun b t => xOK l Dg clz tys cA flz ftz base adS GWz xyz xcz xnz xrz Ex codez bmz bpz b t) 1 1490 2048 codez_1204 :=
  And.intro (okz_1490 Hy) (okzz 3538)
theorem anz_1205 (Hy : Hyz tys cA base adS Ex) : xall (fun b t => xOK l Dg clz tys cA flz ftz base adS GWz xyz xcz xnz xrz Ex codez bmz bpz b t) 2 466 1024 codez_1205 :=
  And.intro (anz_1203 Hy) (anz_1204 Hy)
theorem anz_1206 (Hy : Hyz tys cA base adS Ex) : xall (fun b t => xOK l Dg clz tys cA flz ftz base adS GWz xyz xcz xnz xrz Ex codez bmz bpz b t) 1 978 2048 codez_1206 :=
  And.intro (okz_978 Hy) (okzz 3026)
theorem anz_1207 (Hy : Hyz tys cA base adS Ex) : xall (fun b t => xOK l Dg clz tys cA flz ftz base adS GWz xyz xcz xnz xrz Ex codez bmz bpz b t) 1 2002 2048 codez_1207 :=
  And.intro (okz_2002 Hy) (okzz 4050)
theorem anz_1208 (Hy : Hyz tys cA base adS Ex) : xall (fun b t => xOK l Dg clz tys cA flz ftz base adS GWz xyz xcz xnz xrz Ex codez bmz bpz b t) 2 978 1024 codez_1208 :=
  And.intro (anz_1206 Hy) (anz_1207 Hy)
theorem anz_1209 (Hy : Hyz tys cA base adS Ex) : xall (fun b t => xOK l Dg clz tys cA flz ftz base adS GWz xyz xcz xnz xrz Ex codez bmz bpz b t) 3 466 512 codez_1209 :=
  And.intro (anz_1205 Hy) (anz_1208 Hy)
theorem anz_1210 (Hy : Hyz tys cA base adS Ex) : xall (fun b t => xOK l Dg clz tys cA flz ftz base adS GWz xyz xcz xnz xrz Ex codez bmz bpz b t) 4 210 256 codez_1210 :=
  And.intro (anz_1202 Hy) (anz_1209 Hy)
theorem anz_1211 (Hy : Hyz tys cA base adS Ex) : xall (fun b t => xOK l Dg clz tys cA flz ftz base adS GWz xyz xcz xnz xrz Ex codez bmz bpz b t) 5 82 128 codez_1211 :=
  And.intro (anz_1195 Hy) (anz_1210 Hy)
theorem anz_1212 (Hy : Hyz tys cA base adS Ex) : xall (fun b t => xOK l Dg clz tys cA flz ftz base adS GWz xyz xcz xnz xrz Ex codez bmz bpz b t) 6 18 64 codez_1212 :=
  And.intro (anz_1180 Hy) (anz_1211 Hy)
theorem anz_1213 (Hy : Hyz tys cA base adS Ex) : xall (fun b t => xOK l Dg clz tys cA flz ftz base adS GWz xyz xcz xnz xrz Ex codez bmz bpz b t) 1 50 2048 codez_1213 :=
  And.intro (okz_50 Hy) (okz_2098 Hy)
theorem anz_1214 (Hy : Hyz tys cA base adS Ex) : xall (fun b t => xOK l Dg clz tys cA flz ftz base adS GWz xyz xcz xnz xrz Ex codez bmz bpz b t) 1 1074 2048 codez_1214 :=
  And.intro (okz_1074 Hy) (okzz 3122)
theorem anz_1215 (Hy : Hyz tys cA base adS Ex) : xall (fun b t => xOK l Dg clz tys cA flz ftz base adS GWz xyz xcz xnz xrz Ex codez bmz bpz b t) 2 50 1024 codez_1215 :=
  And.intro (anz_1213 Hy) (anz_1214 Hy)
theorem anz_1216 (Hy : Hyz tys cA base adS Ex) : xall (fun b t => xOK l Dg clz tys cA flz ftz base adS GWz xyz xcz xnz xrz Ex codez bmz bpz b t) 1 562 2048 codez_1216 :=
  And.intro (okz_562 Hy) (okzz 2610)
theorem anz_1217 (Hy : Hyz tys cA base adS Ex) : xall (fun b t => xOK l Dg clz tys cA flz ftz base adS GWz xyz xcz xnz xrz Ex codez bmz bpz b t) 1 1586 2048 codez_1217 :=
  And.intro (okz_1586 Hy) (okzz 3634)
theorem anz_1218 (Hy : Hyz tys cA base adS Ex) : xall (fun b t => xOK l Dg clz tys cA flz ftz base adS GWz xyz xcz xnz xrz Ex codez bmz bpz b t) 2 562 1024 codez_1218 :=
  And.intro (anz_1216 Hy) (anz_1217 Hy)
theorem anz_1219 (Hy : Hyz tys cA base adS Ex) : xall (fun b t => xOK l Dg clz tys cA flz ftz base adS GWz xyz xcz xnz xrz Ex codez bmz bpz b t) 3 50 512 codez_1219 :=
  And.intro (anz_1215 Hy) (anz_1218 Hy)
theorem anz_1220 (Hy : Hyz tys cA base adS Ex) : xall (fun b t => xOK l Dg clz tys cA flz ftz base adS GWz xyz xcz xnz xrz Ex codez bmz bpz b t) 1 306 2048 codez_1220 :=
  And.intro (okz_306 Hy) (okz_2354 Hy)
theorem anz_1221 (Hy : Hyz tys cA base adS Ex) : xall (fun b t => xOK l Dg clz tys cA flz ftz base adS GWz xyz xcz xnz xrz Ex codez bmz bpz b t) 1 1330 2048 codez_1221 :=
  And.intro (okz_1330 Hy) (okzz 3378)
theorem anz_1222 (Hy : Hyz tys cA base adS Ex) : xall (fun b t => xOK l Dg clz tys cA flz ftz base adS GWz xyz xcz xnz xrz Ex codez bmz bpz b t) 2 306 1024 codez_1222 :=
  And.intro (anz_1220 Hy) (anz_1221 Hy)
theorem anz_1223 (Hy : Hyz tys cA base adS Ex) : xall (fun b t => xOK l Dg clz tys cA flz ftz base adS GWz xyz xcz xnz xrz Ex codez bmz bpz b t) 1 818 2048 codez_1223 :=
  And.intro (okz_818 Hy) (okzz 2866)
theorem anz_1224 (Hy : Hyz tys cA base adS Ex) : xall (fun b t => xOK l Dg clz tys cA flz ftz base adS GWz xyz xcz xnz xrz Ex codez bmz bpz b t) 1 1842 2048 codez_1224 :=
  And.intro (okz_1842 Hy) (okzz 3890)
theorem anz_1225 (Hy : Hyz tys cA base adS Ex) : xall (fun b t => xOK l Dg clz tys cA flz ftz base adS GWz xyz xcz xnz xrz Ex codez bmz bpz b t) 2 818 1024 codez_1225 :=
  And.intro (anz_1223 Hy) (anz_1224 Hy)
theorem anz_1226 (Hy : Hyz tys cA base adS Ex) : xall (fun b t => xOK l Dg clz tys cA flz ftz base adS GWz xyz xcz xnz xrz Ex codez bmz bpz b t) 3 306 512 codez_1226 :=
  And.intro (anz_1222 Hy) (anz_1225 Hy)
theorem anz_1227 (Hy : Hyz tys cA base adS Ex) : xall (fun b t => xOK l Dg clz tys cA flz ftz base adS GWz xyz xcz xnz xrz Ex codez bmz bpz b t) 4 50 256 codez_1227 :=
  And.intro (anz_1219 Hy) (anz_1226 Hy)
theorem anz_1228 (Hy : Hyz tys cA base adS Ex) : xall (fun b t => xOK l Dg clz tys cA flz ftz base adS GWz xyz xcz xnz xrz Ex codez bmz bpz b t) 1 178 2048 codez_1228 :=
  And.intro (okz_178 Hy) (okz_2226 Hy)
theorem anz_1229 (Hy : Hyz tys cA base adS Ex) : xall (fun b t => xOK l Dg clz tys cA flz ftz base adS GWz xyz xcz xnz xrz Ex codez bmz bpz b t) 1 1202 2048 codez_1229 :=
  And.intro (okz_1202 Hy) (okzz 3250)
theorem anz_1230 (Hy : Hyz tys cA base adS Ex) : xall (fun b t => xOK l Dg clz tys cA flz ftz base adS GWz xyz xcz xnz xrz Ex codez bmz bpz b t) 2 178 1024 codez_1230 :=
  And.intro (anz_1228 Hy) (anz_1229 Hy)
theorem anz_1231 (Hy : Hyz tys cA base adS Ex) : xall (fun b t => xOK l Dg clz tys cA flz ftz base adS GWz xyz xcz xnz xrz Ex codez bmz bpz b t) 1 690 2048 codez_1231 :=
  And.intro (okz_690 Hy) (okzz 2738)
theorem anz_1232 (Hy : Hyz tys cA base adS Ex) : xall (fun b t => xOK l Dg clz tys cA flz ftz base adS GWz xyz xcz xnz xrz Ex codez bmz bpz b t) 1 1714 2048 codez_1232 :=
  And.intro (okz_1714 Hy) (okzz 3762)
theorem anz_1233 (Hy : Hyz tys cA base adS Ex) : xall (fun b t => xOK l Dg clz tys cA flz ftz base adS GWz xyz xcz xnz xrz Ex codez bmz bpz b t) 2 690 1024 codez_1233 :=
  And.intro (anz_1231 Hy) (anz_1232 Hy)
theorem anz_1234 (Hy : Hyz tys cA base adS Ex) : xall (fun b t => xOK l Dg clz tys cA flz ftz base adS GWz xyz xcz xnz xrz Ex codez bmz bpz b t) 3 178 512 codez_1234 :=
  And.intro (anz_1230 Hy) (anz_1233 Hy)
theorem anz_1235 (Hy : Hyz tys cA base adS Ex) : xall (fun b t => xOK l Dg clz tys cA flz ftz base adS GWz xyz xcz xnz xrz Ex codez bmz bpz b t) 1 434 2048 codez_1235 :=
  And.intro (okz_434 Hy) (okz_2482 Hy)
theorem anz_1236 (Hy : Hyz tys cA base adS Ex) : xall (fun b t => xOK l Dg clz tys cA flz ftz base adS GWz xyz xcz xnz xrz Ex codez bmz bpz b t) 1 1458 2048 codez_1236 :=
  And.intro (okz_1458 Hy) (okzz 3506)
theorem anz_1237 (Hy : Hyz tys cA base adS Ex) : xall (fun b t => xOK l Dg clz tys cA flz ftz base adS GWz xyz xcz xnz xrz Ex codez bmz bpz b t) 2 434 1024 codez_1237 :=
  And.intro (anz_1235 Hy) (anz_1236 Hy)
theorem anz_1238 (Hy : Hyz tys cA base adS Ex) : xall (fun b t => xOK l Dg clz tys cA flz ftz base adS GWz xyz xcz xnz xrz Ex codez bmz bpz b t) 1 946 2048 codez_1238 :=
  And.intro (okz_946 Hy) (okzz 2994)
theorem anz_1239 (Hy : Hyz tys cA base adS Ex) : xall (fun b t => xOK l Dg clz tys cA flz ftz base adS GWz xyz xcz xnz xrz Ex codez bmz bpz b t) 1 1970 2048 codez_1239 :=
  And.intro (okz_1970 Hy) (okzz 4018)
theorem anz_1240 (Hy : Hyz tys cA base adS Ex) : xall (fun b t => xOK l Dg clz tys cA flz ftz base adS GWz xyz xcz xnz xrz Ex codez bmz bpz b t) 2 946 1024 codez_1240 :=
  And.intro (anz_1238 Hy) (anz_1239 Hy)
theorem anz_1241 (Hy : Hyz tys cA base adS Ex) : xall (fun b t => xOK l Dg clz tys cA flz ftz base adS GWz xyz xcz xnz xrz Ex codez bmz bpz b t) 3 434 512 codez_1241 :=
  And.intro (anz_1237 Hy) (anz_1240 Hy)
theorem anz_1242 (Hy : Hyz tys cA base adS Ex) : xall (fun b t => xOK l Dg clz tys cA flz ftz base adS GWz xyz xcz xnz xrz Ex codez bmz bpz b t) 4 178 256 codez_1242 :=
  And.intro (anz_1234 Hy) (anz_1241 Hy)
theorem anz_1243 (Hy : Hyz tys cA base adS Ex) : xall (fun b t => xOK l Dg clz tys cA flz ftz base adS GWz xyz xcz xnz xrz Ex codez bmz bpz b t) 5 50 128 codez_1243 :=
  And.intro (anz_1227 Hy) (anz_1242 Hy)
theorem anz_1244 (Hy : Hyz tys cA base adS Ex) : xall (fun b t => xOK l Dg clz tys cA flz ftz base adS GWz xyz xcz xnz xrz Ex codez bmz bpz b t) 1 114 2048 codez_1244 :=
  And.intro (okz_114 Hy) (okz_2162 Hy)
theorem anz_1245 (Hy : Hyz tys cA base adS Ex) : xall (fun b t => xOK l Dg clz tys cA flz ftz base adS GWz xyz xcz xnz xrz Ex codez bmz bpz b t) 1 1138 2048 codez_1245 :=
  And.intro (okz_1138 Hy) (okzz 3186)
theorem anz_1246 (Hy : Hyz tys cA base adS Ex) : xall (fun b t => xOK l Dg clz tys cA flz ftz base adS GWz xyz xcz xnz xrz Ex codez bmz bpz b t) 2 114 1024 codez_1246 :=
  And.intro (anz_1244 Hy) (anz_1245 Hy)
theorem anz_1247 (Hy : Hyz tys cA base adS Ex) : xall (fun b t => xOK l Dg clz tys cA flz ftz base adS GWz xyz xcz xnz xrz Ex codez bmz bpz b t) 1 626 2048 codez_1247 :=
  And.intro (okz_626 Hy) (okzz 2674)
theorem anz_1248 (Hy : Hyz tys cA base adS Ex) : xall (fun b t => xOK l Dg clz tys cA flz ftz base adS GWz xyz xcz xnz xrz Ex codez bmz bpz b t) 1 1650 2048 codez_1248 :=
  And.intro (okz_1650 Hy) (okzz 3698)
theorem anz_1249 (Hy : Hyz tys cA base adS Ex) : xall (fun b t => xOK l Dg clz tys cA flz ftz base adS GWz xyz xcz xnz xrz Ex codez bmz bpz b t) 2 626 1024 codez_1249 :=
  And.intro (anz_1247 Hy) (anz_1248 Hy)
theorem anz_1250 (Hy : Hyz tys cA base adS Ex) : xall (fun b t => xOK l Dg clz tys cA flz ftz base adS GWz xyz xcz xnz xrz Ex codez bmz bpz b t) 3 114 512 codez_1250 :=
  And.intro (anz_1246 Hy) (anz_1249 Hy)
theorem anz_1251 (Hy : Hyz tys cA base adS Ex) : xall (fun b t => xOK l Dg clz tys cA flz ftz base adS GWz xyz xcz xnz xrz Ex codez bmz bpz b t) 1 370 2048 codez_1251 :=
  And.intro (okz_370 Hy) (okz_2418 Hy)
theorem anz_1252 (Hy : Hyz tys cA base adS Ex) : xall (fun b t => xOK l Dg clz tys cA flz ftz base adS GWz xyz xcz xnz xrz Ex codez bmz bpz b t) 1 1394 2048 codez_1252 :=
  And.intro (okz_1394 Hy) (okzz 3442)
theorem anz_1253 (Hy : Hyz tys cA base adS Ex) : xall (fun b t => xOK l Dg clz tys cA flz ftz base adS GWz xyz xcz xnz xrz Ex codez bmz bpz b t) 2 370 1024 codez_1253 :=
  And.intro (anz_1251 Hy) (anz_1252 Hy)
theorem anz_1254 (Hy : Hyz tys cA base adS Ex) : xall (fun b t => xOK l Dg clz tys cA flz ftz base adS GWz xyz xcz xnz xrz Ex codez bmz bpz b t) 1 882 2048 codez_1254 :=
  And.intro (okz_882 Hy) (okzz 2930)
theorem anz_1255 (Hy : Hyz tys cA base adS Ex) : xall (fun b t => xOK l Dg clz tys cA flz ftz base adS GWz xyz xcz xnz xrz Ex codez bmz bpz b t) 1 1906 2048 codez_1255 :=
  And.intro (okz_1906 Hy) (okzz 3954)
theorem anz_1256 (Hy : Hyz tys cA base adS Ex) : xall (fun b t => xOK l Dg clz tys cA flz ftz base adS GWz xyz xcz xnz xrz Ex codez bmz bpz b t) 2 882 1024 codez_1256 :=
  And.intro (anz_1254 Hy) (anz_1255 Hy)
theorem anz_1257 (Hy : Hyz tys cA base adS Ex) : xall (fun b t => xOK l Dg clz tys cA flz ftz base adS GWz xyz xcz xnz xrz Ex codez bmz bpz b t) 3 370 512 codez_1257 :=
  And.intro (anz_1253 Hy) (anz_1256 Hy)
theorem anz_1258 (Hy : Hyz tys cA base adS Ex) : xall (fun b t => xOK l Dg clz tys cA flz ftz base adS GWz xyz xcz xnz xrz Ex codez bmz bpz b t) 4 114 256 codez_1258 :=
  And.intro (anz_1250 Hy) (anz_1257 Hy)
theorem anz_1259 (Hy : Hyz tys cA base adS Ex) : xall (fun b t => xOK l Dg clz tys cA flz ftz base adS GWz xyz xcz xnz xrz Ex codez bmz bpz b t) 1 242 2048 codez_1259 :=
  And.intro (okz_242 Hy) (okz_2290 Hy)
theorem anz_1260 (Hy : Hyz tys cA base adS Ex) : xall (fun b t => xOK l Dg clz tys cA flz ftz base adS GWz xyz xcz xnz xrz Ex codez bmz bpz b t) 1 1266 2048 codez_1260 :=
  And.intro (okz_1266 Hy) (okzz 3314)
theorem anz_1261 (Hy : Hyz tys cA base adS Ex) : xall (fun b t => xOK l Dg clz tys cA flz ftz base adS GWz xyz xcz xnz xrz Ex codez bmz bpz b t) 2 242 1024 codez_1261 :=
  And.intro (anz_1259 Hy) (anz_1260 Hy)
theorem anz_1262 (Hy : Hyz tys cA base adS Ex) : xall (fun b t => xOK l Dg clz tys cA flz ftz base adS GWz xyz xcz xnz xrz Ex codez bmz bpz b t) 1 754 2048 codez_1262 :=
  And.intro (okz_754 Hy) (okzz 2802)
theorem anz_1263 (Hy : Hyz tys cA base adS Ex) : xall (fun b t => xOK l Dg clz tys cA flz ftz base adS GWz xyz xcz xnz xrz Ex codez bmz bpz b t) 1 1778 2048 codez_1263 :=
  And.intro (okz_1778 Hy) (okzz 3826)
theorem anz_1264 (Hy : Hyz tys cA base adS Ex) : xall (fun b t => xOK l Dg clz tys cA flz ftz base adS GWz xyz xcz xnz xrz Ex codez bmz bpz b t) 2 754 1024 codez_1264 :=
  And.intro (anz_1262 Hy) (anz_1263 Hy)
theorem anz_1265 (Hy : Hyz tys cA base adS Ex) : xall (fun b t => xOK l Dg clz tys cA flz ftz base adS GWz xyz xcz xnz xrz Ex codez bmz bpz b t) 3 242 512 codez_1265 :=
  And.intro (anz_1261 Hy) (anz_1264 Hy)
theorem anz_1266 (Hy : Hyz tys cA base adS Ex) : xall (fun b t => xOK l Dg clz tys cA flz ftz base adS GWz xyz xcz xnz xrz Ex codez bmz bpz b t) 1 498 2048 codez_1266 :=
  And.intro (okz_498 Hy) (okzz 2546)
theorem anz_1267 (Hy : Hyz tys cA base adS Ex) : xall (fun b t => xOK l Dg clz tys cA flz ftz base adS GWz xyz xcz xnz xrz Ex codez bmz bpz b t) 1 1522 2048 codez_1267 :=
  And.intro (okz_1522 Hy) (okzz 3570)
theorem anz_1268 (Hy : Hyz tys cA base adS Ex) : xall (fun b t => xOK l Dg clz tys cA flz ftz base adS GWz xyz xcz xnz xrz Ex codez bmz bpz b t) 2 498 1024 codez_1268 :=
  And.intro (anz_1266 Hy) (anz_1267 Hy)
theorem anz_1269 (Hy : Hyz tys cA base adS Ex) : xall (fun b t => xOK l Dg clz tys cA flz ftz base adS GWz xyz xcz xnz xrz Ex codez bmz bpz b t) 1 1010 2048 codez_1269 :=
  And.intro (okz_1010 Hy) (okzz 3058)
theorem anz_1270 (Hy : Hyz tys cA base adS Ex) : xall (fun b t => xOK l Dg clz tys cA flz ftz base adS GWz xyz xcz xnz xrz Ex codez bmz bpz b t) 1 2034 2048 codez_1270 :=
  And.intro (okz_2034 Hy) (okzz 4082)
theorem anz_1271 (Hy : Hyz tys cA base adS Ex) : xall (fun b t => xOK l Dg clz tys cA flz ftz base adS GWz xyz xcz xnz xrz Ex codez bmz bpz b t) 2 1010 1024 codez_1271 :=
  And.intro (anz_1269 Hy) (anz_1270 Hy)
theorem anz_1272 (Hy : Hyz tys cA base adS Ex) : xall (fun b t => xOK l Dg clz tys cA flz ftz base adS GWz xyz xcz xnz xrz Ex codez bmz bpz b t) 3 498 512 codez_1272 :=
  And.intro (anz_1268 Hy) (anz_1271 Hy)
theorem anz_1273 (Hy : Hyz tys cA base adS Ex) : xall (fun b t => xOK l Dg clz tys cA flz ftz base adS GWz xyz xcz xnz xrz Ex codez bmz bpz b t) 4 242 256 codez_1273 :=
  And.intro (anz_1265 Hy) (anz_1272 Hy)
theorem anz_1274 (Hy : Hyz tys cA base adS Ex) : xall (fun b t => xOK l Dg clz tys cA flz ftz base adS GWz xyz xcz xnz xrz Ex codez bmz bpz b t) 5 114 128 codez_1274 :=
  And.intro (anz_1258 Hy) (anz_1273 Hy)
theorem anz_1275 (Hy : Hyz tys cA base adS Ex) : xall (fun b t => xOK l Dg clz tys cA flz ftz base adS GWz xyz xcz xnz xrz Ex codez bmz bpz b t) 6 50 64 codez_1275 :=
  And.intro (anz_1243 Hy) (anz_1274 Hy)
theorem anz_1276 (Hy : Hyz tys cA base adS Ex) : xall (fun b t => xOK l Dg clz tys cA flz ftz base adS GWz xyz xcz xnz xrz Ex codez bmz bpz b t) 7 18 32 codez_1276 :=
  And.intro (anz_1212 Hy) (anz_1275 Hy)
theorem anz_1277 (Hy : Hyz tys cA base adS Ex) : xall (fun b t => xOK l Dg clz tys cA flz ftz base adS GWz xyz xcz xnz xrz Ex codez bmz bpz b t) 8 2 16 codez_1277 :=
  And.intro (anz_1149 Hy) (anz_1276 Hy)
theorem anz_1278 (Hy : Hyz tys cA base adS Ex) : xall (fun b t => xOK l Dg clz tys cA flz ftz base adS GWz xyz xcz xnz xrz Ex codez bmz bpz b t) 1 10 2048 codez_1278 :=
  And.intro (okz_10 Hy) (okz_2058 Hy)
theorem anz_1279 (Hy : Hyz tys cA base adS Ex) : xall (fun b t => xOK l Dg clz tys cA flz ftz base adS GWz xyz xcz xnz xrz Ex codez bmz bpz b t) 1 1034 2048 codez_1279 :=
  And.intro (okz_1034 Hy) (okzz 3082)
theorem anz_1280 (Hy : Hyz tys cA base adS Ex) : xall (fun b t => xOK l Dg clz tys cA flz ftz base adS GWz xyz xcz xnz xrz Ex codez bmz bpz b t) 2 10 1024 codez_1280 :=
  And.intro (anz_1278 Hy) (anz_1279 Hy)
theorem anz_1281 (Hy : Hyz tys cA base adS Ex) : xall (fun b t => xOK l Dg clz tys cA flz ftz base adS GWz xyz xcz xnz xrz Ex codez bmz bpz b t) 1 522 2048 codez_1281 :=
  And.intro (okz_522 Hy) (okzz 2570)
theorem anz_1282 (Hy : Hyz tys cA base adS Ex) : xall (fun b t => xOK l Dg clz tys cA flz ftz base adS GWz xyz xcz xnz xrz Ex codez bmz bpz b t) 1 1546 2048 codez_1282 :=
  And.intro (okz_1546 Hy) (okzz 3594)
theorem anz_1283 (Hy : Hyz tys cA base adS Ex) : xall (fun b t => xOK l Dg clz tys cA flz ftz base adS GWz xyz xcz xnz xrz Ex codez bmz bpz b t) 2 522 1024 codez_1283 :=
  And.intro (anz_1281 Hy) (anz_1282 Hy)
theorem anz_1284 (Hy : Hyz tys cA base adS Ex) : xall (fun b t => xOK l Dg clz tys cA flz ftz base adS GWz xyz xcz xnz xrz Ex codez bmz bpz b t) 3 10 512 codez_1284 :=
  And.intro (anz_1280 Hy) (anz_1283 Hy)
theorem anz_1285 (Hy : Hyz tys cA base adS Ex) : xall (fun b t => xOK l Dg clz tys cA flz ftz base adS GWz xyz xcz xnz xrz Ex codez bmz bpz b t) 1 266 2048 codez_1285 :=
  And.intro (okz_266 Hy) (okz_2314 Hy)
theorem anz_1286 (Hy : Hyz tys cA base adS Ex) : xall (fun b t => xOK l Dg clz tys cA flz ftz base adS GWz xyz xcz xnz xrz Ex codez bmz bpz b t) 1 1290 2048 codez_1286 :=
  And.intro (okz_1290 Hy) (okzz 3338)
theorem anz_1287 (Hy : Hyz tys cA base adS Ex) : xall (fun b t => xOK l Dg clz tys cA flz ftz base adS GWz xyz xcz xnz xrz Ex codez bmz bpz b t) 2 266 1024 codez_1287 :=
  And.intro (anz_1285 Hy) (anz_1286 Hy)
theorem anz_1288 (Hy : Hyz tys cA base adS Ex) : xall (fun b t => xOK l Dg clz tys cA flz ftz base adS GWz xyz xcz xnz xrz Ex codez bmz bpz b t) 1 778 2048 codez_1288 :=
  And.intro (okz_778 Hy) (okzz 2826)
theorem anz_1289 (Hy : Hyz tys cA base adS Ex) : xall (fun b t => xOK l Dg clz tys cA flz ftz base adS GWz xyz xcz xnz xrz Ex codez bmz bpz b t) 1 1802 2048 codez_1289 :=
  And.intro (okz_1802 Hy) (okzz 3850)
theorem anz_1290 (Hy : Hyz tys cA base adS Ex) : xall (fun b t => xOK l Dg clz tys cA flz ftz base adS GWz xyz xcz xnz xrz Ex codez bmz bpz b t) 2 778 1024 codez_1290 :=
  And.intro (anz_1288 Hy) (anz_1289 Hy)
theorem anz_1291 (Hy : Hyz tys cA base adS Ex) : xall (fun b t => xOK l Dg clz tys cA flz ftz base adS GWz xyz xcz xnz xrz Ex codez bmz bpz b t) 3 266 512 codez_1291 :=
  And.intro (anz_1287 Hy) (anz_1290 Hy)
theorem anz_1292 (Hy : Hyz tys cA base adS Ex) : xall (fun b t => xOK l Dg clz tys cA flz ftz base adS GWz xyz xcz xnz xrz Ex codez bmz bpz b t) 4 10 256 codez_1292 :=
  And.intro (anz_1284 Hy) (anz_1291 Hy)
theorem anz_1293 (Hy : Hyz tys cA base adS Ex) : xall (fun b t => xOK l Dg clz tys cA flz ftz base adS GWz xyz xcz xnz xrz Ex codez bmz bpz b t) 1 138 2048 codez_1293 :=
  And.intro (okz_138 Hy) (okz_2186 Hy)
theorem anz_1294 (Hy : Hyz tys cA base adS Ex) : xall (fun b t => xOK l Dg clz tys cA flz ftz base adS GWz xyz xcz xnz xrz Ex codez bmz bpz b t) 1 1162 2048 codez_1294 :=
  And.intro (okz_1162 Hy) (okzz 3210)
theorem anz_1295 (Hy : Hyz tys cA base adS Ex) : xall (fun b t => xOK l Dg clz tys cA flz ftz base adS GWz xyz xcz xnz xrz Ex codez bmz bpz b t) 2 138 1024 codez_1295 :=
  And.intro (anz_1293 Hy) (anz_1294 Hy)
theorem anz_1296 (Hy : Hyz tys cA base adS Ex) : xall (fun b t => xOK l Dg clz tys cA flz ftz base adS GWz xyz xcz xnz xrz Ex codez bmz bpz b t) 1 650 2048 codez_1296 :=
  And.intro (okz_650 Hy) (okzz 2698)
theorem anz_1297 (Hy : Hyz tys cA base adS Ex) : xall (fun b t => xOK l Dg clz tys cA flz ftz base adS GWz xyz xcz xnz xrz Ex codez bmz bpz b t) 1 1674 2048 codez_1297 :=
  And.intro (okz_1674 Hy) (okzz 3722)
theorem anz_1298 (Hy : Hyz tys cA base adS Ex) : xall (fun b t => xOK l Dg clz tys cA flz ftz base adS GWz xyz xcz xnz xrz Ex codez bmz bpz b t) 2 650 1024 codez_1298 :=
  And.intro (anz_1296 Hy) (anz_1297 Hy)
theorem anz_1299 (Hy : Hyz tys cA base adS Ex) : xall (fun b t => xOK l Dg clz tys cA flz ftz base adS GWz xyz xcz xnz xrz Ex codez bmz bpz b t) 3 138 512 codez_1299 :=
  And.intro (anz_1295 Hy) (anz_1298 Hy)
theorem anz_1300 (Hy : Hyz tys cA base adS Ex) : xall (fun b t => xOK l Dg clz tys cA flz ftz base adS GWz xyz xcz xnz xrz Ex codez bmz bpz b t) 1 394 2048 codez_1300 :=
  And.intro (okz_394 Hy) (okz_2442 Hy)
theorem anz_1301 (Hy : Hyz tys cA base adS Ex) : xall (fun b t => xOK l Dg clz tys cA flz ftz base adS GWz xyz xcz xnz xrz Ex codez bmz bpz b t) 1 1418 2048 codez_1301 :=
  And.intro (okz_1418 Hy) (okzz 3466)
theorem anz_1302 (Hy : Hyz tys cA base adS Ex) : xall (fun b t => xOK l Dg clz tys cA flz ftz base adS GWz xyz xcz xnz xrz Ex codez bmz bpz b t) 2 394 1024 codez_1302 :=
  And.intro (anz_1300 Hy) (anz_1301 Hy)
theorem anz_1303 (Hy : Hyz tys cA base adS Ex) : xall (fun b t => xOK l Dg clz tys cA flz ftz base adS GWz xyz xcz xnz xrz Ex codez bmz bpz b t) 1 906 2048 codez_1303 :=
  And.intro (okz_906 Hy) (okzz 2954)
theorem anz_1304 (Hy : Hyz tys cA base adS Ex) : xall (fun b t => xOK l Dg clz tys cA flz ftz base adS GWz xyz xcz xnz xrz Ex codez bmz bpz b t) 1 1930 2048 codez_1304 :=
  And.intro (okz_1930 Hy) (okzz 3978)
theorem anz_1305 (Hy : Hyz tys cA base adS Ex) : xall (fun b t => xOK l Dg clz tys cA flz ftz base adS GWz xyz xcz xnz xrz Ex codez bmz bpz b t) 2 906 1024 codez_1305 :=
  And.intro (anz_1303 Hy) (anz_1304 Hy)
theorem anz_1306 (Hy : Hyz tys cA base adS Ex) : xall (fun b t => xOK l Dg clz tys cA flz ftz base adS GWz xyz xcz xnz xrz Ex codez bmz bpz b t) 3 394 512 codez_1306 :=
  And.intro (anz_1302 Hy) (anz_1305 Hy)
theorem anz_1307 (Hy : Hyz tys cA base adS Ex) : xall (fun b t => xOK l Dg clz tys cA flz ftz base adS GWz xyz xcz xnz xrz Ex codez bmz bpz b t) 4 138 256 codez_1307 :=
  And.intro (anz_1299 Hy) (anz_1306 Hy)
theorem anz_1308 (Hy : Hyz tys cA base adS Ex) : xall (fun b t => xOK l Dg clz tys cA flz ftz base adS GWz xyz xcz xnz xrz Ex codez bmz bpz b t) 5 10 128 codez_1308 :=
  And.intro (anz_1292 Hy) (anz_1307 Hy)
theorem anz_1309 (Hy : Hyz tys cA base adS Ex) : xall (fun b t => xOK l Dg clz tys cA flz ftz base adS GWz xyz xcz xnz xrz Ex codez bmz bpz b t) 1 74 2048 codez_1309 :=
  And.intro (okz_74 Hy) (okz_2122 Hy)
theorem anz_1310 (Hy : Hyz tys cA base adS Ex) : xall (fun b t => xOK l Dg clz tys cA flz ftz base adS GWz xyz xcz xnz xrz Ex codez bmz bpz b t) 1 1098 2048 codez_1310 :=
  And.intro (okz_1098 Hy) (okzz 3146)
theorem anz_1311 (Hy : Hyz tys cA base adS Ex) : xall (fun b t => xOK l Dg clz tys cA flz ftz base adS GWz xyz xcz xnz xrz Ex codez bmz bpz b t) 2 74 1024 codez_1311 :=
  And.intro (anz_1309 Hy) (anz_1310 Hy)
theorem anz_1312 (Hy : Hyz tys cA base adS Ex) : xall (fun b t => xOK l Dg clz tys cA flz ftz base adS GWz xyz xcz xnz xrz Ex codez bmz bpz b t) 1 586 2048 codez_1312 :=
  And.intro (okz_586 Hy) (okzz 2634)
theorem anz_1313 (Hy : Hyz tys cA base adS Ex) : xall (fun b t => xOK l Dg clz tys cA flz ftz base adS GWz xyz xcz xnz xrz Ex codez bmz bpz b t) 1 1610 2048 codez_1313 :=
  And.intro (okz_1610 Hy) (okzz 3658)
theorem anz_1314 (Hy : Hyz tys cA base adS Ex) : xall (fun b t => xOK l Dg clz tys cA flz ftz base adS GWz xyz xcz xnz xrz Ex codez bmz bpz b t) 2 586 1024 codez_1314 :=
  And.intro (anz_1312 Hy) (anz_1313 Hy)
theorem anz_1315 (Hy : Hyz tys cA base adS Ex) : xall (fun b t => xOK l Dg clz tys cA flz ftz base adS GWz xyz xcz xnz xrz Ex codez bmz bpz b t) 3 74 512 codez_1315 :=
  And.intro (anz_1311 Hy) (anz_1314 Hy)
theorem anz_1316 (Hy : Hyz tys cA base adS Ex) : xall (fun b t => xOK l Dg clz tys cA flz ftz base adS GWz xyz xcz xnz xrz Ex codez bmz bpz b t) 1 330 2048 codez_1316 :=
  And.intro (okz_330 Hy) (okz_2378 Hy)
theorem anz_1317 (Hy : Hyz tys cA base adS Ex) : xall (fun b t => xOK l Dg clz tys cA flz ftz base adS GWz xyz xcz xnz xrz Ex codez bmz bpz b t) 1 1354 2048 codez_1317 :=
  And.intro (okz_1354 Hy) (okzz 3402)
theorem anz_1318 (Hy : Hyz tys cA base adS Ex) : xall (fun b t => xOK l Dg clz tys cA flz ftz base adS GWz xyz xcz xnz xrz Ex codez bmz bpz b t) 2 330 1024 codez_1318 :=
  And.intro (anz_1316 Hy) (anz_1317 Hy)
theorem anz_1319 (Hy : Hyz tys cA base adS Ex) : xall (fun b t => xOK l Dg clz tys cA flz ftz base adS GWz xyz xcz xnz xrz Ex codez bmz bpz b t) 1 842 2048 codez_1319 :=
  And.intro (okz_842 Hy) (okzz 2890)
theorem anz_1320 (Hy : Hyz tys cA base adS Ex) : xall (fun b t => xOK l Dg clz tys cA flz ftz base adS GWz xyz xcz xnz xrz Ex codez bmz bpz b t) 1 1866 2048 codez_1320 :=
  And.intro (okz_1866 Hy) (okzz 3914)
theorem anz_1321 (Hy : Hyz tys cA base adS Ex) : xall (fun b t => xOK l Dg clz tys cA flz ftz base adS GWz xyz xcz xnz xrz Ex codez bmz bpz b t) 2 842 1024 codez_1321 :=
  And.intro (anz_1319 Hy) (anz_1320 Hy)
theorem anz_1322 (Hy : Hyz tys cA base adS Ex) : xall (fun b t => xOK l Dg clz tys cA flz ftz base adS GWz xyz xcz xnz xrz Ex codez bmz bpz b t) 3 330 512 codez_1322 :=
  And.intro (anz_1318 Hy) (anz_1321 Hy)
theorem anz_1323 (Hy : Hyz tys cA base adS Ex) : xall (fun b t => xOK l Dg clz tys cA flz ftz base adS GWz xyz xcz xnz xrz Ex codez bmz bpz b t) 4 74 256 codez_1323 :=
  And.intro (anz_1315 Hy) (anz_1322 Hy)
theorem anz_1324 (Hy : Hyz tys cA base adS Ex) : xall (fun b t => xOK l Dg clz tys cA flz ftz base adS GWz xyz xcz xnz xrz Ex codez bmz bpz b t) 1 202 2048 codez_1324 :=
  And.intro (okz_202 Hy) (okz_2250 Hy)
theorem anz_1325 (Hy : Hyz tys cA base adS Ex) : xall (fun b t => xOK l Dg clz tys cA flz ftz base adS GWz xyz xcz xnz xrz Ex codez bmz bpz b t) 1 1226 2048 codez_1325 :=
  And.intro (okz_1226 Hy) (okzz 3274)
theorem anz_1326 (Hy : Hyz tys cA base adS Ex) : xall (fun b t => xOK l Dg clz tys cA flz ftz base adS GWz xyz xcz xnz xrz Ex codez bmz bpz b t) 2 202 1024 codez_1326 :=
  And.intro (anz_1324 Hy) (anz_1325 Hy)
theorem anz_1327 (Hy : Hyz tys cA base adS Ex) : xall (fun b t => xOK l Dg clz tys cA flz ftz base adS GWz xyz xcz xnz xrz Ex codez bmz bpz b t) 1 714 2048 codez_1327 :=
  And.intro (okz_714 Hy) (okzz 2762)
theorem anz_1328 (Hy : Hyz tys cA base adS Ex) : xall (fun b t => xOK l Dg clz tys cA flz ftz base adS GWz xyz xcz xnz xrz Ex codez bmz bpz b t) 1 1738 2048 codez_1328 :=
  And.intro (okz_1738 Hy) (okzz 3786)
theorem anz_1329 (Hy : Hyz tys cA base adS Ex) : xall (fun b t => xOK l Dg clz tys cA flz ftz base adS GWz xyz xcz xnz xrz Ex codez bmz bpz b t) 2 714 1024 codez_1329 :=
  And.intro (anz_1327 Hy) (anz_1328 Hy)
theorem anz_1330 (Hy : Hyz tys cA base adS Ex) : xall (fun b t => xOK l Dg clz tys cA flz ftz base adS GWz xyz xcz xnz xrz Ex codez bmz bpz b t) 3 202 512 codez_1330 :=
  And.intro (anz_1326 Hy) (anz_1329 Hy)
theorem anz_1331 (Hy : Hyz tys cA base adS Ex) : xall (fun b t => xOK l Dg clz tys cA flz ftz base adS GWz xyz xcz xnz xrz Ex codez bmz bpz b t) 1 458 2048 codez_1331 :=
  And.intro (okz_458 Hy) (okz_2506 Hy)
theorem anz_1332 (Hy : Hyz tys cA base adS Ex) : xall (fun b t => xOK l Dg clz tys cA flz ftz base adS GWz xyz xcz xnz xrz Ex codez bmz bpz b t) 1 1482 2048 codez_1332 :=
  And.intro (okz_1482 Hy) (okzz 3530)
theorem anz_1333 (Hy : Hyz tys cA base adS Ex) : xall (fun b t => xOK l Dg clz tys cA flz ftz base adS GWz xyz xcz xnz xrz Ex codez bmz bpz b t) 2 458 1024 codez_1333 :=
  And.intro (anz_1331 Hy) (anz_1332 Hy)
theorem anz_1334 (Hy : Hyz tys cA base adS Ex) : xall (fun b t => xOK l Dg clz tys cA flz ftz base adS GWz xyz xcz xnz xrz Ex codez bmz bpz b t) 1 970 2048 codez_1334 :=
  And.intro (okz_970 Hy) (okzz 3018)
theorem anz_1335 (Hy : Hyz tys cA base adS Ex) : xall (fun b t => xOK l Dg clz tys cA flz ftz base adS GWz xyz xcz xnz xrz Ex codez bmz bpz b t) 1 1994 2048 codez_1335 :=
  And.intro (okz_1994 Hy) (okzz 4042)
theorem anz_1336 (Hy : Hyz tys cA base adS Ex) : xall (fun b t => xOK l Dg clz tys cA flz ftz base adS GWz xyz xcz xnz xrz Ex codez bmz bpz b t) 2 970 1024 codez_1336 :=
  And.intro (anz_1334 Hy) (anz_1335 Hy)
theorem anz_1337 (Hy : Hyz tys cA base adS Ex) : xall (fun b t => xOK l Dg clz tys cA flz ftz base adS GWz xyz xcz xnz xrz Ex codez bmz bpz b t) 3 458 512 codez_1337 :=
  And.intro (anz_1333 Hy) (anz_1336 Hy)
theorem anz_1338 (Hy : Hyz tys cA base adS Ex) : xall (fun b t => xOK l Dg clz tys cA flz ftz base adS GWz xyz xcz xnz xrz Ex codez bmz bpz b t) 4 202 256 codez_1338 :=
  And.intro (anz_1330 Hy) (anz_1337 Hy)
theorem anz_1339 (Hy : Hyz tys cA base adS Ex) : xall (fun b t => xOK l Dg clz tys cA flz ftz base adS GWz xyz xcz xnz xrz Ex codez bmz bpz b t) 5 74 128 codez_1339 :=
  And.intro (anz_1323 Hy) (anz_1338 Hy)
theorem anz_1340 (Hy : Hyz tys cA base adS Ex) : xall (fun b t => xOK l Dg clz tys cA flz ftz base adS GWz xyz xcz xnz xrz Ex codez bmz bpz b t) 6 10 64 codez_1340 :=
  And.intro (anz_1308 Hy) (anz_1339 Hy)
theorem anz_1341 (Hy : Hyz tys cA base adS Ex) : xall (fun b t => xOK l Dg clz tys cA flz ftz base adS GWz xyz xcz xnz xrz Ex codez bmz bpz b t) 1 42 2048 codez_1341 :=
  And.intro (okz_42 Hy) (okz_2090 Hy)
theorem anz_1342 (Hy : Hyz tys cA base adS Ex) : xall (fun b t => xOK l Dg clz tys cA flz ftz base adS GWz xyz xcz xnz xrz Ex codez bmz bpz b t) 1 1066 2048 codez_1342 :=
  And.intro (okz_1066 Hy) (okzz 3114)
theorem anz_1343 (Hy : Hyz tys cA base adS Ex) : xall (fun b t => xOK l Dg clz tys cA flz ftz base adS GWz xyz xcz xnz xrz Ex codez bmz bpz b t) 2 42 1024 codez_1343 :=
  And.intro (anz_1341 Hy) (anz_1342 Hy)
theorem anz_1344 (Hy : Hyz tys cA base adS Ex) : xall (fun b t => xOK l Dg clz tys cA flz ftz base adS GWz xyz xcz xnz xrz Ex codez bmz bpz b t) 1 554 2048 codez_1344 :=
  And.intro (okz_554 Hy) (okzz 2602)
theorem anz_1345 (Hy : Hyz tys cA base adS Ex) : xall (fun b t => xOK l Dg clz tys cA flz ftz base adS GWz xyz xcz xnz xrz Ex codez bmz bpz b t) 1 1578 2048 codez_1345 :=
  And.intro (okz_1578 Hy) (okzz 3626)
theorem anz_1346 (Hy : Hyz tys cA base adS Ex) : xall (fun b t => xOK l Dg clz tys cA flz ftz base adS GWz xyz xcz xnz xrz Ex codez bmz bpz b t) 2 554 1024 codez_1346 :=
  And.intro (anz_1344 Hy) (anz_1345 Hy)
theorem anz_1347 (Hy : Hyz tys cA base adS Ex) : xall (fun b t => xOK l Dg clz tys cA flz ftz base adS GWz xyz xcz xnz xrz Ex codez bmz bpz b t) 3 42 512 codez_1347 :=
  And.intro (anz_1343 Hy) (anz_1346 Hy)
theorem anz_1348 (Hy : Hyz tys cA base adS Ex) : xall (fun b t => xOK l Dg clz tys cA flz ftz base adS GWz xyz xcz xnz xrz Ex codez bmz bpz b t) 1 298 2048 codez_1348 :=
  And.intro (okz_298 Hy) (okz_2346 Hy)
theorem anz_1349 (Hy : Hyz tys cA base adS Ex) : xall (fun b t => xOK l Dg clz tys cA flz ftz base adS GWz xyz xcz xnz xrz Ex codez bmz bpz b t) 1 1322 2048 codez_1349 :=
  And.intro (okz_1322 Hy) (okzz 3370)
theorem anz_1350 (Hy : Hyz tys cA base adS Ex) : xall (fun b t => xOK l Dg clz tys cA flz ftz base adS GWz xyz xcz xnz xrz Ex codez bmz bpz b t) 2 298 1024 codez_1350 :=
  And.intro (anz_1348 Hy) (anz_1349 Hy)
theorem anz_1351 (Hy : Hyz tys cA base adS Ex) : xall (fun b t => xOK l Dg clz tys cA flz ftz base adS GWz xyz xcz xnz xrz Ex codez bmz bpz b t) 1 810 2048 codez_1351 :=
  And.intro (okz_810 Hy) (okzz 2858)
theorem anz_1352 (Hy : Hyz tys cA base adS Ex) : xall (fun b t => xOK l Dg clz tys cA flz ftz base adS GWz xyz xcz xnz xrz Ex codez bmz bpz b t) 1 1834 2048 codez_1352 :=
  And.intro (okz_1834 Hy) (okzz 3882)
theorem anz_1353 (Hy : Hyz tys cA base adS Ex) : xall (fun b t => xOK l Dg clz tys cA flz ftz base adS GWz xyz xcz xnz xrz Ex codez bmz bpz b t) 2 810 1024 codez_1353 :=
  And.intro (anz_1351 Hy) (anz_1352 Hy)
theorem anz_1354 (Hy : Hyz tys cA base adS Ex) : xall (fun b t => xOK l Dg clz tys cA flz ftz base adS GWz xyz xcz xnz xrz Ex codez bmz bpz b t) 3 298 512 codez_1354 :=
  And.intro (anz_1350 Hy) (anz_1353 Hy)
theorem anz_1355 (Hy : Hyz tys cA base adS Ex) : xall (fun b t => xOK l Dg clz tys cA flz ftz base adS GWz xyz xcz xnz xrz Ex codez bmz bpz b t) 4 42 256 codez_1355 :=
  And.intro (anz_1347 Hy) (anz_1354 Hy)
theorem anz_1356 (Hy : Hyz tys cA base adS Ex) : xall (fun b t => xOK l Dg clz tys cA flz ftz base adS GWz xyz xcz xnz xrz Ex codez bmz bpz b t) 1 170 2048 codez_1356 :=
  And.intro (okz_170 Hy) (okz_2218 Hy)
theorem anz_1357 (Hy : Hyz tys cA base adS Ex) : xall (fun b t => xOK l Dg clz tys cA flz ftz base adS GWz xyz xcz xnz xrz Ex codez bmz bpz b t) 1 1194 2048 codez_1357 :=
  And.intro (okz_1194 Hy) (okzz 3242)
theorem anz_1358 (Hy : Hyz tys cA base adS Ex) : xall (fun b t => xOK l Dg clz tys cA flz ftz base adS GWz xyz xcz xnz xrz Ex codez bmz bpz b t) 2 170 1024 codez_1358 :=
  And.intro (anz_1356 Hy) (anz_1357 Hy)
theorem anz_1359 (Hy : Hyz tys cA base adS Ex) : xall (fun b t => xOK l Dg clz tys cA flz ftz base adS GWz xyz xcz xnz xrz Ex codez bmz bpz b t) 1 682 2048 codez_1359 :=
  And.intro (okz_682 Hy) (okzz 2730)
theorem anz_1360 (Hy : Hyz tys cA base adS Ex) : xall (fun b t => xOK l Dg clz tys cA flz ftz base adS GWz xyz xcz xnz xrz Ex codez bmz bpz b t) 1 1706 2048 codez_1360 :=
  And.intro (okz_1706 Hy) (okzz 3754)
theorem anz_1361 (Hy : Hyz tys cA base adS Ex) : xall (fun b t => xOK l Dg clz tys cA flz ftz base adS GWz xyz xcz xnz xrz Ex codez bmz bpz b t) 2 682 1024 codez_1361 :=
  And.intro (anz_1359 Hy) (anz_1360 Hy)
theorem anz_1362 (Hy : Hyz tys cA base adS Ex) : xall (fun b t => xOK l Dg clz tys cA flz ftz base adS GWz xyz xcz xnz xrz Ex codez bmz bpz b t) 3 170 512 codez_1362 :=
  And.intro (anz_1358 Hy) (anz_1361 Hy)
theorem anz_1363 (Hy : Hyz tys cA base adS Ex) : xall (fun b t => xOK l Dg clz tys cA flz ftz base adS GWz xyz xcz xnz xrz Ex codez bmz bpz b t) 1 426 2048 codez_1363 :=
  And.intro (okz_426 Hy) (okz_2474 Hy)
theorem anz_1364 (Hy : Hyz tys cA base adS Ex) : xall (fun b t => xOK l Dg clz tys cA flz ftz base adS GWz xyz xcz xnz xrz Ex codez bmz bpz b t) 1 1450 2048 codez_1364 :=
  And.intro (okz_1450 Hy) (okzz 3498)
theorem anz_1365 (Hy : Hyz tys cA base adS Ex) : xall (fun b t => xOK l Dg clz tys cA flz ftz base adS GWz xyz xcz xnz xrz Ex codez bmz bpz b t) 2 426 1024 codez_1365 :=
  And.intro (anz_1363 Hy) (anz_1364 Hy)
theorem anz_1366 (Hy : Hyz tys cA base adS Ex) : xall (fun b t => xOK l Dg clz tys cA flz ftz base adS GWz xyz xcz xnz xrz Ex codez bmz bpz b t) 1 938 2048 codez_1366 :=
  And.intro (okz_938 Hy) (okzz 2986)
theorem anz_1367 (Hy : Hyz tys cA base adS Ex) : xall (fun b t => xOK l Dg clz tys cA flz ftz base adS GWz xyz xcz xnz xrz Ex codez bmz bpz b t) 1 1962 2048 codez_1367 :=
  And.intro (okz_1962 Hy) (okzz 4010)
theorem anz_1368 (Hy : Hyz tys cA base adS Ex) : xall (fun b t => xOK l Dg clz tys cA flz ftz base adS GWz xyz xcz xnz xrz Ex codez bmz bpz b t) 2 938 1024 codez_1368 :=
  And.intro (anz_1366 Hy) (anz_1367 Hy)
theorem anz_1369 (Hy : Hyz tys cA base adS Ex) : xall (fun b t => xOK l Dg clz tys cA flz ftz base adS GWz xyz xcz xnz xrz Ex codez bmz bpz b t) 3 426 512 codez_1369 :=
  And.intro (anz_1365 Hy) (anz_1368 Hy)
theorem anz_1370 (Hy : Hyz tys cA base adS Ex) : xall (fun b t => xOK l Dg clz tys cA flz ftz base adS GWz xyz xcz xnz xrz Ex codez bmz bpz b t) 4 170 256 codez_1370 :=
  And.intro (anz_1362 Hy) (anz_1369 Hy)
theorem anz_1371 (Hy : Hyz tys cA base adS Ex) : xall (fun b t => xOK l Dg clz tys cA flz ftz base adS GWz xyz xcz xnz xrz Ex codez bmz bpz b t) 5 42 128 codez_1371 :=
  And.intro (anz_1355 Hy) (anz_1370 Hy)
theorem anz_1372 (Hy : Hyz tys cA base adS Ex) : xall (fun b t => xOK l Dg clz tys cA flz ftz base adS GWz xyz xcz xnz xrz Ex codez bmz bpz b t) 1 106 2048 codez_1372 :=
  And.intro (okz_106 Hy) (okz_2154 Hy)
theorem anz_1373 (Hy : Hyz tys cA base adS Ex) : xall (fun b t => xOK l Dg clz tys cA flz ftz base adS GWz xyz xcz xnz xrz Ex codez bmz bpz b t) 1 1130 2048 codez_1373 :=
  And.intro (okz_1130 Hy) (okzz 3178)
theorem anz_1374 (Hy : Hyz tys cA base adS Ex) : xall (fun b t => xOK l Dg clz tys cA flz ftz base adS GWz xyz xcz xnz xrz Ex codez bmz bpz b t) 2 106 1024 codez_1374 :=
  And.intro (anz_1372 Hy) (anz_1373 Hy)
theorem anz_1375 (Hy : Hyz tys cA base adS Ex) : xall (fun b t => xOK l Dg clz tys cA flz ftz base adS GWz xyz xcz xnz xrz Ex codez bmz bpz b t) 1 618 2048 codez_1375 :=
  And.intro (okz_618 Hy) (okzz 2666)
theorem anz_1376 (Hy : Hyz tys cA base adS Ex) : xall (fun b t => xOK l Dg clz tys cA flz ftz base adS GWz xyz xcz xnz xrz Ex codez bmz bpz b t) 1 1642 2048 codez_1376 :=
  And.intro (okz_1642 Hy) (okzz 3690)
theorem anz_1377 (Hy : Hyz tys cA base adS Ex) : xall (fun b t => xOK l Dg clz tys cA flz ftz base adS GWz xyz xcz xnz xrz Ex codez bmz bpz b t) 2 618 1024 codez_1377 :=
  And.intro (anz_1375 Hy) (anz_1376 Hy)
theorem anz_1378 (Hy : Hyz tys cA base adS Ex) : xall (fun b t => xOK l Dg clz tys cA flz ftz base adS GWz xyz xcz xnz xrz Ex codez bmz bpz b t) 3 106 512 codez_1378 :=
  And.intro (anz_1374 Hy) (anz_1377 Hy)
theorem anz_1379 (Hy : Hyz tys cA base adS Ex) : xall (fun b t => xOK l Dg clz tys cA flz ftz base adS GWz xyz xcz xnz xrz Ex codez bmz bpz b t) 1 362 2048 codez_1379 :=
  And.intro (okz_362 Hy) (okz_2410 Hy)
theorem anz_1380 (Hy : Hyz tys cA base adS Ex) : xall (fun b t => xOK l Dg clz tys cA flz ftz base adS GWz xyz xcz xnz xrz Ex codez bmz bpz b t) 1 1386 2048 codez_1380 :=
  And.intro (okz_1386 Hy) (okzz 3434)
theorem anz_1381 (Hy : Hyz tys cA base adS Ex) : xall (fun b t => xOK l Dg clz tys cA flz ftz base adS GWz xyz xcz xnz xrz Ex codez bmz bpz b t) 2 362 1024 codez_1381 :=
  And.intro (anz_1379 Hy) (anz_1380 Hy)
theorem anz_1382 (Hy : Hyz tys cA base adS Ex) : xall (fun b t => xOK l Dg clz tys cA flz ftz base adS GWz xyz xcz xnz xrz Ex codez bmz bpz b t) 1 874 2048 codez_1382 :=
  And.intro (okz_874 Hy) (okzz 2922)
theorem anz_1383 (Hy : Hyz tys cA base adS Ex) : xall (fun b t => xOK l Dg clz tys cA flz ftz base adS GWz xyz xcz xnz xrz Ex codez bmz bpz b t) 1 1898 2048 codez_1383 :=
  And.intro (okz_1898 Hy) (okzz 3946)
theorem anz_1384 (Hy : Hyz tys cA base adS Ex) : xall (fun b t => xOK l Dg clz tys cA flz ftz base adS GWz xyz xcz xnz xrz Ex codez bmz bpz b t) 2 874 1024 codez_1384 :=
  And.intro (anz_1382 Hy) (anz_1383 Hy)
theorem anz_1385 (Hy : Hyz tys cA base adS Ex) : xall (fun b t => xOK l Dg clz tys cA flz ftz base adS GWz xyz xcz xnz xrz Ex codez bmz bpz b t) 3 362 512 codez_1385 :=
  And.intro (anz_1381 Hy) (anz_1384 Hy)
theorem anz_1386 (Hy : Hyz tys cA base adS Ex) : xall (fun b t => xOK l Dg clz tys cA flz ftz base adS GWz xyz xcz xnz xrz Ex codez bmz bpz b t) 4 106 256 codez_1386 :=
  And.intro (anz_1378 Hy) (anz_1385 Hy)
theorem anz_1387 (Hy : Hyz tys cA base adS Ex) : xall (fun b t => xOK l Dg clz tys cA flz ftz base adS GWz xyz xcz xnz xrz Ex codez bmz bpz b t) 1 234 2048 codez_1387 :=
  And.intro (okz_234 Hy) (okz_2282 Hy)
theorem anz_1388 (Hy : Hyz tys cA base adS Ex) : xall (fun b t => xOK l Dg clz tys cA flz ftz base adS GWz xyz xcz xnz xrz Ex codez bmz bpz b t) 1 1258 2048 codez_1388 :=
  And.intro (okz_1258 Hy) (okzz 3306)
theorem anz_1389 (Hy : Hyz tys cA base adS Ex) : xall (fun b t => xOK l Dg clz tys cA flz ftz base adS GWz xyz xcz xnz xrz Ex codez bmz bpz b t) 2 234 1024 codez_1389 :=
  And.intro (anz_1387 Hy) (anz_1388 Hy)
theorem anz_1390 (Hy : Hyz tys cA base adS Ex) : xall (fun b t => xOK l Dg clz tys cA flz ftz base adS GWz xyz xcz xnz xrz Ex codez bmz bpz b t) 1 746 2048 codez_1390 :=
  And.intro (okz_746 Hy) (okzz 2794)
theorem anz_1391 (Hy : Hyz tys cA base adS Ex) : xall (fun b t => xOK l Dg clz tys cA flz ftz base adS GWz xyz xcz xnz xrz Ex codez bmz bpz b t) 1 1770 2048 codez_1391 :=
  And.intro (okz_1770 Hy) (okzz 3818)
theorem anz_1392 (Hy : Hyz tys cA base adS Ex) : xall (fun b t => xOK l Dg clz tys cA flz ftz base adS GWz xyz xcz xnz xrz Ex codez bmz bpz b t) 2 746 1024 codez_1392 :=
  And.intro (anz_1390 Hy) (anz_1391 Hy)
theorem anz_1393 (Hy : Hyz tys cA base adS Ex) : xall (fun b t => xOK l Dg clz tys cA flz ftz base adS GWz xyz xcz xnz xrz Ex codez bmz bpz b t) 3 234 512 codez_1393 :=
  And.intro (anz_1389 Hy) (anz_1392 Hy)
theorem anz_1394 (Hy : Hyz tys cA base adS Ex) : xall (fun b t => xOK l Dg clz tys cA flz ftz base adS GWz xyz xcz xnz xrz Ex codez bmz bpz b t) 1 490 2048 codez_1394 :=
  And.intro (okz_490 Hy) (okz_2538 Hy)
theorem anz_1395 (Hy : Hyz tys cA base adS Ex) : xall (fun b t => xOK l Dg clz tys cA flz ftz base adS GWz xyz xcz xnz xrz Ex codez bmz bpz b t) 1 1514 2048 codez_1395 :=
  And.intro (okz_1514 Hy) (okzz 3562)
theorem anz_1396 (Hy : Hyz tys cA base adS Ex) : xall (fun b t => xOK l Dg clz tys cA flz ftz base adS GWz xyz xcz xnz xrz Ex codez bmz bpz b t) 2 490 1024 codez_1396 :=
  And.intro (anz_1394 Hy) (anz_1395 Hy)
theorem anz_1397 (Hy : Hyz tys cA base adS Ex) : xall (fun b t => xOK l Dg clz tys cA flz ftz base adS GWz xyz xcz xnz xrz Ex codez bmz bpz b t) 1 1002 2048 codez_1397 :=
  And.intro (okz_1002 Hy) (okzz 3050)
theorem anz_1398 (Hy : Hyz tys cA base adS Ex) : xall (fun b t => xOK l Dg clz tys cA flz ftz base adS GWz xyz xcz xnz xrz Ex codez bmz bpz b t) 1 2026 2048 codez_1398 :=
  And.intro (okz_2026 Hy) (okzz 4074)
theorem anz_1399 (Hy : Hyz tys cA base adS Ex) : xall (fun b t => xOK l Dg clz tys cA flz ftz base adS GWz xyz xcz xnz xrz Ex codez bmz bpz b t) 2 1002 1024 codez_1399 :=
  And.intro (anz_1397 Hy) (anz_1398 Hy)
theorem anz_1400 (Hy : Hyz tys cA base adS Ex) : xall (fun b t => xOK l Dg clz tys cA flz ftz base adS GWz xyz xcz xnz xrz Ex codez bmz bpz b t) 3 490 512 codez_1400 :=
  And.intro (anz_1396 Hy) (anz_1399 Hy)
theorem anz_1401 (Hy : Hyz tys cA base adS Ex) : xall (fun b t => xOK l Dg clz tys cA flz ftz base adS GWz xyz xcz xnz xrz Ex codez bmz bpz b t) 4 234 256 codez_1401 :=
  And.intro (anz_1393 Hy) (anz_1400 Hy)
theorem anz_1402 (Hy : Hyz tys cA base adS Ex) : xall (fun b t => xOK l Dg clz tys cA flz ftz base adS GWz xyz xcz xnz xrz Ex codez bmz bpz b t) 5 106 128 codez_1402 :=
  And.intro (anz_1386 Hy) (anz_1401 Hy)
theorem anz_1403 (Hy : Hyz tys cA base adS Ex) : xall (fun b t => xOK l Dg clz tys cA flz ftz base adS GWz xyz xcz xnz xrz Ex codez bmz bpz b t) 6 42 64 codez_1403 :=
  And.intro (anz_1371 Hy) (anz_1402 Hy)
theorem anz_1404 (Hy : Hyz tys cA base adS Ex) : xall (fun b t => xOK l Dg clz tys cA flz ftz base adS GWz xyz xcz xnz xrz Ex codez bmz bpz b t) 7 10 32 codez_1404 :=
  And.intro (anz_1340 Hy) (anz_1403 Hy)
theorem anz_1405 (Hy : Hyz tys cA base adS Ex) : xall (fun b t => xOK l Dg clz tys cA flz ftz base adS GWz xyz xcz xnz xrz Ex codez bmz bpz b t) 1 26 2048 codez_1405 :=
  And.intro (okz_26 Hy) (okz_2074 Hy)
theorem anz_1406 (Hy : Hyz tys cA base adS Ex) : xall (fun b t => xOK l Dg clz tys cA flz ftz base adS GWz xyz xcz xnz xrz Ex codez bmz bpz b t) 1 1050 2048 codez_1406 :=
  And.intro (okz_1050 Hy) (okzz 3098)
theorem anz_1407 (Hy : Hyz tys cA base adS Ex) : xall (fun b t => xOK l Dg clz tys cA flz ftz base adS GWz xyz xcz xnz xrz Ex codez bmz bpz b t) 2 26 1024 codez_1407 :=
  And.intro (anz_1405 Hy) (anz_1406 Hy)
theorem anz_1408 (Hy : Hyz tys cA base adS Ex) : xall (fun b t => xOK l Dg clz tys cA flz ftz base adS GWz xyz xcz xnz xrz Ex codez bmz bpz b t) 1 538 2048 codez_1408 :=
  And.intro (okz_538 Hy) (okzz 2586)
theorem anz_1409 (Hy : Hyz tys cA base adS Ex) : xall (fun b t => xOK l Dg clz tys cA flz ftz base adS GWz xyz xcz xnz xrz Ex codez bmz bpz b t) 1 1562 2048 codez_1409 :=
  And.intro (okz_1562 Hy) (okzz 3610)
theorem anz_1410 (Hy : Hyz tys cA base adS Ex) : xall (fun b t => xOK l Dg clz tys cA flz ftz base adS GWz xyz xcz xnz xrz Ex codez bmz bpz b t) 2 538 1024 codez_1410 :=
  And.intro (anz_1408 Hy) (anz_1409 Hy)
theorem anz_1411 (Hy : Hyz tys cA base adS Ex) : xall (fun b t => xOK l Dg clz tys cA flz ftz base adS GWz xyz xcz xnz xrz Ex codez bmz bpz b t) 3 26 512 codez_1411 :=
  And.intro (anz_1407 Hy) (anz_1410 Hy)
theorem anz_1412 (Hy : Hyz tys cA base adS Ex) : xall (fun b t => xOK l Dg clz tys cA flz ftz base adS GWz xyz xcz xnz xrz Ex codez bmz bpz b t) 1 282 2048 codez_1412 :=
  And.intro (okz_282 Hy) (okz_2330 Hy)
theorem anz_1413 (Hy : Hyz tys cA base adS Ex) : xall (fun b t => xOK l Dg clz tys cA flz ftz base adS GWz xyz xcz xnz xrz Ex codez bmz bpz b t) 1 1306 2048 codez_1413 :=
  And.intro (okz_1306 Hy) (okzz 3354)
theorem anz_1414 (Hy : Hyz tys cA base adS Ex) : xall (fun b t => xOK l Dg clz tys cA flz ftz base adS GWz xyz xcz xnz xrz Ex codez bmz bpz b t) 2 282 1024 codez_1414 :=
  And.intro (anz_1412 Hy) (anz_1413 Hy)
theorem anz_1415 (Hy : Hyz tys cA base adS Ex) : xall (fun b t => xOK l Dg clz tys cA flz ftz base adS GWz xyz xcz xnz xrz Ex codez bmz bpz b t) 1 794 2048 codez_1415 :=
  And.intro (okz_794 Hy) (okzz 2842)
theorem anz_1416 (Hy : Hyz tys cA base adS Ex) : xall (fun b t => xOK l Dg clz tys cA flz ftz base adS GWz xyz xcz xnz xrz Ex codez bmz bpz b t) 1 1818 2048 codez_1416 :=
  And.intro (okz_1818 Hy) (okzz 3866)
theorem anz_1417 (Hy : Hyz tys cA base adS Ex) : xall (fun b t => xOK l Dg clz tys cA flz ftz base adS GWz xyz xcz xnz xrz Ex codez bmz bpz b t) 2 794 1024 codez_1417 :=
  And.intro (anz_1415 Hy) (anz_1416 Hy)
theorem anz_1418 (Hy : Hyz tys cA base adS Ex) : xall (fun b t => xOK l Dg clz tys cA flz ftz base adS GWz xyz xcz xnz xrz Ex codez bmz bpz b t) 3 282 512 codez_1418 :=
  And.intro (anz_1414 Hy) (anz_1417 Hy)
theorem anz_1419 (Hy : Hyz tys cA base adS Ex) : xall (fun b t => xOK l Dg clz tys cA flz ftz base adS GWz xyz xcz xnz xrz Ex codez bmz bpz b t) 4 26 256 codez_1419 :=
  And.intro (anz_1411 Hy) (anz_1418 Hy)
theorem anz_1420 (Hy : Hyz tys cA base adS Ex) : xall (fun b t => xOK l Dg clz tys cA flz ftz base adS GWz xyz xcz xnz xrz Ex codez bmz bpz b t) 1 154 2048 codez_1420 :=
  And.intro (okz_154 Hy) (okz_2202 Hy)
theorem anz_1421 (Hy : Hyz tys cA base adS Ex) : xall (fun b t => xOK l Dg clz tys cA flz ftz base adS GWz xyz xcz xnz xrz Ex codez bmz bpz b t) 1 1178 2048 codez_1421 :=
  And.intro (okz_1178 Hy) (okzz 3226)
theorem anz_1422 (Hy : Hyz tys cA base adS Ex) : xall (fun b t => xOK l Dg clz tys cA flz ftz base adS GWz xyz xcz xnz xrz Ex codez bmz bpz b t) 2 154 1024 codez_1422 :=
  And.intro (anz_1420 Hy) (anz_1421 Hy)
theorem anz_1423 (Hy : Hyz tys cA base adS Ex) : xall (fun b t => xOK l Dg clz tys cA flz ftz base adS GWz xyz xcz xnz xrz Ex codez bmz bpz b t) 1 666 2048 codez_1423 :=
  And.intro (okz_666 Hy) (okzz 2714)
theorem anz_1424 (Hy : Hyz tys cA base adS Ex) : xall (fun b t => xOK l Dg clz tys cA flz ftz base adS GWz xyz xcz xnz xrz Ex codez bmz bpz b t) 1 1690 2048 codez_1424 :=
  And.intro (okz_1690 Hy) (okzz 3738)
theorem anz_1425 (Hy : Hyz tys cA base adS Ex) : xall (fun b t => xOK l Dg clz tys cA flz ftz base adS GWz xyz xcz xnz xrz Ex codez bmz bpz b t) 2 666 1024 codez_1425 :=
  And.intro (anz_1423 Hy) (anz_1424 Hy)
theorem anz_1426 (Hy : Hyz tys cA base adS Ex) : xall (fun b t => xOK l Dg clz tys cA flz ftz base adS GWz xyz xcz xnz xrz Ex codez bmz bpz b t) 3 154 512 codez_1426 :=
  And.intro (anz_1422 Hy) (anz_1425 Hy)
theorem anz_1427 (Hy : Hyz tys cA base adS Ex) : xall (fun b t => xOK l Dg clz tys cA flz ftz base adS GWz xyz xcz xnz xrz Ex codez bmz bpz b t) 1 410 2048 codez_1427 :=
  And.intro (okz_410 Hy) (okz_2458 Hy)
theorem anz_1428 (Hy : Hyz tys cA base adS Ex) : xall (fun b t => xOK l Dg clz tys cA flz ftz base adS GWz xyz xcz xnz xrz Ex codez bmz bpz b t) 1 1434 2048 codez_1428 :=
  And.intro (okz_1434 Hy) (okzz 3482)
theorem anz_1429 (Hy : Hyz tys cA base adS Ex) : xall (fun b t => xOK l Dg clz tys cA flz ftz base adS GWz xyz xcz xnz xrz Ex codez bmz bpz b t) 2 410 1024 codez_1429 :=
  And.intro (anz_1427 Hy) (anz_1428 Hy)
theorem anz_1430 (Hy : Hyz tys cA base adS Ex) : xall (fun b t => xOK l Dg clz tys cA flz ftz base adS GWz xyz xcz xnz xrz Ex codez bmz bpz b t) 1 922 2048 codez_1430 :=
  And.intro (okz_922 Hy) (okzz 2970)
theorem anz_1431 (Hy : Hyz tys cA base adS Ex) : xall (fun b t => xOK l Dg clz tys cA flz ftz base adS GWz xyz xcz xnz xrz Ex codez bmz bpz b t) 1 1946 2048 codez_1431 :=
  And.intro (okz_1946 Hy) (okzz 3994)
theorem anz_1432 (Hy : Hyz tys cA base adS Ex) : xall (fun b t => xOK l Dg clz tys cA flz ftz base adS GWz xyz xcz xnz xrz Ex codez bmz bpz b t) 2 922 1024 codez_1432 :=
  And.intro (anz_1430 Hy) (anz_1431 Hy)
theorem anz_1433 (Hy : Hyz tys cA base adS Ex) : xall (fun b t => xOK l Dg clz tys cA flz ftz base adS GWz xyz xcz xnz xrz Ex codez bmz bpz b t) 3 410 512 codez_1433 :=
  And.intro (anz_1429 Hy) (anz_1432 Hy)
theorem anz_1434 (Hy : Hyz tys cA base adS Ex) : xall (fun b t => xOK l Dg clz tys cA flz ftz base adS GWz xyz xcz xnz xrz Ex codez bmz bpz b t) 4 154 256 codez_1434 :=
  And.intro (anz_1426 Hy) (anz_1433 Hy)
theorem anz_1435 (Hy : Hyz tys cA base adS Ex) : xall (fun b t => xOK l Dg clz tys cA flz ftz base adS GWz xyz xcz xnz xrz Ex codez bmz bpz b t) 5 26 128 codez_1435 :=
  And.intro (anz_1419 Hy) (anz_1434 Hy)
theorem anz_1436 (Hy : Hyz tys cA base adS Ex) : xall (fun b t => xOK l Dg clz tys cA flz ftz base adS GWz xyz xcz xnz xrz Ex codez bmz bpz b t) 1 90 2048 codez_1436 :=
  And.intro (okz_90 Hy) (okz_2138 Hy)
theorem anz_1437 (Hy : Hyz tys cA base adS Ex) : xall (fun b t => xOK l Dg clz tys cA flz ftz base adS GWz xyz xcz xnz xrz Ex codez bmz bpz b t) 1 1114 2048 codez_1437 :=
  And.intro (okz_1114 Hy) (okzz 3162)
theorem anz_1438 (Hy : Hyz tys cA base adS Ex) : xall (fun b t => xOK l Dg clz tys cA flz ftz base adS GWz xyz xcz xnz xrz Ex codez bmz bpz b t) 2 90 1024 codez_1438 :=
  And.intro (anz_1436 Hy) (anz_1437 Hy)
theorem anz_1439 (Hy : Hyz tys cA base adS Ex) : xall (fun b t => xOK l Dg clz tys cA flz ftz base adS GWz xyz xcz xnz xrz Ex codez bmz bpz b t) 1 602 2048 codez_1439 :=
  And.intro (okz_602 Hy) (okzz 2650)
theorem anz_1440 (Hy : Hyz tys cA base adS Ex) : xall (fun b t => xOK l Dg clz tys cA flz ftz base adS GWz xyz xcz xnz xrz Ex codez bmz bpz b t) 1 1626 2048 codez_1440 :=
  And.intro (okz_1626 Hy) (okzz 3674)
theorem anz_1441 (Hy : Hyz tys cA base adS Ex) : xall (fun b t => xOK l Dg clz tys cA flz ftz base adS GWz xyz xcz xnz xrz Ex codez bmz bpz b t) 2 602 1024 codez_1441 :=
  And.intro (anz_1439 Hy) (anz_1440 Hy)
theorem anz_1442 (Hy : Hyz tys cA base adS Ex) : xall (fun b t => xOK l Dg clz tys cA flz ftz base adS GWz xyz xcz xnz xrz Ex codez bmz bpz b t) 3 90 512 codez_1442 :=
  And.intro (anz_1438 Hy) (anz_1441 Hy)
theorem anz_1443 (Hy : Hyz tys cA base adS Ex) : xall (fun b t => xOK l Dg clz tys cA flz ftz base adS GWz xyz xcz xnz xrz Ex codez bmz bpz b t) 1 346 2048 codez_1443 :=
  And.intro (okz_346 Hy) (okz_2394 Hy)
theorem anz_1444 (Hy : Hyz tys cA base adS Ex) : xall (fun b t => xOK l Dg clz tys cA flz ftz base adS GWz xyz xcz xnz xrz Ex codez bmz bpz b t) 1 1370 2048 codez_1444 :=
  And.intro (okz_1370 Hy) (okzz 3418)
theorem anz_1445 (Hy : Hyz tys cA base adS Ex) : xall (fun b t => xOK l Dg clz tys cA flz ftz base adS GWz xyz xcz xnz xrz Ex codez bmz bpz b t) 2 346 1024 codez_1445 :=
  And.intro (anz_1443 Hy) (anz_1444 Hy)
theorem anz_1446 (Hy : Hyz tys cA base adS Ex) : xall (fun b t => xOK l Dg clz tys cA flz ftz base adS GWz xyz xcz xnz xrz Ex codez bmz bpz b t) 1 858 2048 codez_1446 :=
  And.intro (okz_858 Hy) (okzz 2906)
theorem anz_1447 (Hy : Hyz tys cA base adS Ex) : xall (fun b t => xOK l Dg clz tys cA flz ftz base adS GWz xyz xcz xnz xrz Ex codez bmz bpz b t) 1 1882 2048 codez_1447 :=
  And.intro (okz_1882 Hy) (okzz 3930)
theorem anz_1448 (Hy : Hyz tys cA base adS Ex) : xall (fun b t => xOK l Dg clz tys cA flz ftz base adS GWz xyz xcz xnz xrz Ex codez bmz bpz b t) 2 858 1024 codez_1448 :=
  And.intro (anz_1446 Hy) (anz_1447 Hy)
theorem anz_1449 (Hy : Hyz tys cA base adS Ex) : xall (fun b t => xOK l Dg clz tys cA flz ftz base adS GWz xyz xcz xnz xrz Ex codez bmz bpz b t) 3 346 512 codez_1449 :=
  And.intro (anz_1445 Hy) (anz_1448 Hy)
theorem anz_1450 (Hy : Hyz tys cA base adS Ex) : xall (fun b t => xOK l Dg clz tys cA flz ftz base adS GWz xyz xcz xnz xrz Ex codez bmz bpz b t) 4 90 256 codez_1450 :=
  And.intro (anz_1442 Hy) (anz_1449 Hy)
theorem anz_1451 (Hy : Hyz tys cA base adS Ex) : xall (fun b t => xOK l Dg clz tys cA flz ftz base adS GWz xyz xcz xnz xrz Ex codez bmz bpz b t) 1 218 2048 codez_1451 :=
  And.intro (okz_218 Hy) (okz_2266 Hy)
theorem anz_1452 (Hy : Hyz tys cA base adS Ex) : xall (fun b t => xOK l Dg clz tys cA flz ftz base adS GWz xyz xcz xnz xrz Ex codez bmz bpz b t) 1 1242 2048 codez_1452 :=
  And.intro (okz_1242 Hy) (okzz 3290)
theorem anz_1453 (Hy : Hyz tys cA base adS Ex) : xall (fun b t => xOK l Dg clz tys cA flz ftz base adS GWz xyz xcz xnz xrz Ex codez bmz bpz b t) 2 218 1024 codez_1453 :=
  And.intro (anz_1451 Hy) (anz_1452 Hy)
theorem anz_1454 (Hy : Hyz tys cA base adS Ex) : xall (fun b t => xOK l Dg clz tys cA flz ftz base adS GWz xyz xcz xnz xrz Ex codez bmz bpz b t) 1 730 2048 codez_1454 :=
  And.intro (okz_730 Hy) (okzz 2778)
theorem anz_1455 (Hy : Hyz tys cA base adS Ex) : xall (fun b t => xOK l Dg clz tys cA flz ftz base adS GWz xyz xcz xnz xrz Ex codez bmz bpz b t) 1 1754 2048 codez_1455 :=
  And.intro (okz_1754 Hy) (okzz 3802)
theorem anz_1456 (Hy : Hyz tys cA base adS Ex) : xall (fun b t => xOK l Dg clz tys cA flz ftz base adS GWz xyz xcz xnz xrz Ex codez bmz bpz b t) 2 730 1024 codez_1456 :=
  And.intro (anz_1454 Hy) (anz_1455 Hy)
theorem anz_1457 (Hy : Hyz tys cA base adS Ex) : xall (fun b t => xOK l Dg clz tys cA flz ftz base adS GWz xyz xcz xnz xrz Ex codez bmz bpz b t) 3 218 512 codez_1457 :=
  And.intro (anz_1453 Hy) (anz_1456 Hy)
theorem anz_1458 (Hy : Hyz tys cA base adS Ex) : xall (fun b t => xOK l Dg clz tys cA flz ftz base adS GWz xyz xcz xnz xrz Ex codez bmz bpz b t) 1 474 2048 codez_1458 :=
  And.intro (okz_474 Hy) (okz_2522 Hy)
theorem anz_1459 (Hy : Hyz tys cA base adS Ex) : xall (fun b t => xOK l Dg clz tys cA flz ftz base adS GWz xyz xcz xnz xrz Ex codez bmz bpz b t) 1 1498 2048 codez_1459 :=
  And.intro (okz_1498 Hy) (okzz 3546)
theorem anz_1460 (Hy : Hyz tys cA base adS Ex) : xall (fun b t => xOK l Dg clz tys cA flz ftz base adS GWz xyz xcz xnz xrz Ex codez bmz bpz b t) 2 474 1024 codez_1460 :=
  And.intro (anz_1458 Hy) (anz_1459 Hy)
theorem anz_1461 (Hy : Hyz tys cA base adS Ex) : xall (fun b t => xOK l Dg clz tys cA flz ftz base adS GWz xyz xcz xnz xrz Ex codez bmz bpz b t) 1 986 2048 codez_1461 :=
  And.intro (okz_986 Hy) (okzz 3034)
theorem anz_1462 (Hy : Hyz tys cA base adS Ex) : xall (fun b t => xOK l Dg clz tys cA flz ftz base adS GWz xyz xcz xnz xrz Ex codez bmz bpz b t) 1 2010 2048 codez_1462 :=
  And.intro (okz_2010 Hy) (okzz 4058)
theorem anz_1463 (Hy : Hyz tys cA base adS Ex) : xall (fun b t => xOK l Dg clz tys cA flz ftz base adS GWz xyz xcz xnz xrz Ex codez bmz bpz b t) 2 986 1024 codez_1463 :=
  And.intro (anz_1461 Hy) (anz_1462 Hy)
theorem anz_1464 (Hy : Hyz tys cA base adS Ex) : xall (fun b t => xOK l Dg clz tys cA flz ftz base adS GWz xyz xcz xnz xrz Ex codez bmz bpz b t) 3 474 512 codez_1464 :=
  And.intro (anz_1460 Hy) (anz_1463 Hy)
theorem anz_1465 (Hy : Hyz tys cA base adS Ex) : xall (fun b t => xOK l Dg clz tys cA flz ftz base adS GWz xyz xcz xnz xrz Ex codez bmz bpz b t) 4 218 256 codez_1465 :=
  And.intro (anz_1457 Hy) (anz_1464 Hy)
theorem anz_1466 (Hy : Hyz tys cA base adS Ex) : xall (fun b t => xOK l Dg clz tys cA flz ftz base adS GWz xyz xcz xnz xrz Ex codez bmz bpz b t) 5 90 128 codez_1466 :=
  And.intro (anz_1450 Hy) (anz_1465 Hy)
theorem anz_1467 (Hy : Hyz tys cA base adS Ex) : xall (fun b t => xOK l Dg clz tys cA flz ftz base adS GWz xyz xcz xnz xrz Ex codez bmz bpz b t) 6 26 64 codez_1467 :=
  And.intro (anz_1435 Hy) (anz_1466 Hy)
theorem anz_1468 (Hy : Hyz tys cA base adS Ex) : xall (fun b t => xOK l Dg clz tys cA flz ftz base adS GWz xyz xcz xnz xrz Ex codez bmz bpz b t) 1 58 2048 codez_1468 :=
  And.intro (okz_58 Hy) (okz_2106 Hy)
theorem anz_1469 (Hy : Hyz tys cA base adS Ex) : xall (fun b t => xOK l Dg clz tys cA flz ftz base adS GWz xyz xcz xnz xrz Ex codez bmz bpz b t) 1 1082 2048 codez_1469 :=
  And.intro (okz_1082 Hy) (okzz 3130)
theorem anz_1470 (Hy : Hyz tys cA base adS Ex) : xall (fun b t => xOK l Dg clz tys cA flz ftz base adS GWz xyz xcz xnz xrz Ex codez bmz bpz b t) 2 58 1024 codez_1470 :=
  And.intro (anz_1468 Hy) (anz_1469 Hy)
theorem anz_1471 (Hy : Hyz tys cA base adS Ex) : xall (fun b t => xOK l Dg clz tys cA flz ftz base adS GWz xyz xcz xnz xrz Ex codez bmz bpz b t) 1 570 2048 codez_1471 :=
  And.intro (okz_570 Hy) (okzz 2618)
theorem anz_1472 (Hy : Hyz tys cA base adS Ex) : xall (fun b t => xOK l Dg clz tys cA flz ftz base adS GWz xyz xcz xnz xrz Ex codez bmz bpz b t) 1 1594 2048 codez_1472 :=
  And.intro (okz_1594 Hy) (okzz 3642)
theorem anz_1473 (Hy : Hyz tys cA base adS Ex) : xall (fun b t => xOK l Dg clz tys cA flz ftz base adS GWz xyz xcz xnz xrz Ex codez bmz bpz b t) 2 570 1024 codez_1473 :=
  And.intro (anz_1471 Hy) (anz_1472 Hy)
theorem anz_1474 (Hy : Hyz tys cA base adS Ex) : xall (fun b t => xOK l Dg clz tys cA flz ftz base adS GWz xyz xcz xnz xrz Ex codez bmz bpz b t) 3 58 512 codez_1474 :=
  And.intro (anz_1470 Hy) (anz_1473 Hy)
theorem anz_1475 (Hy : Hyz tys cA base adS Ex) : xall (fun b t => xOK l Dg clz tys cA flz ftz base adS GWz xyz xcz xnz xrz Ex codez bmz bpz b t) 1 314 2048 codez_1475 :=
  And.intro (okz_314 Hy) (okz_2362 Hy)
theorem anz_1476 (Hy : Hyz tys cA base adS Ex) : xall (fun b t => xOK l Dg clz tys cA flz ftz base adS GWz xyz xcz xnz xrz Ex codez bmz bpz b t) 1 1338 2048 codez_1476 :=
  And.intro (okz_1338 Hy) (okzz 3386)
theorem anz_1477 (Hy : Hyz tys cA base adS Ex) : xall (fun b t => xOK l Dg clz tys cA flz ftz base adS GWz xyz xcz xnz xrz Ex codez bmz bpz b t) 2 314 1024 codez_1477 :=
  And.intro (anz_1475 Hy) (anz_1476 Hy)
theorem anz_1478 (Hy : Hyz tys cA base adS Ex) : xall (fun b t => xOK l Dg clz tys cA flz ftz base adS GWz xyz xcz xnz xrz Ex codez bmz bpz b t) 1 826 2048 codez_1478 :=
  And.intro (okz_826 Hy) (okzz 2874)
theorem anz_1479 (Hy : Hyz tys cA base adS Ex) : xall (fun b t => xOK l Dg clz tys cA flz ftz base adS GWz xyz xcz xnz xrz Ex codez bmz bpz b t) 1 1850 2048 codez_1479 :=
  And.intro (okz_1850 Hy) (okzz 3898)
theorem anz_1480 (Hy : Hyz tys cA base adS Ex) : xall (fun b t => xOK l Dg clz tys cA flz ftz base adS GWz xyz xcz xnz xrz Ex codez bmz bpz b t) 2 826 1024 codez_1480 :=
  And.intro (anz_1478 Hy) (anz_1479 Hy)
theorem anz_1481 (Hy : Hyz tys cA base adS Ex) : xall (fun b t => xOK l Dg clz tys cA flz ftz base adS GWz xyz xcz xnz xrz Ex codez bmz bpz b t) 3 314 512 codez_1481 :=
  And.intro (anz_1477 Hy) (anz_1480 Hy)
theorem anz_1482 (Hy : Hyz tys cA base adS Ex) : xall (fun b t => xOK l Dg clz tys cA flz ftz base adS GWz xyz xcz xnz xrz Ex codez bmz bpz b t) 4 58 256 codez_1482 :=
  And.intro (anz_1474 Hy) (anz_1481 Hy)
theorem anz_1483 (Hy : Hyz tys cA base adS Ex) : xall (fun b t => xOK l Dg clz tys cA flz ftz base adS GWz xyz xcz xnz xrz Ex codez bmz bpz b t) 1 186 2048 codez_1483 :=
  And.intro (okz_186 Hy) (okz_2234 Hy)
theorem anz_1484 (Hy : Hyz tys cA base adS Ex) : xall (fun b t => xOK l Dg clz tys cA flz ftz base adS GWz xyz xcz xnz xrz Ex codez bmz bpz b t) 1 1210 2048 codez_1484 :=
  And.intro (okz_1210 Hy) (okzz 3258)
theorem anz_1485 (Hy : Hyz tys cA base adS Ex) : xall (fun b t => xOK l Dg clz tys cA flz ftz base adS GWz xyz xcz xnz xrz Ex codez bmz bpz b t) 2 186 1024 codez_1485 :=
  And.intro (anz_1483 Hy) (anz_1484 Hy)
theorem anz_1486 (Hy : Hyz tys cA base adS Ex) : xall (fun b t => xOK l Dg clz tys cA flz ftz base adS GWz xyz xcz xnz xrz Ex codez bmz bpz b t) 1 698 2048 codez_1486 :=
  And.intro (okz_698 Hy) (okzz 2746)
theorem anz_1487 (Hy : Hyz tys cA base adS Ex) : xall (fun b t => xOK l Dg clz tys cA flz ftz base adS GWz xyz xcz xnz xrz Ex codez bmz bpz b t) 1 1722 2048 codez_1487 :=
  And.intro (okz_1722 Hy) (okzz 3770)
theorem anz_1488 (Hy : Hyz tys cA base adS Ex) : xall (fun b t => xOK l Dg clz tys cA flz ftz base adS GWz xyz xcz xnz xrz Ex codez bmz bpz b t) 2 698 1024 codez_1488 :=
  And.intro (anz_1486 Hy) (anz_1487 Hy)
theorem anz_1489 (Hy : Hyz tys cA base adS Ex) : xall (fun b t => xOK l Dg clz tys cA flz ftz base adS GWz xyz xcz xnz xrz Ex codez bmz bpz b t) 3 186 512 codez_1489 :=
  And.intro (anz_1485 Hy) (anz_1488 Hy)
theorem anz_1490 (Hy : Hyz tys cA base adS Ex) : xall (fun b t => xOK l Dg clz tys cA flz ftz base adS GWz xyz xcz xnz xrz Ex codez bmz bpz b t) 1 442 2048 codez_1490 :=
  And.intro (okz_442 Hy) (okz_2490 Hy)
theorem anz_1491 (Hy : Hyz tys cA base adS Ex) : xall (fun b t => xOK l Dg clz tys cA flz ftz base adS GWz xyz xcz xnz xrz Ex codez bmz bpz b t) 1 1466 2048 codez_1491 :=
  And.intro (okz_1466 Hy) (okzz 3514)
theorem anz_1492 (Hy : Hyz tys cA base adS Ex) : xall (fun b t => xOK l Dg clz tys cA flz ftz base adS GWz xyz xcz xnz xrz Ex codez bmz bpz b t) 2 442 1024 codez_1492 :=
  And.intro (anz_1490 Hy) (anz_1491 Hy)
theorem anz_1493 (Hy : Hyz tys cA base adS Ex) : xall (fun b t => xOK l Dg clz tys cA flz ftz base adS GWz xyz xcz xnz xrz Ex codez bmz bpz b t) 1 954 2048 codez_1493 :=
  And.intro (okz_954 Hy) (okzz 3002)
theorem anz_1494 (Hy : Hyz tys cA base adS Ex) : xall (fun b t => xOK l Dg clz tys cA flz ftz base adS GWz xyz xcz xnz xrz Ex codez bmz bpz b t) 1 1978 2048 codez_1494 :=
  And.intro (okz_1978 Hy) (okzz 4026)
theorem anz_1495 (Hy : Hyz tys cA base adS Ex) : xall (fun b t => xOK l Dg clz tys cA flz ftz base adS GWz xyz xcz xnz xrz Ex codez bmz bpz b t) 2 954 1024 codez_1495 :=
  And.intro (anz_1493 Hy) (anz_1494 Hy)
theorem anz_1496 (Hy : Hyz tys cA base adS Ex) : xall (fun b t => xOK l Dg clz tys cA flz ftz base adS GWz xyz xcz xnz xrz Ex codez bmz bpz b t) 3 442 512 codez_1496 :=
  And.intro (anz_1492 Hy) (anz_1495 Hy)
theorem anz_1497 (Hy : Hyz tys cA base adS Ex) : xall (fun b t => xOK l Dg clz tys cA flz ftz base adS GWz xyz xcz xnz xrz Ex codez bmz bpz b t) 4 186 256 codez_1497 :=
  And.intro (anz_1489 Hy) (anz_1496 Hy)
theorem anz_1498 (Hy : Hyz tys cA base adS Ex) : xall (fun b t => xOK l Dg clz tys cA flz ftz base adS GWz xyz xcz xnz xrz Ex codez bmz bpz b t) 5 58 128 codez_1498 :=
  And.intro (anz_1482 Hy) (anz_1497 Hy)
theorem anz_1499 (Hy : Hyz tys cA base adS Ex) : xall (fun b t => xOK l Dg clz tys cA flz ftz base adS GWz xyz xcz xnz xrz Ex codez bmz bpz b t) 1 122 2048 codez_1499 :=
  And.intro (okz_122 Hy) (okz_2170 Hy)
theorem anz_1500 (Hy : Hyz tys cA base adS Ex) : xall (fun b t => xOK l Dg clz tys cA flz ftz base adS GWz xyz xcz xnz xrz Ex codez bmz bpz b t) 1 1146 2048 codez_1500 :=
  And.intro (okz_1146 Hy) (okzz 3194)
theorem anz_1501 (Hy : Hyz tys cA base adS Ex) : xall (fun b t => xOK l Dg clz tys cA flz ftz base adS GWz xyz xcz xnz xrz Ex codez bmz bpz b t) 2 122 1024 codez_1501 :=
  And.intro (anz_1499 Hy) (anz_1500 Hy)
theorem anz_1502 (Hy : Hyz tys cA base adS Ex) : xall (fun b t => xOK l Dg clz tys cA flz ftz base adS GWz xyz xcz xnz xrz Ex codez bmz bpz b t) 1 634 2048 codez_1502 :=
  And.intro (okz_634 Hy) (okzz 2682)
theorem anz_1503 (Hy : Hyz tys cA base adS Ex) : xall (fun b t => xOK l Dg clz tys cA flz ftz base adS GWz xyz xcz xnz xrz Ex codez bmz bpz b t) 1 1658 2048 codez_1503 :=
  And.intro (okz_1658 Hy) (okzz 3706)
theorem anz_1504 (Hy : Hyz tys cA base adS Ex) : xall (fun b t => xOK l Dg clz tys cA flz ftz base adS GWz xyz xcz xnz xrz Ex codez bmz bpz b t) 2 634 1024 codez_1504 :=
  And.intro (anz_1502 Hy) (anz_1503 Hy)
theorem anz_1505 (Hy : Hyz tys cA base adS Ex) : xall (fun b t => xOK l Dg clz tys cA flz ftz base adS GWz xyz xcz xnz xrz Ex codez bmz bpz b t) 3 122 512 codez_1505 :=
  And.intro (anz_1501 Hy) (anz_1504 Hy)
theorem anz_1506 (Hy : Hyz tys cA base adS Ex) : xall (fun b t => xOK l Dg clz tys cA flz ftz base adS GWz xyz xcz xnz xrz Ex codez bmz bpz b t) 1 378 2048 codez_1506 :=
  And.intro (okz_378 Hy) (okz_2426 Hy)
theorem anz_1507 (Hy : Hyz tys cA base adS Ex) : xall (fun b t => xOK l Dg clz tys cA flz ftz base adS GWz xyz xcz xnz xrz Ex codez bmz bpz b t) 1 1402 2048 codez_1507 :=
  And.intro (okz_1402 Hy) (okzz 3450)
theorem anz_1508 (Hy : Hyz tys cA base adS Ex) : xall (fun b t => xOK l Dg clz tys cA flz ftz base adS GWz xyz xcz xnz xrz Ex codez bmz bpz b t) 2 378 1024 codez_1508 :=
  And.intro (anz_1506 Hy) (anz_1507 Hy)
theorem anz_1509 (Hy : Hyz tys cA base adS Ex) : xall (fun b t => xOK l Dg clz tys cA flz ftz base adS GWz xyz xcz xnz xrz Ex codez bmz bpz b t) 1 890 2048 codez_1509 :=
  And.intro (okz_890 Hy) (okzz 2938)
theorem anz_1510 (Hy : Hyz tys cA base adS Ex) : xall (fun b t => xOK l Dg clz tys cA flz ftz base adS GWz xyz xcz xnz xrz Ex codez bmz bpz b t) 1 1914 2048 codez_1510 :=
  And.intro (okz_1914 Hy) (okzz 3962)
theorem anz_1511 (Hy : Hyz tys cA base adS Ex) : xall (fun b t => xOK l Dg clz tys cA flz ftz base adS GWz xyz xcz xnz xrz Ex codez bmz bpz b t) 2 890 1024 codez_1511 :=
  And.intro (anz_1509 Hy) (anz_1510 Hy)
theorem anz_1512 (Hy : Hyz tys cA base adS Ex) : xall (fun b t => xOK l Dg clz tys cA flz ftz base adS GWz xyz xcz xnz xrz Ex codez bmz bpz b t) 3 378 512 codez_1512 :=
  And.intro (anz_1508 Hy) (anz_1511 Hy)
theorem anz_1513 (Hy : Hyz tys cA base adS Ex) : xall (fun b t => xOK l Dg clz tys cA flz ftz base adS GWz xyz xcz xnz xrz Ex codez bmz bpz b t) 4 122 256 codez_1513 :=
  And.intro (anz_1505 Hy) (anz_1512 Hy)
theorem anz_1514 (Hy : Hyz tys cA base adS Ex) : xall (fun b t => xOK l Dg clz tys cA flz ftz base adS GWz xyz xcz xnz xrz Ex codez bmz bpz b t) 1 250 2048 codez_1514 :=
  And.intro (okz_250 Hy) (okz_2298 Hy)
theorem anz_1515 (Hy : Hyz tys cA base adS Ex) : xall (fun b t => xOK l Dg clz tys cA flz ftz base adS GWz xyz xcz xnz xrz Ex codez bmz bpz b t) 1 1274 2048 codez_1515 :=
  And.intro (okz_1274 Hy) (okzz 3322)
theorem anz_1516 (Hy : Hyz tys cA base adS Ex) : xall (fun b t => xOK l Dg clz tys cA flz ftz base adS GWz xyz xcz xnz xrz Ex codez bmz bpz b t) 2 250 1024 codez_1516 :=
  And.intro (anz_1514 Hy) (anz_1515 Hy)
theorem anz_1517 (Hy : Hyz tys cA base adS Ex) : xall (fun b t => xOK l Dg clz tys cA flz ftz base adS GWz xyz xcz xnz xrz Ex codez bmz bpz b t) 1 762 2048 codez_1517 :=
  And.intro (okz_762 Hy) (okzz 2810)
theorem anz_1518 (Hy : Hyz tys cA base adS Ex) : xall (fun b t => xOK l Dg clz tys cA flz ftz base adS GWz xyz xcz xnz xrz Ex codez bmz bpz b t) 1 1786 2048 codez_1518 :=
  And.intro (okz_1786 Hy) (okzz 3834)
theorem anz_1519 (Hy : Hyz tys cA base adS Ex) : xall (fun b t => xOK l Dg clz tys cA flz ftz base adS GWz xyz xcz xnz xrz Ex codez bmz bpz b t) 2 762 1024 codez_1519 :=
  And.intro (anz_1517 Hy) (anz_1518 Hy)
theorem anz_1520 (Hy : Hyz tys cA base adS Ex) : xall (fun b t => xOK l Dg clz tys cA flz ftz base adS GWz xyz xcz xnz xrz Ex codez bmz bpz b t) 3 250 512 codez_1520 :=
  And.intro (anz_1516 Hy) (anz_1519 Hy)
theorem anz_1521 (Hy : Hyz tys cA base adS Ex) : xall (fun b t => xOK l Dg clz tys cA flz ftz base adS GWz xyz xcz xnz xrz Ex codez bmz bpz b t) 1 506 2048 codez_1521 :=
  And.intro (okz_506 Hy) (okzz 2554)
theorem anz_1522 (Hy : Hyz tys cA base adS Ex) : xall (fun b t => xOK l Dg clz tys cA flz ftz base adS GWz xyz xcz xnz xrz Ex codez bmz bpz b t) 1 1530 2048 codez_1522 :=
  And.intro (okz_1530 Hy) (okzz 3578)
theorem anz_1523 (Hy : Hyz tys cA base adS Ex) : xall (fun b t => xOK l Dg clz tys cA flz ftz base adS GWz xyz xcz xnz xrz Ex codez bmz bpz b t) 2 506 1024 codez_1523 :=
  And.intro (anz_1521 Hy) (anz_1522 Hy)
theorem anz_1524 (Hy : Hyz tys cA base adS Ex) : xall (fun b t => xOK l Dg clz tys cA flz ftz base adS GWz xyz xcz xnz xrz Ex codez bmz bpz b t) 1 1018 2048 codez_1524 :=
  And.intro (okz_1018 Hy) (okzz 3066)
theorem anz_1525 (Hy : Hyz tys cA base adS Ex) : xall (fun b t => xOK l Dg clz tys cA flz ftz base adS GWz xyz xcz xnz xrz Ex codez bmz bpz b t) 1 2042 2048 codez_1525 :=
  And.intro (okz_2042 Hy) (okzz 4090)
theorem anz_1526 (Hy : Hyz tys cA base adS Ex) : xall (fun b t => xOK l Dg clz tys cA flz ftz base adS GWz xyz xcz xnz xrz Ex codez bmz bpz b t) 2 1018 1024 codez_1526 :=
  And.intro (anz_1524 Hy) (anz_1525 Hy)
theorem anz_1527 (Hy : Hyz tys cA base adS Ex) : xall (fun b t => xOK l Dg clz tys cA flz ftz base adS GWz xyz xcz xnz xrz Ex codez bmz bpz b t) 3 506 512 codez_1527 :=
  And.intro (anz_1523 Hy) (anz_1526 Hy)
theorem anz_1528 (Hy : Hyz tys cA base adS Ex) : xall (fun b t => xOK l Dg clz tys cA flz ftz base adS GWz xyz xcz xnz xrz Ex codez bmz bpz b t) 4 250 256 codez_1528 :=
  And.intro (anz_1520 Hy) (anz_1527 Hy)
theorem anz_1529 (Hy : Hyz tys cA base adS Ex) : xall (fun b t => xOK l Dg clz tys cA flz ftz base adS GWz xyz xcz xnz xrz Ex codez bmz bpz b t) 5 122 128 codez_1529 :=
  And.intro (anz_1513 Hy) (anz_1528 Hy)
theorem anz_1530 (Hy : Hyz tys cA base adS Ex) : xall (fun b t => xOK l Dg clz tys cA flz ftz base adS GWz xyz xcz xnz xrz Ex codez bmz bpz b t) 6 58 64 codez_1530 :=
  And.intro (anz_1498 Hy) (anz_1529 Hy)
theorem anz_1531 (Hy : Hyz tys cA base adS Ex) : xall (fun b t => xOK l Dg clz tys cA flz ftz base adS GWz xyz xcz xnz xrz Ex codez bmz bpz b t) 7 26 32 codez_1531 :=
  And.intro (anz_1467 Hy) (anz_1530 Hy)
theorem anz_1532 (Hy : Hyz tys cA base adS Ex) : xall (fun b t => xOK l Dg clz tys cA flz ftz base adS GWz xyz xcz xnz xrz Ex codez bmz bpz b t) 8 10 16 codez_1532 :=
  And.intro (anz_1404 Hy) (anz_1531 Hy)
theorem anz_1533 (Hy : Hyz tys cA base adS Ex) : xall (fun b t => xOK l Dg clz tys cA flz ftz base adS GWz xyz xcz xnz xrz Ex codez bmz bpz b t) 9 2 8 codez_1533 :=
  And.intro (anz_1277 Hy) (anz_1532 Hy)
theorem anz_1534 (Hy : Hyz tys cA base adS Ex) : xall (fun b t => xOK l Dg clz tys cA flz ftz base adS GWz xyz xcz xnz xrz Ex codez bmz bpz b t) 1 6 2048 codez_1534 :=
  And.intro (okz_6 Hy) (okz_2054 Hy)
theorem anz_1535 (Hy : Hyz tys cA base adS Ex) : xall (fun b t => xOK l Dg clz tys cA flz ftz base adS GWz xyz xcz xnz xrz Ex codez bmz bpz b t) 1 1030 2048 codez_1535 :=
  And.intro (okz_1030 Hy) (okzz 3078)
theorem anz_1536 (Hy : Hyz tys cA base adS Ex) : xall (fun b t => xOK l Dg clz tys cA flz ftz base adS GWz xyz xcz xnz xrz Ex codez bmz bpz b t) 2 6 1024 codez_1536 :=
  And.intro (anz_1534 Hy) (anz_1535 Hy)
theorem anz_1537 (Hy : Hyz tys cA base adS Ex) : xall (fun b t => xOK l Dg clz tys cA flz ftz base adS GWz xyz xcz xnz xrz Ex codez bmz bpz b t) 1 518 2048 codez_1537 :=
  And.intro (okz_518 Hy) (okzz 2566)
theorem anz_1538 (Hy : Hyz tys cA base adS Ex) : xall (fun b t => xOK l Dg clz tys cA flz ftz base adS GWz xyz xcz xnz xrz Ex codez bmz bpz b t) 1 1542 2048 codez_1538 :=
  And.intro (okz_1542 Hy) (okzz 3590)
theorem anz_1539 (Hy : Hyz tys cA base adS Ex) : xall (fun b t => xOK l Dg clz tys cA flz ftz base adS GWz xyz xcz xnz xrz Ex codez bmz bpz b t) 2 518 1024 codez_1539 :=
  And.intro (anz_1537 Hy) (anz_1538 Hy)
theorem anz_1540 (Hy : Hyz tys cA base adS Ex) : xall (fun b t => xOK l Dg clz tys cA flz ftz base adS GWz xyz xcz xnz xrz Ex codez bmz bpz b t) 3 6 512 codez_1540 :=
  And.intro (anz_1536 Hy) (anz_1539 Hy)
theorem anz_1541 (Hy : Hyz tys cA base adS Ex) : xall (fun b t => xOK l Dg clz tys cA flz ftz base adS GWz xyz xcz xnz xrz Ex codez bmz bpz b t) 1 262 2048 codez_1541 :=
  And.intro (okz_262 Hy) (okz_2310 Hy)
theorem anz_1542 (Hy : Hyz tys cA base adS Ex) : xall (fun b t => xOK l Dg clz tys cA flz ftz base adS GWz xyz xcz xnz xrz Ex codez bmz bpz b t) 1 1286 2048 codez_1542 :=
  And.intro (okz_1286 Hy) (okzz 3334)
theorem anz_1543 (Hy : Hyz tys cA base adS Ex) : xall (fun b t => xOK l Dg clz tys cA flz ftz base adS GWz xyz xcz xnz xrz Ex codez bmz bpz b t) 2 262 1024 codez_1543 :=
  And.intro (anz_1541 Hy) (anz_1542 Hy)
theorem anz_1544 (Hy : Hyz tys cA base adS Ex) : xall (fun b t => xOK l Dg clz tys cA flz ftz base adS GWz xyz xcz xnz xrz Ex codez bmz bpz b t) 1 774 2048 codez_1544 :=
  And.intro (okz_774 Hy) (okzz 2822)
theorem anz_1545 (Hy : Hyz tys cA base adS Ex) : xall (fun b t => xOK l Dg clz tys cA flz ftz base adS GWz xyz xcz xnz xrz Ex codez bmz bpz b t) 1 1798 2048 codez_1545 :=
  And.intro (okz_1798 Hy) (okzz 3846)
theorem anz_1546 (Hy : Hyz tys cA base adS Ex) : xall (fun b t => xOK l Dg clz tys cA flz ftz base adS GWz xyz xcz xnz xrz Ex codez bmz bpz b t) 2 774 1024 codez_1546 :=
  And.intro (anz_1544 Hy) (anz_1545 Hy)
theorem anz_1547 (Hy : Hyz tys cA base adS Ex) : xall (fun b t => xOK l Dg clz tys cA flz ftz base adS GWz xyz xcz xnz xrz Ex codez bmz bpz b t) 3 262 512 codez_1547 :=
  And.intro (anz_1543 Hy) (anz_1546 Hy)
theorem anz_1548 (Hy : Hyz tys cA base adS Ex) : xall (fun b t => xOK l Dg clz tys cA flz ftz base adS GWz xyz xcz xnz xrz Ex codez bmz bpz b t) 4 6 256 codez_1548 :=
  And.intro (anz_1540 Hy) (anz_1547 Hy)
theorem anz_1549 (Hy : Hyz tys cA base adS Ex) : xall (fun b t => xOK l Dg clz tys cA flz ftz base adS GWz xyz xcz xnz xrz Ex codez bmz bpz b t) 1 134 2048 codez_1549 :=
  And.intro (okz_134 Hy) (okz_2182 Hy)
theorem anz_1550 (Hy : Hyz tys cA base adS Ex) : xall (fun b t => xOK l Dg clz tys cA flz ftz base adS GWz xyz xcz xnz xrz Ex codez bmz bpz b t) 1 1158 2048 codez_1550 :=
  And.intro (okz_1158 Hy) (okzz 3206)
theorem anz_1551 (Hy : Hyz tys cA base adS Ex) : xall (fun b t => xOK l Dg clz tys cA flz ftz base adS GWz xyz xcz xnz xrz Ex codez bmz bpz b t) 2 134 1024 codez_1551 :=
  And.intro (anz_1549 Hy) (anz_1550 Hy)
theorem anz_1552 (Hy : Hyz tys cA base adS Ex) : xall (fun b t => xOK l Dg clz tys cA flz ftz base adS GWz xyz xcz xnz xrz Ex codez bmz bpz b t) 1 646 2048 codez_1552 :=
  And.intro (okz_646 Hy) (okzz 2694)
theorem anz_1553 (Hy : Hyz tys cA base adS Ex) : xall (fun b t => xOK l Dg clz tys cA flz ftz base adS GWz xyz xcz xnz xrz Ex codez bmz bpz b t) 1 1670 2048 codez_1553 :=
  And.intro (okz_1670 Hy) (okzz 3718)
theorem anz_1554 (Hy : Hyz tys cA base adS Ex) : xall (fun b t => xOK l Dg clz tys cA flz ftz base adS GWz xyz xcz xnz xrz Ex codez bmz bpz b t) 2 646 1024 codez_1554 :=
  And.intro (anz_1552 Hy) (anz_1553 Hy)
theorem anz_1555 (Hy : Hyz tys cA base adS Ex) : xall (fun b t => xOK l Dg clz tys cA flz ftz base adS GWz xyz xcz xnz xrz Ex codez bmz bpz b t) 3 134 512 codez_1555 :=
  And.intro (anz_1551 Hy) (anz_1554 Hy)
theorem anz_1556 (Hy : Hyz tys cA base adS Ex) : xall (fun b t => xOK l Dg clz tys cA flz ftz base adS GWz xyz xcz xnz xrz Ex codez bmz bpz b t) 1 390 2048 codez_1556 :=
  And.intro (okz_390 Hy) (okz_2438 Hy)
theorem anz_1557 (Hy : Hyz tys cA base adS Ex) : xall (fun b t => xOK l Dg clz tys cA flz ftz base adS GWz xyz xcz xnz xrz Ex codez bmz bpz b t) 1 1414 2048 codez_1557 :=
  And.intro (okz_1414 Hy) (okzz 3462)
theorem anz_1558 (Hy : Hyz tys cA base adS Ex) : xall (fun b t => xOK l Dg clz tys cA flz ftz base adS GWz xyz xcz xnz xrz Ex codez bmz bpz b t) 2 390 1024 codez_1558 :=
  And.intro (anz_1556 Hy) (anz_1557 Hy)
theorem anz_1559 (Hy : Hyz tys cA base adS Ex) : xall (fun b t => xOK l Dg clz tys cA flz ftz base adS GWz xyz xcz xnz xrz Ex codez bmz bpz b t) 1 902 2048 codez_1559 :=
  And.intro (okz_902 Hy) (okzz 2950)
theorem anz_1560 (Hy : Hyz tys cA base adS Ex) : xall (fun b t => xOK l Dg clz tys cA flz ftz base adS GWz xyz xcz xnz xrz Ex codez bmz bpz b t) 1 1926 2048 codez_1560 :=
  And.intro (okz_1926 Hy) (okzz 3974)
theorem anz_1561 (Hy : Hyz tys cA base adS Ex) : xall (fun b t => xOK l Dg clz tys cA flz ftz base adS GWz xyz xcz xnz xrz Ex codez bmz bpz b t) 2 902 1024 codez_1561 :=
  And.intro (anz_1559 Hy) (anz_1560 Hy)
theorem anz_1562 (Hy : Hyz tys cA base adS Ex) : xall (fun b t => xOK l Dg clz tys cA flz ftz base adS GWz xyz xcz xnz xrz Ex codez bmz bpz b t) 3 390 512 codez_1562 :=
  And.intro (anz_1558 Hy) (anz_1561 Hy)
theorem anz_1563 (Hy : Hyz tys cA base adS Ex) : xall (fun b t => xOK l Dg clz tys cA flz ftz base adS GWz xyz xcz xnz xrz Ex codez bmz bpz b t) 4 134 256 codez_1563 :=
  And.intro (anz_1555 Hy) (anz_1562 Hy)
theorem anz_1564 (Hy : Hyz tys cA base adS Ex) : xall (fun b t => xOK l Dg clz tys cA flz ftz base adS GWz xyz xcz xnz xrz Ex codez bmz bpz b t) 5 6 128 codez_1564 :=
  And.intro (anz_1548 Hy) (anz_1563 Hy)
theorem anz_1565 (Hy : Hyz tys cA base adS Ex) : xall (fun b t => xOK l Dg clz tys cA flz ftz base adS GWz xyz xcz xnz xrz Ex codez bmz bpz b t) 1 70 2048 codez_1565 :=
  And.intro (okz_70 Hy) (okz_2118 Hy)
theorem anz_1566 (Hy : Hyz tys cA base adS Ex) : xall (fun b t => xOK l Dg clz tys cA flz ftz base adS GWz xyz xcz xnz xrz Ex codez bmz bpz b t) 1 1094 2048 codez_1566 :=
  And.intro (okz_1094 Hy) (okzz 3142)
theorem anz_1567 (Hy : Hyz tys cA base adS Ex) : xall (fun b t => xOK l Dg clz tys cA flz ftz base adS GWz xyz xcz xnz xrz Ex codez bmz bpz b t) 2 70 1024 codez_1567 :=
  And.intro (anz_1565 Hy) (anz_1566 Hy)
theorem anz_1568 (Hy : Hyz tys cA base adS Ex) : xall (fun b t => xOK l Dg clz tys cA flz ftz base adS GWz xyz xcz xnz xrz Ex codez bmz bpz b t) 1 582 2048 codez_1568 :=
  And.intro (okz_582 Hy) (okzz 2630)
theorem anz_1569 (Hy : Hyz tys cA base adS Ex) : xall (fun b t => xOK l Dg clz tys cA flz ftz base adS GWz xyz xcz xnz xrz Ex codez bmz bpz b t) 1 1606 2048 codez_1569 :=
  And.intro (okz_1606 Hy) (okzz 3654)
theorem anz_1570 (Hy : Hyz tys cA base adS Ex) : xall (fun b t => xOK l Dg clz tys cA flz ftz base adS GWz xyz xcz xnz xrz Ex codez bmz bpz b t) 2 582 1024 codez_1570 :=
  And.intro (anz_1568 Hy) (anz_1569 Hy)
theorem anz_1571 (Hy : Hyz tys cA base adS Ex) : xall (fun b t => xOK l Dg clz tys cA flz ftz base adS GWz xyz xcz xnz xrz Ex codez bmz bpz b t) 3 70 512 codez_1571 :=
  And.intro (anz_1567 Hy) (anz_1570 Hy)
theorem anz_1572 (Hy : Hyz tys cA base adS Ex) : xall (fun b t => xOK l Dg clz tys cA flz ftz base adS GWz xyz xcz xnz xrz Ex codez bmz bpz b t) 1 326 2048 codez_1572 :=
  And.intro (okz_326 Hy) (okz_2374 Hy)
theorem anz_1573 (Hy : Hyz tys cA base adS Ex) : xall (fun b t => xOK l Dg clz tys cA flz ftz base adS GWz xyz xcz xnz xrz Ex codez bmz bpz b t) 1 1350 2048 codez_1573 :=
  And.intro (okz_1350 Hy) (okzz 3398)
theorem anz_1574 (Hy : Hyz tys cA base adS Ex) : xall (fun b t => xOK l Dg clz tys cA flz ftz base adS GWz xyz xcz xnz xrz Ex codez bmz bpz b t) 2 326 1024 codez_1574 :=
  And.intro (anz_1572 Hy) (anz_1573 Hy)
theorem anz_1575 (Hy : Hyz tys cA base adS Ex) : xall (fun b t => xOK l Dg clz tys cA flz ftz base adS GWz xyz xcz xnz xrz Ex codez bmz bpz b t) 1 838 2048 codez_1575 :=
  And.intro (okz_838 Hy) (okzz 2886)
theorem anz_1576 (Hy : Hyz tys cA base adS Ex) : xall (fun b t => xOK l Dg clz tys cA flz ftz base adS GWz xyz xcz xnz xrz Ex codez bmz bpz b t) 1 1862 2048 codez_1576 :=
  And.intro (okz_1862 Hy) (okzz 3910)
theorem anz_1577 (Hy : Hyz tys cA base adS Ex) : xall (fun b t => xOK l Dg clz tys cA flz ftz base adS GWz xyz xcz xnz xrz Ex codez bmz bpz b t) 2 838 1024 codez_1577 :=
  And.intro (anz_1575 Hy) (anz_1576 Hy)
theorem anz_1578 (Hy : Hyz tys cA base adS Ex) : xall (fun b t => xOK l Dg clz tys cA flz ftz base adS GWz xyz xcz xnz xrz Ex codez bmz bpz b t) 3 326 512 codez_1578 :=
  And.intro (anz_1574 Hy) (anz_1577 Hy)
theorem anz_1579 (Hy : Hyz tys cA base adS Ex) : xall (fun b t => xOK l Dg clz tys cA flz ftz base adS GWz xyz xcz xnz xrz Ex codez bmz bpz b t) 4 70 256 codez_1579 :=
  And.intro (anz_1571 Hy) (anz_1578 Hy)
theorem anz_1580 (Hy : Hyz tys cA base adS Ex) : xall (fun b t => xOK l Dg clz tys cA flz ftz base adS GWz xyz xcz xnz xrz Ex codez bmz bpz b t) 1 198 2048 codez_1580 :=
  And.intro (okz_198 Hy) (okz_2246 Hy)
theorem anz_1581 (Hy : Hyz tys cA base adS Ex) : xall (fun b t => xOK l Dg clz tys cA flz ftz base adS GWz xyz xcz xnz xrz Ex codez bmz bpz b t) 1 1222 2048 codez_1581 :=
  And.intro (okz_1222 Hy) (okzz 3270)
theorem anz_1582 (Hy : Hyz tys cA base adS Ex) : xall (fun b t => xOK l Dg clz tys cA flz ftz base adS GWz xyz xcz xnz xrz Ex codez bmz bpz b t) 2 198 1024 codez_1582 :=
  And.intro (anz_1580 Hy) (anz_1581 Hy)
theorem anz_1583 (Hy : Hyz tys cA base adS Ex) : xall (fun b t => xOK l Dg clz tys cA flz ftz base adS GWz xyz xcz xnz xrz Ex codez bmz bpz b t) 1 710 2048 codez_1583 :=
  And.intro (okz_710 Hy) (okzz 2758)
theorem anz_1584 (Hy : Hyz tys cA base adS Ex) : xall (fun b t => xOK l Dg clz tys cA flz ftz base adS GWz xyz xcz xnz xrz Ex codez bmz bpz b t) 1 1734 2048 codez_1584 :=
  And.intro (okz_1734 Hy) (okzz 3782)
theorem anz_1585 (Hy : Hyz tys cA base adS Ex) : xall (fun b t => xOK l Dg clz tys cA flz ftz base adS GWz xyz xcz xnz xrz Ex codez bmz bpz b t) 2 710 1024 codez_1585 :=
  And.intro (anz_1583 Hy) (anz_1584 Hy)
theorem anz_1586 (Hy : Hyz tys cA base adS Ex) : xall (fun b t => xOK l Dg clz tys cA flz ftz base adS GWz xyz xcz xnz xrz Ex codez bmz bpz b t) 3 198 512 codez_1586 :=
  And.intro (anz_1582 Hy) (anz_1585 Hy)
theorem anz_1587 (Hy : Hyz tys cA base adS Ex) : xall (fun b t => xOK l Dg clz tys cA flz ftz base adS GWz xyz xcz xnz xrz Ex codez bmz bpz b t) 1 454 2048 codez_1587 :=
  And.intro (okz_454 Hy) (okz_2502 Hy)
theorem anz_1588 (Hy : Hyz tys cA base adS Ex) : xall (fun b t => xOK l Dg clz tys cA flz ftz base adS GWz xyz xcz xnz xrz Ex codez bmz bpz b t) 1 1478 2048 codez_1588 :=
  And.intro (okz_1478 Hy) (okzz 3526)
theorem anz_1589 (Hy : Hyz tys cA base adS Ex) : xall (fun b t => xOK l Dg clz tys cA flz ftz base adS GWz xyz xcz xnz xrz Ex codez bmz bpz b t) 2 454 1024 codez_1589 :=
  And.intro (anz_1587 Hy) (anz_1588 Hy)
theorem anz_1590 (Hy : Hyz tys cA base adS Ex) : xall (fun b t => xOK l Dg clz tys cA flz ftz base adS GWz xyz xcz xnz xrz Ex codez bmz bpz b t) 1 966 2048 codez_1590 :=
  And.intro (okz_966 Hy) (okzz 3014)
theorem anz_1591 (Hy : Hyz tys cA base adS Ex) : xall (fun b t => xOK l Dg clz tys cA flz ftz base adS GWz xyz xcz xnz xrz Ex codez bmz bpz b t) 1 1990 2048 codez_1591 :=
  And.intro (okz_1990 Hy) (okzz 4038)
theorem anz_1592 (Hy : Hyz tys cA base adS Ex) : xall (fun b t => xOK l Dg clz tys cA flz ftz base adS GWz xyz xcz xnz xrz Ex codez bmz bpz b t) 2 966 1024 codez_1592 :=
  And.intro (anz_1590 Hy) (anz_1591 Hy)
theorem anz_1593 (Hy : Hyz tys cA base adS Ex) : xall (fun b t => xOK l Dg clz tys cA flz ftz base adS GWz xyz xcz xnz xrz Ex codez bmz bpz b t) 3 454 512 codez_1593 :=
  And.intro (anz_1589 Hy) (anz_1592 Hy)
theorem anz_1594 (Hy : Hyz tys cA base adS Ex) : xall (fun b t => xOK l Dg clz tys cA flz ftz base adS GWz xyz xcz xnz xrz Ex codez bmz bpz b t) 4 198 256 codez_1594 :=
  And.intro (anz_1586 Hy) (anz_1593 Hy)
theorem anz_1595 (Hy : Hyz tys cA base adS Ex) : xall (fun b t => xOK l Dg clz tys cA flz ftz base adS GWz xyz xcz xnz xrz Ex codez bmz bpz b t) 5 70 128 codez_1595 :=
  And.intro (anz_1579 Hy) (anz_1594 Hy)
theorem anz_1596 (Hy : Hyz tys cA base adS Ex) : xall (fun b t => xOK l Dg clz tys cA flz ftz base adS GWz xyz xcz xnz xrz Ex codez bmz bpz b t) 6 6 64 codez_1596 :=
  And.intro (anz_1564 Hy) (anz_1595 Hy)
theorem anz_1597 (Hy : Hyz tys cA base adS Ex) : xall (fun b t => xOK l Dg clz tys cA flz ftz base adS GWz xyz xcz xnz xrz Ex codez bmz bpz b t) 1 38 2048 codez_1597 :=
  And.intro (okz_38 Hy) (okz_2086 Hy)
theorem anz_1598 (Hy : Hyz tys cA base adS Ex) : xall (fun b t => xOK l Dg clz tys cA flz ftz base adS GWz xyz xcz xnz xrz Ex codez bmz bpz b t) 1 1062 2048 codez_1598 :=
  And.intro (okz_1062 Hy) (okzz 3110)
theorem anz_1599 (Hy : Hyz tys cA base adS Ex) : xall (fun b t => xOK l Dg clz tys cA flz ftz base adS GWz xyz xcz xnz xrz Ex codez bmz bpz b t) 2 38 1024 codez_1599 :=
  And.intro (anz_1597 Hy) (anz_1598 Hy)
theorem anz_1600 (Hy : Hyz tys cA base adS Ex) : xall (fun b t => xOK l Dg clz tys cA flz ftz base adS GWz xyz xcz xnz xrz Ex codez bmz bpz b t) 1 550 2048 codez_1600 :=
  And.intro (okz_550 Hy) (okzz 2598)
theorem anz_1601 (Hy : Hyz tys cA base adS Ex) : xall (fun b t => xOK l Dg clz tys cA flz ftz base adS GWz xyz xcz xnz xrz Ex codez bmz bpz b t) 1 1574 2048 codez_1601 :=
  And.intro (okz_1574 Hy) (okzz 3622)
theorem anz_1602 (Hy : Hyz tys cA base adS Ex) : xall (fun b t => xOK l Dg clz tys cA flz ftz base adS GWz xyz xcz xnz xrz Ex codez bmz bpz b t) 2 550 1024 codez_1602 :=
  And.intro (anz_1600 Hy) (anz_1601 Hy)
theorem anz_1603 (Hy : Hyz tys cA base adS Ex) : xall (fun b t => xOK l Dg clz tys cA flz ftz base adS GWz xyz xcz xnz xrz Ex codez bmz bpz b t) 3 38 512 codez_1603 :=
  And.intro (anz_1599 Hy) (anz_1602 Hy)
theorem anz_1604 (Hy : Hyz tys cA base adS Ex) : xall (fun b t => xOK l Dg clz tys cA flz ftz base adS GWz xyz xcz xnz xrz Ex codez bmz bpz b t) 1 294 2048 codez_1604 :=
  And.intro (okz_294 Hy) (okz_2342 Hy)
theorem anz_1605 (Hy : Hyz tys cA base adS Ex) : xall (fun b t => xOK l Dg clz tys cA flz ftz base adS GWz xyz xcz xnz xrz Ex codez bmz bpz b t) 1 1318 2048 codez_1605 :=
  And.intro (okz_1318 Hy) (okzz 3366)
theorem anz_1606 (Hy : Hyz tys cA base adS Ex) : xall (fun b t => xOK l Dg clz tys cA flz ftz base adS GWz xyz xcz xnz xrz Ex codez bmz bpz b t) 2 294 1024 codez_1606 :=
  And.intro (anz_1604 Hy) (anz_1605 Hy)
theorem anz_1607 (Hy : Hyz tys cA base adS Ex) : xall (fun b t => xOK l Dg clz tys cA flz ftz base adS GWz xyz xcz xnz xrz Ex codez bmz bpz b t) 1 806 2048 codez_1607 :=
  And.intro (okz_806 Hy) (okzz 2854)
theorem anz_1608 (Hy : Hyz tys cA base adS Ex) : xall (fun b t => xOK l Dg clz tys cA flz ftz base adS GWz xyz xcz xnz xrz Ex codez bmz bpz b t) 1 1830 2048 codez_1608 :=
  And.intro (okz_1830 Hy) (okzz 3878)
theorem anz_1609 (Hy : Hyz tys cA base adS Ex) : xall (fun b t => xOK l Dg clz tys cA flz ftz base adS GWz xyz xcz xnz xrz Ex codez bmz bpz b t) 2 806 1024 codez_1609 :=
  And.intro (anz_1607 Hy) (anz_1608 Hy)
theorem anz_1610 (Hy : Hyz tys cA base adS Ex) : xall (fun b t => xOK l Dg clz tys cA flz ftz base adS GWz xyz xcz xnz xrz Ex codez bmz bpz b t) 3 294 512 codez_1610 :=
  And.intro (anz_1606 Hy) (anz_1609 Hy)
theorem anz_1611 (Hy : Hyz tys cA base adS Ex) : xall (fun b t => xOK l Dg clz tys cA flz ftz base adS GWz xyz xcz xnz xrz Ex codez bmz bpz b t) 4 38 256 codez_1611 :=
  And.intro (anz_1603 Hy) (anz_1610 Hy)
theorem anz_1612 (Hy : Hyz tys cA base adS Ex) : xall (fun b t => xOK l Dg clz tys cA flz ftz base adS GWz xyz xcz xnz xrz Ex codez bmz bpz b t) 1 166 2048 codez_1612 :=
  And.intro (okz_166 Hy) (okz_2214 Hy)
theorem anz_1613 (Hy : Hyz tys cA base adS Ex) : xall (fun b t => xOK l Dg clz tys cA flz ftz base adS GWz xyz xcz xnz xrz Ex codez bmz bpz b t) 1 1190 2048 codez_1613 :=
  And.intro (okz_1190 Hy) (okzz 3238)
theorem anz_1614 (Hy : Hyz tys cA base adS Ex) : xall (fun b t => xOK l Dg clz tys cA flz ftz base adS GWz xyz xcz xnz xrz Ex codez bmz bpz b t) 2 166 1024 codez_1614 :=
  And.intro (anz_1612 Hy) (anz_1613 Hy)
theorem anz_1615 (Hy : Hyz tys cA base adS Ex) : xall (fun b t => xOK l Dg clz tys cA flz ftz base adS GWz xyz xcz xnz xrz Ex codez bmz bpz b t) 1 678 2048 codez_1615 :=
  And.intro (okz_678 Hy) (okzz 2726)
theorem anz_1616 (Hy : Hyz tys cA base adS Ex) : xall (fun b t => xOK l Dg clz tys cA flz ftz base adS GWz xyz xcz xnz xrz Ex codez bmz bpz b t) 1 1702 2048 codez_1616 :=
  And.intro (okz_1702 Hy) (okzz 3750)
theorem anz_1617 (Hy : Hyz tys cA base adS Ex) : xall (fun b t => xOK l Dg clz tys cA flz ftz base adS GWz xyz xcz xnz xrz Ex codez bmz bpz b t) 2 678 1024 codez_1617 :=
  And.intro (anz_1615 Hy) (anz_1616 Hy)
theorem anz_1618 (Hy : Hyz tys cA base adS Ex) : xall (fun b t => xOK l Dg clz tys cA flz ftz base adS GWz xyz xcz xnz xrz Ex codez bmz bpz b t) 3 166 512 codez_1618 :=
  And.intro (anz_1614 Hy) (anz_1617 Hy)
theorem anz_1619 (Hy : Hyz tys cA base adS Ex) : xall (fun b t => xOK l Dg clz tys cA flz ftz base adS GWz xyz xcz xnz xrz Ex codez bmz bpz b t) 1 422 2048 codez_1619 :=
  And.intro (okz_422 Hy) (okz_2470 Hy)
theorem anz_1620 (Hy : Hyz tys cA base adS Ex) : xall (fun b t => xOK l Dg clz tys cA flz ftz base adS GWz xyz xcz xnz xrz Ex codez bmz bpz b t) 1 1446 2048 codez_1620 :=
  And.intro (okz_1446 Hy) (okzz 3494)
theorem anz_1621 (Hy : Hyz tys cA base adS Ex) : xall (fun b t => xOK l Dg clz tys cA flz ftz base adS GWz xyz xcz xnz xrz Ex codez bmz bpz b t) 2 422 1024 codez_1621 :=
  And.intro (anz_1619 Hy) (anz_1620 Hy)
theorem anz_1622 (Hy : Hyz tys cA base adS Ex) : xall (fun b t => xOK l Dg clz tys cA flz ftz base adS GWz xyz xcz xnz xrz Ex codez bmz bpz b t) 1 934 2048 codez_1622 :=
  And.intro (okz_934 Hy) (okzz 2982)
theorem anz_1623 (Hy : Hyz tys cA base adS Ex) : xall (fun b t => xOK l Dg clz tys cA flz ftz base adS GWz xyz xcz xnz xrz Ex codez bmz bpz b t) 1 1958 2048 codez_1623 :=
  And.intro (okz_1958 Hy) (okzz 4006)
theorem anz_1624 (Hy : Hyz tys cA base adS Ex) : xall (fun b t => xOK l Dg clz tys cA flz ftz base adS GWz xyz xcz xnz xrz Ex codez bmz bpz b t) 2 934 1024 codez_1624 :=
  And.intro (anz_1622 Hy) (anz_1623 Hy)
theorem anz_1625 (Hy : Hyz tys cA base adS Ex) : xall (fun b t => xOK l Dg clz tys cA flz ftz base adS GWz xyz xcz xnz xrz Ex codez bmz bpz b t) 3 422 512 codez_1625 :=
  And.intro (anz_1621 Hy) (anz_1624 Hy)
theorem anz_1626 (Hy : Hyz tys cA base adS Ex) : xall (fun b t => xOK l Dg clz tys cA flz ftz base adS GWz xyz xcz xnz xrz Ex codez bmz bpz b t) 4 166 256 codez_1626 :=
  And.intro (anz_1618 Hy) (anz_1625 Hy)
theorem anz_1627 (Hy : Hyz tys cA base adS Ex) : xall (fun b t => xOK l Dg clz tys cA flz ftz base adS GWz xyz xcz xnz xrz Ex codez bmz bpz b t) 5 38 128 codez_1627 :=
  And.intro (anz_1611 Hy) (anz_1626 Hy)
theorem anz_1628 (Hy : Hyz tys cA base adS Ex) : xall (fun b t => xOK l Dg clz tys cA flz ftz base adS GWz xyz xcz xnz xrz Ex codez bmz bpz b t) 1 102 2048 codez_1628 :=
  And.intro (okz_102 Hy) (okz_2150 Hy)
theorem anz_1629 (Hy : Hyz tys cA base adS Ex) : xall (fun b t => xOK l Dg clz tys cA flz ftz base adS GWz xyz xcz xnz xrz Ex codez bmz bpz b t) 1 1126 2048 codez_1629 :=
  And.intro (okz_1126 Hy) (okzz 3174)
theorem anz_1630 (Hy : Hyz tys cA base adS Ex) : xall (fun b t => xOK l Dg clz tys cA flz ftz base adS GWz xyz xcz xnz xrz Ex codez bmz bpz b t) 2 102 1024 codez_1630 :=
  And.intro (anz_1628 Hy) (anz_1629 Hy)
theorem anz_1631 (Hy : Hyz tys cA base adS Ex) : xall (fun b t => xOK l Dg clz tys cA flz ftz base adS GWz xyz xcz xnz xrz Ex codez bmz bpz b t) 1 614 2048 codez_1631 :=
  And.intro (okz_614 Hy) (okzz 2662)
theorem anz_1632 (Hy : Hyz tys cA base adS Ex) : xall (fun b t => xOK l Dg clz tys cA flz ftz base adS GWz xyz xcz xnz xrz Ex codez bmz bpz b t) 1 1638 2048 codez_1632 :=
  And.intro (okz_1638 Hy) (okzz 3686)
theorem anz_1633 (Hy : Hyz tys cA base adS Ex) : xall (fun b t => xOK l Dg clz tys cA flz ftz base adS GWz xyz xcz xnz xrz Ex codez bmz bpz b t) 2 614 1024 codez_1633 :=
  And.intro (anz_1631 Hy) (anz_1632 Hy)
theorem anz_1634 (Hy : Hyz tys cA base adS Ex) : xall (fun b t => xOK l Dg clz tys cA flz ftz base adS GWz xyz xcz xnz xrz Ex codez bmz bpz b t) 3 102 512 codez_1634 :=
  And.intro (anz_1630 Hy) (anz_1633 Hy)
theorem anz_1635 (Hy : Hyz tys cA base adS Ex) : xall (fun b t => xOK l Dg clz tys cA flz ftz base adS GWz xyz xcz xnz xrz Ex codez bmz bpz b t) 1 358 2048 codez_1635 :=
  And.intro (okz_358 Hy) (okz_2406 Hy)
theorem anz_1636 (Hy : Hyz tys cA base adS Ex) : xall (fun b t => xOK l Dg clz tys cA flz ftz base adS GWz xyz xcz xnz xrz Ex codez bmz bpz b t) 1 1382 2048 codez_1636 :=
  And.intro (okz_1382 Hy) (okzz 3430)
theorem anz_1637 (Hy : Hyz tys cA base adS Ex) : xall (fun b t => xOK l Dg clz tys cA flz ftz base adS GWz xyz xcz xnz xrz Ex codez bmz bpz b t) 2 358 1024 codez_1637 :=
  And.intro (anz_1635 Hy) (anz_1636 Hy)
theorem anz_1638 (Hy : Hyz tys cA base adS Ex) : xall (fun b t => xOK l Dg clz tys cA flz ftz base adS GWz xyz xcz xnz xrz Ex codez bmz bpz b t) 1 870 2048 codez_1638 :=
  And.intro (okz_870 Hy) (okzz 2918)
theorem anz_1639 (Hy : Hyz tys cA base adS Ex) : xall (fun b t => xOK l Dg clz tys cA flz ftz base adS GWz xyz xcz xnz xrz Ex codez bmz bpz b t) 1 1894 2048 codez_1639 :=
  And.intro (okz_1894 Hy) (okzz 3942)
theorem anz_1640 (Hy : Hyz tys cA base adS Ex) : xall (fun b t => xOK l Dg clz tys cA flz ftz base adS GWz xyz xcz xnz xrz Ex codez bmz bpz b t) 2 870 1024 codez_1640 :=
  And.intro (anz_1638 Hy) (anz_1639 Hy)
theorem anz_1641 (Hy : Hyz tys cA base adS Ex) : xall (fun b t => xOK l Dg clz tys cA flz ftz base adS GWz xyz xcz xnz xrz Ex codez bmz bpz b t) 3 358 512 codez_1641 :=
  And.intro (anz_1637 Hy) (anz_1640 Hy)
theorem anz_1642 (Hy : Hyz tys cA base adS Ex) : xall (fun b t => xOK l Dg clz tys cA flz ftz base adS GWz xyz xcz xnz xrz Ex codez bmz bpz b t) 4 102 256 codez_1642 :=
  And.intro (anz_1634 Hy) (anz_1641 Hy)
theorem anz_1643 (Hy : Hyz tys cA base adS Ex) : xall (fun b t => xOK l Dg clz tys cA flz ftz base adS GWz xyz xcz xnz xrz Ex codez bmz bpz b t) 1 230 2048 codez_1643 :=
  And.intro (okz_230 Hy) (okz_2278 Hy)
theorem anz_1644 (Hy : Hyz tys cA base adS Ex) : xall (fun b t => xOK l Dg clz tys cA flz ftz base adS GWz xyz xcz xnz xrz Ex codez bmz bpz b t) 1 1254 2048 codez_1644 :=
  And.intro (okz_1254 Hy) (okzz 3302)
theorem anz_1645 (Hy : Hyz tys cA base adS Ex) : xall (fun b t => xOK l Dg clz tys cA flz ftz base adS GWz xyz xcz xnz xrz Ex codez bmz bpz b t) 2 230 1024 codez_1645 :=
  And.intro (anz_1643 Hy) (anz_1644 Hy)
theorem anz_1646 (Hy : Hyz tys cA base adS Ex) : xall (fun b t => xOK l Dg clz tys cA flz ftz base adS GWz xyz xcz xnz xrz Ex codez bmz bpz b t) 1 742 2048 codez_1646 :=
  And.intro (okz_742 Hy) (okzz 2790)
theorem anz_1647 (Hy : Hyz tys cA base adS Ex) : xall (fun b t => xOK l Dg clz tys cA flz ftz base adS GWz xyz xcz xnz xrz Ex codez bmz bpz b t) 1 1766 2048 codez_1647 :=
  And.intro (okz_1766 Hy) (okzz 3814)
theorem anz_1648 (Hy : Hyz tys cA base adS Ex) : xall (fun b t => xOK l Dg clz tys cA flz ftz base adS GWz xyz xcz xnz xrz Ex codez bmz bpz b t) 2 742 1024 codez_1648 :=
  And.intro (anz_1646 Hy) (anz_1647 Hy)
theorem anz_1649 (Hy : Hyz tys cA base adS Ex) : xall (fun b t => xOK l Dg clz tys cA flz ftz base adS GWz xyz xcz xnz xrz Ex codez bmz bpz b t) 3 230 512 codez_1649 :=
  And.intro (anz_1645 Hy) (anz_1648 Hy)
theorem anz_1650 (Hy : Hyz tys cA base adS Ex) : xall (fun b t => xOK l Dg clz tys cA flz ftz base adS GWz xyz xcz xnz xrz Ex codez bmz bpz b t) 1 486 2048 codez_1650 :=
  And.intro (okz_486 Hy) (okz_2534 Hy)
theorem anz_1651 (Hy : Hyz tys cA base adS Ex) : xall (fun b t => xOK l Dg clz tys cA flz ftz base adS GWz xyz xcz xnz xrz Ex codez bmz bpz b t) 1 1510 2048 codez_1651 :=
  And.intro (okz_1510 Hy) (okzz 3558)
theorem anz_1652 (Hy : Hyz tys cA base adS Ex) : xall (fun b t => xOK l Dg clz tys cA flz ftz base adS GWz xyz xcz xnz xrz Ex codez bmz bpz b t) 2 486 1024 codez_1652 :=
  And.intro (anz_1650 Hy) (anz_1651 Hy)
theorem anz_1653 (Hy : Hyz tys cA base adS Ex) : xall (fun b t => xOK l Dg clz tys cA flz ftz base adS GWz xyz xcz xnz xrz Ex codez bmz bpz b t) 1 998 2048 codez_1653 :=
  And.intro (okz_998 Hy) (okzz 3046)
theorem anz_1654 (Hy : Hyz tys cA base adS Ex) : xall (fun b t => xOK l Dg clz tys cA flz ftz base adS GWz xyz xcz xnz xrz Ex codez bmz bpz b t) 1 2022 2048 codez_1654 :=
  And.intro (okz_2022 Hy) (okzz 4070)
theorem anz_1655 (Hy : Hyz tys cA base adS Ex) : xall (fun b t => xOK l Dg clz tys cA flz ftz base adS GWz xyz xcz xnz xrz Ex codez bmz bpz b t) 2 998 1024 codez_1655 :=
  And.intro (anz_1653 Hy) (anz_1654 Hy)
theorem anz_1656 (Hy : Hyz tys cA base adS Ex) : xall (fun b t => xOK l Dg clz tys cA flz ftz base adS GWz xyz xcz xnz xrz Ex codez bmz bpz b t) 3 486 512 codez_1656 :=
  And.intro (anz_1652 Hy) (anz_1655 Hy)
theorem anz_1657 (Hy : Hyz tys cA base adS Ex) : xall (fun b t => xOK l Dg clz tys cA flz ftz base adS GWz xyz xcz xnz xrz Ex codez bmz bpz b t) 4 230 256 codez_1657 :=
  And.intro (anz_1649 Hy) (anz_1656 Hy)
theorem anz_1658 (Hy : Hyz tys cA base adS Ex) : xall (fun b t => xOK l Dg clz tys cA flz ftz base adS GWz xyz xcz xnz xrz Ex codez bmz bpz b t) 5 102 128 codez_1658 :=
  And.intro (anz_1642 Hy) (anz_1657 Hy)
theorem anz_1659 (Hy : Hyz tys cA base adS Ex) : xall (fun b t => xOK l Dg clz tys cA flz ftz base adS GWz xyz xcz xnz xrz Ex codez bmz bpz b t) 6 38 64 codez_1659 :=
  And.intro (anz_1627 Hy) (anz_1658 Hy)
theorem anz_1660 (Hy : Hyz tys cA base adS Ex) : xall (fun b t => xOK l Dg clz tys cA flz ftz base adS GWz xyz xcz xnz xrz Ex codez bmz bpz b t) 7 6 32 codez_1660 :=
  And.intro (anz_1596 Hy) (anz_1659 Hy)
theorem anz_1661 (Hy : Hyz tys cA base adS Ex) : xall (fun b t => xOK l Dg clz tys cA flz ftz base adS GWz xyz xcz xnz xrz Ex codez bmz bpz b t) 1 22 2048 codez_1661 :=
  And.intro (okz_22 Hy) (okz_2070 Hy)
theorem anz_1662 (Hy : Hyz tys cA base adS Ex) : xall (fun b t => xOK l Dg clz tys cA flz ftz base adS GWz xyz xcz xnz xrz Ex codez bmz bpz b t) 1 1046 2048 codez_1662 :=
  And.intro (okz_1046 Hy) (okzz 3094)
theorem anz_1663 (Hy : Hyz tys cA base adS Ex) : xall (fun b t => xOK l Dg clz tys cA flz ftz base adS GWz xyz xcz xnz xrz Ex codez bmz bpz b t) 2 22 1024 codez_1663 :=
  And.intro (anz_1661 Hy) (anz_1662 Hy)
theorem anz_1664 (Hy : Hyz tys cA base adS Ex) : xall (fun b t => xOK l Dg clz tys cA flz ftz base adS GWz xyz xcz xnz xrz Ex codez bmz bpz b t) 1 534 2048 codez_1664 :=
  And.intro (okz_534 Hy) (okzz 2582)
theorem anz_1665 (Hy : Hyz tys cA base adS Ex) : xall (fun b t => xOK l Dg clz tys cA flz ftz base adS GWz xyz xcz xnz xrz Ex codez bmz bpz b t) 1 1558 2048 codez_1665 :=
  And.intro (okz_1558 Hy) (okzz 3606)
theorem anz_1666 (Hy : Hyz tys cA base adS Ex) : xall (fun b t => xOK l Dg clz tys cA flz ftz base adS GWz xyz xcz xnz xrz Ex codez bmz bpz b t) 2 534 1024 codez_1666 :=
  And.intro (anz_1664 Hy) (anz_1665 Hy)
theorem anz_1667 (Hy : Hyz tys cA base adS Ex) : xall (fun b t => xOK l Dg clz tys cA flz ftz base adS GWz xyz xcz xnz xrz Ex codez bmz bpz b t) 3 22 512 codez_1667 :=
  And.intro (anz_1663 Hy) (anz_1666 Hy)
theorem anz_1668 (Hy : Hyz tys cA base adS Ex) : xall (fun b t => xOK l Dg clz tys cA flz ftz base adS GWz xyz xcz xnz xrz Ex codez bmz bpz b t) 1 278 2048 codez_1668 :=
  And.intro (okz_278 Hy) (okz_2326 Hy)
theorem anz_1669 (Hy : Hyz tys cA base adS Ex) : xall (fun b t => xOK l Dg clz tys cA flz ftz base adS GWz xyz xcz xnz xrz Ex codez bmz bpz b t) 1 1302 2048 codez_1669 :=
  And.intro (okz_1302 Hy) (okzz 3350)
theorem anz_1670 (Hy : Hyz tys cA base adS Ex) : xall (fun b t => xOK l Dg clz tys cA flz ftz base adS GWz xyz xcz xnz xrz Ex codez bmz bpz b t) 2 278 1024 codez_1670 :=
  And.intro (anz_1668 Hy) (anz_1669 Hy)
theorem anz_1671 (Hy : Hyz tys cA base adS Ex) : xall (fun b t => xOK l Dg clz tys cA flz ftz base adS GWz xyz xcz xnz xrz Ex codez bmz bpz b t) 1 790 2048 codez_1671 :=
  And.intro (okz_790 Hy) (okzz 2838)
theorem anz_1672 (Hy : Hyz tys cA base adS Ex) : xall (fun b t => xOK l Dg clz tys cA flz ftz base adS GWz xyz xcz xnz xrz Ex codez bmz bpz b t) 1 1814 2048 codez_1672 :=
  And.intro (okz_1814 Hy) (okzz 3862)
theorem anz_1673 (Hy : Hyz tys cA base adS Ex) : xall (fun b t => xOK l Dg clz tys cA flz ftz base adS GWz xyz xcz xnz xrz Ex codez bmz bpz b t) 2 790 1024 codez_1673 :=
  And.intro (anz_1671 Hy) (anz_1672 Hy)
theorem anz_1674 (Hy : Hyz tys cA base adS Ex) : xall (fun b t => xOK l Dg clz tys cA flz ftz base adS GWz xyz xcz xnz xrz Ex codez bmz bpz b t) 3 278 512 codez_1674 :=
  And.intro (anz_1670 Hy) (anz_1673 Hy)
theorem anz_1675 (Hy : Hyz tys cA base adS Ex) : xall (fun b t => xOK l Dg clz tys cA flz ftz base adS GWz xyz xcz xnz xrz Ex codez bmz bpz b t) 4 22 256 codez_1675 :=
  And.intro (anz_1667 Hy) (anz_1674 Hy)
theorem anz_1676 (Hy : Hyz tys cA base adS Ex) : xall (fun b t => xOK l Dg clz tys cA flz ftz base adS GWz xyz xcz xnz xrz Ex codez bmz bpz b t) 1 150 2048 codez_1676 :=
  And.intro (okz_150 Hy) (okz_2198 Hy)
theorem anz_1677 (Hy : Hyz tys cA base adS Ex) : xall (fun b t => xOK l Dg clz tys cA flz ftz base adS GWz xyz xcz xnz xrz Ex codez bmz bpz b t) 1 1174 2048 codez_1677 :=
  And.intro (okz_1174 Hy) (okzz 3222)
theorem anz_1678 (Hy : Hyz tys cA base adS Ex) : xall (fun b t => xOK l Dg clz tys cA flz ftz base adS GWz xyz xcz xnz xrz Ex codez bmz bpz b t) 2 150 1024 codez_1678 :=
  And.intro (anz_1676 Hy) (anz_1677 Hy)
theorem anz_1679 (Hy : Hyz tys cA base adS Ex) : xall (fun b t => xOK l Dg clz tys cA flz ftz base adS GWz xyz xcz xnz xrz Ex codez bmz bpz b t) 1 662 2048 codez_1679 :=
  And.intro (okz_662 Hy) (okzz 2710)
theorem anz_1680 (Hy : Hyz tys cA base adS Ex) : xall (fun b t => xOK l Dg clz tys cA flz ftz base adS GWz xyz xcz xnz xrz Ex codez bmz bpz b t) 1 1686 2048 codez_1680 :=
  And.intro (okz_1686 Hy) (okzz 3734)
theorem anz_1681 (Hy : Hyz tys cA base adS Ex) : xall (fun b t => xOK l Dg clz tys cA flz ftz base adS GWz xyz xcz xnz xrz Ex codez bmz bpz b t) 2 662 1024 codez_1681 :=
  And.intro (anz_1679 Hy) (anz_1680 Hy)
theorem anz_1682 (Hy : Hyz tys cA base adS Ex) : xall (fun b t => xOK l Dg clz tys cA flz ftz base adS GWz xyz xcz xnz xrz Ex codez bmz bpz b t) 3 150 512 codez_1682 :=
  And.intro (anz_1678 Hy) (anz_1681 Hy)
theorem anz_1683 (Hy : Hyz tys cA base adS Ex) : xall (fun b t => xOK l Dg clz tys cA flz ftz base adS GWz xyz xcz xnz xrz Ex codez bmz bpz b t) 1 406 2048 codez_1683 :=
  And.intro (okz_406 Hy) (okz_2454 Hy)
theorem anz_1684 (Hy : Hyz tys cA base adS Ex) : xall (fun b t => xOK l Dg clz tys cA flz ftz base adS GWz xyz xcz xnz xrz Ex codez bmz bpz b t) 1 1430 2048 codez_1684 :=
  And.intro (okz_1430 Hy) (okzz 3478)
theorem anz_1685 (Hy : Hyz tys cA base adS Ex) : xall (fun b t => xOK l Dg clz tys cA flz ftz base adS GWz xyz xcz xnz xrz Ex codez bmz bpz b t) 2 406 1024 codez_1685 :=
  And.intro (anz_1683 Hy) (anz_1684 Hy)
theorem anz_1686 (Hy : Hyz tys cA base adS Ex) : xall (fun b t => xOK l Dg clz tys cA flz ftz base adS GWz xyz xcz xnz xrz Ex codez bmz bpz b t) 1 918 2048 codez_1686 :=
  And.intro (okz_918 Hy) (okzz 2966)
theorem anz_1687 (Hy : Hyz tys cA base adS Ex) : xall (fun b t => xOK l Dg clz tys cA flz ftz base adS GWz xyz xcz xnz xrz Ex codez bmz bpz b t) 1 1942 2048 codez_1687 :=
  And.intro (okz_1942 Hy) (okzz 3990)
theorem anz_1688 (Hy : Hyz tys cA base adS Ex) : xall (fun b t => xOK l Dg clz tys cA flz ftz base adS GWz xyz xcz xnz xrz Ex codez bmz bpz b t) 2 918 1024 codez_1688 :=
  And.intro (anz_1686 Hy) (anz_1687 Hy)
theorem anz_1689 (Hy : Hyz tys cA base adS Ex) : xall (fun b t => xOK l Dg clz tys cA flz ftz base adS GWz xyz xcz xnz xrz Ex codez bmz bpz b t) 3 406 512 codez_1689 :=
  And.intro (anz_1685 Hy) (anz_1688 Hy)
theorem anz_1690 (Hy : Hyz tys cA base adS Ex) : xall (fun b t => xOK l Dg clz tys cA flz ftz base adS GWz xyz xcz xnz xrz Ex codez bmz bpz b t) 4 150 256 codez_1690 :=
  And.intro (anz_1682 Hy) (anz_1689 Hy)
theorem anz_1691 (Hy : Hyz tys cA base adS Ex) : xall (fun b t => xOK l Dg clz tys cA flz ftz base adS GWz xyz xcz xnz xrz Ex codez bmz bpz b t) 5 22 128 codez_1691 :=
  And.intro (anz_1675 Hy) (anz_1690 Hy)
theorem anz_1692 (Hy : Hyz tys cA base adS Ex) : xall (fun b t => xOK l Dg clz tys cA flz ftz base adS GWz xyz xcz xnz xrz Ex codez bmz bpz b t) 1 86 2048 codez_1692 :=
  And.intro (okz_86 Hy) (okz_2134 Hy)
theorem anz_1693 (Hy : Hyz tys cA base adS Ex) : xall (fun b t => xOK l Dg clz tys cA flz ftz base adS GWz xyz xcz xnz xrz Ex codez bmz bpz b t) 1 1110 2048 codez_1693 :=
  And.intro (okz_1110 Hy) (okzz 3158)
theorem anz_1694 (Hy : Hyz tys cA base adS Ex) : xall (fun b t => xOK l Dg clz tys cA flz ftz base adS GWz xyz xcz xnz xrz Ex codez bmz bpz b t) 2 86 1024 codez_1694 :=
  And.intro (anz_1692 Hy) (anz_1693 Hy)
theorem anz_1695 (Hy : Hyz tys cA base adS Ex) : xall (fun b t => xOK l Dg clz tys cA flz ftz base adS GWz xyz xcz xnz xrz Ex codez bmz bpz b t) 1 598 2048 codez_1695 :=
  And.intro (okz_598 Hy) (okzz 2646)
theorem anz_1696 (Hy : Hyz tys cA base adS Ex) : xall (fun b t => xOK l Dg clz tys cA flz ftz base adS GWz xyz xcz xnz xrz Ex codez bmz bpz b t) 1 1622 2048 codez_1696 :=
  And.intro (okz_1622 Hy) (okzz 3670)
theorem anz_1697 (Hy : Hyz tys cA base adS Ex) : xall (fun b t => xOK l Dg clz tys cA flz ftz base adS GWz xyz xcz xnz xrz Ex codez bmz bpz b t) 2 598 1024 codez_1697 :=
  And.intro (anz_1695 Hy) (anz_1696 Hy)
theorem anz_1698 (Hy : Hyz tys cA base adS Ex) : xall (fun b t => xOK l Dg clz tys cA flz ftz base adS GWz xyz xcz xnz xrz Ex codez bmz bpz b t) 3 86 512 codez_1698 :=
  And.intro (anz_1694 Hy) (anz_1697 Hy)
theorem anz_1699 (Hy : Hyz tys cA base adS Ex) : xall (fun b t => xOK l Dg clz tys cA flz ftz base adS GWz xyz xcz xnz xrz Ex codez bmz bpz b t) 1 342 2048 codez_1699 :=
  And.intro (okz_342 Hy) (okz_2390 Hy)
theorem anz_1700 (Hy : Hyz tys cA base adS Ex) : xall (fun b t => xOK l Dg clz tys cA flz ftz base adS GWz xyz xcz xnz xrz Ex codez bmz bpz b t) 1 1366 2048 codez_1700 :=
  And.intro (okz_1366 Hy) (okzz 3414)
theorem anz_1701 (Hy : Hyz tys cA base adS Ex) : xall (fun b t => xOK l Dg clz tys cA flz ftz base adS GWz xyz xcz xnz xrz Ex codez bmz bpz b t) 2 342 1024 codez_1701 :=
  And.intro (anz_1699 Hy) (anz_1700 Hy)
theorem anz_1702 (Hy : Hyz tys cA base adS Ex) : xall (fun b t => xOK l Dg clz tys cA flz ftz base adS GWz xyz xcz xnz xrz Ex codez bmz bpz b t) 1 854 2048 codez_1702 :=
  And.intro (okz_854 Hy) (okzz 2902)
theorem anz_1703 (Hy : Hyz tys cA base adS Ex) : xall (fun b t => xOK l Dg clz tys cA flz ftz base adS GWz xyz xcz xnz xrz Ex codez bmz bpz b t) 1 1878 2048 codez_1703 :=
  And.intro (okz_1878 Hy) (okzz 3926)
theorem anz_1704 (Hy : Hyz tys cA base adS Ex) : xall (fun b t => xOK l Dg clz tys cA flz ftz base adS GWz xyz xcz xnz xrz Ex codez bmz bpz b t) 2 854 1024 codez_1704 :=
  And.intro (anz_1702 Hy) (anz_1703 Hy)
theorem anz_1705 (Hy : Hyz tys cA base adS Ex) : xall (fun b t => xOK l Dg clz tys cA flz ftz base adS GWz xyz xcz xnz xrz Ex codez bmz bpz b t) 3 342 512 codez_1705 :=
  And.intro (anz_1701 Hy) (anz_1704 Hy)
theorem anz_1706 (Hy : Hyz tys cA base adS Ex) : xall (fun b t => xOK l Dg clz tys cA flz ftz base adS GWz xyz xcz xnz xrz Ex codez bmz bpz b t) 4 86 256 codez_1706 :=
  And.intro (anz_1698 Hy) (anz_1705 Hy)
theorem anz_1707 (Hy : Hyz tys cA base adS Ex) : xall (fun b t => xOK l Dg clz tys cA flz ftz base adS GWz xyz xcz xnz xrz Ex codez bmz bpz b t) 1 214 2048 codez_1707 :=
  And.intro (okz_214 Hy) (okz_2262 Hy)
theorem anz_1708 (Hy : Hyz tys cA base adS Ex) : xall (fun b t => xOK l Dg clz tys cA flz ftz base adS GWz xyz xcz xnz xrz Ex codez bmz bpz b t) 1 1238 2048 codez_1708 :=
  And.intro (okz_1238 Hy) (okzz 3286)
theorem anz_1709 (Hy : Hyz tys cA base adS Ex) : xall (fun b t => xOK l Dg clz tys cA flz ftz base adS GWz xyz xcz xnz xrz Ex codez bmz bpz b t) 2 214 1024 codez_1709 :=
  And.intro (anz_1707 Hy) (anz_1708 Hy)
theorem anz_1710 (Hy : Hyz tys cA base adS Ex) : xall (fun b t => xOK l Dg clz tys cA flz ftz base adS GWz xyz xcz xnz xrz Ex codez bmz bpz b t) 1 726 2048 codez_1710 :=
  And.intro (okz_726 Hy) (okzz 2774)
theorem anz_1711 (Hy : Hyz tys cA base adS Ex) : xall (fun b t => xOK l Dg clz tys cA flz ftz base adS GWz xyz xcz xnz xrz Ex codez bmz bpz b t) 1 1750 2048 codez_1711 :=
  And.intro (okz_1750 Hy) (okzz 3798)
theorem anz_1712 (Hy : Hyz tys cA base adS Ex) : xall (fun b t => xOK l Dg clz tys cA flz ftz base adS GWz xyz xcz xnz xrz Ex codez bmz bpz b t) 2 726 1024 codez_1712 :=
  And.intro (anz_1710 Hy) (anz_1711 Hy)
theorem anz_1713 (Hy : Hyz tys cA base adS Ex) : xall (fun b t => xOK l Dg clz tys cA flz ftz base adS GWz xyz xcz xnz xrz Ex codez bmz bpz b t) 3 214 512 codez_1713 :=
  And.intro (anz_1709 Hy) (anz_1712 Hy)
theorem anz_1714 (Hy : Hyz tys cA base adS Ex) : xall (fun b t => xOK l Dg clz tys cA flz ftz base adS GWz xyz xcz xnz xrz Ex codez bmz bpz b t) 1 470 2048 codez_1714 :=
  And.intro (okz_470 Hy) (okz_2518 Hy)
theorem anz_1715 (Hy : Hyz tys cA base adS Ex) : xall (fun b t => xOK l Dg clz tys cA flz ftz base adS GWz xyz xcz xnz xrz Ex codez bmz bpz b t) 1 1494 2048 codez_1715 :=
  And.intro (okz_1494 Hy) (okzz 3542)
theorem anz_1716 (Hy : Hyz tys cA base adS Ex) : xall (fun b t => xOK l Dg clz tys cA flz ftz base adS GWz xyz xcz xnz xrz Ex codez bmz bpz b t) 2 470 1024 codez_1716 :=
  And.intro (anz_1714 Hy) (anz_1715 Hy)
theorem anz_1717 (Hy : Hyz tys cA base adS Ex) : xall (fun b t => xOK l Dg clz tys cA flz ftz base adS GWz xyz xcz xnz xrz Ex codez bmz bpz b t) 1 982 2048 codez_1717 :=
  And.intro (okz_982 Hy) (okzz 3030)
theorem anz_1718 (Hy : Hyz tys cA base adS Ex) : xall (fun b t => xOK l Dg clz tys cA flz ftz base adS GWz xyz xcz xnz xrz Ex codez bmz bpz b t) 1 2006 2048 codez_1718 :=
  And.intro (okz_2006 Hy) (okzz 4054)
theorem anz_1719 (Hy : Hyz tys cA base adS Ex) : xall (fun b t => xOK l Dg clz tys cA flz ftz base adS GWz xyz xcz xnz xrz Ex codez bmz bpz b t) 2 982 1024 codez_1719 :=
  And.intro (anz_1717 Hy) (anz_1718 Hy)
theorem anz_1720 (Hy : Hyz tys cA base adS Ex) : xall (fun b t => xOK l Dg clz tys cA flz ftz base adS GWz xyz xcz xnz xrz Ex codez bmz bpz b t) 3 470 512 codez_1720 :=
  And.intro (anz_1716 Hy) (anz_1719 Hy)
theorem anz_1721 (Hy : Hyz tys cA base adS Ex) : xall (fun b t => xOK l Dg clz tys cA flz ftz base adS GWz xyz xcz xnz xrz Ex codez bmz bpz b t) 4 214 256 codez_1721 :=
  And.intro (anz_1713 Hy) (anz_1720 Hy)
theorem anz_1722 (Hy : Hyz tys cA base adS Ex) : xall (fun b t => xOK l Dg clz tys cA flz ftz base adS GWz xyz xcz xnz xrz Ex codez bmz bpz b t) 5 86 128 codez_1722 :=
  And.intro (anz_1706 Hy) (anz_1721 Hy)
theorem anz_1723 (Hy : Hyz tys cA base adS Ex) : xall (fun b t => xOK l Dg clz tys cA flz ftz base adS GWz xyz xcz xnz xrz Ex codez bmz bpz b t) 6 22 64 codez_1723 :=
  And.intro (anz_1691 Hy) (anz_1722 Hy)
theorem anz_1724 (Hy : Hyz tys cA base adS Ex) : xall (fun b t => xOK l Dg clz tys cA flz ftz base adS GWz xyz xcz xnz xrz Ex codez bmz bpz b t) 1 54 2048 codez_1724 :=
  And.intro (okz_54 Hy) (okz_2102 Hy)
theorem anz_1725 (Hy : Hyz tys cA base adS Ex) : xall (fun b t => xOK l Dg clz tys cA flz ftz base adS GWz xyz xcz xnz xrz Ex codez bmz bpz b t) 1 1078 2048 codez_1725 :=
  And.intro (okz_1078 Hy) (okzz 3126)
theorem anz_1726 (Hy : Hyz tys cA base adS Ex) : xall (fun b t => xOK l Dg clz tys cA flz ftz base adS GWz xyz xcz xnz xrz Ex codez bmz bpz b t) 2 54 1024 codez_1726 :=
  And.intro (anz_1724 Hy) (anz_1725 Hy)
theorem anz_1727 (Hy : Hyz tys cA base adS Ex) : xall (fun b t => xOK l Dg clz tys cA flz ftz base adS GWz xyz xcz xnz xrz Ex codez bmz bpz b t) 1 566 2048 codez_1727 :=
  And.intro (okz_566 Hy) (okzz 2614)
theorem anz_1728 (Hy : Hyz tys cA base adS Ex) : xall (fun b t => xOK l Dg clz tys cA flz ftz base adS GWz xyz xcz xnz xrz Ex codez bmz bpz b t) 1 1590 2048 codez_1728 :=
  And.intro (okz_1590 Hy) (okzz 3638)
theorem anz_1729 (Hy : Hyz tys cA base adS Ex) : xall (fun b t => xOK l Dg clz tys cA flz ftz base adS GWz xyz xcz xnz xrz Ex codez bmz bpz b t) 2 566 1024 codez_1729 :=
  And.intro (anz_1727 Hy) (anz_1728 Hy)
theorem anz_1730 (Hy : Hyz tys cA base adS Ex) : xall (fun b t => xOK l Dg clz tys cA flz ftz base adS GWz xyz xcz xnz xrz Ex codez bmz bpz b t) 3 54 512 codez_1730 :=
  And.intro (anz_1726 Hy) (anz_1729 Hy)
theorem anz_1731 (Hy : Hyz tys cA base adS Ex) : xall (fun b t => xOK l Dg clz tys cA flz ftz base adS GWz xyz xcz xnz xrz Ex codez bmz bpz b t) 1 310 2048 codez_1731 :=
  And.intro (okz_310 Hy) (okz_2358 Hy)
theorem anz_1732 (Hy : Hyz tys cA base adS Ex) : xall (fun b t => xOK l Dg clz tys cA flz ftz base adS GWz xyz xcz xnz xrz Ex codez bmz bpz b t) 1 1334 2048 codez_1732 :=
  And.intro (okz_1334 Hy) (okzz 3382)
theorem anz_1733 (Hy : Hyz tys cA base adS Ex) : xall (fun b t => xOK l Dg clz tys cA flz ftz base adS GWz xyz xcz xnz xrz Ex codez bmz bpz b t) 2 310 1024 codez_1733 :=
  And.intro (anz_1731 Hy) (anz_1732 Hy)
theorem anz_1734 (Hy : Hyz tys cA base adS Ex) : xall (fun b t => xOK l Dg clz tys cA flz ftz base adS GWz xyz xcz xnz xrz Ex codez bmz bpz b t) 1 822 2048 codez_1734 :=
  And.intro (okz_822 Hy) (okzz 2870)
theorem anz_1735 (Hy : Hyz tys cA base adS Ex) : xall (fun b t => xOK l Dg clz tys cA flz ftz base adS GWz xyz xcz xnz xrz Ex codez bmz bpz b t) 1 1846 2048 codez_1735 :=
  And.intro (okz_1846 Hy) (okzz 3894)
theorem anz_1736 (Hy : Hyz tys cA base adS Ex) : xall (fun b t => xOK l Dg clz tys cA flz ftz base adS GWz xyz xcz xnz xrz Ex codez bmz bpz b t) 2 822 1024 codez_1736 :=
  And.intro (anz_1734 Hy) (anz_1735 Hy)
theorem anz_1737 (Hy : Hyz tys cA base adS Ex) : xall (fun b t => xOK l Dg clz tys cA flz ftz base adS GWz xyz xcz xnz xrz Ex codez bmz bpz b t) 3 310 512 codez_1737 :=
  And.intro (anz_1733 Hy) (anz_1736 Hy)
theorem anz_1738 (Hy : Hyz tys cA base adS Ex) : xall (fun b t => xOK l Dg clz tys cA flz ftz base adS GWz xyz xcz xnz xrz Ex codez bmz bpz b t) 4 54 256 codez_1738 :=
  And.intro (anz_1730 Hy) (anz_1737 Hy)
theorem anz_1739 (Hy : Hyz tys cA base adS Ex) : xall (fun b t => xOK l Dg clz tys cA flz ftz base adS GWz xyz xcz xnz xrz Ex codez bmz bpz b t) 1 182 2048 codez_1739 :=
  And.intro (okz_182 Hy) (okz_2230 Hy)
theorem anz_1740 (Hy : Hyz tys cA base adS Ex) : xall (fun b t => xOK l Dg clz tys cA flz ftz base adS GWz xyz xcz xnz xrz Ex codez bmz bpz b t) 1 1206 2048 codez_1740 :=
  And.intro (okz_1206 Hy) (okzz 3254)
theorem anz_1741 (Hy : Hyz tys cA base adS Ex) : xall (fun b t => xOK l Dg clz tys cA flz ftz base adS GWz xyz xcz xnz xrz Ex codez bmz bpz b t) 2 182 1024 codez_1741 :=
  And.intro (anz_1739 Hy) (anz_1740 Hy)
theorem anz_1742 (Hy : Hyz tys cA base adS Ex) : xall (fun b t => xOK l Dg clz tys cA flz ftz base adS GWz xyz xcz xnz xrz Ex codez bmz bpz b t) 1 694 2048 codez_1742 :=
  And.intro (okz_694 Hy) (okzz 2742)
theorem anz_1743 (Hy : Hyz tys cA base adS Ex) : xall (fun b t => xOK l Dg clz tys cA flz ftz base adS GWz xyz xcz xnz xrz Ex codez bmz bpz b t) 1 1718 2048 codez_1743 :=
  And.intro (okz_1718 Hy) (okzz 3766)
theorem anz_1744 (Hy : Hyz tys cA base adS Ex) : xall (fun b t => xOK l Dg clz tys cA flz ftz base adS GWz xyz xcz xnz xrz Ex codez bmz bpz b t) 2 694 1024 codez_1744 :=
  And.intro (anz_1742 Hy) (anz_1743 Hy)
theorem anz_1745 (Hy : Hyz tys cA base adS Ex) : xall (fun b t => xOK l Dg clz tys cA flz ftz base adS GWz xyz xcz xnz xrz Ex codez bmz bpz b t) 3 182 512 codez_1745 :=
  And.intro (anz_1741 Hy) (anz_1744 Hy)
theorem anz_1746 (Hy : Hyz tys cA base adS Ex) : xall (fun b t => xOK l Dg clz tys cA flz ftz base adS GWz xyz xcz xnz xrz Ex codez bmz bpz b t) 1 438 2048 codez_1746 :=
  And.intro (okz_438 Hy) (okz_2486 Hy)
theorem anz_1747 (Hy : Hyz tys cA base adS Ex) : xall (fun b t => xOK l Dg clz tys cA flz ftz base adS GWz xyz xcz xnz xrz Ex codez bmz bpz b t) 1 1462 2048 codez_1747 :=
  And.intro (okz_1462 Hy) (okzz 3510)
theorem anz_1748 (Hy : Hyz tys cA base adS Ex) : xall (fun b t => xOK l Dg clz tys cA flz ftz base adS GWz xyz xcz xnz xrz Ex codez bmz bpz b t) 2 438 1024 codez_1748 :=
  And.intro (anz_1746 Hy) (anz_1747 Hy)
theorem anz_1749 (Hy : Hyz tys cA base adS Ex) : xall (fun b t => xOK l Dg clz tys cA flz ftz base adS GWz xyz xcz xnz xrz Ex codez bmz bpz b t) 1 950 2048 codez_1749 :=
  And.intro (okz_950 Hy) (okzz 2998)
theorem anz_1750 (Hy : Hyz tys cA base adS Ex) : xall (fun b t => xOK l Dg clz tys cA flz ftz base adS GWz xyz xcz xnz xrz Ex codez bmz bpz b t) 1 1974 2048 codez_1750 :=
  And.intro (okz_1974 Hy) (okzz 4022)
theorem anz_1751 (Hy : Hyz tys cA base adS Ex) : xall (fun b t => xOK l Dg clz tys cA flz ftz base adS GWz xyz xcz xnz xrz Ex codez bmz bpz b t) 2 950 1024 codez_1751 :=
  And.intro (anz_1749 Hy) (anz_1750 Hy)
theorem anz_1752 (Hy : Hyz tys cA base adS Ex) : xall (fun b t => xOK l Dg clz tys cA flz ftz base adS GWz xyz xcz xnz xrz Ex codez bmz bpz b t) 3 438 512 codez_1752 :=
  And.intro (anz_1748 Hy) (anz_1751 Hy)
theorem anz_1753 (Hy : Hyz tys cA base adS Ex) : xall (fun b t => xOK l Dg clz tys cA flz ftz base adS GWz xyz xcz xnz xrz Ex codez bmz bpz b t) 4 182 256 codez_1753 :=
  And.intro (anz_1745 Hy) (anz_1752 Hy)
theorem anz_1754 (Hy : Hyz tys cA base adS Ex) : xall (fun b t => xOK l Dg clz tys cA flz ftz base adS GWz xyz xcz xnz xrz Ex codez bmz bpz b t) 5 54 128 codez_1754 :=
  And.intro (anz_1738 Hy) (anz_1753 Hy)
theorem anz_1755 (Hy : Hyz tys cA base adS Ex) : xall (fun b t => xOK l Dg clz tys cA flz ftz base adS GWz xyz xcz xnz xrz Ex codez bmz bpz b t) 1 118 2048 codez_1755 :=
  And.intro (okz_118 Hy) (okz_2166 Hy)
theorem anz_1756 (Hy : Hyz tys cA base adS Ex) : xall (fun b t => xOK l Dg clz tys cA flz ftz base adS GWz xyz xcz xnz xrz Ex codez bmz bpz b t) 1 1142 2048 codez_1756 :=
  And.intro (okz_1142 Hy) (okzz 3190)
theorem anz_1757 (Hy : Hyz tys cA base adS Ex) : xall (fun b t => xOK l Dg clz tys cA flz ftz base adS GWz xyz xcz xnz xrz Ex codez bmz bpz b t) 2 118 1024 codez_1757 :=
  And.intro (anz_1755 Hy) (anz_1756 Hy)
theorem anz_1758 (Hy : Hyz tys cA base adS Ex) : xall (fun b t => xOK l Dg clz tys cA flz ftz base adS GWz xyz xcz xnz xrz Ex codez bmz bpz b t) 1 630 2048 codez_1758 :=
  And.intro (okz_630 Hy) (okzz 2678)
theorem anz_1759 (Hy : Hyz tys cA base adS Ex) : xall (fun b t => xOK l Dg clz tys cA flz ftz base adS GWz xyz xcz xnz xrz Ex codez bmz bpz b t) 1 1654 2048 codez_1759 :=
  And.intro (okz_1654 Hy) (okzz 3702)
theorem anz_1760 (Hy : Hyz tys cA base adS Ex) : xall (fun b t => xOK l Dg clz tys cA flz ftz base adS GWz xyz xcz xnz xrz Ex codez bmz bpz b t) 2 630 1024 codez_1760 :=
  And.intro (anz_1758 Hy) (anz_1759 Hy)
theorem anz_1761 (Hy : Hyz tys cA base adS Ex) : xall (fun b t => xOK l Dg clz tys cA flz ftz base adS GWz xyz xcz xnz xrz Ex codez bmz bpz b t) 3 118 512 codez_1761 :=
  And.intro (anz_1757 Hy) (anz_1760 Hy)
theorem anz_1762 (Hy : Hyz tys cA base adS Ex) : xall (fun b t => xOK l Dg clz tys cA flz ftz base adS GWz xyz xcz xnz xrz Ex codez bmz bpz b t) 1 374 2048 codez_1762 :=
  And.intro (okz_374 Hy) (okz_2422 Hy)
theorem anz_1763 (Hy : Hyz tys cA base adS Ex) : xall (fun b t => xOK l Dg clz tys cA flz ftz base adS GWz xyz xcz xnz xrz Ex codez bmz bpz b t) 1 1398 2048 codez_1763 :=
  And.intro (okz_1398 Hy) (okzz 3446)
theorem anz_1764 (Hy : Hyz tys cA base adS Ex) : xall (fun b t => xOK l Dg clz tys cA flz ftz base adS GWz xyz xcz xnz xrz Ex codez bmz bpz b t) 2 374 1024 codez_1764 :=
  And.intro (anz_1762 Hy) (anz_1763 Hy)
theorem anz_1765 (Hy : Hyz tys cA base adS Ex) : xall (fun b t => xOK l Dg clz tys cA flz ftz base adS GWz xyz xcz xnz xrz Ex codez bmz bpz b t) 1 886 2048 codez_1765 :=
  And.intro (okz_886 Hy) (okzz 2934)
theorem anz_1766 (Hy : Hyz tys cA base adS Ex) : xall (fun b t => xOK l Dg clz tys cA flz ftz base adS GWz xyz xcz xnz xrz Ex codez bmz bpz b t) 1 1910 2048 codez_1766 :=
  And.intro (okz_1910 Hy) (okzz 3958)
theorem anz_1767 (Hy : Hyz tys cA base adS Ex) : xall (fun b t => xOK l Dg clz tys cA flz ftz base adS GWz xyz xcz xnz xrz Ex codez bmz bpz b t) 2 886 1024 codez_1767 :=
  And.intro (anz_1765 Hy) (anz_1766 Hy)
theorem anz_1768 (Hy : Hyz tys cA base adS Ex) : xall (fun b t => xOK l Dg clz tys cA flz ftz base adS GWz xyz xcz xnz xrz Ex codez bmz bpz b t) 3 374 512 codez_1768 :=
  And.intro (anz_1764 Hy) (anz_1767 Hy)
theorem anz_1769 (Hy : Hyz tys cA base adS Ex) : xall (fun b t => xOK l Dg clz tys cA flz ftz base adS GWz xyz xcz xnz xrz Ex codez bmz bpz b t) 4 118 256 codez_1769 :=
  And.intro (anz_1761 Hy) (anz_1768 Hy)
theorem anz_1770 (Hy : Hyz tys cA base adS Ex) : xall (fun b t => xOK l Dg clz tys cA flz ftz base adS GWz xyz xcz xnz xrz Ex codez bmz bpz b t) 1 246 2048 codez_1770 :=
  And.intro (okz_246 Hy) (okz_2294 Hy)
theorem anz_1771 (Hy : Hyz tys cA base adS Ex) : xall (fun b t => xOK l Dg clz tys cA flz ftz base adS GWz xyz xcz xnz xrz Ex codez bmz bpz b t) 1 1270 2048 codez_1771 :=
  And.intro (okz_1270 Hy) (okzz 3318)
theorem anz_1772 (Hy : Hyz tys cA base adS Ex) : xall (fun b t => xOK l Dg clz tys cA flz ftz base adS GWz xyz xcz xnz xrz Ex codez bmz bpz b t) 2 246 1024 codez_1772 :=
  And.intro (anz_1770 Hy) (anz_1771 Hy)
theorem anz_1773 (Hy : Hyz tys cA base adS Ex) : xall (fun b t => xOK l Dg clz tys cA flz ftz base adS GWz xyz xcz xnz xrz Ex codez bmz bpz b t) 1 758 2048 codez_1773 :=
  And.intro (okz_758 Hy) (okzz 2806)
theorem anz_1774 (Hy : Hyz tys cA base adS Ex) : xall (fun b t => xOK l Dg clz tys cA flz ftz base adS GWz xyz xcz xnz xrz Ex codez bmz bpz b t) 1 1782 2048 codez_1774 :=
  And.intro (okz_1782 Hy) (okzz 3830)
theorem anz_1775 (Hy : Hyz tys cA base adS Ex) : xall (fun b t => xOK l Dg clz tys cA flz ftz base adS GWz xyz xcz xnz xrz Ex codez bmz bpz b t) 2 758 1024 codez_1775 :=
  And.intro (anz_1773 Hy) (anz_1774 Hy)
theorem anz_1776 (Hy : Hyz tys cA base adS Ex) : xall (fun b t => xOK l Dg clz tys cA flz ftz base adS GWz xyz xcz xnz xrz Ex codez bmz bpz b t) 3 246 512 codez_1776 :=
  And.intro (anz_1772 Hy) (anz_1775 Hy)
theorem anz_1777 (Hy : Hyz tys cA base adS Ex) : xall (fun b t => xOK l Dg clz tys cA flz ftz base adS GWz xyz xcz xnz xrz Ex codez bmz bpz b t) 1 502 2048 codez_1777 :=
  And.intro (okz_502 Hy) (okzz 2550)
theorem anz_1778 (Hy : Hyz tys cA base adS Ex) : xall (fun b t => xOK l Dg clz tys cA flz ftz base adS GWz xyz xcz xnz xrz Ex codez bmz bpz b t) 1 1526 2048 codez_1778 :=
  And.intro (okz_1526 Hy) (okzz 3574)
theorem anz_1779 (Hy : Hyz tys cA base adS Ex) : xall (fun b t => xOK l Dg clz tys cA flz ftz base adS GWz xyz xcz xnz xrz Ex codez bmz bpz b t) 2 502 1024 codez_1779 :=
  And.intro (anz_1777 Hy) (anz_1778 Hy)
theorem anz_1780 (Hy : Hyz tys cA base adS Ex) : xall (fun b t => xOK l Dg clz tys cA flz ftz base adS GWz xyz xcz xnz xrz Ex codez bmz bpz b t) 1 1014 2048 codez_1780 :=
  And.intro (okz_1014 Hy) (okzz 3062)
theorem anz_1781 (Hy : Hyz tys cA base adS Ex) : xall (fun b t => xOK l Dg clz tys cA flz ftz base adS GWz xyz xcz xnz xrz Ex codez bmz bpz b t) 1 2038 2048 codez_1781 :=
  And.intro (okz_2038 Hy) (okzz 4086)
theorem anz_1782 (Hy : Hyz tys cA base adS Ex) : xall (fun b t => xOK l Dg clz tys cA flz ftz base adS GWz xyz xcz xnz xrz Ex codez bmz bpz b t) 2 1014 1024 codez_1782 :=
  And.intro (anz_1780 Hy) (anz_1781 Hy)
theorem anz_1783 (Hy : Hyz tys cA base adS Ex) : xall (fun b t => xOK l Dg clz tys cA flz ftz base adS GWz xyz xcz xnz xrz Ex codez bmz bpz b t) 3 502 512 codez_1783 :=
  And.intro (anz_1779 Hy) (anz_1782 Hy)
theorem anz_1784 (Hy : Hyz tys cA base adS Ex) : xall (fun b t => xOK l Dg clz tys cA flz ftz base adS GWz xyz xcz xnz xrz Ex codez bmz bpz b t) 4 246 256 codez_1784 :=
  And.intro (anz_1776 Hy) (anz_1783 Hy)
theorem anz_1785 (Hy : Hyz tys cA base adS Ex) : xall (fun b t => xOK l Dg clz tys cA flz ftz base adS GWz xyz xcz xnz xrz Ex codez bmz bpz b t) 5 118 128 codez_1785 :=
  And.intro (anz_1769 Hy) (anz_1784 Hy)
theorem anz_1786 (Hy : Hyz tys cA base adS Ex) : xall (fun b t => xOK l Dg clz tys cA flz ftz base adS GWz xyz xcz xnz xrz Ex codez bmz bpz b t) 6 54 64 codez_1786 :=
  And.intro (anz_1754 Hy) (anz_1785 Hy)
theorem anz_1787 (Hy : Hyz tys cA base adS Ex) : xall (fun b t => xOK l Dg clz tys cA flz ftz base adS GWz xyz xcz xnz xrz Ex codez bmz bpz b t) 7 22 32 codez_1787 :=
  And.intro (anz_1723 Hy) (anz_1786 Hy)
theorem anz_1788 (Hy : Hyz tys cA base adS Ex) : xall (fun b t => xOK l Dg clz tys cA flz ftz base adS GWz xyz xcz xnz xrz Ex codez bmz bpz b t) 8 6 16 codez_1788 :=
  And.intro (anz_1660 Hy) (anz_1787 Hy)
theorem anz_1789 (Hy : Hyz tys cA base adS Ex) : xall (fun b t => xOK l Dg clz tys cA flz ftz base adS GWz xyz xcz xnz xrz Ex codez bmz bpz b t) 1 14 2048 codez_1789 :=
  And.intro (okz_14 Hy) (okz_2062 Hy)
theorem anz_1790 (Hy : Hyz tys cA base adS Ex) : xall (fun b t => xOK l Dg clz tys cA flz ftz base adS GWz xyz xcz xnz xrz Ex codez bmz bpz b t) 1 1038 2048 codez_1790 :=
  And.intro (okz_1038 Hy) (okzz 3086)
theorem anz_1791 (Hy : Hyz tys cA base adS Ex) : xall (fun b t => xOK l Dg clz tys cA flz ftz base adS GWz xyz xcz xnz xrz Ex codez bmz bpz b t) 2 14 1024 codez_1791 :=
  And.intro (anz_1789 Hy) (anz_1790 Hy)
theorem anz_1792 (Hy : Hyz tys cA base adS Ex) : xall (fun b t => xOK l Dg clz tys cA flz ftz base adS GWz xyz xcz xnz xrz Ex codez bmz bpz b t) 1 526 2048 codez_1792 :=
  And.intro (okz_526 Hy) (okzz 2574)
theorem anz_1793 (Hy : Hyz tys cA base adS Ex) : xall (fun b t => xOK l Dg clz tys cA flz ftz base adS GWz xyz xcz xnz xrz Ex codez bmz bpz b t) 1 1550 2048 codez_1793 :=
  And.intro (okz_1550 Hy) (okzz 3598)
theorem anz_1794 (Hy : Hyz tys cA base adS Ex) : xall (fun b t => xOK l Dg clz tys cA flz ftz base adS GWz xyz xcz xnz xrz Ex codez bmz bpz b t) 2 526 1024 codez_1794 :=
  And.intro (anz_1792 Hy) (anz_1793 Hy)
theorem anz_1795 (Hy : Hyz tys cA base adS Ex) : xall (fun b t => xOK l Dg clz tys cA flz ftz base adS GWz xyz xcz xnz xrz Ex codez bmz bpz b t) 3 14 512 codez_1795 :=
  And.intro (anz_1791 Hy) (anz_1794 Hy)
theorem anz_1796 (Hy : Hyz tys cA base adS Ex) : xall (fun b t => xOK l Dg clz tys cA flz ftz base adS GWz xyz xcz xnz xrz Ex codez bmz bpz b t) 1 270 2048 codez_1796 :=
  And.intro (okz_270 Hy) (okz_2318 Hy)
theorem anz_1797 (Hy : Hyz tys cA base adS Ex) : xall (fun b t => xOK l Dg clz tys cA flz ftz base adS GWz xyz xcz xnz xrz Ex codez bmz bpz b t) 1 1294 2048 codez_1797 :=
  And.intro (okz_1294 Hy) (okzz 3342)
theorem anz_1798 (Hy : Hyz tys cA base adS Ex) : xall (fun b t => xOK l Dg clz tys cA flz ftz base adS GWz xyz xcz xnz xrz Ex codez bmz bpz b t) 2 270 1024 codez_1798 :=
  And.intro (anz_1796 Hy) (anz_1797 Hy)
theorem anz_1799 (Hy : Hyz tys cA base adS Ex) : xall (fun b t => xOK l Dg clz tys cA flz ftz base adS GWz xyz xcz xnz xrz Ex codez bmz bpz b t) 1 782 2048 codez_1799 :=
  And.intro (okz_782 Hy) (okzz 2830)
theorem anz_1800 (Hy : Hyz tys cA base adS Ex) : xall (fun b t => xOK l Dg clz tys cA flz ftz base adS GWz xyz xcz xnz xrz Ex codez bmz bpz b t) 1 1806 2048 codez_1800 :=
  And.intro (okz_1806 Hy) (okzz 3854)
theorem anz_1801 (Hy : Hyz tys cA base adS Ex) : xall (fun b t => xOK l Dg clz tys cA flz ftz base adS GWz xyz xcz xnz xrz Ex codez bmz bpz b t) 2 782 1024 codez_1801 :=
  And.intro (anz_1799 Hy) (anz_1800 Hy)
theorem anz_1802 (Hy : Hyz tys cA base adS Ex) : xall (fun b t => xOK l Dg clz tys cA flz ftz base adS GWz xyz xcz xnz xrz Ex codez bmz bpz b t) 3 270 512 codez_1802 :=
  And.intro (anz_1798 Hy) (anz_1801 Hy)
theorem anz_1803 (Hy : Hyz tys cA base adS Ex) : xall (fun b t => xOK l Dg clz tys cA flz ftz base adS GWz xyz xcz xnz xrz Ex codez bmz bpz b t) 4 14 256 codez_1803 :=
  And.intro (anz_1795 Hy) (anz_1802 Hy)
theorem anz_1804 (Hy : Hyz tys cA base adS Ex) : xall (fun b t => xOK l Dg clz tys cA flz ftz base adS GWz xyz xcz xnz xrz Ex codez bmz bpz b t) 1 142 2048 codez_1804 :=
  And.intro (okz_142 Hy) (okz_2190 Hy)
theorem anz_1805 (Hy : Hyz tys cA base adS Ex) : xall (fun b t => xOK l Dg clz tys cA flz ftz base adS GWz xyz xcz xnz xrz Ex codez bmz bpz b t) 1 1166 2048 codez_1805 :=
  And.intro (okz_1166 Hy) (okzz 3214)
theorem anz_1806 (Hy : Hyz tys cA base adS Ex) : xall (fun b t => xOK l Dg clz tys cA flz ftz base adS GWz xyz xcz xnz xrz Ex codez bmz bpz b t) 2 142 1024 codez_1806 :=
  And.intro (anz_1804 Hy) (anz_1805 Hy)
theorem anz_1807 (Hy : Hyz tys cA base adS Ex) : xall (fun b t => xOK l Dg clz tys cA flz ftz base adS GWz xyz xcz xnz xrz Ex codez bmz bpz b t) 1 654 2048 codez_1807 :=
  And.intro (okz_654 Hy) (okzz 2702)
theorem anz_1808 (Hy : Hyz tys cA base adS Ex) : xall (fun b t => xOK l Dg clz tys cA flz ftz base adS GWz xyz xcz xnz xrz Ex codez bmz bpz b t) 1 1678 2048 codez_1808 :=
  And.intro (okz_1678 Hy) (okzz 3726)
theorem anz_1809 (Hy : Hyz tys cA base adS Ex) : xall (fun b t => xOK l Dg clz tys cA flz ftz base adS GWz xyz xcz xnz xrz Ex codez bmz bpz b t) 2 654 1024 codez_1809 :=
  And.intro (anz_1807 Hy) (anz_1808 Hy)
theorem anz_1810 (Hy : Hyz tys cA base adS Ex) : xall (fun b t => xOK l Dg clz tys cA flz ftz base adS GWz xyz xcz xnz xrz Ex codez bmz bpz b t) 3 142 512 codez_1810 :=
  And.intro (anz_1806 Hy) (anz_1809 Hy)
theorem anz_1811 (Hy : Hyz tys cA base adS Ex) : xall (fun b t => xOK l Dg clz tys cA flz ftz base adS GWz xyz xcz xnz xrz Ex codez bmz bpz b t) 1 398 2048 codez_1811 :=
  And.intro (okz_398 Hy) (okz_2446 Hy)
theorem anz_1812 (Hy : Hyz tys cA base adS Ex) : xall (fun b t => xOK l Dg clz tys cA flz ftz base adS GWz xyz xcz xnz xrz Ex codez bmz bpz b t) 1 1422 2048 codez_1812 :=
  And.intro (okz_1422 Hy) (okzz 3470)
theorem anz_1813 (Hy : Hyz tys cA base adS Ex) : xall (fun b t => xOK l Dg clz tys cA flz ftz base adS GWz xyz xcz xnz xrz Ex codez bmz bpz b t) 2 398 1024 codez_1813 :=
  And.intro (anz_1811 Hy) (anz_1812 Hy)
theorem anz_1814 (Hy : Hyz tys cA base adS Ex) : xall (fun b t => xOK l Dg clz tys cA flz ftz base adS GWz xyz xcz xnz xrz Ex codez bmz bpz b t) 1 910 2048 codez_1814 :=
  And.intro (okz_910 Hy) (okzz 2958)
theorem anz_1815 (Hy : Hyz tys cA base adS Ex) : xall (fun b t => xOK l Dg clz tys cA flz ftz base adS GWz xyz xcz xnz xrz Ex codez bmz bpz b t) 1 1934 2048 codez_1815 :=
  And.intro (okz_1934 Hy) (okzz 3982)
theorem anz_1816 (Hy : Hyz tys cA base adS Ex) : xall (fun b t => xOK l Dg clz tys cA flz ftz base adS GWz xyz xcz xnz xrz Ex codez bmz bpz b t) 2 910 1024 codez_1816 :=
  And.intro (anz_1814 Hy) (anz_1815 Hy)
theorem anz_1817 (Hy : Hyz tys cA base adS Ex) : xall (fun b t => xOK l Dg clz tys cA flz ftz base adS GWz xyz xcz xnz xrz Ex codez bmz bpz b t) 3 398 512 codez_1817 :=
  And.intro (anz_1813 Hy) (anz_1816 Hy)
theorem anz_1818 (Hy : Hyz tys cA base adS Ex) : xall (fun b t => xOK l Dg clz tys cA flz ftz base adS GWz xyz xcz xnz xrz Ex codez bmz bpz b t) 4 142 256 codez_1818 :=
  And.intro (anz_1810 Hy) (anz_1817 Hy)
theorem anz_1819 (Hy : Hyz tys cA base adS Ex) : xall (fun b t => xOK l Dg clz tys cA flz ftz base adS GWz xyz xcz xnz xrz Ex codez bmz bpz b t) 5 14 128 codez_1819 :=
  And.intro (anz_1803 Hy) (anz_1818 Hy)
theorem anz_1820 (Hy : Hyz tys cA base adS Ex) : xall (fun b t => xOK l Dg clz tys cA flz ftz base adS GWz xyz xcz xnz xrz Ex codez bmz bpz b t) 1 78 2048 codez_1820 :=
  And.intro (okz_78 Hy) (okz_2126 Hy)
theorem anz_1821 (Hy : Hyz tys cA base adS Ex) : xall (fun b t => xOK l Dg clz tys cA flz ftz base adS GWz xyz xcz xnz xrz Ex codez bmz bpz b t) 1 1102 2048 codez_1821 :=
  And.intro (okz_1102 Hy) (okzz 3150)
theorem anz_1822 (Hy : Hyz tys cA base adS Ex) : xall (fun b t => xOK l Dg clz tys cA flz ftz base adS GWz xyz xcz xnz xrz Ex codez bmz bpz b t) 2 78 1024 codez_1822 :=
  And.intro (anz_1820 Hy) (anz_1821 Hy)
theorem anz_1823 (Hy : Hyz tys cA base adS Ex) : xall (fun b t => xOK l Dg clz tys cA flz ftz base adS GWz xyz xcz xnz xrz Ex codez bmz bpz b t) 1 590 2048 codez_1823 :=
  And.intro (okz_590 Hy) (okzz 2638)
theorem anz_1824 (Hy : Hyz tys cA base adS Ex) : xall (fun b t => xOK l Dg clz tys cA flz ftz base adS GWz xyz xcz xnz xrz Ex codez bmz bpz b t) 1 1614 2048 codez_1824 :=
  And.intro (okz_1614 Hy) (okzz 3662)
theorem anz_1825 (Hy : Hyz tys cA base adS Ex) : xall (fun b t => xOK l Dg clz tys cA flz ftz base adS GWz xyz xcz xnz xrz Ex codez bmz bpz b t) 2 590 1024 codez_1825 :=
  And.intro (anz_1823 Hy) (anz_1824 Hy)
theorem anz_1826 (Hy : Hyz tys cA base adS Ex) : xall (fun b t => xOK l Dg clz tys cA flz ftz base adS GWz xyz xcz xnz xrz Ex codez bmz bpz b t) 3 78 512 codez_1826 :=
  And.intro (anz_1822 Hy) (anz_1825 Hy)
theorem anz_1827 (Hy : Hyz tys cA base adS Ex) : xall (fun b t => xOK l Dg clz tys cA flz ftz base adS GWz xyz xcz xnz xrz Ex codez bmz bpz b t) 1 334 2048 codez_1827 :=
  And.intro (okz_334 Hy) (okz_2382 Hy)
theorem anz_1828 (Hy : Hyz tys cA base adS Ex) : xall (fun b t => xOK l Dg clz tys cA flz ftz base adS GWz xyz xcz xnz xrz Ex codez bmz bpz b t) 1 1358 2048 codez_1828 :=
  And.intro (okz_1358 Hy) (okzz 3406)
theorem anz_1829 (Hy : Hyz tys cA base adS Ex) : xall (fun b t => xOK l Dg clz tys cA flz ftz base adS GWz xyz xcz xnz xrz Ex codez bmz bpz b t) 2 334 1024 codez_1829 :=
  And.intro (anz_1827 Hy) (anz_1828 Hy)
theorem anz_1830 (Hy : Hyz tys cA base adS Ex) : xall (fun b t => xOK l Dg clz tys cA flz ftz base adS GWz xyz xcz xnz xrz Ex codez bmz bpz b t) 1 846 2048 codez_1830 :=
  And.intro (okz_846 Hy) (okzz 2894)
theorem anz_1831 (Hy : Hyz tys cA base adS Ex) : xall (fun b t => xOK l Dg clz tys cA flz ftz base adS GWz xyz xcz xnz xrz Ex codez bmz bpz b t) 1 1870 2048 codez_1831 :=
  And.intro (okz_1870 Hy) (okzz 3918)
theorem anz_1832 (Hy : Hyz tys cA base adS Ex) : xall (fun b t => xOK l Dg clz tys cA flz ftz base adS GWz xyz xcz xnz xrz Ex codez bmz bpz b t) 2 846 1024 codez_1832 :=
  And.intro (anz_1830 Hy) (anz_1831 Hy)
theorem anz_1833 (Hy : Hyz tys cA base adS Ex) : xall (fun b t => xOK l Dg clz tys cA flz ftz base adS GWz xyz xcz xnz xrz Ex codez bmz bpz b t) 3 334 512 codez_1833 :=
  And.intro (anz_1829 Hy) (anz_1832 Hy)
theorem anz_1834 (Hy : Hyz tys cA base adS Ex) : xall (fun b t => xOK l Dg clz tys cA flz ftz base adS GWz xyz xcz xnz xrz Ex codez bmz bpz b t) 4 78 256 codez_1834 :=
  And.intro (anz_1826 Hy) (anz_1833 Hy)
theorem anz_1835 (Hy : Hyz tys cA base adS Ex) : xall (fun b t => xOK l Dg clz tys cA flz ftz base adS GWz xyz xcz xnz xrz Ex codez bmz bpz b t) 1 206 2048 codez_1835 :=
  And.intro (okz_206 Hy) (okz_2254 Hy)
theorem anz_1836 (Hy : Hyz tys cA base adS Ex) : xall (fun b t => xOK l Dg clz tys cA flz ftz base adS GWz xyz xcz xnz xrz Ex codez bmz bpz b t) 1 1230 2048 codez_1836 :=
  And.intro (okz_1230 Hy) (okzz 3278)
theorem anz_1837 (Hy : Hyz tys cA base adS Ex) : xall (fun b t => xOK l Dg clz tys cA flz ftz base adS GWz xyz xcz xnz xrz Ex codez bmz bpz b t) 2 206 1024 codez_1837 :=
  And.intro (anz_1835 Hy) (anz_1836 Hy)
theorem anz_1838 (Hy : Hyz tys cA base adS Ex) : xall (fun b t => xOK l Dg clz tys cA flz ftz base adS GWz xyz xcz xnz xrz Ex codez bmz bpz b t) 1 718 2048 codez_1838 :=
  And.intro (okz_718 Hy) (okzz 2766)
theorem anz_1839 (Hy : Hyz tys cA base adS Ex) : xall (fun b t => xOK l Dg clz tys cA flz ftz base adS GWz xyz xcz xnz xrz Ex codez bmz bpz b t) 1 1742 2048 codez_1839 :=
  And.intro (okz_1742 Hy) (okzz 3790)
theorem anz_1840 (Hy : Hyz tys cA base adS Ex) : xall (fun b t => xOK l Dg clz tys cA flz ftz base adS GWz xyz xcz xnz xrz Ex codez bmz bpz b t) 2 718 1024 codez_1840 :=
  And.intro (anz_1838 Hy) (anz_1839 Hy)
theorem anz_1841 (Hy : Hyz tys cA base adS Ex) : xall (fun b t => xOK l Dg clz tys cA flz ftz base adS GWz xyz xcz xnz xrz Ex codez bmz bpz b t) 3 206 512 codez_1841 :=
  And.intro (anz_1837 Hy) (anz_1840 Hy)
theorem anz_1842 (Hy : Hyz tys cA base adS Ex) : xall (fun b t => xOK l Dg clz tys cA flz ftz base adS GWz xyz xcz xnz xrz Ex codez bmz bpz b t) 1 462 2048 codez_1842 :=
  And.intro (okz_462 Hy) (okz_2510 Hy)
theorem anz_1843 (Hy : Hyz tys cA base adS Ex) : xall (fun b t => xOK l Dg clz tys cA flz ftz base adS GWz xyz xcz xnz xrz Ex codez bmz bpz b t) 1 1486 2048 codez_1843 :=
  And.intro (okz_1486 Hy) (okzz 3534)
theorem anz_1844 (Hy : Hyz tys cA base adS Ex) : xall (fun b t => xOK l Dg clz tys cA flz ftz base adS GWz xyz xcz xnz xrz Ex codez bmz bpz b t) 2 462 1024 codez_1844 :=
  And.intro (anz_1842 Hy) (anz_1843 Hy)
theorem anz_1845 (Hy : Hyz tys cA base adS Ex) : xall (fun b t => xOK l Dg clz tys cA flz ftz base adS GWz xyz xcz xnz xrz Ex codez bmz bpz b t) 1 974 2048 codez_1845 :=
  And.intro (okz_974 Hy) (okzz 3022)
theorem anz_1846 (Hy : Hyz tys cA base adS Ex) : xall (fun b t => xOK l Dg clz tys cA flz ftz base adS GWz xyz xcz xnz xrz Ex codez bmz bpz b t) 1 1998 2048 codez_1846 :=
  And.intro (okz_1998 Hy) (okzz 4046)
theorem anz_1847 (Hy : Hyz tys cA base adS Ex) : xall (fun b t => xOK l Dg clz tys cA flz ftz base adS GWz xyz xcz xnz xrz Ex codez bmz bpz b t) 2 974 1024 codez_1847 :=
  And.intro (anz_1845 Hy) (anz_1846 Hy)
theorem anz_1848 (Hy : Hyz tys cA base adS Ex) : xall (fun b t => xOK l Dg clz tys cA flz ftz base adS GWz xyz xcz xnz xrz Ex codez bmz bpz b t) 3 462 512 codez_1848 :=
  And.intro (anz_1844 Hy) (anz_1847 Hy)
theorem anz_1849 (Hy : Hyz tys cA base adS Ex) : xall (fun b t => xOK l Dg clz tys cA flz ftz base adS GWz xyz xcz xnz xrz Ex codez bmz bpz b t) 4 206 256 codez_1849 :=
  And.intro (anz_1841 Hy) (anz_1848 Hy)
theorem anz_1850 (Hy : Hyz tys cA base adS Ex) : xall (fun b t => xOK l Dg clz tys cA flz ftz base adS GWz xyz xcz xnz xrz Ex codez bmz bpz b t) 5 78 128 codez_1850 :=
  And.intro (anz_1834 Hy) (anz_1849 Hy)
theorem anz_1851 (Hy : Hyz tys cA base adS Ex) : xall (fun b t => xOK l Dg clz tys cA flz ftz base adS GWz xyz xcz xnz xrz Ex codez bmz bpz b t) 6 14 64 codez_1851 :=
  And.intro (anz_1819 Hy) (anz_1850 Hy)
theorem anz_1852 (Hy : Hyz tys cA base adS Ex) : xall (fun b t => xOK l Dg clz tys cA flz ftz base adS GWz xyz xcz xnz xrz Ex codez bmz bpz b t) 1 46 2048 codez_1852 :=
  And.intro (okz_46 Hy) (okz_2094 Hy)
theorem anz_1853 (Hy : Hyz tys cA base adS Ex) : xall (fun b t => xOK l Dg clz tys cA flz ftz base adS GWz xyz xcz xnz xrz Ex codez bmz bpz b t) 1 1070 2048 codez_1853 :=
  And.intro (okz_1070 Hy) (okzz 3118)
theorem anz_1854 (Hy : Hyz tys cA base adS Ex) : xall (fun b t => xOK l Dg clz tys cA flz ftz base adS GWz xyz xcz xnz xrz Ex codez bmz bpz b t) 2 46 1024 codez_1854 :=
  And.intro (anz_1852 Hy) (anz_1853 Hy)
theorem anz_1855 (Hy : Hyz tys cA base adS Ex) : xall (fun b t => xOK l Dg clz tys cA flz ftz base adS GWz xyz xcz xnz xrz Ex codez bmz bpz b t) 1 558 2048 codez_1855 :=
  And.intro (okz_558 Hy) (okzz 2606)
theorem anz_1856 (Hy : Hyz tys cA base adS Ex) : xall (fun b t => xOK l Dg clz tys cA flz ftz base adS GWz xyz xcz xnz xrz Ex codez bmz bpz b t) 1 1582 2048 codez_1856 :=
  And.intro (okz_1582 Hy) (okzz 3630)
theorem anz_1857 (Hy : Hyz tys cA base adS Ex) : xall (fun b t => xOK l Dg clz tys cA flz ftz base adS GWz xyz xcz xnz xrz Ex codez bmz bpz b t) 2 558 1024 codez_1857 :=
  And.intro (anz_1855 Hy) (anz_1856 Hy)
theorem anz_1858 (Hy : Hyz tys cA base adS Ex) : xall (fun b t => xOK l Dg clz tys cA flz ftz base adS GWz xyz xcz xnz xrz Ex codez bmz bpz b t) 3 46 512 codez_1858 :=
  And.intro (anz_1854 Hy) (anz_1857 Hy)
theorem anz_1859 (Hy : Hyz tys cA base adS Ex) : xall (fun b t => xOK l Dg clz tys cA flz ftz base adS GWz xyz xcz xnz xrz Ex codez bmz bpz b t) 1 302 2048 codez_1859 :=
  And.intro (okz_302 Hy) (okz_2350 Hy)
theorem anz_1860 (Hy : Hyz tys cA base adS Ex) : xall (fun b t => xOK l Dg clz tys cA flz ftz base adS GWz xyz xcz xnz xrz Ex codez bmz bpz b t) 1 1326 2048 codez_1860 :=
  And.intro (okz_1326 Hy) (okzz 3374)
theorem anz_1861 (Hy : Hyz tys cA base adS Ex) : xall (fun b t => xOK l Dg clz tys cA flz ftz base adS GWz xyz xcz xnz xrz Ex codez bmz bpz b t) 2 302 1024 codez_1861 :=
  And.intro (anz_1859 Hy) (anz_1860 Hy)
theorem anz_1862 (Hy : Hyz tys cA base adS Ex) : xall (fun b t => xOK l Dg clz tys cA flz ftz base adS GWz xyz xcz xnz xrz Ex codez bmz bpz b t) 1 814 2048 codez_1862 :=
  And.intro (okz_814 Hy) (okzz 2862)
theorem anz_1863 (Hy : Hyz tys cA base adS Ex) : xall (fun b t => xOK l Dg clz tys cA flz ftz base adS GWz xyz xcz xnz xrz Ex codez bmz bpz b t) 1 1838 2048 codez_1863 :=
  And.intro (okz_1838 Hy) (okzz 3886)
theorem anz_1864 (Hy : Hyz tys cA base adS Ex) : xall (fun b t => xOK l Dg clz tys cA flz ftz base adS GWz xyz xcz xnz xrz Ex codez bmz bpz b t) 2 814 1024 codez_1864 :=
  And.intro (anz_1862 Hy) (anz_1863 Hy)
theorem anz_1865 (Hy : Hyz tys cA base adS Ex) : xall (fun b t => xOK l Dg clz tys cA flz ftz base adS GWz xyz xcz xnz xrz Ex codez bmz bpz b t) 3 302 512 codez_1865 :=
  And.intro (anz_1861 Hy) (anz_1864 Hy)
theorem anz_1866 (Hy : Hyz tys cA base adS Ex) : xall (fun b t => xOK l Dg clz tys cA flz ftz base adS GWz xyz xcz xnz xrz Ex codez bmz bpz b t) 4 46 256 codez_1866 :=
  And.intro (anz_1858 Hy) (anz_1865 Hy)
theorem anz_1867 (Hy : Hyz tys cA base adS Ex) : xall (fun b t => xOK l Dg clz tys cA flz ftz base adS GWz xyz xcz xnz xrz Ex codez bmz bpz b t) 1 174 2048 codez_1867 :=
  And.intro (okz_174 Hy) (okz_2222 Hy)
theorem anz_1868 (Hy : Hyz tys cA base adS Ex) : xall (fun b t => xOK l Dg clz tys cA flz ftz base adS GWz xyz xcz xnz xrz Ex codez bmz bpz b t) 1 1198 2048 codez_1868 :=
  And.intro (okz_1198 Hy) (okzz 3246)
theorem anz_1869 (Hy : Hyz tys cA base adS Ex) : xall (fun b t => xOK l Dg clz tys cA flz ftz base adS GWz xyz xcz xnz xrz Ex codez bmz bpz b t) 2 174 1024 codez_1869 :=
  And.intro (anz_1867 Hy) (anz_1868 Hy)
theorem anz_1870 (Hy : Hyz tys cA base adS Ex) : xall (fun b t => xOK l Dg clz tys cA flz ftz base adS GWz xyz xcz xnz xrz Ex codez bmz bpz b t) 1 686 2048 codez_1870 :=
  And.intro (okz_686 Hy) (okzz 2734)
theorem anz_1871 (Hy : Hyz tys cA base adS Ex) : xall (fun b t => xOK l Dg clz tys cA flz ftz base adS GWz xyz xcz xnz xrz Ex codez bmz bpz b t) 1 1710 2048 codez_1871 :=
  And.intro (okz_1710 Hy) (okzz 3758)
theorem anz_1872 (Hy : Hyz tys cA base adS Ex) : xall (fun b t => xOK l Dg clz tys cA flz ftz base adS GWz xyz xcz xnz xrz Ex codez bmz bpz b t) 2 686 1024 codez_1872 :=
  And.intro (anz_1870 Hy) (anz_1871 Hy)
theorem anz_1873 (Hy : Hyz tys cA base adS Ex) : xall (fun b t => xOK l Dg clz tys cA flz ftz base adS GWz xyz xcz xnz xrz Ex codez bmz bpz b t) 3 174 512 codez_1873 :=
  And.intro (anz_1869 Hy) (anz_1872 Hy)
theorem anz_1874 (Hy : Hyz tys cA base adS Ex) : xall (fun b t => xOK l Dg clz tys cA flz ftz base adS GWz xyz xcz xnz xrz Ex codez bmz bpz b t) 1 430 2048 codez_1874 :=
  And.intro (okz_430 Hy) (okz_2478 Hy)
theorem anz_1875 (Hy : Hyz tys cA base adS Ex) : xall (fun b t => xOK l Dg clz tys cA flz ftz base adS GWz xyz xcz xnz xrz Ex codez bmz bpz b t) 1 1454 2048 codez_1875 :=
  And.intro (okz_1454 Hy) (okzz 3502)
theorem anz_1876 (Hy : Hyz tys cA base adS Ex) : xall (fun b t => xOK l Dg clz tys cA flz ftz base adS GWz xyz xcz xnz xrz Ex codez bmz bpz b t) 2 430 1024 codez_1876 :=
  And.intro (anz_1874 Hy) (anz_1875 Hy)
theorem anz_1877 (Hy : Hyz tys cA base adS Ex) : xall (fun b t => xOK l Dg clz tys cA flz ftz base adS GWz xyz xcz xnz xrz Ex codez bmz bpz b t) 1 942 2048 codez_1877 :=
  And.intro (okz_942 Hy) (okzz 2990)
theorem anz_1878 (Hy : Hyz tys cA base adS Ex) : xall (fun b t => xOK l Dg clz tys cA flz ftz base adS GWz xyz xcz xnz xrz Ex codez bmz bpz b t) 1 1966 2048 codez_1878 :=
  And.intro (okz_1966 Hy) (okzz 4014)
theorem anz_1879 (Hy : Hyz tys cA base adS Ex) : xall (fun b t => xOK l Dg clz tys cA flz ftz base adS GWz xyz xcz xnz xrz Ex codez bmz bpz b t) 2 942 1024 codez_1879 :=
  And.intro (anz_1877 Hy) (anz_1878 Hy)
theorem anz_1880 (Hy : Hyz tys cA base adS Ex) : xall (fun b t => xOK l Dg clz tys cA flz ftz base adS GWz xyz xcz xnz xrz Ex codez bmz bpz b t) 3 430 512 codez_1880 :=
  And.intro (anz_1876 Hy) (anz_1879 Hy)
theorem anz_1881 (Hy : Hyz tys cA base adS Ex) : xall (fun b t => xOK l Dg clz tys cA flz ftz base adS GWz xyz xcz xnz xrz Ex codez bmz bpz b t) 4 174 256 codez_1881 :=
  And.intro (anz_1873 Hy) (anz_1880 Hy)
theorem anz_1882 (Hy : Hyz tys cA base adS Ex) : xall (fun b t => xOK l Dg clz tys cA flz ftz base adS GWz xyz xcz xnz xrz Ex codez bmz bpz b t) 5 46 128 codez_1882 :=
  And.intro (anz_1866 Hy) (anz_1881 Hy)
theorem anz_1883 (Hy : Hyz tys cA base adS Ex) : xall (fun b t => xOK l Dg clz tys cA flz ftz base adS GWz xyz xcz xnz xrz Ex codez bmz bpz b t) 1 110 2048 codez_1883 :=
  And.intro (okz_110 Hy) (okz_2158 Hy)
theorem anz_1884 (Hy : Hyz tys cA base adS Ex) : xall (fun b t => xOK l Dg clz tys cA flz ftz base adS GWz xyz xcz xnz xrz Ex codez bmz bpz b t) 1 1134 2048 codez_1884 :=
  And.intro (okz_1134 Hy) (okzz 3182)
theorem anz_1885 (Hy : Hyz tys cA base adS Ex) : xall (fun b t => xOK l Dg clz tys cA flz ftz base adS GWz xyz xcz xnz xrz Ex codez bmz bpz b t) 2 110 1024 codez_1885 :=
  And.intro (anz_1883 Hy) (anz_1884 Hy)
theorem anz_1886 (Hy : Hyz tys cA base adS Ex) : xall (fun b t => xOK l Dg clz tys cA flz ftz base adS GWz xyz xcz xnz xrz Ex codez bmz bpz b t) 1 622 2048 codez_1886 :=
  And.intro (okz_622 Hy) (okzz 2670)
theorem anz_1887 (Hy : Hyz tys cA base adS Ex) : xall (fun b t => xOK l Dg clz tys cA flz ftz base adS GWz xyz xcz xnz xrz Ex codez bmz bpz b t) 1 1646 2048 codez_1887 :=
  And.intro (okz_1646 Hy) (okzz 3694)
theorem anz_1888 (Hy : Hyz tys cA base adS Ex) : xall (fun b t => xOK l Dg clz tys cA flz ftz base adS GWz xyz xcz xnz xrz Ex codez bmz bpz b t) 2 622 1024 codez_1888 :=
  And.intro (anz_1886 Hy) (anz_1887 Hy)
theorem anz_1889 (Hy : Hyz tys cA base adS Ex) : xall (fun b t => xOK l Dg clz tys cA flz ftz base adS GWz xyz xcz xnz xrz Ex codez bmz bpz b t) 3 110 512 codez_1889 :=
  And.intro (anz_1885 Hy) (anz_1888 Hy)
theorem anz_1890 (Hy : Hyz tys cA base adS Ex) : xall (fun b t => xOK l Dg clz tys cA flz ftz base adS GWz xyz xcz xnz xrz Ex codez bmz bpz b t) 1 366 2048 codez_1890 :=
  And.intro (okz_366 Hy) (okz_2414 Hy)
theorem anz_1891 (Hy : Hyz tys cA base adS Ex) : xall (fun b t => xOK l Dg clz tys cA flz ftz base adS GWz xyz xcz xnz xrz Ex codez bmz bpz b t) 1 1390 2048 codez_1891 :=
  And.intro (okz_1390 Hy) (okzz 3438)
theorem anz_1892 (Hy : Hyz tys cA base adS Ex) : xall (fun b t => xOK l Dg clz tys cA flz ftz base adS GWz xyz xcz xnz xrz Ex codez bmz bpz b t) 2 366 1024 codez_1892 :=
  And.intro (anz_1890 Hy) (anz_1891 Hy)
theorem anz_1893 (Hy : Hyz tys cA base adS Ex) : xall (fun b t => xOK l Dg clz tys cA flz ftz base adS GWz xyz xcz xnz xrz Ex codez bmz bpz b t) 1 878 2048 codez_1893 :=
  And.intro (okz_878 Hy) (okzz 2926)
theorem anz_1894 (Hy : Hyz tys cA base adS Ex) : xall (fun b t => xOK l Dg clz tys cA flz ftz base adS GWz xyz xcz xnz xrz Ex codez bmz bpz b t) 1 1902 2048 codez_1894 :=
  And.intro (okz_1902 Hy) (okzz 3950)
theorem anz_1895 (Hy : Hyz tys cA base adS Ex) : xall (fun b t => xOK l Dg clz tys cA flz ftz base adS GWz xyz xcz xnz xrz Ex codez bmz bpz b t) 2 878 1024 codez_1895 :=
  And.intro (anz_1893 Hy) (anz_1894 Hy)
theorem anz_1896 (Hy : Hyz tys cA base adS Ex) : xall (fun b t => xOK l Dg clz tys cA flz ftz base adS GWz xyz xcz xnz xrz Ex codez bmz bpz b t) 3 366 512 codez_1896 :=
  And.intro (anz_1892 Hy) (anz_1895 Hy)
theorem anz_1897 (Hy : Hyz tys cA base adS Ex) : xall (fun b t => xOK l Dg clz tys cA flz ftz base adS GWz xyz xcz xnz xrz Ex codez bmz bpz b t) 4 110 256 codez_1897 :=
  And.intro (anz_1889 Hy) (anz_1896 Hy)
theorem anz_1898 (Hy : Hyz tys cA base adS Ex) : xall (fun b t => xOK l Dg clz tys cA flz ftz base adS GWz xyz xcz xnz xrz Ex codez bmz bpz b t) 1 238 2048 codez_1898 :=
  And.intro (okz_238 Hy) (okz_2286 Hy)
theorem anz_1899 (Hy : Hyz tys cA base adS Ex) : xall (fun b t => xOK l Dg clz tys cA flz ftz base adS GWz xyz xcz xnz xrz Ex codez bmz bpz b t) 1 1262 2048 codez_1899 :=
  And.intro (okz_1262 Hy) (okzz 3310)
theorem anz_1900 (Hy : Hyz tys cA base adS Ex) : xall (fun b t => xOK l Dg clz tys cA flz ftz base adS GWz xyz xcz xnz xrz Ex codez bmz bpz b t) 2 238 1024 codez_1900 :=
  And.intro (anz_1898 Hy) (anz_1899 Hy)
theorem anz_1901 (Hy : Hyz tys cA base adS Ex) : xall (fun b t => xOK l Dg clz tys cA flz ftz base adS GWz xyz xcz xnz xrz Ex codez bmz bpz b t) 1 750 2048 codez_1901 :=
  And.intro (okz_750 Hy) (okzz 2798)
theorem anz_1902 (Hy : Hyz tys cA base adS Ex) : xall (fun b t => xOK l Dg clz tys cA flz ftz base adS GWz xyz xcz xnz xrz Ex codez bmz bpz b t) 1 1774 2048 codez_1902 :=
  And.intro (okz_1774 Hy) (okzz 3822)
theorem anz_1903 (Hy : Hyz tys cA base adS Ex) : xall (fun b t => xOK l Dg clz tys cA flz ftz base adS GWz xyz xcz xnz xrz Ex codez bmz bpz b t) 2 750 1024 codez_1903 :=
  And.intro (anz_1901 Hy) (anz_1902 Hy)
theorem anz_1904 (Hy : Hyz tys cA base adS Ex) : xall (fun b t => xOK l Dg clz tys cA flz ftz base adS GWz xyz xcz xnz xrz Ex codez bmz bpz b t) 3 238 512 codez_1904 :=
  And.intro (anz_1900 Hy) (anz_1903 Hy)
theorem anz_1905 (Hy : Hyz tys cA base adS Ex) : xall (fun b t => xOK l Dg clz tys cA flz ftz base adS GWz xyz xcz xnz xrz Ex codez bmz bpz b t) 1 494 2048 codez_1905 :=
  And.intro (okz_494 Hy) (okzz 2542)
theorem anz_1906 (Hy : Hyz tys cA base adS Ex) : xall (fun b t => xOK l Dg clz tys cA flz ftz base adS GWz xyz xcz xnz xrz Ex codez bmz bpz b t) 1 1518 2048 codez_1906 :=
  And.intro (okz_1518 Hy) (okzz 3566)
theorem anz_1907 (Hy : Hyz tys cA base adS Ex) : xall (fun b t => xOK l Dg clz tys cA flz ftz base adS GWz xyz xcz xnz xrz Ex codez bmz bpz b t) 2 494 1024 codez_1907 :=
  And.intro (anz_1905 Hy) (anz_1906 Hy)
theorem anz_1908 (Hy : Hyz tys cA base adS Ex) : xall (fun b t => xOK l Dg clz tys cA flz ftz base adS GWz xyz xcz xnz xrz Ex codez bmz bpz b t) 1 1006 2048 codez_1908 :=
  And.intro (okz_1006 Hy) (okzz 3054)
theorem anz_1909 (Hy : Hyz tys cA base adS Ex) : xall (fun b t => xOK l Dg clz tys cA flz ftz base adS GWz xyz xcz xnz xrz Ex codez bmz bpz b t) 1 2030 2048 codez_1909 :=
  And.intro (okz_2030 Hy) (okzz 4078)
theorem anz_1910 (Hy : Hyz tys cA base adS Ex) : xall (fun b t => xOK l Dg clz tys cA flz ftz base adS GWz xyz xcz xnz xrz Ex codez bmz bpz b t) 2 1006 1024 codez_1910 :=
  And.intro (anz_1908 Hy) (anz_1909 Hy)
theorem anz_1911 (Hy : Hyz tys cA base adS Ex) : xall (fun b t => xOK l Dg clz tys cA flz ftz base adS GWz xyz xcz xnz xrz Ex codez bmz bpz b t) 3 494 512 codez_1911 :=
  And.intro (anz_1907 Hy) (anz_1910 Hy)
theorem anz_1912 (Hy : Hyz tys cA base adS Ex) : xall (fun b t => xOK l Dg clz tys cA flz ftz base adS GWz xyz xcz xnz xrz Ex codez bmz bpz b t) 4 238 256 codez_1912 :=
  And.intro (anz_1904 Hy) (anz_1911 Hy)
theorem anz_1913 (Hy : Hyz tys cA base adS Ex) : xall (fun b t => xOK l Dg clz tys cA flz ftz base adS GWz xyz xcz xnz xrz Ex codez bmz bpz b t) 5 110 128 codez_1913 :=
  And.intro (anz_1897 Hy) (anz_1912 Hy)
theorem anz_1914 (Hy : Hyz tys cA base adS Ex) : xall (fun b t => xOK l Dg clz tys cA flz ftz base adS GWz xyz xcz xnz xrz Ex codez bmz bpz b t) 6 46 64 codez_1914 :=
  And.intro (anz_1882 Hy) (anz_1913 Hy)
theorem anz_1915 (Hy : Hyz tys cA base adS Ex) : xall (fun b t => xOK l Dg clz tys cA flz ftz base adS GWz xyz xcz xnz xrz Ex codez bmz bpz b t) 7 14 32 codez_1915 :=
  And.intro (anz_1851 Hy) (anz_1914 Hy)
theorem anz_1916 (Hy : Hyz tys cA base adS Ex) : xall (fun b t => xOK l Dg clz tys cA flz ftz base adS GWz xyz xcz xnz xrz Ex codez bmz bpz b t) 1 30 2048 codez_1916 :=
  And.intro (okz_30 Hy) (okz_2078 Hy)
theorem anz_1917 (Hy : Hyz tys cA base adS Ex) : xall (fun b t => xOK l Dg clz tys cA flz ftz base adS GWz xyz xcz xnz xrz Ex codez bmz bpz b t) 1 1054 2048 codez_1917 :=
  And.intro (okz_1054 Hy) (okzz 3102)
theorem anz_1918 (Hy : Hyz tys cA base adS Ex) : xall (fun b t => xOK l Dg clz tys cA flz ftz base adS GWz xyz xcz xnz xrz Ex codez bmz bpz b t) 2 30 1024 codez_1918 :=
  And.intro (anz_1916 Hy) (anz_1917 Hy)
theorem anz_1919 (Hy : Hyz tys cA base adS Ex) : xall (fun b t => xOK l Dg clz tys cA flz ftz base adS GWz xyz xcz xnz xrz Ex codez bmz bpz b t) 1 542 2048 codez_1919 :=
  And.intro (okz_542 Hy) (okzz 2590)
theorem anz_1920 (Hy : Hyz tys cA base adS Ex) : xall (fun b t => xOK l Dg clz tys cA flz ftz base adS GWz xyz xcz xnz xrz Ex codez bmz bpz b t) 1 1566 2048 codez_1920 :=
  And.intro (okz_1566 Hy) (okzz 3614)
theorem anz_1921 (Hy : Hyz tys cA base adS Ex) : xall (fun b t => xOK l Dg clz tys cA flz ftz base adS GWz xyz xcz xnz xrz Ex codez bmz bpz b t) 2 542 1024 codez_1921 :=
  And.intro (anz_1919 Hy) (anz_1920 Hy)
theorem anz_1922 (Hy : Hyz tys cA base adS Ex) : xall (fun b t => xOK l Dg clz tys cA flz ftz base adS GWz xyz xcz xnz xrz Ex codez bmz bpz b t) 3 30 512 codez_1922 :=
  And.intro (anz_1918 Hy) (anz_1921 Hy)
theorem anz_1923 (Hy : Hyz tys cA base adS Ex) : xall (fun b t => xOK l Dg clz tys cA flz ftz base adS GWz xyz xcz xnz xrz Ex codez bmz bpz b t) 1 286 2048 codez_1923 :=
  And.intro (okz_286 Hy) (okz_2334 Hy)
theorem anz_1924 (Hy : Hyz tys cA base adS Ex) : xall (fun b t => xOK l Dg clz tys cA flz ftz base adS GWz xyz xcz xnz xrz Ex codez bmz bpz b t) 1 1310 2048 codez_1924 :=
  And.intro (okz_1310 Hy) (okzz 3358)
theorem anz_1925 (Hy : Hyz tys cA base adS Ex) : xall (fun b t => xOK l Dg clz tys cA flz ftz base adS GWz xyz xcz xnz xrz Ex codez bmz bpz b t) 2 286 1024 codez_1925 :=
  And.intro (anz_1923 Hy) (anz_1924 Hy)
theorem anz_1926 (Hy : Hyz tys cA base adS Ex) : xall (fun b t => xOK l Dg clz tys cA flz ftz base adS GWz xyz xcz xnz xrz Ex codez bmz bpz b t) 1 798 2048 codez_1926 :=
  And.intro (okz_798 Hy) (okzz 2846)
theorem anz_1927 (Hy : Hyz tys cA base adS Ex) : xall (fun b t => xOK l Dg clz tys cA flz ftz base adS GWz xyz xcz xnz xrz Ex codez bmz bpz b t) 1 1822 2048 codez_1927 :=
  And.intro (okz_1822 Hy) (okzz 3870)
theorem anz_1928 (Hy : Hyz tys cA base adS Ex) : xall (fun b t => xOK l Dg clz tys cA flz ftz base adS GWz xyz xcz xnz xrz Ex codez bmz bpz b t) 2 798 1024 codez_1928 :=
  And.intro (anz_1926 Hy) (anz_1927 Hy)
theorem anz_1929 (Hy : Hyz tys cA base adS Ex) : xall (fun b t => xOK l Dg clz tys cA flz ftz base adS GWz xyz xcz xnz xrz Ex codez bmz bpz b t) 3 286 512 codez_1929 :=
  And.intro (anz_1925 Hy) (anz_1928 Hy)
theorem anz_1930 (Hy : Hyz tys cA base adS Ex) : xall (fun b t => xOK l Dg clz tys cA flz ftz base adS GWz xyz xcz xnz xrz Ex codez bmz bpz b t) 4 30 256 codez_1930 :=
  And.intro (anz_1922 Hy) (anz_1929 Hy)
theorem anz_1931 (Hy : Hyz tys cA base adS Ex) : xall (fun b t => xOK l Dg clz tys cA flz ftz base adS GWz xyz xcz xnz xrz Ex codez bmz bpz b t) 1 158 2048 codez_1931 :=
  And.intro (okz_158 Hy) (okz_2206 Hy)
theorem anz_1932 (Hy : Hyz tys cA base adS Ex) : xall (fun b t => xOK l Dg clz tys cA flz ftz base adS GWz xyz xcz xnz xrz Ex codez bmz bpz b t) 1 1182 2048 codez_1932 :=
  And.intro (okz_1182 Hy) (okzz 3230)
theorem anz_1933 (Hy : Hyz tys cA base adS Ex) : xall (fun b t => xOK l Dg clz tys cA flz ftz base adS GWz xyz xcz xnz xrz Ex codez bmz bpz b t) 2 158 1024 codez_1933 :=
  And.intro (anz_1931 Hy) (anz_1932 Hy)
theorem anz_1934 (Hy : Hyz tys cA base adS Ex) : xall (fun b t => xOK l Dg clz tys cA flz ftz base adS GWz xyz xcz xnz xrz Ex codez bmz bpz b t) 1 670 2048 codez_1934 :=
  And.intro (okz_670 Hy) (okzz 2718)
theorem anz_1935 (Hy : Hyz tys cA base adS Ex) : xall (fun b t => xOK l Dg clz tys cA flz ftz base adS GWz xyz xcz xnz xrz Ex codez bmz bpz b t) 1 1694 2048 codez_1935 :=
  And.intro (okz_1694 Hy) (okzz 3742)
theorem anz_1936 (Hy : Hyz tys cA base adS Ex) : xall (fun b t => xOK l Dg clz tys cA flz ftz base adS GWz xyz xcz xnz xrz Ex codez bmz bpz b t) 2 670 1024 codez_1936 :=
  And.intro (anz_1934 Hy) (anz_1935 Hy)
theorem anz_1937 (Hy : Hyz tys cA base adS Ex) : xall (fun b t => xOK l Dg clz tys cA flz ftz base adS GWz xyz xcz xnz xrz Ex codez bmz bpz b t) 3 158 512 codez_1937 :=
  And.intro (anz_1933 Hy) (anz_1936 Hy)
theorem anz_1938 (Hy : Hyz tys cA base adS Ex) : xall (fun b t => xOK l Dg clz tys cA flz ftz base adS GWz xyz xcz xnz xrz Ex codez bmz bpz b t) 1 414 2048 codez_1938 :=
  And.intro (okz_414 Hy) (okz_2462 Hy)
theorem anz_1939 (Hy : Hyz tys cA base adS Ex) : xall (fun b t => xOK l Dg clz tys cA flz ftz base adS GWz xyz xcz xnz xrz Ex codez bmz bpz b t) 1 1438 2048 codez_1939 :=
  And.intro (okz_1438 Hy) (okzz 3486)
theorem anz_1940 (Hy : Hyz tys cA base adS Ex) : xall (fun b t => xOK l Dg clz tys cA flz ftz base adS GWz xyz xcz xnz xrz Ex codez bmz bpz b t) 2 414 1024 codez_1940 :=
  And.intro (anz_1938 Hy) (anz_1939 Hy)
theorem anz_1941 (Hy : Hyz tys cA base adS Ex) : xall (fun b t => xOK l Dg clz tys cA flz ftz base adS GWz xyz xcz xnz xrz Ex codez bmz bpz b t) 1 926 2048 codez_1941 :=
  And.intro (okz_926 Hy) (okzz 2974)
theorem anz_1942 (Hy : Hyz tys cA base adS Ex) : xall (fun b t => xOK l Dg clz tys cA flz ftz base adS GWz xyz xcz xnz xrz Ex codez bmz bpz b t) 1 1950 2048 codez_1942 :=
  And.intro (okz_1950 Hy) (okzz 3998)
theorem anz_1943 (Hy : Hyz tys cA base adS Ex) : xall (fun b t => xOK l Dg clz tys cA flz ftz base adS GWz xyz xcz xnz xrz Ex codez bmz bpz b t) 2 926 1024 codez_1943 :=
  And.intro (anz_1941 Hy) (anz_1942 Hy)
theorem anz_1944 (Hy : Hyz tys cA base adS Ex) : xall (fun b t => xOK l Dg clz tys cA flz ftz base adS GWz xyz xcz xnz xrz Ex codez bmz bpz b t) 3 414 512 codez_1944 :=
  And.intro (anz_1940 Hy) (anz_1943 Hy)
theorem anz_1945 (Hy : Hyz tys cA base adS Ex) : xall (fun b t => xOK l Dg clz tys cA flz ftz base adS GWz xyz xcz xnz xrz Ex codez bmz bpz b t) 4 158 256 codez_1945 :=
  And.intro (anz_1937 Hy) (anz_1944 Hy)
theorem anz_1946 (Hy : Hyz tys cA base adS Ex) : xall (fun b t => xOK l Dg clz tys cA flz ftz base adS GWz xyz xcz xnz xrz Ex codez bmz bpz b t) 5 30 128 codez_1946 :=
  And.intro (anz_1930 Hy) (anz_1945 Hy)
theorem anz_1947 (Hy : Hyz tys cA base adS Ex) : xall (fun b t => xOK l Dg clz tys cA flz ftz base adS GWz xyz xcz xnz xrz Ex codez bmz bpz b t) 1 94 2048 codez_1947 :=
  And.intro (okz_94 Hy) (okz_2142 Hy)
theorem anz_1948 (Hy : Hyz tys cA base adS Ex) : xall (fun b t => xOK l Dg clz tys cA flz ftz base adS GWz xyz xcz xnz xrz Ex codez bmz bpz b t) 1 1118 2048 codez_1948 :=
  And.intro (okz_1118 Hy) (okzz 3166)
theorem anz_1949 (Hy : Hyz tys cA base adS Ex) : xall (fun b t => xOK l Dg clz tys cA flz ftz base adS GWz xyz xcz xnz xrz Ex codez bmz bpz b t) 2 94 1024 codez_1949 :=
  And.intro (anz_1947 Hy) (anz_1948 Hy)
theorem anz_1950 (Hy : Hyz tys cA base adS Ex) : xall (fun b t => xOK l Dg clz tys cA flz ftz base adS GWz xyz xcz xnz xrz Ex codez bmz bpz b t) 1 606 2048 codez_1950 :=
  And.intro (okz_606 Hy) (okzz 2654)
theorem anz_1951 (Hy : Hyz tys cA base adS Ex) : xall (fun b t => xOK l Dg clz tys cA flz ftz base adS GWz xyz xcz xnz xrz Ex codez bmz bpz b t) 1 1630 2048 codez_1951 :=
  And.intro (okz_1630 Hy) (okzz 3678)
theorem anz_1952 (Hy : Hyz tys cA base adS Ex) : xall (fun b t => xOK l Dg clz tys cA flz ftz base adS GWz xyz xcz xnz xrz Ex codez bmz bpz b t) 2 606 1024 codez_1952 :=
  And.intro (anz_1950 Hy) (anz_1951 Hy)
theorem anz_1953 (Hy : Hyz tys cA base adS Ex) : xall (fun b t => xOK l Dg clz tys cA flz ftz base adS GWz xyz xcz xnz xrz Ex codez bmz bpz b t) 3 94 512 codez_1953 :=
  And.intro (anz_1949 Hy) (anz_1952 Hy)
theorem anz_1954 (Hy : Hyz tys cA base adS Ex) : xall (fun b t => xOK l Dg clz tys cA flz ftz base adS GWz xyz xcz xnz xrz Ex codez bmz bpz b t) 1 350 2048 codez_1954 :=
  And.intro (okz_350 Hy) (okz_2398 Hy)
theorem anz_1955 (Hy : Hyz tys cA base adS Ex) : xall (fun b t => xOK l Dg clz tys cA flz ftz base adS GWz xyz xcz xnz xrz Ex codez bmz bpz b t) 1 1374 2048 codez_1955 :=
  And.intro (okz_1374 Hy) (okzz 3422)
theorem anz_1956 (Hy : Hyz tys cA base adS Ex) : xall (fun b t => xOK l Dg clz tys cA flz ftz base adS GWz xyz xcz xnz xrz Ex codez bmz bpz b t) 2 350 1024 codez_1956 :=
  And.intro (anz_1954 Hy) (anz_1955 Hy)
theorem anz_1957 (Hy : Hyz tys cA base adS Ex) : xall (fun b t => xOK l Dg clz tys cA flz ftz base adS GWz xyz xcz xnz xrz Ex codez bmz bpz b t) 1 862 2048 codez_1957 :=
  And.intro (okz_862 Hy) (okzz 2910)
theorem anz_1958 (Hy : Hyz tys cA base adS Ex) : xall (fun b t => xOK l Dg clz tys cA flz ftz base adS GWz xyz xcz xnz xrz Ex codez bmz bpz b t) 1 1886 2048 codez_1958 :=
  And.intro (okz_1886 Hy) (okzz 3934)
theorem anz_1959 (Hy : Hyz tys cA base adS Ex) : xall (fun b t => xOK l Dg clz tys cA flz ftz base adS GWz xyz xcz xnz xrz Ex codez bmz bpz b t) 2 862 1024 codez_1959 :=
  And.intro (anz_1957 Hy) (anz_1958 Hy)
theorem anz_1960 (Hy : Hyz tys cA base adS Ex) : xall (fun b t => xOK l Dg clz tys cA flz ftz base adS GWz xyz xcz xnz xrz Ex codez bmz bpz b t) 3 350 512 codez_1960 :=
  And.intro (anz_1956 Hy) (anz_1959 Hy)
theorem anz_1961 (Hy : Hyz tys cA base adS Ex) : xall (fun b t => xOK l Dg clz tys cA flz ftz base adS GWz xyz xcz xnz xrz Ex codez bmz bpz b t) 4 94 256 codez_1961 :=
  And.intro (anz_1953 Hy) (anz_1960 Hy)
theorem anz_1962 (Hy : Hyz tys cA base adS Ex) : xall (fun b t => xOK l Dg clz tys cA flz ftz base adS GWz xyz xcz xnz xrz Ex codez bmz bpz b t) 1 222 2048 codez_1962 :=
  And.intro (okz_222 Hy) (okz_2270 Hy)
theorem anz_1963 (Hy : Hyz tys cA base adS Ex) : xall (fun b t => xOK l Dg clz tys cA flz ftz base adS GWz xyz xcz xnz xrz Ex codez bmz bpz b t) 1 1246 2048 codez_1963 :=
  And.intro (okz_1246 Hy) (okzz 3294)
theorem anz_1964 (Hy : Hyz tys cA base adS Ex) : xall (fun b t => xOK l Dg clz tys cA flz ftz base adS GWz xyz xcz xnz xrz Ex codez bmz bpz b t) 2 222 1024 codez_1964 :=
  And.intro (anz_1962 Hy) (anz_1963 Hy)
theorem anz_1965 (Hy : Hyz tys cA base adS Ex) : xall (fun b t => xOK l Dg clz tys cA flz ftz base adS GWz xyz xcz xnz xrz Ex codez bmz bpz b t) 1 734 2048 codez_1965 :=
  And.intro (okz_734 Hy) (okzz 2782)
theorem anz_1966 (Hy : Hyz tys cA base adS Ex) : xall (fun b t => xOK l Dg clz tys cA flz ftz base adS GWz xyz xcz xnz xrz Ex codez bmz bpz b t) 1 1758 2048 codez_1966 :=
  And.intro (okz_1758 Hy) (okzz 3806)
theorem anz_1967 (Hy : Hyz tys cA base adS Ex) : xall (fun b t => xOK l Dg clz tys cA flz ftz base adS GWz xyz xcz xnz xrz Ex codez bmz bpz b t) 2 734 1024 codez_1967 :=
  And.intro (anz_1965 Hy) (anz_1966 Hy)
theorem anz_1968 (Hy : Hyz tys cA base adS Ex) : xall (fun b t => xOK l Dg clz tys cA flz ftz base adS GWz xyz xcz xnz xrz Ex codez bmz bpz b t) 3 222 512 codez_1968 :=
  And.intro (anz_1964 Hy) (anz_1967 Hy)
theorem anz_1969 (Hy : Hyz tys cA base adS Ex) : xall (fun b t => xOK l Dg clz tys cA flz ftz base adS GWz xyz xcz xnz xrz Ex codez bmz bpz b t) 1 478 2048 codez_1969 :=
  And.intro (okz_478 Hy) (okz_2526 Hy)
theorem anz_1970 (Hy : Hyz tys cA base adS Ex) : xall (fun b t => xOK l Dg clz tys cA flz ftz base adS GWz xyz xcz xnz xrz Ex codez bmz bpz b t) 1 1502 2048 codez_1970 :=
  And.intro (okz_1502 Hy) (okzz 3550)
theorem anz_1971 (Hy : Hyz tys cA base adS Ex) : xall (fun b t => xOK l Dg clz tys cA flz ftz base adS GWz xyz xcz xnz xrz Ex codez bmz bpz b t) 2 478 1024 codez_1971 :=
  And.intro (anz_1969 Hy) (anz_1970 Hy)
theorem anz_1972 (Hy : Hyz tys cA base adS Ex) : xall (fun b t => xOK l Dg clz tys cA flz ftz base adS GWz xyz xcz xnz xrz Ex codez bmz bpz b t) 1 990 2048 codez_1972 :=
  And.intro (okz_990 Hy) (okzz 3038)
theorem anz_1973 (Hy : Hyz tys cA base adS Ex) : xall (fun b t => xOK l Dg clz tys cA flz ftz base adS GWz xyz xcz xnz xrz Ex codez bmz bpz b t) 1 2014 2048 codez_1973 :=
  And.intro (okz_2014 Hy) (okzz 4062)
theorem anz_1974 (Hy : Hyz tys cA base adS Ex) : xall (fun b t => xOK l Dg clz tys cA flz ftz base adS GWz xyz xcz xnz xrz Ex codez bmz bpz b t) 2 990 1024 codez_1974 :=
  And.intro (anz_1972 Hy) (anz_1973 Hy)
theorem anz_1975 (Hy : Hyz tys cA base adS Ex) : xall (fun b t => xOK l Dg clz tys cA flz ftz base adS GWz xyz xcz xnz xrz Ex codez bmz bpz b t) 3 478 512 codez_1975 :=
  And.intro (anz_1971 Hy) (anz_1974 Hy)
theorem anz_1976 (Hy : Hyz tys cA base adS Ex) : xall (fun b t => xOK l Dg clz tys cA flz ftz base adS GWz xyz xcz xnz xrz Ex codez bmz bpz b t) 4 222 256 codez_1976 :=
  And.intro (anz_1968 Hy) (anz_1975 Hy)
theorem anz_1977 (Hy : Hyz tys cA base adS Ex) : xall (fun b t => xOK l Dg clz tys cA flz ftz base adS GWz xyz xcz xnz xrz Ex codez bmz bpz b t) 5 94 128 codez_1977 :=
  And.intro (anz_1961 Hy) (anz_1976 Hy)
theorem anz_1978 (Hy : Hyz tys cA base adS Ex) : xall (fun b t => xOK l Dg clz tys cA flz ftz base adS GWz xyz xcz xnz xrz Ex codez bmz bpz b t) 6 30 64 codez_1978 :=
  And.intro (anz_1946 Hy) (anz_1977 Hy)
theorem anz_1979 (Hy : Hyz tys cA base adS Ex) : xall (fun b t => xOK l Dg clz tys cA flz ftz base adS GWz xyz xcz xnz xrz Ex codez bmz bpz b t) 1 62 2048 codez_1979 :=
  And.intro (okz_62 Hy) (okz_2110 Hy)
theorem anz_1980 (Hy : Hyz tys cA base adS Ex) : xall (fun b t => xOK l Dg clz tys cA flz ftz base adS GWz xyz xcz xnz xrz Ex codez bmz bpz b t) 1 1086 2048 codez_1980 :=
  And.intro (okz_1086 Hy) (okzz 3134)
theorem anz_1981 (Hy : Hyz tys cA base adS Ex) : xall (fun b t => xOK l Dg clz tys cA flz ftz base adS GWz xyz xcz xnz xrz Ex codez bmz bpz b t) 2 62 1024 codez_1981 :=
  And.intro (anz_1979 Hy) (anz_1980 Hy)
theorem anz_1982 (Hy : Hyz tys cA base adS Ex) : xall (fun b t => xOK l Dg clz tys cA flz ftz base adS GWz xyz xcz xnz xrz Ex codez bmz bpz b t) 1 574 2048 codez_1982 :=
  And.intro (okz_574 Hy) (okzz 2622)
theorem anz_1983 (Hy : Hyz tys cA base adS Ex) : xall (fun b t => xOK l Dg clz tys cA flz ftz base adS GWz xyz xcz xnz xrz Ex codez bmz bpz b t) 1 1598 2048 codez_1983 :=
  And.intro (okz_1598 Hy) (okzz 3646)
theorem anz_1984 (Hy : Hyz tys cA base adS Ex) : xall (fun b t => xOK l Dg clz tys cA flz ftz base adS GWz xyz xcz xnz xrz Ex codez bmz bpz b t) 2 574 1024 codez_1984 :=
  And.intro (anz_1982 Hy) (anz_1983 Hy)
theorem anz_1985 (Hy : Hyz tys cA base adS Ex) : xall (fun b t => xOK l Dg clz tys cA flz ftz base adS GWz xyz xcz xnz xrz Ex codez bmz bpz b t) 3 62 512 codez_1985 :=
  And.intro (anz_1981 Hy) (anz_1984 Hy)
theorem anz_1986 (Hy : Hyz tys cA base adS Ex) : xall (fun b t => xOK l Dg clz tys cA flz ftz base adS GWz xyz xcz xnz xrz Ex codez bmz bpz b t) 1 318 2048 codez_1986 :=
  And.intro (okz_318 Hy) (okz_2366 Hy)
theorem anz_1987 (Hy : Hyz tys cA base adS Ex) : xall (fun b t => xOK l Dg clz tys cA flz ftz base adS GWz xyz xcz xnz xrz Ex codez bmz bpz b t) 1 1342 2048 codez_1987 :=
  And.intro (okz_1342 Hy) (okzz 3390)
theorem anz_1988 (Hy : Hyz tys cA base adS Ex) : xall (fun b t => xOK l Dg clz tys cA flz ftz base adS GWz xyz xcz xnz xrz Ex codez bmz bpz b t) 2 318 1024 codez_1988 :=
  And.intro (anz_1986 Hy) (anz_1987 Hy)
theorem anz_1989 (Hy : Hyz tys cA base adS Ex) : xall (fun b t => xOK l Dg clz tys cA flz ftz base adS GWz xyz xcz xnz xrz Ex codez bmz bpz b t) 1 830 2048 codez_1989 :=
  And.intro (okz_830 Hy) (okzz 2878)
theorem anz_1990 (Hy : Hyz tys cA base adS Ex) : xall (fun b t => xOK l Dg clz tys cA flz ftz base adS GWz xyz xcz xnz xrz Ex codez bmz bpz b t) 1 1854 2048 codez_1990 :=
  And.intro (okz_1854 Hy) (okzz 3902)
theorem anz_1991 (Hy : Hyz tys cA base adS Ex) : xall (fun b t => xOK l Dg clz tys cA flz ftz base adS GWz xyz xcz xnz xrz Ex codez bmz bpz b t) 2 830 1024 codez_1991 :=
  And.intro (anz_1989 Hy) (anz_1990 Hy)
theorem anz_1992 (Hy : Hyz tys cA base adS Ex) : xall (fun b t => xOK l Dg clz tys cA flz ftz base adS GWz xyz xcz xnz xrz Ex codez bmz bpz b t) 3 318 512 codez_1992 :=
  And.intro (anz_1988 Hy) (anz_1991 Hy)
theorem anz_1993 (Hy : Hyz tys cA base adS Ex) : xall (fun b t => xOK l Dg clz tys cA flz ftz base adS GWz xyz xcz xnz xrz Ex codez bmz bpz b t) 4 62 256 codez_1993 :=
  And.intro (anz_1985 Hy) (anz_1992 Hy)
theorem anz_1994 (Hy : Hyz tys cA base adS Ex) : xall (fun b t => xOK l Dg clz tys cA flz ftz base adS GWz xyz xcz xnz xrz Ex codez bmz bpz b t) 1 190 2048 codez_1994 :=
  And.intro (okz_190 Hy) (okz_2238 Hy)
theorem anz_1995 (Hy : Hyz tys cA base adS Ex) : xall (fun b t => xOK l Dg clz tys cA flz ftz base adS GWz xyz xcz xnz xrz Ex codez bmz bpz b t) 1 1214 2048 codez_1995 :=
  And.intro (okz_1214 Hy) (okzz 3262)
theorem anz_1996 (Hy : Hyz tys cA base adS Ex) : xall (fun b t => xOK l Dg clz tys cA flz ftz base adS GWz xyz xcz xnz xrz Ex codez bmz bpz b t) 2 190 1024 codez_1996 :=
  And.intro (anz_1994 Hy) (anz_1995 Hy)
theorem anz_1997 (Hy : Hyz tys cA base adS Ex) : xall (fun b t => xOK l Dg clz tys cA flz ftz base adS GWz xyz xcz xnz xrz Ex codez bmz bpz b t) 1 702 2048 codez_1997 :=
  And.intro (okz_702 Hy) (okzz 2750)
theorem anz_1998 (Hy : Hyz tys cA base adS Ex) : xall (fun b t => xOK l Dg clz tys cA flz ftz base adS GWz xyz xcz xnz xrz Ex codez bmz bpz b t) 1 1726 2048 codez_1998 :=
  And.intro (okz_1726 Hy) (okzz 3774)
theorem anz_1999 (Hy : Hyz tys cA base adS Ex) : xall (fun b t => xOK l Dg clz tys cA flz ftz base adS GWz xyz xcz xnz xrz Ex codez bmz bpz b t) 2 702 1024 codez_1999 :=
  And.intro (anz_1997 Hy) (anz_1998 Hy)
theorem anz_2000 (Hy : Hyz tys cA base adS Ex) : xall (fun b t => xOK l Dg clz tys cA flz ftz base adS GWz xyz xcz xnz xrz Ex codez bmz bpz b t) 3 190 512 codez_2000 :=
  And.intro (anz_1996 Hy) (anz_1999 Hy)
theorem anz_2001 (Hy : Hyz tys cA base adS Ex) : xall (fun b t => xOK l Dg clz tys cA flz ftz base adS GWz xyz xcz xnz xrz Ex codez bmz bpz b t) 1 446 2048 codez_2001 :=
  And.intro (okz_446 Hy) (okz_2494 Hy)
theorem anz_2002 (Hy : Hyz tys cA base adS Ex) : xall (fun b t => xOK l Dg clz tys cA flz ftz base adS GWz xyz xcz xnz xrz Ex codez bmz bpz b t) 1 1470 2048 codez_2002 :=
  And.intro (okz_1470 Hy) (okzz 3518)
theorem anz_2003 (Hy : Hyz tys cA base adS Ex) : xall (fun b t => xOK l Dg clz tys cA flz ftz base adS GWz xyz xcz xnz xrz Ex codez bmz bpz b t) 2 446 1024 codez_2003 :=
  And.intro (anz_2001 Hy) (anz_2002 Hy)
theorem anz_2004 (Hy : Hyz tys cA base adS Ex) : xall (fun b t => xOK l Dg clz tys cA flz ftz base adS GWz xyz xcz xnz xrz Ex codez bmz bpz b t) 1 958 2048 codez_2004 :=
  And.intro (okz_958 Hy) (okzz 3006)
theorem anz_2005 (Hy : Hyz tys cA base adS Ex) : xall (fun b t => xOK l Dg clz tys cA flz ftz base adS GWz xyz xcz xnz xrz Ex codez bmz bpz b t) 1 1982 2048 codez_2005 :=
  And.intro (okz_1982 Hy) (okzz 4030)
theorem anz_2006 (Hy : Hyz tys cA base adS Ex) : xall (fun b t => xOK l Dg clz tys cA flz ftz base adS GWz xyz xcz xnz xrz Ex codez bmz bpz b t) 2 958 1024 codez_2006 :=
  And.intro (anz_2004 Hy) (anz_2005 Hy)
theorem anz_2007 (Hy : Hyz tys cA base adS Ex) : xall (fun b t => xOK l Dg clz tys cA flz ftz base adS GWz xyz xcz xnz xrz Ex codez bmz bpz b t) 3 446 512 codez_2007 :=
  And.intro (anz_2003 Hy) (anz_2006 Hy)
theorem anz_2008 (Hy : Hyz tys cA base adS Ex) : xall (fun b t => xOK l Dg clz tys cA flz ftz base adS GWz xyz xcz xnz xrz Ex codez bmz bpz b t) 4 190 256 codez_2008 :=
  And.intro (anz_2000 Hy) (anz_2007 Hy)
theorem anz_2009 (Hy : Hyz tys cA base adS Ex) : xall (fun b t => xOK l Dg clz tys cA flz ftz base adS GWz xyz xcz xnz xrz Ex codez bmz bpz b t) 5 62 128 codez_2009 :=
  And.intro (anz_1993 Hy) (anz_2008 Hy)
theorem anz_2010 (Hy : Hyz tys cA base adS Ex) : xall (fun b t => xOK l Dg clz tys cA flz ftz base adS GWz xyz xcz xnz xrz Ex codez bmz bpz b t) 1 126 2048 codez_2010 :=
  And.intro (okz_126 Hy) (okz_2174 Hy)
theorem anz_2011 (Hy : Hyz tys cA base adS Ex) : xall (fun b t => xOK l Dg clz tys cA flz ftz base adS GWz xyz xcz xnz xrz Ex codez bmz bpz b t) 1 1150 2048 codez_2011 :=
  And.intro (okz_1150 Hy) (okzz 3198)
theorem anz_2012 (Hy : Hyz tys cA base adS Ex) : xall (fun b t => xOK l Dg clz tys cA flz ftz base adS GWz xyz xcz xnz xrz Ex codez bmz bpz b t) 2 126 1024 codez_2012 :=
  And.intro (anz_2010 Hy) (anz_2011 Hy)
theorem anz_2013 (Hy : Hyz tys cA base adS Ex) : xall (fun b t => xOK l Dg clz tys cA flz ftz base adS GWz xyz xcz xnz xrz Ex codez bmz bpz b t) 1 638 2048 codez_2013 :=
  And.intro (okz_638 Hy) (okzz 2686)
theorem anz_2014 (Hy : Hyz tys cA base adS Ex) : xall (fun b t => xOK l Dg clz tys cA flz ftz base adS GWz xyz xcz xnz xrz Ex codez bmz bpz b t) 1 1662 2048 codez_2014 :=
  And.intro (okz_1662 Hy) (okzz 3710)
theorem anz_2015 (Hy : Hyz tys cA base adS Ex) : xall (fun b t => xOK l Dg clz tys cA flz ftz base adS GWz xyz xcz xnz xrz Ex codez bmz bpz b t) 2 638 1024 codez_2015 :=
  And.intro (anz_2013 Hy) (anz_2014 Hy)
theorem anz_2016 (Hy : Hyz tys cA base adS Ex) : xall (fun b t => xOK l Dg clz tys cA flz ftz base adS GWz xyz xcz xnz xrz Ex codez bmz bpz b t) 3 126 512 codez_2016 :=
  And.intro (anz_2012 Hy) (anz_2015 Hy)
theorem anz_2017 (Hy : Hyz tys cA base adS Ex) : xall (fun b t => xOK l Dg clz tys cA flz ftz base adS GWz xyz xcz xnz xrz Ex codez bmz bpz b t) 1 382 2048 codez_2017 :=
  And.intro (okz_382 Hy) (okz_2430 Hy)
theorem anz_2018 (Hy : Hyz tys cA base adS Ex) : xall (fun b t => xOK l Dg clz tys cA flz ftz base adS GWz xyz xcz xnz xrz Ex codez bmz bpz b t) 1 1406 2048 codez_2018 :=
  And.intro (okz_1406 Hy) (okzz 3454)
theorem anz_2019 (Hy : Hyz tys cA base adS Ex) : xall (fun b t => xOK l Dg clz tys cA flz ftz base adS GWz xyz xcz xnz xrz Ex codez bmz bpz b t) 2 382 1024 codez_2019 :=
  And.intro (anz_2017 Hy) (anz_2018 Hy)
theorem anz_2020 (Hy : Hyz tys cA base adS Ex) : xall (fun b t => xOK l Dg clz tys cA flz ftz base adS GWz xyz xcz xnz xrz Ex codez bmz bpz b t) 1 894 2048 codez_2020 :=
  And.intro (okz_894 Hy) (okzz 2942)
theorem anz_2021 (Hy : Hyz tys cA base adS Ex) : xall (fun b t => xOK l Dg clz tys cA flz ftz base adS GWz xyz xcz xnz xrz Ex codez bmz bpz b t) 1 1918 2048 codez_2021 :=
  And.intro (okz_1918 Hy) (okzz 3966)
theorem anz_2022 (Hy : Hyz tys cA base adS Ex) : xall (fun b t => xOK l Dg clz tys cA flz ftz base adS GWz xyz xcz xnz xrz Ex codez bmz bpz b t) 2 894 1024 codez_2022 :=
  And.intro (anz_2020 Hy) (anz_2021 Hy)
theorem anz_2023 (Hy : Hyz tys cA base adS Ex) : xall (fun b t => xOK l Dg clz tys cA flz ftz base adS GWz xyz xcz xnz xrz Ex codez bmz bpz b t) 3 382 512 codez_2023 :=
  And.intro (anz_2019 Hy) (anz_2022 Hy)
theorem anz_2024 (Hy : Hyz tys cA base adS Ex) : xall (fun b t => xOK l Dg clz tys cA flz ftz base adS GWz xyz xcz xnz xrz Ex codez bmz bpz b t) 4 126 256 codez_2024 :=
  And.intro (anz_2016 Hy) (anz_2023 Hy)
theorem anz_2025 (Hy : Hyz tys cA base adS Ex) : xall (fun b t => xOK l Dg clz tys cA flz ftz base adS GWz xyz xcz xnz xrz Ex codez bmz bpz b t) 1 254 2048 codez_2025 :=
  And.intro (okz_254 Hy) (okz_2302 Hy)
theorem anz_2026 (Hy : Hyz tys cA base adS Ex) : xall (fun b t => xOK l Dg clz tys cA flz ftz base adS GWz xyz xcz xnz xrz Ex codez bmz bpz b t) 1 1278 2048 codez_2026 :=
  And.intro (okz_1278 Hy) (okzz 3326)
theorem anz_2027 (Hy : Hyz tys cA base adS Ex) : xall (fun b t => xOK l Dg clz tys cA flz ftz base adS GWz xyz xcz xnz xrz Ex codez bmz bpz b t) 2 254 1024 codez_2027 :=
  And.intro (anz_2025 Hy) (anz_2026 Hy)
theorem anz_2028 (Hy : Hyz tys cA base adS Ex) : xall (fun b t => xOK l Dg clz tys cA flz ftz base adS GWz xyz xcz xnz xrz Ex codez bmz bpz b t) 1 766 2048 codez_2028 :=
  And.intro (okz_766 Hy) (okzz 2814)
theorem anz_2029 (Hy : Hyz tys cA base adS Ex) : xall (fun b t => xOK l Dg clz tys cA flz ftz base adS GWz xyz xcz xnz xrz Ex codez bmz bpz b t) 1 1790 2048 codez_2029 :=
  And.intro (okz_1790 Hy) (okzz 3838)
theorem anz_2030 (Hy : Hyz tys cA base adS Ex) : xall (fun b t => xOK l Dg clz tys cA flz ftz base adS GWz xyz xcz xnz xrz Ex codez bmz bpz b t) 2 766 1024 codez_2030 :=
  And.intro (anz_2028 Hy) (anz_2029 Hy)
theorem anz_2031 (Hy : Hyz tys cA base adS Ex) : xall (fun b t => xOK l Dg clz tys cA flz ftz base adS GWz xyz xcz xnz xrz Ex codez bmz bpz b t) 3 254 512 codez_2031 :=
  And.intro (anz_2027 Hy) (anz_2030 Hy)
theorem anz_2032 (Hy : Hyz tys cA base adS Ex) : xall (fun b t => xOK l Dg clz tys cA flz ftz base adS GWz xyz xcz xnz xrz Ex codez bmz bpz b t) 1 510 2048 codez_2032 :=
  And.intro (okz_510 Hy) (okzz 2558)
theorem anz_2033 (Hy : Hyz tys cA base adS Ex) : xall (fun b t => xOK l Dg clz tys cA flz ftz base adS GWz xyz xcz xnz xrz Ex codez bmz bpz b t) 1 1534 2048 codez_2033 :=
  And.intro (okz_1534 Hy) (okzz 3582)
theorem anz_2034 (Hy : Hyz tys cA base adS Ex) : xall (fun b t => xOK l Dg clz tys cA flz ftz base adS GWz xyz xcz xnz xrz Ex codez bmz bpz b t) 2 510 1024 codez_2034 :=
  And.intro (anz_2032 Hy) (anz_2033 Hy)
theorem anz_2035 (Hy : Hyz tys cA base adS Ex) : xall (fun b t => xOK l Dg clz tys cA flz ftz base adS GWz xyz xcz xnz xrz Ex codez bmz bpz b t) 1 1022 2048 codez_2035 :=
  And.intro (okz_1022 Hy) (okzz 3070)
theorem anz_2036 (Hy : Hyz tys cA base adS Ex) : xall (fun b t => xOK l Dg clz tys cA flz ftz base adS GWz xyz xcz xnz xrz Ex codez bmz bpz b t) 1 2046 2048 codez_2036 :=
  And.intro (okz_2046 Hy) (okzz 4094)
theorem anz_2037 (Hy : Hyz tys cA base adS Ex) : xall (fun b t => xOK l Dg clz tys cA flz ftz base adS GWz xyz xcz xnz xrz Ex codez bmz bpz b t) 2 1022 1024 codez_2037 :=
  And.intro (anz_2035 Hy) (anz_2036 Hy)
theorem anz_2038 (Hy : Hyz tys cA base adS Ex) : xall (fun b t => xOK l Dg clz tys cA flz ftz base adS GWz xyz xcz xnz xrz Ex codez bmz bpz b t) 3 510 512 codez_2038 :=
  And.intro (anz_2034 Hy) (anz_2037 Hy)
theorem anz_2039 (Hy : Hyz tys cA base adS Ex) : xall (fun b t => xOK l Dg clz tys cA flz ftz base adS GWz xyz xcz xnz xrz Ex codez bmz bpz b t) 4 254 256 codez_2039 :=
  And.intro (anz_2031 Hy) (anz_2038 Hy)
theorem anz_2040 (Hy : Hyz tys cA base adS Ex) : xall (fun b t => xOK l Dg clz tys cA flz ftz base adS GWz xyz xcz xnz xrz Ex codez bmz bpz b t) 5 126 128 codez_2040 :=
  And.intro (anz_2024 Hy) (anz_2039 Hy)
theorem anz_2041 (Hy : Hyz tys cA base adS Ex) : xall (fun b t => xOK l Dg clz tys cA flz ftz base adS GWz xyz xcz xnz xrz Ex codez bmz bpz b t) 6 62 64 codez_2041 :=
  And.intro (anz_2009 Hy) (anz_2040 Hy)
theorem anz_2042 (Hy : Hyz tys cA base adS Ex) : xall (fun b t => xOK l Dg clz tys cA flz ftz base adS GWz xyz xcz xnz xrz Ex codez bmz bpz b t) 7 30 32 codez_2042 :=
  And.intro (anz_1978 Hy) (anz_2041 Hy)
theorem anz_2043 (Hy : Hyz tys cA base adS Ex) : xall (fun b t => xOK l Dg clz tys cA flz ftz base adS GWz xyz xcz xnz xrz Ex codez bmz bpz b t) 8 14 16 codez_2043 :=
  And.intro (anz_1915 Hy) (anz_2042 Hy)
theorem anz_2044 (Hy : Hyz tys cA base adS Ex) : xall (fun b t => xOK l Dg clz tys cA flz ftz base adS GWz xyz xcz xnz xrz Ex codez bmz bpz b t) 9 6 8 codez_2044 :=
  And.intro (anz_1788 Hy) (anz_2043 Hy)
theorem anz_2045 (Hy : Hyz tys cA base adS Ex) : xall (fun b t => xOK l Dg clz tys cA flz ftz base adS GWz xyz xcz xnz xrz Ex codez bmz bpz b t) 10 2 4 codez_2045 :=
  And.intro (anz_1533 Hy) (anz_2044 Hy)
theorem anz_2046 (Hy : Hyz tys cA base adS Ex) : xall (fun b t => xOK l Dg clz tys cA flz ftz base adS GWz xyz xcz xnz xrz Ex codez bmz bpz b t) 11 0 2 codez_2046 :=
  And.intro (anz_1022 Hy) (anz_2045 Hy)
theorem anz_2047 (Hy : Hyz tys cA base adS Ex) : xall (fun b t => xOK l Dg clz tys cA flz ftz base adS GWz xyz xcz xnz xrz Ex codez bmz bpz b t) 1 1 2048 codez_2047 :=
  And.intro (okz_1 Hy) (okz_2049 Hy)
theorem anz_2048 (Hy : Hyz tys cA base adS Ex) : xall (fun b t => xOK l Dg clz tys cA flz ftz base adS GWz xyz xcz xnz xrz Ex codez bmz bpz b t) 1 1025 2048 codez_2048 :=
  And.intro (okz_1025 Hy) (okzz 3073)
theorem anz_2049 (Hy : Hyz tys cA base adS Ex) : xall (fun b t => xOK l Dg clz tys cA flz ftz base adS GWz xyz xcz xnz xrz Ex codez bmz bpz b t) 2 1 1024 codez_2049 :=
  And.intro (anz_2047 Hy) (anz_2048 Hy)
theorem anz_2050 (Hy : Hyz tys cA base adS Ex) : xall (fun b t => xOK l Dg clz tys cA flz ftz base adS GWz xyz xcz xnz xrz Ex codez bmz bpz b t) 1 513 2048 codez_2050 :=
  And.intro (okz_513 Hy) (okzz 2561)
theorem anz_2051 (Hy : Hyz tys cA base adS Ex) : xall (fun b t => xOK l Dg clz tys cA flz ftz base adS GWz xyz xcz xnz xrz Ex codez bmz bpz b t) 1 1537 2048 codez_2051 :=
  And.intro (okz_1537 Hy) (okzz 3585)
theorem anz_2052 (Hy : Hyz tys cA base adS Ex) : xall (fun b t => xOK l Dg clz tys cA flz ftz base adS GWz xyz xcz xnz xrz Ex codez bmz bpz b t) 2 513 1024 codez_2052 :=
  And.intro (anz_2050 Hy) (anz_2051 Hy)
theorem anz_2053 (Hy : Hyz tys cA base adS Ex) : xall (fun b t => xOK l Dg clz tys cA flz ftz base adS GWz xyz xcz xnz xrz Ex codez bmz bpz b t) 3 1 512 codez_2053 :=
  And.intro (anz_2049 Hy) (anz_2052 Hy)
theorem anz_2054 (Hy : Hyz tys cA base adS Ex) : xall (fun b t => xOK l Dg clz tys cA flz ftz base adS GWz xyz xcz xnz xrz Ex codez bmz bpz b t) 1 257 2048 codez_2054 :=
  And.intro (okz_257 Hy) (okz_2305 Hy)
theorem anz_2055 (Hy : Hyz tys cA base adS Ex) : xall (fun b t => xOK l Dg clz tys cA flz ftz base adS GWz xyz xcz xnz xrz Ex codez bmz bpz b t) 1 1281 2048 codez_2055 :=
  And.intro (okz_1281 Hy) (okzz 3329)
theorem anz_2056 (Hy : Hyz tys cA base adS Ex) : xall (fun b t => xOK l Dg clz tys cA flz ftz base adS GWz xyz xcz xnz xrz Ex codez bmz bpz b t) 2 257 1024 codez_2056 :=
  And.intro (anz_2054 Hy) (anz_2055 Hy)
theorem anz_2057 (Hy : Hyz tys cA base adS Ex) : xall (fun b t => xOK l Dg clz tys cA flz ftz base adS GWz xyz xcz xnz xrz Ex codez bmz bpz b t) 1 769 2048 codez_2057 :=
  And.intro (okz_769 Hy) (okzz 2817)
theorem anz_2058 (Hy : Hyz tys cA base adS Ex) : xall (fun b t => xOK l Dg clz tys cA flz ftz base adS GWz xyz xcz xnz xrz Ex codez bmz bpz b t) 1 1793 2048 codez_2058 :=
  And.intro (okz_1793 Hy) (okzz 3841)
theorem anz_2059 (Hy : Hyz tys cA base adS Ex) : xall (fun b t => xOK l Dg clz tys cA flz ftz base adS GWz xyz xcz xnz xrz Ex codez bmz bpz b t) 2 769 1024 codez_2059 :=
  And.intro (anz_2057 Hy) (anz_2058 Hy)
theorem anz_2060 (Hy : Hyz tys cA base adS Ex) : xall (fun b t => xOK l Dg clz tys cA flz ftz base adS GWz xyz xcz xnz xrz Ex codez bmz bpz b t) 3 257 512 codez_2060 :=
  And.intro (anz_2056 Hy) (anz_2059 Hy)
theorem anz_2061 (Hy : Hyz tys cA base adS Ex) : xall (fun b t => xOK l Dg clz tys cA flz ftz base adS GWz xyz xcz xnz xrz Ex codez bmz bpz b t) 4 1 256 codez_2061 :=
  And.intro (anz_2053 Hy) (anz_2060 Hy)
theorem anz_2062 (Hy : Hyz tys cA base adS Ex) : xall (fun b t => xOK l Dg clz tys cA flz ftz base adS GWz xyz xcz xnz xrz Ex codez bmz bpz b t) 1 129 2048 codez_2062 :=
  And.intro (okz_129 Hy) (okz_2177 Hy)
theorem anz_2063 (Hy : Hyz tys cA base adS Ex) : xall (fun b t => xOK l Dg clz tys cA flz ftz base adS GWz xyz xcz xnz xrz Ex codez bmz bpz b t) 1 1153 2048 codez_2063 :=
  And.intro (okz_1153 Hy) (okzz 3201)
theorem anz_2064 (Hy : Hyz tys cA base adS Ex) : xall (fun b t => xOK l Dg clz tys cA flz ftz base adS GWz xyz xcz xnz xrz Ex codez bmz bpz b t) 2 129 1024 codez_2064 :=
  And.intro (anz_2062 Hy) (anz_2063 Hy)
theorem anz_2065 (Hy : Hyz tys cA base adS Ex) : xall (fun b t => xOK l Dg clz tys cA flz ftz base adS GWz xyz xcz xnz xrz Ex codez bmz bpz b t) 1 641 2048 codez_2065 :=
  And.intro (okz_641 Hy) (okzz 2689)
theorem anz_2066 (Hy : Hyz tys cA base adS Ex) : xall (fun b t => xOK l Dg clz tys cA flz ftz base adS GWz xyz xcz xnz xrz Ex codez bmz bpz b t) 1 1665 2048 codez_2066 :=
  And.intro (okz_1665 Hy) (okzz 3713)
theorem anz_2067 (Hy : Hyz tys cA base adS Ex) : xall (fun b t => xOK l Dg clz tys cA flz ftz base adS GWz xyz xcz xnz xrz Ex codez bmz bpz b t) 2 641 1024 codez_2067 :=
  And.intro (anz_2065 Hy) (anz_2066 Hy)
theorem anz_2068 (Hy : Hyz tys cA base adS Ex) : xall (fun b t => xOK l Dg clz tys cA flz ftz base adS GWz xyz xcz xnz xrz Ex codez bmz bpz b t) 3 129 512 codez_2068 :=
  And.intro (anz_2064 Hy) (anz_2067 Hy)
theorem anz_2069 (Hy : Hyz tys cA base adS Ex) : xall (fun b t => xOK l Dg clz tys cA flz ftz base adS GWz xyz xcz xnz xrz Ex codez bmz bpz b t) 1 385 2048 codez_2069 :=
  And.intro (okz_385 Hy) (okz_2433 Hy)
theorem anz_2070 (Hy : Hyz tys cA base adS Ex) : xall (fun b t => xOK l Dg clz tys cA flz ftz base adS GWz xyz xcz xnz xrz Ex codez bmz bpz b t) 1 1409 2048 codez_2070 :=
  And.intro (okz_1409 Hy) (okzz 3457)
theorem anz_2071 (Hy : Hyz tys cA base adS Ex) : xall (fun b t => xOK l Dg clz tys cA flz ftz base adS GWz xyz xcz xnz xrz Ex codez bmz bpz b t) 2 385 1024 codez_2071 :=
  And.intro (anz_2069 Hy) (anz_2070 Hy)
theorem anz_2072 (Hy : Hyz tys cA base adS Ex) : xall (fun b t => xOK l Dg clz tys cA flz ftz base adS GWz xyz xcz xnz xrz Ex codez bmz bpz b t) 1 897 2048 codez_2072 :=
  And.intro (okz_897 Hy) (okzz 2945)
theorem anz_2073 (Hy : Hyz tys cA base adS Ex) : xall (fun b t => xOK l Dg clz tys cA flz ftz base adS GWz xyz xcz xnz xrz Ex codez bmz bpz b t) 1 1921 2048 codez_2073 :=
  And.intro (okz_1921 Hy) (okzz 3969)
theorem anz_2074 (Hy : Hyz tys cA base adS Ex) : xall (fun b t => xOK l Dg clz tys cA flz ftz base adS GWz xyz xcz xnz xrz Ex codez bmz bpz b t) 2 897 1024 codez_2074 :=
  And.intro (anz_2072 Hy) (anz_2073 Hy)
theorem anz_2075 (Hy : Hyz tys cA base adS Ex) : xall (fun b t => xOK l Dg clz tys cA flz ftz base adS GWz xyz xcz xnz xrz Ex codez bmz bpz b t) 3 385 512 codez_2075 :=
  And.intro (anz_2071 Hy) (anz_2074 Hy)
theorem anz_2076 (Hy : Hyz tys cA base adS Ex) : xall (fun b t => xOK l Dg clz tys cA flz ftz base adS GWz xyz xcz xnz xrz Ex codez bmz bpz b t) 4 129 256 codez_2076 :=
  And.intro (anz_2068 Hy) (anz_2075 Hy)
theorem anz_2077 (Hy : Hyz tys cA base adS Ex) : xall (fun b t => xOK l Dg clz tys cA flz ftz base adS GWz xyz xcz xnz xrz Ex codez bmz bpz b t) 5 1 128 codez_2077 :=
  And.intro (anz_2061 Hy) (anz_2076 Hy)
theorem anz_2078 (Hy : Hyz tys cA base adS Ex) : xall (fun b t => xOK l Dg clz tys cA flz ftz base adS GWz xyz xcz xnz xrz Ex codez bmz bpz b t) 1 65 2048 codez_2078 :=
  And.intro (okz_65 Hy) (okz_2113 Hy)
theorem anz_2079 (Hy : Hyz tys cA base adS Ex) : xall (fun b t => xOK l Dg clz tys cA flz ftz base adS GWz xyz xcz xnz xrz Ex codez bmz bpz b t) 1 1089 2048 codez_2079 :=
  And.intro (okz_1089 Hy) (okzz 3137)
theorem anz_2080 (Hy : Hyz tys cA base adS Ex) : xall (fun b t => xOK l Dg clz tys cA flz ftz base adS GWz xyz xcz xnz xrz Ex codez bmz bpz b t) 2 65 1024 codez_2080 :=
  And.intro (anz_2078 Hy) (anz_2079 Hy)
theorem anz_2081 (Hy : Hyz tys cA base adS Ex) : xall (fun b t => xOK l Dg clz tys cA flz ftz base adS GWz xyz xcz xnz xrz Ex codez bmz bpz b t) 1 577 2048 codez_2081 :=
  And.intro (okz_577 Hy) (okzz 2625)
theorem anz_2082 (Hy : Hyz tys cA base adS Ex) : xall (fun b t => xOK l Dg clz tys cA flz ftz base adS GWz xyz xcz xnz xrz Ex codez bmz bpz b t) 1 1601 2048 codez_2082 :=
  And.intro (okz_1601 Hy) (okzz 3649)
theorem anz_2083 (Hy : Hyz tys cA base adS Ex) : xall (fun b t => xOK l Dg clz tys cA flz ftz base adS GWz xyz xcz xnz xrz Ex codez bmz bpz b t) 2 577 1024 codez_2083 :=
  And.intro (anz_2081 Hy) (anz_2082 Hy)
theorem anz_2084 (Hy : Hyz tys cA base adS Ex) : xall (fun b t => xOK l Dg clz tys cA flz ftz base adS GWz xyz xcz xnz xrz Ex codez bmz bpz b t) 3 65 512 codez_2084 :=
  And.intro (anz_2080 Hy) (anz_2083 Hy)
theorem anz_2085 (Hy : Hyz tys cA base adS Ex) : xall (fun b t => xOK l Dg clz tys cA flz ftz base adS GWz xyz xcz xnz xrz Ex codez bmz bpz b t) 1 321 2048 codez_2085 :=
  And.intro (okz_321 Hy) (okz_2369 Hy)
theorem anz_2086 (Hy : Hyz tys cA base adS Ex) : xall (fun b t => xOK l Dg clz tys cA flz ftz base adS GWz xyz xcz xnz xrz Ex codez bmz bpz b t) 1 1345 2048 codez_2086 :=
  And.intro (okz_1345 Hy) (okzz 3393)
theorem anz_2087 (Hy : Hyz tys cA base adS Ex) : xall (fun b t => xOK l Dg clz tys cA flz ftz base adS GWz xyz xcz xnz xrz Ex codez bmz bpz b t) 2 321 1024 codez_2087 :=
  And.intro (anz_2085 Hy) (anz_2086 Hy)
theorem anz_2088 (Hy : Hyz tys cA base adS Ex) : xall (fun b t => xOK l Dg clz tys cA flz ftz base adS GWz xyz xcz xnz xrz Ex codez bmz bpz b t) 1 833 2048 codez_2088 :=
  And.intro (okz_833 Hy) (okzz 2881)
theorem anz_2089 (Hy : Hyz tys cA base adS Ex) : xall (fun b t => xOK l Dg clz tys cA flz ftz base adS GWz xyz xcz xnz xrz Ex codez bmz bpz b t) 1 1857 2048 codez_2089 :=
  And.intro (okz_1857 Hy) (okzz 3905)
theorem anz_2090 (Hy : Hyz tys cA base adS Ex) : xall (fun b t => xOK l Dg clz tys cA flz ftz base adS GWz xyz xcz xnz xrz Ex codez bmz bpz b t) 2 833 1024 codez_2090 :=
  And.intro (anz_2088 Hy) (anz_2089 Hy)
theorem anz_2091 (Hy : Hyz tys cA base adS Ex) : xall (fun b t => xOK l Dg clz tys cA flz ftz base adS GWz xyz xcz xnz xrz Ex codez bmz bpz b t) 3 321 512 codez_2091 :=
  And.intro (anz_2087 Hy) (anz_2090 Hy)
theorem anz_2092 (Hy : Hyz tys cA base adS Ex) : xall (fun b t => xOK l Dg clz tys cA flz ftz base adS GWz xyz xcz xnz xrz Ex codez bmz bpz b t) 4 65 256 codez_2092 :=
  And.intro (anz_2084 Hy) (anz_2091 Hy)
theorem anz_2093 (Hy : Hyz tys cA base adS Ex) : xall (fun b t => xOK l Dg clz tys cA flz ftz base adS GWz xyz xcz xnz xrz Ex codez bmz bpz b t) 1 193 2048 codez_2093 :=
  And.intro (okz_193 Hy) (okz_2241 Hy)
theorem anz_2094 (Hy : Hyz tys cA base adS Ex) : xall (fun b t => xOK l Dg clz tys cA flz ftz base adS GWz xyz xcz xnz xrz Ex codez bmz bpz b t) 1 1217 2048 codez_2094 :=
  And.intro (okz_1217 Hy) (okzz 3265)
theorem anz_2095 (Hy : Hyz tys cA base adS Ex) : xall (fun b t => xOK l Dg clz tys cA flz ftz base adS GWz xyz xcz xnz xrz Ex codez bmz bpz b t) 2 193 1024 codez_2095 :=
  And.intro (anz_2093 Hy) (anz_2094 Hy)
theorem anz_2096 (Hy : Hyz tys cA base adS Ex) : xall (fun b t => xOK l Dg clz tys cA flz ftz base adS GWz xyz xcz xnz xrz Ex codez bmz bpz b t) 1 705 2048 codez_2096 :=
  And.intro (okz_705 Hy) (okzz 2753)
theorem anz_2097 (Hy : Hyz tys cA base adS Ex) : xall (fun b t => xOK l Dg clz tys cA flz ftz base adS GWz xyz xcz xnz xrz Ex codez bmz bpz b t) 1 1729 2048 codez_2097 :=
  And.intro (okz_1729 Hy) (okzz 3777)
theorem anz_2098 (Hy : Hyz tys cA base adS Ex) : xall (fun b t => xOK l Dg clz tys cA flz ftz base adS GWz xyz xcz xnz xrz Ex codez bmz bpz b t) 2 705 1024 codez_2098 :=
  And.intro (anz_2096 Hy) (anz_2097 Hy)
theorem anz_2099 (Hy : Hyz tys cA base adS Ex) : xall (fun b t => xOK l Dg clz tys cA flz ftz base adS GWz xyz xcz xnz xrz Ex codez bmz bpz b t) 3 193 512 codez_2099 :=
  And.intro (anz_2095 Hy) (anz_2098 Hy)
theorem anz_2100 (Hy : Hyz tys cA base adS Ex) : xall (fun b t => xOK l Dg clz tys cA flz ftz base adS GWz xyz xcz xnz xrz Ex codez bmz bpz b t) 1 449 2048 codez_2100 :=
  And.intro (okz_449 Hy) (okz_2497 Hy)
theorem anz_2101 (Hy : Hyz tys cA base adS Ex) : xall (fun b t => xOK l Dg clz tys cA flz ftz base adS GWz xyz xcz xnz xrz Ex codez bmz bpz b t) 1 1473 2048 codez_2101 :=
  And.intro (okz_1473 Hy) (okzz 3521)
theorem anz_2102 (Hy : Hyz tys cA base adS Ex) : xall (fun b t => xOK l Dg clz tys cA flz ftz base adS GWz xyz xcz xnz xrz Ex codez bmz bpz b t) 2 449 1024 codez_2102 :=
  And.intro (anz_2100 Hy) (anz_2101 Hy)
theorem anz_2103 (Hy : Hyz tys cA base adS Ex) : xall (fun b t => xOK l Dg clz tys cA flz ftz base adS GWz xyz xcz xnz xrz Ex codez bmz bpz b t) 1 961 2048 codez_2103 :=
  And.intro (okz_961 Hy) (okzz 3009)
theorem anz_2104 (Hy : Hyz tys cA base adS Ex) : xall (fun b t => xOK l Dg clz tys cA flz ftz base adS GWz xyz xcz xnz xrz Ex codez bmz bpz b t) 1 1985 2048 codez_2104 :=
  And.intro (okz_1985 Hy) (okzz 4033)
theorem anz_2105 (Hy : Hyz tys cA base adS Ex) : xall (fun b t => xOK l Dg clz tys cA flz ftz base adS GWz xyz xcz xnz xrz Ex codez bmz bpz b t) 2 961 1024 codez_2105 :=
  And.intro (anz_2103 Hy) (anz_2104 Hy)
theorem anz_2106 (Hy : Hyz tys cA base adS Ex) : xall (fun b t => xOK l Dg clz tys cA flz ftz base adS GWz xyz xcz xnz xrz Ex codez bmz bpz b t) 3 449 512 codez_2106 :=
  And.intro (anz_2102 Hy) (anz_2105 Hy)
theorem anz_2107 (Hy : Hyz tys cA base adS Ex) : xall (fun b t => xOK l Dg clz tys cA flz ftz base adS GWz xyz xcz xnz xrz Ex codez bmz bpz b t) 4 193 256 codez_2107 :=
  And.intro (anz_2099 Hy) (anz_2106 Hy)
theorem anz_2108 (Hy : Hyz tys cA base adS Ex) : xall (fun b t => xOK l Dg clz tys cA flz ftz base adS GWz xyz xcz xnz xrz Ex codez bmz bpz b t) 5 65 128 codez_2108 :=
  And.intro (anz_2092 Hy) (anz_2107 Hy)
theorem anz_2109 (Hy : Hyz tys cA base adS Ex) : xall (fun b t => xOK l Dg clz tys cA flz ftz base adS GWz xyz xcz xnz xrz Ex codez bmz bpz b t) 6 1 64 codez_2109 :=
  And.intro (anz_2077 Hy) (anz_2108 Hy)
theorem anz_2110 (Hy : Hyz tys cA base adS Ex) : xall (fun b t => xOK l Dg clz tys cA flz ftz base adS GWz xyz xcz xnz xrz Ex codez bmz bpz b t) 1 33 2048 codez_2110 :=
  And.intro (okz_33 Hy) (okz_2081 Hy)
theorem anz_2111 (Hy : Hyz tys cA base adS Ex) : xall (fun b t => xOK l Dg clz tys cA flz ftz base adS GWz xyz xcz xnz xrz Ex codez bmz bpz b t) 1 1057 2048 codez_2111 :=
  And.intro (okz_1057 Hy) (okzz 3105)
theorem anz_2112 (Hy : Hyz tys cA base adS Ex) : xall (fun b t => xOK l Dg clz tys cA flz ftz base adS GWz xyz xcz xnz xrz Ex codez bmz bpz b t) 2 33 1024 codez_2112 :=
  And.intro (anz_2110 Hy) (anz_2111 Hy)
theorem anz_2113 (Hy : Hyz tys cA base adS Ex) : xall (fun b t => xOK l Dg clz tys cA flz ftz base adS GWz xyz xcz xnz xrz Ex codez bmz bpz b t) 1 545 2048 codez_2113 :=
  And.intro (okz_545 Hy) (okzz 2593)
theorem anz_2114 (Hy : Hyz tys cA base adS Ex) : xall (fun b t => xOK l Dg clz tys cA flz ftz base adS GWz xyz xcz xnz xrz Ex codez bmz bpz b t) 1 1569 2048 codez_2114 :=
  And.intro (okz_1569 Hy) (okzz 3617)
theorem anz_2115 (Hy : Hyz tys cA base adS Ex) : xall (fun b t => xOK l Dg clz tys cA flz ftz base adS GWz xyz xcz xnz xrz Ex codez bmz bpz b t) 2 545 1024 codez_2115 :=
  And.intro (anz_2113 Hy) (anz_2114 Hy)
theorem anz_2116 (Hy : Hyz tys cA base adS Ex) : xall (fun b t => xOK l Dg clz tys cA flz ftz base adS GWz xyz xcz xnz xrz Ex codez bmz bpz b t) 3 33 512 codez_2116 :=
  And.intro (anz_2112 Hy) (anz_2115 Hy)
theorem anz_2117 (Hy : Hyz tys cA base adS Ex) : xall (fun b t => xOK l Dg clz tys cA flz ftz base adS GWz xyz xcz xnz xrz Ex codez bmz bpz b t) 1 289 2048 codez_2117 :=
  And.intro (okz_289 Hy) (okz_2337 Hy)
theorem anz_2118 (Hy : Hyz tys cA base adS Ex) : xall (fun b t => xOK l Dg clz tys cA flz ftz base adS GWz xyz xcz xnz xrz Ex codez bmz bpz b t) 1 1313 2048 codez_2118 :=
  And.intro (okz_1313 Hy) (okzz 3361)
theorem anz_2119 (Hy : Hyz tys cA base adS Ex) : xall (fun b t => xOK l Dg clz tys cA flz ftz base adS GWz xyz xcz xnz xrz Ex codez bmz bpz b t) 2 289 1024 codez_2119 :=
  And.intro (anz_2117 Hy) (anz_2118 Hy)
theorem anz_2120 (Hy : Hyz tys cA base adS Ex) : xall (fun b t => xOK l Dg clz tys cA flz ftz base adS GWz xyz xcz xnz xrz Ex codez bmz bpz b t) 1 801 2048 codez_2120 :=
  And.intro (okz_801 Hy) (okzz 2849)
theorem anz_2121 (Hy : Hyz tys cA base adS Ex) : xall (fun b t => xOK l Dg clz tys cA flz ftz base adS GWz xyz xcz xnz xrz Ex codez bmz bpz b t) 1 1825 2048 codez_2121 :=
  And.intro (okz_1825 Hy) (okzz 3873)
theorem anz_2122 (Hy : Hyz tys cA base adS Ex) : xall (fun b t => xOK l Dg clz tys cA flz ftz base adS GWz xyz xcz xnz xrz Ex codez bmz bpz b t) 2 801 1024 codez_2122 :=
  And.intro (anz_2120 Hy) (anz_2121 Hy)
theorem anz_2123 (Hy : Hyz tys cA base adS Ex) : xall (fun b t => xOK l Dg clz tys cA flz ftz base adS GWz xyz xcz xnz xrz Ex codez bmz bpz b t) 3 289 512 codez_2123 :=
  And.intro (anz_2119 Hy) (anz_2122 Hy)
theorem anz_2124 (Hy : Hyz tys cA base adS Ex) : xall (fun b t => xOK l Dg clz tys cA flz ftz base adS GWz xyz xcz xnz xrz Ex codez bmz bpz b t) 4 33 256 codez_2124 :=
  And.intro (anz_2116 Hy) (anz_2123 Hy)
theorem anz_2125 (Hy : Hyz tys cA base adS Ex) : xall (fun b t => xOK l Dg clz tys cA flz ftz base adS GWz xyz xcz xnz xrz Ex codez bmz bpz b t) 1 161 2048 codez_2125 :=
  And.intro (okz_161 Hy) (okz_2209 Hy)
theorem anz_2126 (Hy : Hyz tys cA base adS Ex) : xall (fun b t => xOK l Dg clz tys cA flz ftz base adS GWz xyz xcz xnz xrz Ex codez bmz bpz b t) 1 1185 2048 codez_2126 :=
  And.intro (okz_1185 Hy) (okzz 3233)
theorem anz_2127 (Hy : Hyz tys cA base adS Ex) : xall (fun b t => xOK l Dg clz tys cA flz ftz base adS GWz xyz xcz xnz xrz Ex codez bmz bpz b t) 2 161 1024 codez_2127 :=
  And.intro (anz_2125 Hy) (anz_2126 Hy)
theorem anz_2128 (Hy : Hyz tys cA base adS Ex) : xall (fun b t => xOK l Dg clz tys cA flz ftz base adS GWz xyz xcz xnz xrz Ex codez bmz bpz b t) 1 673 2048 codez_2128 :=
  And.intro (okz_673 Hy) (okzz 2721)
theorem anz_2129 (Hy : Hyz tys cA base adS Ex) : xall (fun b t => xOK l Dg clz tys cA flz ftz base adS GWz xyz xcz xnz xrz Ex codez bmz bpz b t) 1 1697 2048 codez_2129 :=
  And.intro (okz_1697 Hy) (okzz 3745)
theorem anz_2130 (Hy : Hyz tys cA base adS Ex) : xall (fun b t => xOK l Dg clz tys cA flz ftz base adS GWz xyz xcz xnz xrz Ex codez bmz bpz b t) 2 673 1024 codez_2130 :=
  And.intro (anz_2128 Hy) (anz_2129 Hy)
theorem anz_2131 (Hy : Hyz tys cA base adS Ex) : xall (fun b t => xOK l Dg clz tys cA flz ftz base adS GWz xyz xcz xnz xrz Ex codez bmz bpz b t) 3 161 512 codez_2131 :=
  And.intro (anz_2127 Hy) (anz_2130 Hy)
theorem anz_2132 (Hy : Hyz tys cA base adS Ex) : xall (fun b t => xOK l Dg clz tys cA flz ftz base adS GWz xyz xcz xnz xrz Ex codez bmz bpz b t) 1 417 2048 codez_2132 :=
  And.intro (okz_417 Hy) (okz_2465 Hy)
theorem anz_2133 (Hy : Hyz tys cA base adS Ex) : xall (fun b t => xOK l Dg clz tys cA flz ftz base adS GWz xyz xcz xnz xrz Ex codez bmz bpz b t) 1 1441 2048 codez_2133 :=
  And.intro (okz_1441 Hy) (okzz 3489)
theorem anz_2134 (Hy : Hyz tys cA base adS Ex) : xall (fun b t => xOK l Dg clz tys cA flz ftz base adS GWz xyz xcz xnz xrz Ex codez bmz bpz b t) 2 417 1024 codez_2134 :=
  And.intro (anz_2132 Hy) (anz_2133 Hy)
theorem anz_2135 (Hy : Hyz tys cA base adS Ex) : xall (fun b t => xOK l Dg clz tys cA flz ftz base adS GWz xyz xcz xnz xrz Ex codez bmz bpz b t) 1 929 2048 codez_2135 :=
  And.intro (okz_929 Hy) (okzz 2977)
theorem anz_2136 (Hy : Hyz tys cA base adS Ex) : xall (fun b t => xOK l Dg clz tys cA flz ftz base adS GWz xyz xcz xnz xrz Ex codez bmz bpz b t) 1 1953 2048 codez_2136 :=
  And.intro (okz_1953 Hy) (okzz 4001)
theorem anz_2137 (Hy : Hyz tys cA base adS Ex) : xall (fun b t => xOK l Dg clz tys cA flz ftz base adS GWz xyz xcz xnz xrz Ex codez bmz bpz b t) 2 929 1024 codez_2137 :=
  And.intro (anz_2135 Hy) (anz_2136 Hy)
theorem anz_2138 (Hy : Hyz tys cA base adS Ex) : xall (fun b t => xOK l Dg clz tys cA flz ftz base adS GWz xyz xcz xnz xrz Ex codez bmz bpz b t) 3 417 512 codez_2138 :=
  And.intro (anz_2134 Hy) (anz_2137 Hy)
theorem anz_2139 (Hy : Hyz tys cA base adS Ex) : xall (fun b t => xOK l Dg clz tys cA flz ftz base adS GWz xyz xcz xnz xrz Ex codez bmz bpz b t) 4 161 256 codez_2139 :=
  And.intro (anz_2131 Hy) (anz_2138 Hy)
theorem anz_2140 (Hy : Hyz tys cA base adS Ex) : xall (fun b t => xOK l Dg clz tys cA flz ftz base adS GWz xyz xcz xnz xrz Ex codez bmz bpz b t) 5 33 128 codez_2140 :=
  And.intro (anz_2124 Hy) (anz_2139 Hy)
theorem anz_2141 (Hy : Hyz tys cA base adS Ex) : xall (fun b t => xOK l Dg clz tys cA flz ftz base adS GWz xyz xcz xnz xrz Ex codez bmz bpz b t) 1 97 2048 codez_2141 :=
  And.intro (okz_97 Hy) (okz_2145 Hy)
theorem anz_2142 (Hy : Hyz tys cA base adS Ex) : xall (fun b t => xOK l Dg clz tys cA flz ftz base adS GWz xyz xcz xnz xrz Ex codez bmz bpz b t) 1 1121 2048 codez_2142 :=
  And.intro (okz_1121 Hy) (okzz 3169)
theorem anz_2143 (Hy : Hyz tys cA base adS Ex) : xall (fun b t => xOK l Dg clz tys cA flz ftz base adS GWz xyz xcz xnz xrz Ex codez bmz bpz b t) 2 97 1024 codez_2143 :=
  And.intro (anz_2141 Hy) (anz_2142 Hy)
theorem anz_2144 (Hy : Hyz tys cA base adS Ex) : xall (fun b t => xOK l Dg clz tys cA flz ftz base adS GWz xyz xcz xnz xrz Ex codez bmz bpz b t) 1 609 2048 codez_2144 :=
  And.intro (okz_609 Hy) (okzz 2657)
theorem anz_2145 (Hy : Hyz tys cA base adS Ex) : xall (fun b t => xOK l Dg clz tys cA flz ftz base adS GWz xyz xcz xnz xrz Ex codez bmz bpz b t) 1 1633 2048 codez_2145 :=
  And.intro (okz_1633 Hy) (okzz 3681)
theorem anz_2146 (Hy : Hyz tys cA base adS Ex) : xall (fun b t => xOK l Dg clz tys cA flz ftz base adS GWz xyz xcz xnz xrz Ex codez bmz bpz b t) 2 609 1024 codez_2146 :=
  And.intro (anz_2144 Hy) (anz_2145 Hy)
theorem anz_2147 (Hy : Hyz tys cA base adS Ex) : xall (fun b t => xOK l Dg clz tys cA flz ftz base adS GWz xyz xcz xnz xrz Ex codez bmz bpz b t) 3 97 512 codez_2147 :=
  And.intro (anz_2143 Hy) (anz_2146 Hy)
theorem anz_2148 (Hy : Hyz tys cA base adS Ex) : xall (fun b t => xOK l Dg clz tys cA flz ftz base adS GWz xyz xcz xnz xrz Ex codez bmz bpz b t) 1 353 2048 codez_2148 :=
  And.intro (okz_353 Hy) (okz_2401 Hy)
theorem anz_2149 (Hy : Hyz tys cA base adS Ex) : xall (fun b t => xOK l Dg clz tys cA flz ftz base adS GWz xyz xcz xnz xrz Ex codez bmz bpz b t) 1 1377 2048 codez_2149 :=
  And.intro (okz_1377 Hy) (okzz 3425)
theorem anz_2150 (Hy : Hyz tys cA base adS Ex) : xall (fun b t => xOK l Dg clz tys cA flz ftz base adS GWz xyz xcz xnz xrz Ex codez bmz bpz b t) 2 353 1024 codez_2150 :=
  And.intro (anz_2148 Hy) (anz_2149 Hy)
theorem anz_2151 (Hy : Hyz tys cA base adS Ex) : xall (fun b t => xOK l Dg clz tys cA flz ftz base adS GWz xyz xcz xnz xrz Ex codez bmz bpz b t) 1 865 2048 codez_2151 :=
  And.intro (okz_865 Hy) (okzz 2913)
theorem anz_2152 (Hy : Hyz tys cA base adS Ex) : xall (fun b t => xOK l Dg clz tys cA flz ftz base adS GWz xyz xcz xnz xrz Ex codez bmz bpz b t) 1 1889 2048 codez_2152 :=
  And.intro (okz_1889 Hy) (okzz 3937)
theorem anz_2153 (Hy : Hyz tys cA base adS Ex) : xall (fun b t => xOK l Dg clz tys cA flz ftz base adS GWz xyz xcz xnz xrz Ex codez bmz bpz b t) 2 865 1024 codez_2153 :=
  And.intro (anz_2151 Hy) (anz_2152 Hy)
theorem anz_2154 (Hy : Hyz tys cA base adS Ex) : xall (fun b t => xOK l Dg clz tys cA flz ftz base adS GWz xyz xcz xnz xrz Ex codez bmz bpz b t) 3 353 512 codez_2154 :=
  And.intro (anz_2150 Hy) (anz_2153 Hy)
theorem anz_2155 (Hy : Hyz tys cA base adS Ex) : xall (fun b t => xOK l Dg clz tys cA flz ftz base adS GWz xyz xcz xnz xrz Ex codez bmz bpz b t) 4 97 256 codez_2155 :=
  And.intro (anz_2147 Hy) (anz_2154 Hy)
theorem anz_2156 (Hy : Hyz tys cA base adS Ex) : xall (fun b t => xOK l Dg clz tys cA flz ftz base adS GWz xyz xcz xnz xrz Ex codez bmz bpz b t) 1 225 2048 codez_2156 :=
  And.intro (okz_225 Hy) (okz_2273 Hy)
theorem anz_2157 (Hy : Hyz tys cA base adS Ex) : xall (fun b t => xOK l Dg clz tys cA flz ftz base adS GWz xyz xcz xnz xrz Ex codez bmz bpz b t) 1 1249 2048 codez_2157 :=
  And.intro (okz_1249 Hy) (okzz 3297)
theorem anz_2158 (Hy : Hyz tys cA base adS Ex) : xall (fun b t => xOK l Dg clz tys cA flz ftz base adS GWz xyz xcz xnz xrz Ex codez bmz bpz b t) 2 225 1024 codez_2158 :=
  And.intro (anz_2156 Hy) (anz_2157 Hy)
theorem anz_2159 (Hy : Hyz tys cA base adS Ex) : xall (fun b t => xOK l Dg clz tys cA flz ftz base adS GWz xyz xcz xnz xrz Ex codez bmz bpz b t) 1 737 2048 codez_2159 :=
  And.intro (okz_737 Hy) (okzz 2785)
theorem anz_2160 (Hy : Hyz tys cA base adS Ex) : xall (fun b t => xOK l Dg clz tys cA flz ftz base adS GWz xyz xcz xnz xrz Ex codez bmz bpz b t) 1 1761 2048 codez_2160 :=
  And.intro (okz_1761 Hy) (okzz 3809)
theorem anz_2161 (Hy : Hyz tys cA base adS Ex) : xall (fun b t => xOK l Dg clz tys cA flz ftz base adS GWz xyz xcz xnz xrz Ex codez bmz bpz b t) 2 737 1024 codez_2161 :=
  And.intro (anz_2159 Hy) (anz_2160 Hy)
theorem anz_2162 (Hy : Hyz tys cA base adS Ex) : xall (fun b t => xOK l Dg clz tys cA flz ftz base adS GWz xyz xcz xnz xrz Ex codez bmz bpz b t) 3 225 512 codez_2162 :=
  And.intro (anz_2158 Hy) (anz_2161 Hy)
theorem anz_2163 (Hy : Hyz tys cA base adS Ex) : xall (fun b t => xOK l Dg clz tys cA flz ftz base adS GWz xyz xcz xnz xrz Ex codez bmz bpz b t) 1 481 2048 codez_2163 :=
  And.intro (okz_481 Hy) (okz_2529 Hy)
theorem anz_2164 (Hy : Hyz tys cA base adS Ex) : xall (fun b t => xOK l Dg clz tys cA flz ftz base adS GWz xyz xcz xnz xrz Ex codez bmz bpz b t) 1 1505 2048 codez_2164 :=
  And.intro (okz_1505 Hy) (okzz 3553)
theorem anz_2165 (Hy : Hyz tys cA base adS Ex) : xall (fun b t => xOK l Dg clz tys cA flz ftz base adS GWz xyz xcz xnz xrz Ex codez bmz bpz b t) 2 481 1024 codez_2165 :=
  And.intro (anz_2163 Hy) (anz_2164 Hy)
theorem anz_2166 (Hy : Hyz tys cA base adS Ex) : xall (fun b t => xOK l Dg clz tys cA flz ftz base adS GWz xyz xcz xnz xrz Ex codez bmz bpz b t) 1 993 2048 codez_2166 :=
  And.intro (okz_993 Hy) (okzz 3041)
theorem anz_2167 (Hy : Hyz tys cA base adS Ex) : xall (fun b t => xOK l Dg clz tys cA flz ftz base adS GWz xyz xcz xnz xrz Ex codez bmz bpz b t) 1 2017 2048 codez_2167 :=
  And.intro (okz_2017 Hy) (okzz 4065)
theorem anz_2168 (Hy : Hyz tys cA base adS Ex) : xall (fun b t => xOK l Dg clz tys cA flz ftz base adS GWz xyz xcz xnz xrz Ex codez bmz bpz b t) 2 993 1024 codez_2168 :=
  And.intro (anz_2166 Hy) (anz_2167 Hy)
theorem anz_2169 (Hy : Hyz tys cA base adS Ex) : xall (fun b t => xOK l Dg clz tys cA flz ftz base adS GWz xyz xcz xnz xrz Ex codez bmz bpz b t) 3 481 512 codez_2169 :=
  And.intro (anz_2165 Hy) (anz_2168 Hy)
theorem anz_2170 (Hy : Hyz tys cA base adS Ex) : xall (fun b t => xOK l Dg clz tys cA flz ftz base adS GWz xyz xcz xnz xrz Ex codez bmz bpz b t) 4 225 256 codez_2170 :=
  And.intro (anz_2162 Hy) (anz_2169 Hy)
theorem anz_2171 (Hy : Hyz tys cA base adS Ex) : xall (fun b t => xOK l Dg clz tys cA flz ftz base adS GWz xyz xcz xnz xrz Ex codez bmz bpz b t) 5 97 128 codez_2171 :=
  And.intro (anz_2155 Hy) (anz_2170 Hy)
theorem anz_2172 (Hy : Hyz tys cA base adS Ex) : xall (fun b t => xOK l Dg clz tys cA flz ftz base adS GWz xyz xcz xnz xrz Ex codez bmz bpz b t) 6 33 64 codez_2172 :=
  And.intro (anz_2140 Hy) (anz_2171 Hy)
theorem anz_2173 (Hy : Hyz tys cA base adS Ex) : xall (fun b t => xOK l Dg clz tys cA flz ftz base adS GWz xyz xcz xnz xrz Ex codez bmz bpz b t) 7 1 32 codez_2173 :=
  And.intro (anz_2109 Hy) (anz_2172 Hy)
theorem anz_2174 (Hy : Hyz tys cA base adS Ex) : xall (fun b t => xOK l Dg clz tys cA flz ftz base adS GWz xyz xcz xnz xrz Ex codez bmz bpz b t) 1 17 2048 codez_2174 :=
  And.intro (okz_17 Hy) (okz_2065 Hy)
theorem anz_2175 (Hy : Hyz tys cA base adS Ex) : xall (fun b t => xOK l Dg clz tys cA flz ftz base adS GWz xyz xcz xnz xrz Ex codez bmz bpz b t) 1 1041 2048 codez_2175 :=
  And.intro (okz_1041 Hy) (okzz 3089)
theorem anz_2176 (Hy : Hyz tys cA base adS Ex) : xall (fun b t => xOK l Dg clz tys cA flz ftz base adS GWz xyz xcz xnz xrz Ex codez bmz bpz b t) 2 17 1024 codez_2176 :=
  And.intro (anz_2174 Hy) (anz_2175 Hy)
theorem anz_2177 (Hy : Hyz tys cA base adS Ex) : xall (fun b t => xOK l Dg clz tys cA flz ftz base adS GWz xyz xcz xnz xrz Ex codez bmz bpz b t) 1 529 2048 codez_2177 :=
  And.intro (okz_529 Hy) (okzz 2577)
theorem anz_2178 (Hy : Hyz tys cA base adS Ex) : xall (fun b t => xOK l Dg clz tys cA flz ftz base adS GWz xyz xcz xnz xrz Ex codez bmz bpz b t) 1 1553 2048 codez_2178 :=
  And.intro (okz_1553 Hy) (okzz 3601)
theorem anz_2179 (Hy : Hyz tys cA base adS Ex) : xall (fun b t => xOK l Dg clz tys cA flz ftz base adS GWz xyz xcz xnz xrz Ex codez bmz bpz b t) 2 529 1024 codez_2179 :=
  And.intro (anz_2177 Hy) (anz_2178 Hy)
theorem anz_2180 (Hy : Hyz tys cA base adS Ex) : xall (fun b t => xOK l Dg clz tys cA flz ftz base adS GWz xyz xcz xnz xrz Ex codez bmz bpz b t) 3 17 512 codez_2180 :=
  And.intro (anz_2176 Hy) (anz_2179 Hy)
theorem anz_2181 (Hy : Hyz tys cA base adS Ex) : xall (fun b t => xOK l Dg clz tys cA flz ftz base adS GWz xyz xcz xnz xrz Ex codez bmz bpz b t) 1 273 2048 codez_2181 :=
  And.intro (okz_273 Hy) (okz_2321 Hy)
theorem anz_2182 (Hy : Hyz tys cA base adS Ex) : xall (fun b t => xOK l Dg clz tys cA flz ftz base adS GWz xyz xcz xnz xrz Ex codez bmz bpz b t) 1 1297 2048 codez_2182 :=
  And.intro (okz_1297 Hy) (okzz 3345)
theorem anz_2183 (Hy : Hyz tys cA base adS Ex) : xall (fun b t => xOK l Dg clz tys cA flz ftz base adS GWz xyz xcz xnz xrz Ex codez bmz bpz b t) 2 273 1024 codez_2183 :=
  And.intro (anz_2181 Hy) (anz_2182 Hy)
theorem anz_2184 (Hy : Hyz tys cA base adS Ex) : xall (fun b t => xOK l Dg clz tys cA flz ftz base adS GWz xyz xcz xnz xrz Ex codez bmz bpz b t) 1 785 2048 codez_2184 :=
  And.intro (okz_785 Hy) (okzz 2833)
theorem anz_2185 (Hy : Hyz tys cA base adS Ex) : xall (fun b t => xOK l Dg clz tys cA flz ftz base adS GWz xyz xcz xnz xrz Ex codez bmz bpz b t) 1 1809 2048 codez_2185 :=
  And.intro (okz_1809 Hy) (okzz 3857)
theorem anz_2186 (Hy : Hyz tys cA base adS Ex) : xall (fun b t => xOK l Dg clz tys cA flz ftz base adS GWz xyz xcz xnz xrz Ex codez bmz bpz b t) 2 785 1024 codez_2186 :=
  And.intro (anz_2184 Hy) (anz_2185 Hy)
theorem anz_2187 (Hy : Hyz tys cA base adS Ex) : xall (fun b t => xOK l Dg clz tys cA flz ftz base adS GWz xyz xcz xnz xrz Ex codez bmz bpz b t) 3 273 512 codez_2187 :=
  And.intro (anz_2183 Hy) (anz_2186 Hy)
theorem anz_2188 (Hy : Hyz tys cA base adS Ex) : xall (fun b t => xOK l Dg clz tys cA flz ftz base adS GWz xyz xcz xnz xrz Ex codez bmz bpz b t) 4 17 256 codez_2188 :=
  And.intro (anz_2180 Hy) (anz_2187 Hy)
theorem anz_2189 (Hy : Hyz tys cA base adS Ex) : xall (fun b t => xOK l Dg clz tys cA flz ftz base adS GWz xyz xcz xnz xrz Ex codez bmz bpz b t) 1 145 2048 codez_2189 :=
  And.intro (okz_145 Hy) (okz_2193 Hy)
theorem anz_2190 (Hy : Hyz tys cA base adS Ex) : xall (fun b t => xOK l Dg clz tys cA flz ftz base adS GWz xyz xcz xnz xrz Ex codez bmz bpz b t) 1 1169 2048 codez_2190 :=
  And.intro (okz_1169 Hy) (okzz 3217)
theorem anz_2191 (Hy : Hyz tys cA base adS Ex) : xall (fun b t => xOK l Dg clz tys cA flz ftz base adS GWz xyz xcz xnz xrz Ex codez bmz bpz b t) 2 145 1024 codez_2191 :=
  And.intro (anz_2189 Hy) (anz_2190 Hy)
theorem anz_2192 (Hy : Hyz tys cA base adS Ex) : xall (fun b t => xOK l Dg clz tys cA flz ftz base adS GWz xyz xcz xnz xrz Ex codez bmz bpz b t) 1 657 2048 codez_2192 :=
  And.intro (okz_657 Hy) (okzz 2705)
theorem anz_2193 (Hy : Hyz tys cA base adS Ex) : xall (fun b t => xOK l Dg clz tys cA flz ftz base adS GWz xyz xcz xnz xrz Ex codez bmz bpz b t) 1 1681 2048 codez_2193 :=
  And.intro (okz_1681 Hy) (okzz 3729)
theorem anz_2194 (Hy : Hyz tys cA base adS Ex) : xall (fun b t => xOK l Dg clz tys cA flz ftz base adS GWz xyz xcz xnz xrz Ex codez bmz bpz b t) 2 657 1024 codez_2194 :=
  And.intro (anz_2192 Hy) (anz_2193 Hy)
theorem anz_2195 (Hy : Hyz tys cA base adS Ex) : xall (fun b t => xOK l Dg clz tys cA flz ftz base adS GWz xyz xcz xnz xrz Ex codez bmz bpz b t) 3 145 512 codez_2195 :=
  And.intro (anz_2191 Hy) (anz_2194 Hy)
theorem anz_2196 (Hy : Hyz tys cA base adS Ex) : xall (fun b t => xOK l Dg clz tys cA flz ftz base adS GWz xyz xcz xnz xrz Ex codez bmz bpz b t) 1 401 2048 codez_2196 :=
  And.intro (okz_401 Hy) (okz_2449 Hy)
theorem anz_2197 (Hy : Hyz tys cA base adS Ex) : xall (fun b t => xOK l Dg clz tys cA flz ftz base adS GWz xyz xcz xnz xrz Ex codez bmz bpz b t) 1 1425 2048 codez_2197 :=
  And.intro (okz_1425 Hy) (okzz 3473)
theorem anz_2198 (Hy : Hyz tys cA base adS Ex) : xall (fun b t => xOK l Dg clz tys cA flz ftz base adS GWz xyz xcz xnz xrz Ex codez bmz bpz b t) 2 401 1024 codez_2198 :=
  And.intro (anz_2196 Hy) (anz_2197 Hy)
theorem anz_2199 (Hy : Hyz tys cA base adS Ex) : xall (fun b t => xOK l Dg clz tys cA flz ftz base adS GWz xyz xcz xnz xrz Ex codez bmz bpz b t) 1 913 2048 codez_2199 :=
  And.intro (okz_913 Hy) (okzz 2961)
theorem anz_2200 (Hy : Hyz tys cA base adS Ex) : xall (fun b t => xOK l Dg clz tys cA flz ftz base adS GWz xyz xcz xnz xrz Ex codez bmz bpz b t) 1 1937 2048 codez_2200 :=
  And.intro (okz_1937 Hy) (okzz 3985)
theorem anz_2201 (Hy : Hyz tys cA base adS Ex) : xall (fun b t => xOK l Dg clz tys cA flz ftz base adS GWz xyz xcz xnz xrz Ex codez bmz bpz b t) 2 913 1024 codez_2201 :=
  And.intro (anz_2199 Hy) (anz_2200 Hy)
theorem anz_2202 (Hy : Hyz tys cA base adS Ex) : xall (fun b t => xOK l Dg clz tys cA flz ftz base adS GWz xyz xcz xnz xrz Ex codez bmz bpz b t) 3 401 512 codez_2202 :=
  And.intro (anz_2198 Hy) (anz_2201 Hy)
theorem anz_2203 (Hy : Hyz tys cA base adS Ex) : xall (fun b t => xOK l Dg clz tys cA flz ftz base adS GWz xyz xcz xnz xrz Ex codez bmz bpz b t) 4 145 256 codez_2203 :=
  And.intro (anz_2195 Hy) (anz_2202 Hy)
theorem anz_2204 (Hy : Hyz tys cA base adS Ex) : xall (fun b t => xOK l Dg clz tys cA flz ftz base adS GWz xyz xcz xnz xrz Ex codez bmz bpz b t) 5 17 128 codez_2204 :=
  And.intro (anz_2188 Hy) (anz_2203 Hy)
theorem anz_2205 (Hy : Hyz tys cA base adS Ex) : xall (fun b t => xOK l Dg clz tys cA flz ftz base adS GWz xyz xcz xnz xrz Ex codez bmz bpz b t) 1 81 2048 codez_2205 :=
  And.intro (okz_81 Hy) (okz_2129 Hy)
theorem anz_2206 (Hy : Hyz tys cA base adS Ex) : xall (fun b t => xOK l Dg clz tys cA flz ftz base adS GWz xyz xcz xnz xrz Ex codez bmz bpz b t) 1 1105 2048 codez_2206 :=
  And.intro (okz_1105 Hy) (okzz 3153)
theorem anz_2207 (Hy : Hyz tys cA base adS Ex) : xall (fun b t => xOK l Dg clz tys cA flz ftz base adS GWz xyz xcz xnz xrz Ex codez bmz bpz b t) 2 81 1024 codez_2207 :=
  And.intro (anz_2205 Hy) (anz_2206 Hy)
theorem anz_2208 (Hy : Hyz tys cA base adS Ex) : xall (fun b t => xOK l Dg clz tys cA flz ftz base adS GWz xyz xcz xnz xrz Ex codez bmz bpz b t) 1 593 2048 codez_2208 :=
  And.intro (okz_593 Hy) (okzz 2641)
theorem anz_2209 (Hy : Hyz tys cA base adS Ex) : xall (fun b t => xOK l Dg clz tys cA flz ftz base adS GWz xyz xcz xnz xrz Ex codez bmz bpz b t) 1 1617 2048 codez_2209 :=
  And.intro (okz_1617 Hy) (okzz 3665)
theorem anz_2210 (Hy : Hyz tys cA base adS Ex) : xall (fun b t => xOK l Dg clz tys cA flz ftz base adS GWz xyz xcz xnz xrz Ex codez bmz bpz b t) 2 593 1024 codez_2210 :=
  And.intro (anz_2208 Hy) (anz_2209 Hy)
theorem anz_2211 (Hy : Hyz tys cA base adS Ex) : xall (fun b t => xOK l Dg clz tys cA flz ftz base adS GWz xyz xcz xnz xrz Ex codez bmz bpz b t) 3 81 512 codez_2211 :=
  And.intro (anz_2207 Hy) (anz_2210 Hy)
theorem anz_2212 (Hy : Hyz tys cA base adS Ex) : xall (fun b t => xOK l Dg clz tys cA flz ftz base adS GWz xyz xcz xnz xrz Ex codez bmz bpz b t) 1 337 2048 codez_2212 :=
  And.intro (okz_337 Hy) (okz_2385 Hy)
theorem anz_2213 (Hy : Hyz tys cA base adS Ex) : xall (fun b t => xOK l Dg clz tys cA flz ftz base adS GWz xyz xcz xnz xrz Ex codez bmz bpz b t) 1 1361 2048 codez_2213 :=
  And.intro (okz_1361 Hy) (okzz 3409)
theorem anz_2214 (Hy : Hyz tys cA base adS Ex) : xall (fun b t => xOK l Dg clz tys cA flz ftz base adS GWz xyz xcz xnz xrz Ex codez bmz bpz b t) 2 337 1024 codez_2214 :=
  And.intro (anz_2212 Hy) (anz_2213 Hy)
theorem anz_2215 (Hy : Hyz tys cA base adS Ex) : xall (fun b t => xOK l Dg clz tys cA flz ftz base adS GWz xyz xcz xnz xrz Ex codez bmz bpz b t) 1 849 2048 codez_2215 :=
  And.intro (okz_849 Hy) (okzz 2897)
theorem anz_2216 (Hy : Hyz tys cA base adS Ex) : xall (fun b t => xOK l Dg clz tys cA flz ftz base adS GWz xyz xcz xnz xrz Ex codez bmz bpz b t) 1 1873 2048 codez_2216 :=
  And.intro (okz_1873 Hy) (okzz 3921)
theorem anz_2217 (Hy : Hyz tys cA base adS Ex) : xall (fun b t => xOK l Dg clz tys cA flz ftz base adS GWz xyz xcz xnz xrz Ex codez bmz bpz b t) 2 849 1024 codez_2217 :=
  And.intro (anz_2215 Hy) (anz_2216 Hy)
theorem anz_2218 (Hy : Hyz tys cA base adS Ex) : xall (fun b t => xOK l Dg clz tys cA flz ftz base adS GWz xyz xcz xnz xrz Ex codez bmz bpz b t) 3 337 512 codez_2218 :=
  And.intro (anz_2214 Hy) (anz_2217 Hy)
theorem anz_2219 (Hy : Hyz tys cA base adS Ex) : xall (fun b t => xOK l Dg clz tys cA flz ftz base adS GWz xyz xcz xnz xrz Ex codez bmz bpz b t) 4 81 256 codez_2219 :=
  And.intro (anz_2211 Hy) (anz_2218 Hy)
theorem anz_2220 (Hy : Hyz tys cA base adS Ex) : xall (fun b t => xOK l Dg clz tys cA flz ftz base adS GWz xyz xcz xnz xrz Ex codez bmz bpz b t) 1 209 2048 codez_2220 :=
  And.intro (okz_209 Hy) (okz_2257 Hy)
theorem anz_2221 (Hy : Hyz tys cA base adS Ex) : xall (fun b t => xOK l Dg clz tys cA flz ftz base adS GWz xyz xcz xnz xrz Ex codez bmz bpz b t) 1 1233 2048 codez_2221 :=
  And.intro (okz_1233 Hy) (okzz 3281)
theorem anz_2222 (Hy : Hyz tys cA base adS Ex) : xall (fun b t => xOK l Dg clz tys cA flz ftz base adS GWz xyz xcz xnz xrz Ex codez bmz bpz b t) 2 209 1024 codez_2222 :=
  And.intro (anz_2220 Hy) (anz_2221 Hy)
theorem anz_2223 (Hy : Hyz tys cA base adS Ex) : xall (fun b t => xOK l Dg clz tys cA flz ftz base adS GWz xyz xcz xnz xrz Ex codez bmz bpz b t) 1 721 2048 codez_2223 :=
  And.intro (okz_721 Hy) (okzz 2769)
theorem anz_2224 (Hy : Hyz tys cA base adS Ex) : xall (fun b t => xOK l Dg clz tys cA flz ftz base adS GWz xyz xcz xnz xrz Ex codez bmz bpz b t) 1 1745 2048 codez_2224 :=
  And.intro (okz_1745 Hy) (okzz 3793)
theorem anz_2225 (Hy : Hyz tys cA base adS Ex) : xall (fun b t => xOK l Dg clz tys cA flz ftz base adS GWz xyz xcz xnz xrz Ex codez bmz bpz b t) 2 721 1024 codez_2225 :=
  And.intro (anz_2223 Hy) (anz_2224 Hy)
theorem anz_2226 (Hy : Hyz tys cA base adS Ex) : xall (fun b t => xOK l Dg clz tys cA flz ftz base adS GWz xyz xcz xnz xrz Ex codez bmz bpz b t) 3 209 512 codez_2226 :=
  And.intro (anz_2222 Hy) (anz_2225 Hy)
theorem anz_2227 (Hy : Hyz tys cA base adS Ex) : xall (fun b t => xOK l Dg clz tys cA flz ftz base adS GWz xyz xcz xnz xrz Ex codez bmz bpz b t) 1 465 2048 codez_2227 :=
  And.intro (okz_465 Hy) (okz_2513 Hy)
theorem anz_2228 (Hy : Hyz tys cA base adS Ex) : xall (fun b t => xOK l Dg clz tys cA flz ftz base adS GWz xyz xcz xnz xrz Ex codez bmz bpz b t) 1 1489 2048 codez_2228 :=
  And.intro (okz_1489 Hy) (okzz 3537)
theorem anz_2229 (Hy : Hyz tys cA base adS Ex) : xall (fun b t => xOK l Dg clz tys cA flz ftz base adS GWz xyz xcz xnz xrz Ex codez bmz bpz b t) 2 465 1024 codez_2229 :=
  And.intro (anz_2227 Hy) (anz_2228 Hy)
theorem anz_2230 (Hy : Hyz tys cA base adS Ex) : xall (fun b t => xOK l Dg clz tys cA flz ftz base adS GWz xyz xcz xnz xrz Ex codez bmz bpz b t) 1 977 2048 codez_2230 :=
  And.intro (okz_977 Hy) (okzz 3025)
theorem anz_2231 (Hy : Hyz tys cA base adS Ex) : xall (fun b t => xOK l Dg clz tys cA flz ftz base adS GWz xyz xcz xnz xrz Ex codez bmz bpz b t) 1 2001 2048 codez_2231 :=
  And.intro (okz_2001 Hy) (okzz 4049)
theorem anz_2232 (Hy : Hyz tys cA base adS Ex) : xall (fun b t => xOK l Dg clz tys cA flz ftz base adS GWz xyz xcz xnz xrz Ex codez bmz bpz b t) 2 977 1024 codez_2232 :=
  And.intro (anz_2230 Hy) (anz_2231 Hy)
theorem anz_2233 (Hy : Hyz tys cA base adS Ex) : xall (fun b t => xOK l Dg clz tys cA flz ftz base adS GWz xyz xcz xnz xrz Ex codez bmz bpz b t) 3 465 512 codez_2233 :=
  And.intro (anz_2229 Hy) (anz_2232 Hy)
theorem anz_2234 (Hy : Hyz tys cA base adS Ex) : xall (fun b t => xOK l Dg clz tys cA flz ftz base adS GWz xyz xcz xnz xrz Ex codez bmz bpz b t) 4 209 256 codez_2234 :=
  And.intro (anz_2226 Hy) (anz_2233 Hy)
theorem anz_2235 (Hy : Hyz tys cA base adS Ex) : xall (fun b t => xOK l Dg clz tys cA flz ftz base adS GWz xyz xcz xnz xrz Ex codez bmz bpz b t) 5 81 128 codez_2235 :=
  And.intro (anz_2219 Hy) (anz_2234 Hy)
theorem anz_2236 (Hy : Hyz tys cA base adS Ex) : xall (fun b t => xOK l Dg clz tys cA flz ftz base adS GWz xyz xcz xnz xrz Ex codez bmz bpz b t) 6 17 64 codez_2236 :=
  And.intro (anz_2204 Hy) (anz_2235 Hy)
theorem anz_2237 (Hy : Hyz tys cA base adS Ex) : xall (fun b t => xOK l Dg clz tys cA flz ftz base adS GWz xyz xcz xnz xrz Ex codez bmz bpz b t) 1 49 2048 codez_2237 :=
  And.intro (okz_49 Hy) (okz_2097 Hy)
theorem anz_2238 (Hy : Hyz tys cA base adS Ex) : xall (fun b t => xOK l Dg clz tys cA flz ftz base adS GWz xyz xcz xnz xrz Ex codez bmz bpz b t) 1 1073 2048 codez_2238 :=
  And.intro (okz_1073 Hy) (okzz 3121)
theorem anz_2239 (Hy : Hyz tys cA base adS Ex) : xall (fun b t => xOK l Dg clz tys cA flz ftz base adS GWz xyz xcz xnz xrz Ex codez bmz bpz b t) 2 49 1024 codez_2239 :=
  And.intro (anz_2237 Hy) (anz_2238 Hy)
theorem anz_2240 (Hy : Hyz tys cA base adS Ex) : xall (fun b t => xOK l Dg clz tys cA flz ftz base adS GWz xyz xcz xnz xrz Ex codez bmz bpz b t) 1 561 2048 codez_2240 :=
  And.intro (okz_561 Hy) (okzz 2609)
theorem anz_2241 (Hy : Hyz tys cA base adS Ex) : xall (fun b t => xOK l Dg clz tys cA flz ftz base adS GWz xyz xcz xnz xrz Ex codez bmz bpz b t) 1 1585 2048 codez_2241 :=
  And.intro (okz_1585 Hy) (okzz 3633)
theorem anz_2242 (Hy : Hyz tys cA base adS Ex) : xall (fun b t => xOK l Dg clz tys cA flz ftz base adS GWz xyz xcz xnz xrz Ex codez bmz bpz b t) 2 561 1024 codez_2242 :=
  And.intro (anz_2240 Hy) (anz_2241 Hy)
theorem anz_2243 (Hy : Hyz tys cA base adS Ex) : xall (fun b t => xOK l Dg clz tys cA flz ftz base adS GWz xyz xcz xnz xrz Ex codez bmz bpz b t) 3 49 512 codez_2243 :=
  And.intro (anz_2239 Hy) (anz_2242 Hy)
theorem anz_2244 (Hy : Hyz tys cA base adS Ex) : xall (fun b t => xOK l Dg clz tys cA flz ftz base adS GWz xyz xcz xnz xrz Ex codez bmz bpz b t) 1 305 2048 codez_2244 :=
  And.intro (okz_305 Hy) (okz_2353 Hy)
theorem anz_2245 (Hy : Hyz tys cA base adS Ex) : xall (fun b t => xOK l Dg clz tys cA flz ftz base adS GWz xyz xcz xnz xrz Ex codez bmz bpz b t) 1 1329 2048 codez_2245 :=
  And.intro (okz_1329 Hy) (okzz 3377)
theorem anz_2246 (Hy : Hyz tys cA base adS Ex) : xall (fun b t => xOK l Dg clz tys cA flz ftz base adS GWz xyz xcz xnz xrz Ex codez bmz bpz b t) 2 305 1024 codez_2246 :=
  And.intro (anz_2244 Hy) (anz_2245 Hy)
theorem anz_2247 (Hy : Hyz tys cA base adS Ex) : xall (fun b t => xOK l Dg clz tys cA flz ftz base adS GWz xyz xcz xnz xrz Ex codez bmz bpz b t) 1 817 2048 codez_2247 :=
  And.intro (okz_817 Hy) (okzz 2865)
theorem anz_2248 (Hy : Hyz tys cA base adS Ex) : xall (fun b t => xOK l Dg clz tys cA flz ftz base adS GWz xyz xcz xnz xrz Ex codez bmz bpz b t) 1 1841 2048 codez_2248 :=
  And.intro (okz_1841 Hy) (okzz 3889)
theorem anz_2249 (Hy : Hyz tys cA base adS Ex) : xall (fun b t => xOK l Dg clz tys cA flz ftz base adS GWz xyz xcz xnz xrz Ex codez bmz bpz b t) 2 817 1024 codez_2249 :=
  And.intro (anz_2247 Hy) (anz_2248 Hy)
theorem anz_2250 (Hy : Hyz tys cA base adS Ex) : xall (fun b t => xOK l Dg clz tys cA flz ftz base adS GWz xyz xcz xnz xrz Ex codez bmz bpz b t) 3 305 512 codez_2250 :=
  And.intro (anz_2246 Hy) (anz_2249 Hy)
theorem anz_2251 (Hy : Hyz tys cA base adS Ex) : xall (fun b t => xOK l Dg clz tys cA flz ftz base adS GWz xyz xcz xnz xrz Ex codez bmz bpz b t) 4 49 256 codez_2251 :=
  And.intro (anz_2243 Hy) (anz_2250 Hy)
theorem anz_2252 (Hy : Hyz tys cA base adS Ex) : xall (fun b t => xOK l Dg clz tys cA flz ftz base adS GWz xyz xcz xnz xrz Ex codez bmz bpz b t) 1 177 2048 codez_2252 :=
  And.intro (okz_177 Hy) (okz_2225 Hy)
theorem anz_2253 (Hy : Hyz tys cA base adS Ex) : xall (fun b t => xOK l Dg clz tys cA flz ftz base adS GWz xyz xcz xnz xrz Ex codez bmz bpz b t) 1 1201 2048 codez_2253 :=
  And.intro (okz_1201 Hy) (okzz 3249)
theorem anz_2254 (Hy : Hyz tys cA base adS Ex) : xall (fun b t => xOK l Dg clz tys cA flz ftz base adS GWz xyz xcz xnz xrz Ex codez bmz bpz b t) 2 177 1024 codez_2254 :=
  And.intro (anz_2252 Hy) (anz_2253 Hy)
theorem anz_2255 (Hy : Hyz tys cA base adS Ex) : xall (fun b t => xOK l Dg clz tys cA flz ftz base adS GWz xyz xcz xnz xrz Ex codez bmz bpz b t) 1 689 2048 codez_2255 :=
  And.intro (okz_689 Hy) (okzz 2737)
theorem anz_2256 (Hy : Hyz tys cA base adS Ex) : xall (fun b t => xOK l Dg clz tys cA flz ftz base adS GWz xyz xcz xnz xrz Ex codez bmz bpz b t) 1 1713 2048 codez_2256 :=
  And.intro (okz_1713 Hy) (okzz 3761)
theorem anz_2257 (Hy : Hyz tys cA base adS Ex) : xall (fun b t => xOK l Dg clz tys cA flz ftz base adS GWz xyz xcz xnz xrz Ex codez bmz bpz b t) 2 689 1024 codez_2257 :=
  And.intro (anz_2255 Hy) (anz_2256 Hy)
theorem anz_2258 (Hy : Hyz tys cA base adS Ex) : xall (fun b t => xOK l Dg clz tys cA flz ftz base adS GWz xyz xcz xnz xrz Ex codez bmz bpz b t) 3 177 512 codez_2258 :=
  And.intro (anz_2254 Hy) (anz_2257 Hy)
theorem anz_2259 (Hy : Hyz tys cA base adS Ex) : xall (fun b t => xOK l Dg clz tys cA flz ftz base adS GWz xyz xcz xnz xrz Ex codez bmz bpz b t) 1 433 2048 codez_2259 :=
  And.intro (okz_433 Hy) (okz_2481 Hy)
theorem anz_2260 (Hy : Hyz tys cA base adS Ex) : xall (fun b t => xOK l Dg clz tys cA flz ftz base adS GWz xyz xcz xnz xrz Ex codez bmz bpz b t) 1 1457 2048 codez_2260 :=
  And.intro (okz_1457 Hy) (okzz 3505)
theorem anz_2261 (Hy : Hyz tys cA base adS Ex) : xall (fun b t => xOK l Dg clz tys cA flz ftz base adS GWz xyz xcz xnz xrz Ex codez bmz bpz b t) 2 433 1024 codez_2261 :=
  And.intro (anz_2259 Hy) (anz_2260 Hy)
theorem anz_2262 (Hy : Hyz tys cA base adS Ex) : xall (fun b t => xOK l Dg clz tys cA flz ftz base adS GWz xyz xcz xnz xrz Ex codez bmz bpz b t) 1 945 2048 codez_2262 :=
  And.intro (okz_945 Hy) (okzz 2993)
theorem anz_2263 (Hy : Hyz tys cA base adS Ex) : xall (fun b t => xOK l Dg clz tys cA flz ftz base adS GWz xyz xcz xnz xrz Ex codez bmz bpz b t) 1 1969 2048 codez_2263 :=
  And.intro (okz_1969 Hy) (okzz 4017)
theorem anz_2264 (Hy : Hyz tys cA base adS Ex) : xall (fun b t => xOK l Dg clz tys cA flz ftz base adS GWz xyz xcz xnz xrz Ex codez bmz bpz b t) 2 945 1024 codez_2264 :=
  And.intro (anz_2262 Hy) (anz_2263 Hy)
theorem anz_2265 (Hy : Hyz tys cA base adS Ex) : xall (fun b t => xOK l Dg clz tys cA flz ftz base adS GWz xyz xcz xnz xrz Ex codez bmz bpz b t) 3 433 512 codez_2265 :=
  And.intro (anz_2261 Hy) (anz_2264 Hy)
theorem anz_2266 (Hy : Hyz tys cA base adS Ex) : xall (fun b t => xOK l Dg clz tys cA flz ftz base adS GWz xyz xcz xnz xrz Ex codez bmz bpz b t) 4 177 256 codez_2266 :=
  And.intro (anz_2258 Hy) (anz_2265 Hy)
theorem anz_2267 (Hy : Hyz tys cA base adS Ex) : xall (fun b t => xOK l Dg clz tys cA flz ftz base adS GWz xyz xcz xnz xrz Ex codez bmz bpz b t) 5 49 128 codez_2267 :=
  And.intro (anz_2251 Hy) (anz_2266 Hy)
theorem anz_2268 (Hy : Hyz tys cA base adS Ex) : xall (fun b t => xOK l Dg clz tys cA flz ftz base adS GWz xyz xcz xnz xrz Ex codez bmz bpz b t) 1 113 2048 codez_2268 :=
  And.intro (okz_113 Hy) (okz_2161 Hy)
theorem anz_2269 (Hy : Hyz tys cA base adS Ex) : xall (fun b t => xOK l Dg clz tys cA flz ftz base adS GWz xyz xcz xnz xrz Ex codez bmz bpz b t) 1 1137 2048 codez_2269 :=
  And.intro (okz_1137 Hy) (okzz 3185)
theorem anz_2270 (Hy : Hyz tys cA base adS Ex) : xall (fun b t => xOK l Dg clz tys cA flz ftz base adS GWz xyz xcz xnz xrz Ex codez bmz bpz b t) 2 113 1024 codez_2270 :=
  And.intro (anz_2268 Hy) (anz_2269 Hy)
theorem anz_2271 (Hy : Hyz tys cA base adS Ex) : xall (fun b t => xOK l Dg clz tys cA flz ftz base adS GWz xyz xcz xnz xrz Ex codez bmz bpz b t) 1 625 2048 codez_2271 :=
  And.intro (okz_625 Hy) (okzz 2673)
theorem anz_2272 (Hy : Hyz tys cA base adS Ex) : xall (fun b t => xOK l Dg clz tys cA flz ftz base adS GWz xyz xcz xnz xrz Ex codez bmz bpz b t) 1 1649 2048 codez_2272 :=
  And.intro (okz_1649 Hy) (okzz 3697)
theorem anz_2273 (Hy : Hyz tys cA base adS Ex) : xall (fun b t => xOK l Dg clz tys cA flz ftz base adS GWz xyz xcz xnz xrz Ex codez bmz bpz b t) 2 625 1024 codez_2273 :=
  And.intro (anz_2271 Hy) (anz_2272 Hy)
theorem anz_2274 (Hy : Hyz tys cA base adS Ex) : xall (fun b t => xOK l Dg clz tys cA flz ftz base adS GWz xyz xcz xnz xrz Ex codez bmz bpz b t) 3 113 512 codez_2274 :=
  And.intro (anz_2270 Hy) (anz_2273 Hy)
theorem anz_2275 (Hy : Hyz tys cA base adS Ex) : xall (fun b t => xOK l Dg clz tys cA flz ftz base adS GWz xyz xcz xnz xrz Ex codez bmz bpz b t) 1 369 2048 codez_2275 :=
  And.intro (okz_369 Hy) (okz_2417 Hy)
theorem anz_2276 (Hy : Hyz tys cA base adS Ex) : xall (fun b t => xOK l Dg clz tys cA flz ftz base adS GWz xyz xcz xnz xrz Ex codez bmz bpz b t) 1 1393 2048 codez_2276 :=
  And.intro (okz_1393 Hy) (okzz 3441)
theorem anz_2277 (Hy : Hyz tys cA base adS Ex) : xall (fun b t => xOK l Dg clz tys cA flz ftz base adS GWz xyz xcz xnz xrz Ex codez bmz bpz b t) 2 369 1024 codez_2277 :=
  And.intro (anz_2275 Hy) (anz_2276 Hy)
theorem anz_2278 (Hy : Hyz tys cA base adS Ex) : xall (fun b t => xOK l Dg clz tys cA flz ftz base adS GWz xyz xcz xnz xrz Ex codez bmz bpz b t) 1 881 2048 codez_2278 :=
  And.intro (okz_881 Hy) (okzz 2929)
theorem anz_2279 (Hy : Hyz tys cA base adS Ex) : xall (fun b t => xOK l Dg clz tys cA flz ftz base adS GWz xyz xcz xnz xrz Ex codez bmz bpz b t) 1 1905 2048 codez_2279 :=
  And.intro (okz_1905 Hy) (okzz 3953)
theorem anz_2280 (Hy : Hyz tys cA base adS Ex) : xall (fun b t => xOK l Dg clz tys cA flz ftz base adS GWz xyz xcz xnz xrz Ex codez bmz bpz b t) 2 881 1024 codez_2280 :=
  And.intro (anz_2278 Hy) (anz_2279 Hy)
theorem anz_2281 (Hy : Hyz tys cA base adS Ex) : xall (fun b t => xOK l Dg clz tys cA flz ftz base adS GWz xyz xcz xnz xrz Ex codez bmz bpz b t) 3 369 512 codez_2281 :=
  And.intro (anz_2277 Hy) (anz_2280 Hy)
theorem anz_2282 (Hy : Hyz tys cA base adS Ex) : xall (fun b t => xOK l Dg clz tys cA flz ftz base adS GWz xyz xcz xnz xrz Ex codez bmz bpz b t) 4 113 256 codez_2282 :=
  And.intro (anz_2274 Hy) (anz_2281 Hy)
theorem anz_2283 (Hy : Hyz tys cA base adS Ex) : xall (fun b t => xOK l Dg clz tys cA flz ftz base adS GWz xyz xcz xnz xrz Ex codez bmz bpz b t) 1 241 2048 codez_2283 :=
  And.intro (okz_241 Hy) (okz_2289 Hy)
theorem anz_2284 (Hy : Hyz tys cA base adS Ex) : xall (fun b t => xOK l Dg clz tys cA flz ftz base adS GWz xyz xcz xnz xrz Ex codez bmz bpz b t) 1 1265 2048 codez_2284 :=
  And.intro (okz_1265 Hy) (okzz 3313)
theorem anz_2285 (Hy : Hyz tys cA base adS Ex) : xall (fun b t => xOK l Dg clz tys cA flz ftz base adS GWz xyz xcz xnz xrz Ex codez bmz bpz b t) 2 241 1024 codez_2285 :=
  And.intro (anz_2283 Hy) (anz_2284 Hy)
theorem anz_2286 (Hy : Hyz tys cA base adS Ex) : xall (fun b t => xOK l Dg clz tys cA flz ftz base adS GWz xyz xcz xnz xrz Ex codez bmz bpz b t) 1 753 2048 codez_2286 :=
  And.intro (okz_753 Hy) (okzz 2801)
theorem anz_2287 (Hy : Hyz tys cA base adS Ex) : xall (fun b t => xOK l Dg clz tys cA flz ftz base adS GWz xyz xcz xnz xrz Ex codez bmz bpz b t) 1 1777 2048 codez_2287 :=
  And.intro (okz_1777 Hy) (okzz 3825)
theorem anz_2288 (Hy : Hyz tys cA base adS Ex) : xall (fun b t => xOK l Dg clz tys cA flz ftz base adS GWz xyz xcz xnz xrz Ex codez bmz bpz b t) 2 753 1024 codez_2288 :=
  And.intro (anz_2286 Hy) (anz_2287 Hy)
theorem anz_2289 (Hy : Hyz tys cA base adS Ex) : xall (fun b t => xOK l Dg clz tys cA flz ftz base adS GWz xyz xcz xnz xrz Ex codez bmz bpz b t) 3 241 512 codez_2289 :=
  And.intro (anz_2285 Hy) (anz_2288 Hy)
theorem anz_2290 (Hy : Hyz tys cA base adS Ex) : xall (fun b t => xOK l Dg clz tys cA flz ftz base adS GWz xyz xcz xnz xrz Ex codez bmz bpz b t) 1 497 2048 codez_2290 :=
  And.intro (okz_497 Hy) (okzz 2545)
theorem anz_2291 (Hy : Hyz tys cA base adS Ex) : xall (fun b t => xOK l Dg clz tys cA flz ftz base adS GWz xyz xcz xnz xrz Ex codez bmz bpz b t) 1 1521 2048 codez_2291 :=
  And.intro (okz_1521 Hy) (okzz 3569)
theorem anz_2292 (Hy : Hyz tys cA base adS Ex) : xall (fun b t => xOK l Dg clz tys cA flz ftz base adS GWz xyz xcz xnz xrz Ex codez bmz bpz b t) 2 497 1024 codez_2292 :=
  And.intro (anz_2290 Hy) (anz_2291 Hy)
theorem anz_2293 (Hy : Hyz tys cA base adS Ex) : xall (fun b t => xOK l Dg clz tys cA flz ftz base adS GWz xyz xcz xnz xrz Ex codez bmz bpz b t) 1 1009 2048 codez_2293 :=
  And.intro (okz_1009 Hy) (okzz 3057)
theorem anz_2294 (Hy : Hyz tys cA base adS Ex) : xall (fun b t => xOK l Dg clz tys cA flz ftz base adS GWz xyz xcz xnz xrz Ex codez bmz bpz b t) 1 2033 2048 codez_2294 :=
  And.intro (okz_2033 Hy) (okzz 4081)
theorem anz_2295 (Hy : Hyz tys cA base adS Ex) : xall (fun b t => xOK l Dg clz tys cA flz ftz base adS GWz xyz xcz xnz xrz Ex codez bmz bpz b t) 2 1009 1024 codez_2295 :=
  And.intro (anz_2293 Hy) (anz_2294 Hy)
theorem anz_2296 (Hy : Hyz tys cA base adS Ex) : xall (fun b t => xOK l Dg clz tys cA flz ftz base adS GWz xyz xcz xnz xrz Ex codez bmz bpz b t) 3 497 512 codez_2296 :=
  And.intro (anz_2292 Hy) (anz_2295 Hy)
theorem anz_2297 (Hy : Hyz tys cA base adS Ex) : xall (fun b t => xOK l Dg clz tys cA flz ftz base adS GWz xyz xcz xnz xrz Ex codez bmz bpz b t) 4 241 256 codez_2297 :=
  And.intro (anz_2289 Hy) (anz_2296 Hy)
theorem anz_2298 (Hy : Hyz tys cA base adS Ex) : xall (fun b t => xOK l Dg clz tys cA flz ftz base adS GWz xyz xcz xnz xrz Ex codez bmz bpz b t) 5 113 128 codez_2298 :=
  And.intro (anz_2282 Hy) (anz_2297 Hy)
theorem anz_2299 (Hy : Hyz tys cA base adS Ex) : xall (fun b t => xOK l Dg clz tys cA flz ftz base adS GWz xyz xcz xnz xrz Ex codez bmz bpz b t) 6 49 64 codez_2299 :=
  And.intro (anz_2267 Hy) (anz_2298 Hy)
theorem anz_2300 (Hy : Hyz tys cA base adS Ex) : xall (fun b t => xOK l Dg clz tys cA flz ftz base adS GWz xyz xcz xnz xrz Ex codez bmz bpz b t) 7 17 32 codez_2300 :=
  And.intro (anz_2236 Hy) (anz_2299 Hy)
theorem anz_2301 (Hy : Hyz tys cA base adS Ex) : xall (fun b t => xOK l Dg clz tys cA flz ftz base adS GWz xyz xcz xnz xrz Ex codez bmz bpz b t) 8 1 16 codez_2301 :=
  And.intro (anz_2173 Hy) (anz_2300 Hy)
theorem anz_2302 (Hy : Hyz tys cA base adS Ex) : xall (fun b t => xOK l Dg clz tys cA flz ftz base adS GWz xyz xcz xnz xrz Ex codez bmz bpz b t) 1 9 2048 codez_2302 :=
  And.intro (okz_9 Hy) (okz_2057 Hy)
theorem anz_2303 (Hy : Hyz tys cA base adS Ex) : xall (fun b t => xOK l Dg clz tys cA flz ftz base adS GWz xyz xcz xnz xrz Ex codez bmz bpz b t) 1 1033 2048 codez_2303 :=
  And.intro (okz_1033 Hy) (okzz 3081)
theorem anz_2304 (Hy : Hyz tys cA base adS Ex) : xall (fun b t => xOK l Dg clz tys cA flz ftz base adS GWz xyz xcz xnz xrz Ex codez bmz bpz b t) 2 9 1024 codez_2304 :=
  And.intro (anz_2302 Hy) (anz_2303 Hy)
theorem anz_2305 (Hy : Hyz tys cA base adS Ex) : xall (fun b t => xOK l Dg clz tys cA flz ftz base adS GWz xyz xcz xnz xrz Ex codez bmz bpz b t) 1 521 2048 codez_2305 :=
  And.intro (okz_521 Hy) (okzz 2569)
theorem anz_2306 (Hy : Hyz tys cA base adS Ex) : xall (fun b t => xOK l Dg clz tys cA flz ftz base adS GWz xyz xcz xnz xrz Ex codez bmz bpz b t) 1 1545 2048 codez_2306 :=
  And.intro (okz_1545 Hy) (okzz 3593)
theorem anz_2307 (Hy : Hyz tys cA base adS Ex) : xall (fun b t => xOK l Dg clz tys cA flz ftz base adS GWz xyz xcz xnz xrz Ex codez bmz bpz b t) 2 521 1024 codez_2307 :=
  And.intro (anz_2305 Hy) (anz_2306 Hy)
theorem anz_2308 (Hy : Hyz tys cA base adS Ex) : xall (fun b t => xOK l Dg clz tys cA flz ftz base adS GWz xyz xcz xnz xrz Ex codez bmz bpz b t) 3 9 512 codez_2308 :=
  And.intro (anz_2304 Hy) (anz_2307 Hy)
theorem anz_2309 (Hy : Hyz tys cA base adS Ex) : xall (fun b t => xOK l Dg clz tys cA flz ftz base adS GWz xyz xcz xnz xrz Ex codez bmz bpz b t) 1 265 2048 codez_2309 :=
  And.intro (okz_265 Hy) (okz_2313 Hy)
theorem anz_2310 (Hy : Hyz tys cA base adS Ex) : xall (fun b t => xOK l Dg clz tys cA flz ftz base adS GWz xyz xcz xnz xrz Ex codez bmz bpz b t) 1 1289 2048 codez_2310 :=
  And.intro (okz_1289 Hy) (okzz 3337)
theorem anz_2311 (Hy : Hyz tys cA base adS Ex) : xall (fun b t => xOK l Dg clz tys cA flz ftz base adS GWz xyz xcz xnz xrz Ex codez bmz bpz b t) 2 265 1024 codez_2311 :=
  And.intro (anz_2309 Hy) (anz_2310 Hy)
theorem anz_2312 (Hy : Hyz tys cA base adS Ex) : xall (fun b t => xOK l Dg clz tys cA flz ftz base adS GWz xyz xcz xnz xrz Ex codez bmz bpz b t) 1 777 2048 codez_2312 :=
  And.intro (okz_777 Hy) (okzz 2825)
theorem anz_2313 (Hy : Hyz tys cA base adS Ex) : xall (fun b t => xOK l Dg clz tys cA flz ftz base adS GWz xyz xcz xnz xrz Ex codez bmz bpz b t) 1 1801 2048 codez_2313 :=
  And.intro (okz_1801 Hy) (okzz 3849)
theorem anz_2314 (Hy : Hyz tys cA base adS Ex) : xall (fun b t => xOK l Dg clz tys cA flz ftz base adS GWz xyz xcz xnz xrz Ex codez bmz bpz b t) 2 777 1024 codez_2314 :=
  And.intro (anz_2312 Hy) (anz_2313 Hy)
theorem anz_2315 (Hy : Hyz tys cA base adS Ex) : xall (fun b t => xOK l Dg clz tys cA flz ftz base adS GWz xyz xcz xnz xrz Ex codez bmz bpz b t) 3 265 512 codez_2315 :=
  And.intro (anz_2311 Hy) (anz_2314 Hy)
theorem anz_2316 (Hy : Hyz tys cA base adS Ex) : xall (fun b t => xOK l Dg clz tys cA flz ftz base adS GWz xyz xcz xnz xrz Ex codez bmz bpz b t) 4 9 256 codez_2316 :=
  And.intro (anz_2308 Hy) (anz_2315 Hy)
theorem anz_2317 (Hy : Hyz tys cA base adS Ex) : xall (fun b t => xOK l Dg clz tys cA flz ftz base adS GWz xyz xcz xnz xrz Ex codez bmz bpz b t) 1 137 2048 codez_2317 :=
  And.intro (okz_137 Hy) (okz_2185 Hy)
theorem anz_2318 (Hy : Hyz tys cA base adS Ex) : xall (fun b t => xOK l Dg clz tys cA flz ftz base adS GWz xyz xcz xnz xrz Ex codez bmz bpz b t) 1 1161 2048 codez_2318 :=
  And.intro (okz_1161 Hy) (okzz 3209)
theorem anz_2319 (Hy : Hyz tys cA base adS Ex) : xall (fun b t => xOK l Dg clz tys cA flz ftz base adS GWz xyz xcz xnz xrz Ex codez bmz bpz b t) 2 137 1024 codez_2319 :=
  And.intro (anz_2317 Hy) (anz_2318 Hy)
theorem anz_2320 (Hy : Hyz tys cA base adS Ex) : xall (fun b t => xOK l Dg clz tys cA flz ftz base adS GWz xyz xcz xnz xrz Ex codez bmz bpz b t) 1 649 2048 codez_2320 :=
  And.intro (okz_649 Hy) (okzz 2697)
theorem anz_2321 (Hy : Hyz tys cA base adS Ex) : xall (fun b t => xOK l Dg clz tys cA flz ftz base adS GWz xyz xcz xnz xrz Ex codez bmz bpz b t) 1 1673 2048 codez_2321 :=
  And.intro (okz_1673 Hy) (okzz 3721)
theorem anz_2322 (Hy : Hyz tys cA base adS Ex) : xall (fun b t => xOK l Dg clz tys cA flz ftz base adS GWz xyz xcz xnz xrz Ex codez bmz bpz b t) 2 649 1024 codez_2322 :=
  And.intro (anz_2320 Hy) (anz_2321 Hy)
theorem anz_2323 (Hy : Hyz tys cA base adS Ex) : xall (fun b t => xOK l Dg clz tys cA flz ftz base adS GWz xyz xcz xnz xrz Ex codez bmz bpz b t) 3 137 512 codez_2323 :=
  And.intro (anz_2319 Hy) (anz_2322 Hy)
theorem anz_2324 (Hy : Hyz tys cA base adS Ex) : xall (fun b t => xOK l Dg clz tys cA flz ftz base adS GWz xyz xcz xnz xrz Ex codez bmz bpz b t) 1 393 2048 codez_2324 :=
  And.intro (okz_393 Hy) (okz_2441 Hy)
theorem anz_2325 (Hy : Hyz tys cA base adS Ex) : xall (fun b t => xOK l Dg clz tys cA flz ftz base adS GWz xyz xcz xnz xrz Ex codez bmz bpz b t) 1 1417 2048 codez_2325 :=
  And.intro (okz_1417 Hy) (okzz 3465)
theorem anz_2326 (Hy : Hyz tys cA base adS Ex) : xall (fun b t => xOK l Dg clz tys cA flz ftz base adS GWz xyz xcz xnz xrz Ex codez bmz bpz b t) 2 393 1024 codez_2326 :=
  And.intro (anz_2324 Hy) (anz_2325 Hy)
theorem anz_2327 (Hy : Hyz tys cA base adS Ex) : xall (fun b t => xOK l Dg clz tys cA flz ftz base adS GWz xyz xcz xnz xrz Ex codez bmz bpz b t) 1 905 2048 codez_2327 :=
  And.intro (okz_905 Hy) (okzz 2953)
theorem anz_2328 (Hy : Hyz tys cA base adS Ex) : xall (fun b t => xOK l Dg clz tys cA flz ftz base adS GWz xyz xcz xnz xrz Ex codez bmz bpz b t) 1 1929 2048 codez_2328 :=
  And.intro (okz_1929 Hy) (okzz 3977)
theorem anz_2329 (Hy : Hyz tys cA base adS Ex) : xall (fun b t => xOK l Dg clz tys cA flz ftz base adS GWz xyz xcz xnz xrz Ex codez bmz bpz b t) 2 905 1024 codez_2329 :=
  And.intro (anz_2327 Hy) (anz_2328 Hy)
theorem anz_2330 (Hy : Hyz tys cA base adS Ex) : xall (fun b t => xOK l Dg clz tys cA flz ftz base adS GWz xyz xcz xnz xrz Ex codez bmz bpz b t) 3 393 512 codez_2330 :=
  And.intro (anz_2326 Hy) (anz_2329 Hy)
theorem anz_2331 (Hy : Hyz tys cA base adS Ex) : xall (fun b t => xOK l Dg clz tys cA flz ftz base adS GWz xyz xcz xnz xrz Ex codez bmz bpz b t) 4 137 256 codez_2331 :=
  And.intro (anz_2323 Hy) (anz_2330 Hy)
theorem anz_2332 (Hy : Hyz tys cA base adS Ex) : xall (fun b t => xOK l Dg clz tys cA flz ftz base adS GWz xyz xcz xnz xrz Ex codez bmz bpz b t) 5 9 128 codez_2332 :=
  And.intro (anz_2316 Hy) (anz_2331 Hy)
theorem anz_2333 (Hy : Hyz tys cA base adS Ex) : xall (fun b t => xOK l Dg clz tys cA flz ftz base adS GWz xyz xcz xnz xrz Ex codez bmz bpz b t) 1 73 2048 codez_2333 :=
  And.intro (okz_73 Hy) (okz_2121 Hy)
theorem anz_2334 (Hy : Hyz tys cA base adS Ex) : xall (fun b t => xOK l Dg clz tys cA flz ftz base adS GWz xyz xcz xnz xrz Ex codez bmz bpz b t) 1 1097 2048 codez_2334 :=
  And.intro (okz_1097 Hy) (okzz 3145)
theorem anz_2335 (Hy : Hyz tys cA base adS Ex) : xall (fun b t => xOK l Dg clz tys cA flz ftz base adS GWz xyz xcz xnz xrz Ex codez bmz bpz b t) 2 73 1024 codez_2335 :=
  And.intro (anz_2333 Hy) (anz_2334 Hy)
theorem anz_2336 (Hy : Hyz tys cA base adS Ex) : xall (fun b t => xOK l Dg clz tys cA flz ftz base adS GWz xyz xcz xnz xrz Ex codez bmz bpz b t) 1 585 2048 codez_2336 :=
  And.intro (okz_585 Hy) (okzz 2633)
theorem anz_2337 (Hy : Hyz tys cA base adS Ex) : xall (fun b t => xOK l Dg clz tys cA flz ftz base adS GWz xyz xcz xnz xrz Ex codez bmz bpz b t) 1 1609 2048 codez_2337 :=
  And.intro (okz_1609 Hy) (okzz 3657)
theorem anz_2338 (Hy : Hyz tys cA base adS Ex) : xall (fun b t => xOK l Dg clz tys cA flz ftz base adS GWz xyz xcz xnz xrz Ex codez bmz bpz b t) 2 585 1024 codez_2338 :=
  And.intro (anz_2336 Hy) (anz_2337 Hy)
theorem anz_2339 (Hy : Hyz tys cA base adS Ex) : xall (fun b t => xOK l Dg clz tys cA flz ftz base adS GWz xyz xcz xnz xrz Ex codez bmz bpz b t) 3 73 512 codez_2339 :=
  And.intro (anz_2335 Hy) (anz_2338 Hy)
theorem anz_2340 (Hy : Hyz tys cA base adS Ex) : xall (fun b t => xOK l Dg clz tys cA flz ftz base adS GWz xyz xcz xnz xrz Ex codez bmz bpz b t) 1 329 2048 codez_2340 :=
  And.intro (okz_329 Hy) (okz_2377 Hy)
theorem anz_2341 (Hy : Hyz tys cA base adS Ex) : xall (fun b t => xOK l Dg clz tys cA flz ftz base adS GWz xyz xcz xnz xrz Ex codez bmz bpz b t) 1 1353 2048 codez_2341 :=
  And.intro (okz_1353 Hy) (okzz 3401)
theorem anz_2342 (Hy : Hyz tys cA base adS Ex) : xall (fun b t => xOK l Dg clz tys cA flz ftz base adS GWz xyz xcz xnz xrz Ex codez bmz bpz b t) 2 329 1024 codez_2342 :=
  And.intro (anz_2340 Hy) (anz_2341 Hy)
theorem anz_2343 (Hy : Hyz tys cA base adS Ex) : xall (fun b t => xOK l Dg clz tys cA flz ftz base adS GWz xyz xcz xnz xrz Ex codez bmz bpz b t) 1 841 2048 codez_2343 :=
  And.intro (okz_841 Hy) (okzz 2889)
theorem anz_2344 (Hy : Hyz tys cA base adS Ex) : xall (fun b t => xOK l Dg clz tys cA flz ftz base adS GWz xyz xcz xnz xrz Ex codez bmz bpz b t) 1 1865 2048 codez_2344 :=
  And.intro (okz_1865 Hy) (okzz 3913)
theorem anz_2345 (Hy : Hyz tys cA base adS Ex) : xall (fun b t => xOK l Dg clz tys cA flz ftz base adS GWz xyz xcz xnz xrz Ex codez bmz bpz b t) 2 841 1024 codez_2345 :=
  And.intro (anz_2343 Hy) (anz_2344 Hy)
theorem anz_2346 (Hy : Hyz tys cA base adS Ex) : xall (fun b t => xOK l Dg clz tys cA flz ftz base adS GWz xyz xcz xnz xrz Ex codez bmz bpz b t) 3 329 512 codez_2346 :=
  And.intro (anz_2342 Hy) (anz_2345 Hy)
theorem anz_2347 (Hy : Hyz tys cA base adS Ex) : xall (fun b t => xOK l Dg clz tys cA flz ftz base adS GWz xyz xcz xnz xrz Ex codez bmz bpz b t) 4 73 256 codez_2347 :=
  And.intro (anz_2339 Hy) (anz_2346 Hy)
theorem anz_2348 (Hy : Hyz tys cA base adS Ex) : xall (fun b t => xOK l Dg clz tys cA flz ftz base adS GWz xyz xcz xnz xrz Ex codez bmz bpz b t) 1 201 2048 codez_2348 :=
  And.intro (okz_201 Hy) (okz_2249 Hy)
theorem anz_2349 (Hy : Hyz tys cA base adS Ex) : xall (fun b t => xOK l Dg clz tys cA flz ftz base adS GWz xyz xcz xnz xrz Ex codez bmz bpz b t) 1 1225 2048 codez_2349 :=
  And.intro (okz_1225 Hy) (okzz 3273)
theorem anz_2350 (Hy : Hyz tys cA base adS Ex) : xall (fun b t => xOK l Dg clz tys cA flz ftz base adS GWz xyz xcz xnz xrz Ex codez bmz bpz b t) 2 201 1024 codez_2350 :=
  And.intro (anz_2348 Hy) (anz_2349 Hy)
theorem anz_2351 (Hy : Hyz tys cA base adS Ex) : xall (fun b t => xOK l Dg clz tys cA flz ftz base adS GWz xyz xcz xnz xrz Ex codez bmz bpz b t) 1 713 2048 codez_2351 :=
  And.intro (okz_713 Hy) (okzz 2761)
theorem anz_2352 (Hy : Hyz tys cA base adS Ex) : xall (fun b t => xOK l Dg clz tys cA flz ftz base adS GWz xyz xcz xnz xrz Ex codez bmz bpz b t) 1 1737 2048 codez_2352 :=
  And.intro (okz_1737 Hy) (okzz 3785)
theorem anz_2353 (Hy : Hyz tys cA base adS Ex) : xall (fun b t => xOK l Dg clz tys cA flz ftz base adS GWz xyz xcz xnz xrz Ex codez bmz bpz b t) 2 713 1024 codez_2353 :=
  And.intro (anz_2351 Hy) (anz_2352 Hy)
theorem anz_2354 (Hy : Hyz tys cA base adS Ex) : xall (fun b t => xOK l Dg clz tys cA flz ftz base adS GWz xyz xcz xnz xrz Ex codez bmz bpz b t) 3 201 512 codez_2354 :=
  And.intro (anz_2350 Hy) (anz_2353 Hy)
theorem anz_2355 (Hy : Hyz tys cA base adS Ex) : xall (fun b t => xOK l Dg clz tys cA flz ftz base adS GWz xyz xcz xnz xrz Ex codez bmz bpz b t) 1 457 2048 codez_2355 :=
  And.intro (okz_457 Hy) (okz_2505 Hy)
theorem anz_2356 (Hy : Hyz tys cA base adS Ex) : xall (fun b t => xOK l Dg clz tys cA flz ftz base adS GWz xyz xcz xnz xrz Ex codez bmz bpz b t) 1 1481 2048 codez_2356 :=
  And.intro (okz_1481 Hy) (okzz 3529)
theorem anz_2357 (Hy : Hyz tys cA base adS Ex) : xall (fun b t => xOK l Dg clz tys cA flz ftz base adS GWz xyz xcz xnz xrz Ex codez bmz bpz b t) 2 457 1024 codez_2357 :=
  And.intro (anz_2355 Hy) (anz_2356 Hy)
theorem anz_2358 (Hy : Hyz tys cA base adS Ex) : xall (fun b t => xOK l Dg clz tys cA flz ftz base adS GWz xyz xcz xnz xrz Ex codez bmz bpz b t) 1 969 2048 codez_2358 :=
  And.intro (okz_969 Hy) (okzz 3017)
theorem anz_2359 (Hy : Hyz tys cA base adS Ex) : xall (fun b t => xOK l Dg clz tys cA flz ftz base adS GWz xyz xcz xnz xrz Ex codez bmz bpz b t) 1 1993 2048 codez_2359 :=
  And.intro (okz_1993 Hy) (okzz 4041)
theorem anz_2360 (Hy : Hyz tys cA base adS Ex) : xall (fun b t => xOK l Dg clz tys cA flz ftz base adS GWz xyz xcz xnz xrz Ex codez bmz bpz b t) 2 969 1024 codez_2360 :=
  And.intro (anz_2358 Hy) (anz_2359 Hy)
theorem anz_2361 (Hy : Hyz tys cA base adS Ex) : xall (fun b t => xOK l Dg clz tys cA flz ftz base adS GWz xyz xcz xnz xrz Ex codez bmz bpz b t) 3 457 512 codez_2361 :=
  And.intro (anz_2357 Hy) (anz_2360 Hy)
theorem anz_2362 (Hy : Hyz tys cA base adS Ex) : xall (fun b t => xOK l Dg clz tys cA flz ftz base adS GWz xyz xcz xnz xrz Ex codez bmz bpz b t) 4 201 256 codez_2362 :=
  And.intro (anz_2354 Hy) (anz_2361 Hy)
theorem anz_2363 (Hy : Hyz tys cA base adS Ex) : xall (fun b t => xOK l Dg clz tys cA flz ftz base adS GWz xyz xcz xnz xrz Ex codez bmz bpz b t) 5 73 128 codez_2363 :=
  And.intro (anz_2347 Hy) (anz_2362 Hy)
theorem anz_2364 (Hy : Hyz tys cA base adS Ex) : xall (fun b t => xOK l Dg clz tys cA flz ftz base adS GWz xyz xcz xnz xrz Ex codez bmz bpz b t) 6 9 64 codez_2364 :=
  And.intro (anz_2332 Hy) (anz_2363 Hy)
theorem anz_2365 (Hy : Hyz tys cA base adS Ex) : xall (fun b t => xOK l Dg clz tys cA flz ftz base adS GWz xyz xcz xnz xrz Ex codez bmz bpz b t) 1 41 2048 codez_2365 :=
  And.intro (okz_41 Hy) (okz_2089 Hy)
theorem anz_2366 (Hy : Hyz tys cA base adS Ex) : xall (fun b t => xOK l Dg clz tys cA flz ftz base adS GWz xyz xcz xnz xrz Ex codez bmz bpz b t) 1 1065 2048 codez_2366 :=
  And.intro (okz_1065 Hy) (okzz 3113)
theorem anz_2367 (Hy : Hyz tys cA base adS Ex) : xall (fun b t => xOK l Dg clz tys cA flz ftz base adS GWz xyz xcz xnz xrz Ex codez bmz bpz b t) 2 41 1024 codez_2367 :=
  And.intro (anz_2365 Hy) (anz_2366 Hy)
theorem anz_2368 (Hy : Hyz tys cA base adS Ex) : xall (fun b t => xOK l Dg clz tys cA flz ftz base adS GWz xyz xcz xnz xrz Ex codez bmz bpz b t) 1 553 2048 codez_2368 :=
  And.intro (okz_553 Hy) (okzz 2601)
theorem anz_2369 (Hy : Hyz tys cA base adS Ex) : xall (fun b t => xOK l Dg clz tys cA flz ftz base adS GWz xyz xcz xnz xrz Ex codez bmz bpz b t) 1 1577 2048 codez_2369 :=
  And.intro (okz_1577 Hy) (okzz 3625)
theorem anz_2370 (Hy : Hyz tys cA base adS Ex) : xall (fun b t => xOK l Dg clz tys cA flz ftz base adS GWz xyz xcz xnz xrz Ex codez bmz bpz b t) 2 553 1024 codez_2370 :=
  And.intro (anz_2368 Hy) (anz_2369 Hy)
theorem anz_2371 (Hy : Hyz tys cA base adS Ex) : xall (fun b t => xOK l Dg clz tys cA flz ftz base adS GWz xyz xcz xnz xrz Ex codez bmz bpz b t) 3 41 512 codez_2371 :=
  And.intro (anz_2367 Hy) (anz_2370 Hy)
theorem anz_2372 (Hy : Hyz tys cA base adS Ex) : xall (fun b t => xOK l Dg clz tys cA flz ftz base adS GWz xyz xcz xnz xrz Ex codez bmz bpz b t) 1 297 2048 codez_2372 :=
  And.intro (okz_297 Hy) (okz_2345 Hy)
theorem anz_2373 (Hy : Hyz tys cA base adS Ex) : xall (fun b t => xOK l Dg clz tys cA flz ftz base adS GWz xyz xcz xnz xrz Ex codez bmz bpz b t) 1 1321 2048 codez_2373 :=
  And.intro (okz_1321 Hy) (okzz 3369)
theorem anz_2374 (Hy : Hyz tys cA base adS Ex) : xall (fun b t => xOK l Dg clz tys cA flz ftz base adS GWz xyz xcz xnz xrz Ex codez bmz bpz b t) 2 297 1024 codez_2374 :=
  And.intro (anz_2372 Hy) (anz_2373 Hy)
theorem anz_2375 (Hy : Hyz tys cA base adS Ex) : xall (fun b t => xOK l Dg clz tys cA flz ftz base adS GWz xyz xcz xnz xrz Ex codez bmz bpz b t) 1 809 2048 codez_2375 :=
  And.intro (okz_809 Hy) (okzz 2857)
theorem anz_2376 (Hy : Hyz tys cA base adS Ex) : xall (fun b t => xOK l Dg clz tys cA flz ftz base adS GWz xyz xcz xnz xrz Ex codez bmz bpz b t) 1 1833 2048 codez_2376 :=
  And.intro (okz_1833 Hy) (okzz 3881)
theorem anz_2377 (Hy : Hyz tys cA base adS Ex) : xall (fun b t => xOK l Dg clz tys cA flz ftz base adS GWz xyz xcz xnz xrz Ex codez bmz bpz b t) 2 809 1024 codez_2377 :=
  And.intro (anz_2375 Hy) (anz_2376 Hy)
theorem anz_2378 (Hy : Hyz tys cA base adS Ex) : xall (fun b t => xOK l Dg clz tys cA flz ftz base adS GWz xyz xcz xnz xrz Ex codez bmz bpz b t) 3 297 512 codez_2378 :=
  And.intro (anz_2374 Hy) (anz_2377 Hy)
theorem anz_2379 (Hy : Hyz tys cA base adS Ex) : xall (fun b t => xOK l Dg clz tys cA flz ftz base adS GWz xyz xcz xnz xrz Ex codez bmz bpz b t) 4 41 256 codez_2379 :=
  And.intro (anz_2371 Hy) (anz_2378 Hy)
theorem anz_2380 (Hy : Hyz tys cA base adS Ex) : xall (fun b t => xOK l Dg clz tys cA flz ftz base adS GWz xyz xcz xnz xrz Ex codez bmz bpz b t) 1 169 2048 codez_2380 :=
  And.intro (okz_169 Hy) (okz_2217 Hy)
theorem anz_2381 (Hy : Hyz tys cA base adS Ex) : xall (fun b t => xOK l Dg clz tys cA flz ftz base adS GWz xyz xcz xnz xrz Ex codez bmz bpz b t) 1 1193 2048 codez_2381 :=
  And.intro (okz_1193 Hy) (okzz 3241)
theorem anz_2382 (Hy : Hyz tys cA base adS Ex) : xall (fun b t => xOK l Dg clz tys cA flz ftz base adS GWz xyz xcz xnz xrz Ex codez bmz bpz b t) 2 169 1024 codez_2382 :=
  And.intro (anz_2380 Hy) (anz_2381 Hy)
theorem anz_2383 (Hy : Hyz tys cA base adS Ex) : xall (fun b t => xOK l Dg clz tys cA flz ftz base adS GWz xyz xcz xnz xrz Ex codez bmz bpz b t) 1 681 2048 codez_2383 :=
  And.intro (okz_681 Hy) (okzz 2729)
theorem anz_2384 (Hy : Hyz tys cA base adS Ex) : xall (fun b t => xOK l Dg clz tys cA flz ftz base adS GWz xyz xcz xnz xrz Ex codez bmz bpz b t) 1 1705 2048 codez_2384 :=
  And.intro (okz_1705 Hy) (okzz 3753)
theorem anz_2385 (Hy : Hyz tys cA base adS Ex) : xall (fun b t => xOK l Dg clz tys cA flz ftz base adS GWz xyz xcz xnz xrz Ex codez bmz bpz b t) 2 681 1024 codez_2385 :=
  And.intro (anz_2383 Hy) (anz_2384 Hy)
theorem anz_2386 (Hy : Hyz tys cA base adS Ex) : xall (fun b t => xOK l Dg clz tys cA flz ftz base adS GWz xyz xcz xnz xrz Ex codez bmz bpz b t) 3 169 512 codez_2386 :=
  And.intro (anz_2382 Hy) (anz_2385 Hy)
theorem anz_2387 (Hy : Hyz tys cA base adS Ex) : xall (fun b t => xOK l Dg clz tys cA flz ftz base adS GWz xyz xcz xnz xrz Ex codez bmz bpz b t) 1 425 2048 codez_2387 :=
  And.intro (okz_425 Hy) (okz_2473 Hy)
theorem anz_2388 (Hy : Hyz tys cA base adS Ex) : xall (fun b t => xOK l Dg clz tys cA flz ftz base adS GWz xyz xcz xnz xrz Ex codez bmz bpz b t) 1 1449 2048 codez_2388 :=
  And.intro (okz_1449 Hy) (okzz 3497)
theorem anz_2389 (Hy : Hyz tys cA base adS Ex) : xall (fun b t => xOK l Dg clz tys cA flz ftz base adS GWz xyz xcz xnz xrz Ex codez bmz bpz b t) 2 425 1024 codez_2389 :=
  And.intro (anz_2387 Hy) (anz_2388 Hy)
theorem anz_2390 (Hy : Hyz tys cA base adS Ex) : xall (fun b t => xOK l Dg clz tys cA flz ftz base adS GWz xyz xcz xnz xrz Ex codez bmz bpz b t) 1 937 2048 codez_2390 :=
  And.intro (okz_937 Hy) (okzz 2985)
theorem anz_2391 (Hy : Hyz tys cA base adS Ex) : xall (fun b t => xOK l Dg clz tys cA flz ftz base adS GWz xyz xcz xnz xrz Ex codez bmz bpz b t) 1 1961 2048 codez_2391 :=
  And.intro (okz_1961 Hy) (okzz 4009)
theorem anz_2392 (Hy : Hyz tys cA base adS Ex) : xall (fun b t => xOK l Dg clz tys cA flz ftz base adS GWz xyz xcz xnz xrz Ex codez bmz bpz b t) 2 937 1024 codez_2392 :=
  And.intro (anz_2390 Hy) (anz_2391 Hy)
theorem anz_2393 (Hy : Hyz tys cA base adS Ex) : xall (fun b t => xOK l Dg clz tys cA flz ftz base adS GWz xyz xcz xnz xrz Ex codez bmz bpz b t) 3 425 512 codez_2393 :=
  And.intro (anz_2389 Hy) (anz_2392 Hy)
theorem anz_2394 (Hy : Hyz tys cA base adS Ex) : xall (fun b t => xOK l Dg clz tys cA flz ftz base adS GWz xyz xcz xnz xrz Ex codez bmz bpz b t) 4 169 256 codez_2394 :=
  And.intro (anz_2386 Hy) (anz_2393 Hy)
theorem anz_2395 (Hy : Hyz tys cA base adS Ex) : xall (fun b t => xOK l Dg clz tys cA flz ftz base adS GWz xyz xcz xnz xrz Ex codez bmz bpz b t) 5 41 128 codez_2395 :=
  And.intro (anz_2379 Hy) (anz_2394 Hy)
theorem anz_2396 (Hy : Hyz tys cA base adS Ex) : xall (fun b t => xOK l Dg clz tys cA flz ftz base adS GWz xyz xcz xnz xrz Ex codez bmz bpz b t) 1 105 2048 codez_2396 :=
  And.intro (okz_105 Hy) (okz_2153 Hy)
theorem anz_2397 (Hy : Hyz tys cA base adS Ex) : xall (fun b t => xOK l Dg clz tys cA flz ftz base adS GWz xyz xcz xnz xrz Ex codez bmz bpz b t) 1 1129 2048 codez_2397 :=
  And.intro (okz_1129 Hy) (okzz 3177)
theorem anz_2398 (Hy : Hyz tys cA base adS Ex) : xall (fun b t => xOK l Dg clz tys cA flz ftz base adS GWz xyz xcz xnz xrz Ex codez bmz bpz b t) 2 105 1024 codez_2398 :=
  And.intro (anz_2396 Hy) (anz_2397 Hy)
theorem anz_2399 (Hy : Hyz tys cA base adS Ex) : xall (fun b t => xOK l Dg clz tys cA flz ftz base adS GWz xyz xcz xnz xrz Ex codez bmz bpz b t) 1 617 2048 codez_2399 :=
  And.intro (okz_617 Hy) (okzz 2665)
theorem anz_2400 (Hy : Hyz tys cA base adS Ex) : xall (fun b t => xOK l Dg clz tys cA flz ftz base adS GWz xyz xcz xnz xrz Ex codez bmz bpz b t) 1 1641 2048 codez_2400 :=
  And.intro (okz_1641 Hy) (okzz 3689)
theorem anz_2401 (Hy : Hyz tys cA base adS Ex) : xall (fun b t => xOK l Dg clz tys cA flz ftz base adS GWz xyz xcz xnz xrz Ex codez bmz bpz b t) 2 617 1024 codez_2401 :=
  And.intro (anz_2399 Hy) (anz_2400 Hy)
theorem anz_2402 (Hy : Hyz tys cA base adS Ex) : xall (fun b t => xOK l Dg clz tys cA flz ftz base adS GWz xyz xcz xnz xrz Ex codez bmz bpz b t) 3 105 512 codez_2402 :=
  And.intro (anz_2398 Hy) (anz_2401 Hy)
theorem anz_2403 (Hy : Hyz tys cA base adS Ex) : xall (fun b t => xOK l Dg clz tys cA flz ftz base adS GWz xyz xcz xnz xrz Ex codez bmz bpz b t) 1 361 2048 codez_2403 :=
  And.intro (okz_361 Hy) (okz_2409 Hy)
theorem anz_2404 (Hy : Hyz tys cA base adS Ex) : xall (fun b t => xOK l Dg clz tys cA flz ftz base adS GWz xyz xcz xnz xrz Ex codez bmz bpz b t) 1 1385 2048 codez_2404 :=
  And.intro (okz_1385 Hy) (okzz 3433)
theorem anz_2405 (Hy : Hyz tys cA base adS Ex) : xall (fun b t => xOK l Dg clz tys cA flz ftz base adS GWz xyz xcz xnz xrz Ex codez bmz bpz b t) 2 361 1024 codez_2405 :=
  And.intro (anz_2403 Hy) (anz_2404 Hy)
theorem anz_2406 (Hy : Hyz tys cA base adS Ex) : xall (fun b t => xOK l Dg clz tys cA flz ftz base adS GWz xyz xcz xnz xrz Ex codez bmz bpz b t) 1 873 2048 codez_2406 :=
  And.intro (okz_873 Hy) (okzz 2921)
theorem anz_2407 (Hy : Hyz tys cA base adS Ex) : xall (fun b t => xOK l Dg clz tys cA flz ftz base adS GWz xyz xcz xnz xrz Ex codez bmz bpz b t) 1 1897 2048 codez_2407 :=
  And.intro (okz_1897 Hy) (okzz 3945)
theorem anz_2408 (Hy : Hyz tys cA base adS Ex) : xall (fun b t => xOK l Dg clz tys cA flz ftz base adS GWz xyz xcz xnz xrz Ex codez bmz bpz b t) 2 873 1024 codez_2408 :=
  And.intro (anz_2406 Hy) (anz_2407 Hy)
theorem anz_2409 (Hy : Hyz tys cA base adS Ex) : xall (fun b t => xOK l Dg clz tys cA flz ftz base adS GWz xyz xcz xnz xrz Ex codez bmz bpz b t) 3 361 512 codez_2409 :=
  And.intro (anz_2405 Hy) (anz_2408 Hy)
theorem anz_2410 (Hy : Hyz tys cA base adS Ex) : xall (fun b t => xOK l Dg clz tys cA flz ftz base adS GWz xyz xcz xnz xrz Ex codez bmz bpz b t) 4 105 256 codez_2410 :=
  And.intro (anz_2402 Hy) (anz_2409 Hy)
theorem anz_2411 (Hy : Hyz tys cA base adS Ex) : xall (fun b t => xOK l Dg clz tys cA flz ftz base adS GWz xyz xcz xnz xrz Ex codez bmz bpz b t) 1 233 2048 codez_2411 :=
  And.intro (okz_233 Hy) (okz_2281 Hy)
theorem anz_2412 (Hy : Hyz tys cA base adS Ex) : xall (fun b t => xOK l Dg clz tys cA flz ftz base adS GWz xyz xcz xnz xrz Ex codez bmz bpz b t) 1 1257 2048 codez_2412 :=
  And.intro (okz_1257 Hy) (okzz 3305)
theorem anz_2413 (Hy : Hyz tys cA base adS Ex) : xall (fun b t => xOK l Dg clz tys cA flz ftz base adS GWz xyz xcz xnz xrz Ex codez bmz bpz b t) 2 233 1024 codez_2413 :=
  And.intro (anz_2411 Hy) (anz_2412 Hy)
theorem anz_2414 (Hy : Hyz tys cA base adS Ex) : xall (fun b t => xOK l Dg clz tys cA flz ftz base adS GWz xyz xcz xnz xrz Ex codez bmz bpz b t) 1 745 2048 codez_2414 :=
  And.intro (okz_745 Hy) (okzz 2793)
theorem anz_2415 (Hy : Hyz tys cA base adS Ex) : xall (fun b t => xOK l Dg clz tys cA flz ftz base adS GWz xyz xcz xnz xrz Ex codez bmz bpz b t) 1 1769 2048 codez_2415 :=
  And.intro (okz_1769 Hy) (okzz 3817)
theorem anz_2416 (Hy : Hyz tys cA base adS Ex) : xall (fun b t => xOK l Dg clz tys cA flz ftz base adS GWz xyz xcz xnz xrz Ex codez bmz bpz b t) 2 745 1024 codez_2416 :=
  And.intro (anz_2414 Hy) (anz_2415 Hy)
theorem anz_2417 (Hy : Hyz tys cA base adS Ex) : xall (fun b t => xOK l Dg clz tys cA flz ftz base adS GWz xyz xcz xnz xrz Ex codez bmz bpz b t) 3 233 512 codez_2417 :=
  And.intro (anz_2413 Hy) (anz_2416 Hy)
theorem anz_2418 (Hy : Hyz tys cA base adS Ex) : xall (fun b t => xOK l Dg clz tys cA flz ftz base adS GWz xyz xcz xnz xrz Ex codez bmz bpz b t) 1 489 2048 codez_2418 :=
  And.intro (okz_489 Hy) (okz_2537 Hy)
theorem anz_2419 (Hy : Hyz tys cA base adS Ex) : xall (fun b t => xOK l Dg clz tys cA flz ftz base adS GWz xyz xcz xnz xrz Ex codez bmz bpz b t) 1 1513 2048 codez_2419 :=
  And.intro (okz_1513 Hy) (okzz 3561)
theorem anz_2420 (Hy : Hyz tys cA base adS Ex) : xall (fun b t => xOK l Dg clz tys cA flz ftz base adS GWz xyz xcz xnz xrz Ex codez bmz bpz b t) 2 489 1024 codez_2420 :=
  And.intro (anz_2418 Hy) (anz_2419 Hy)
theorem anz_2421 (Hy : Hyz tys cA base adS Ex) : xall (fun b t => xOK l Dg clz tys cA flz ftz base adS GWz xyz xcz xnz xrz Ex codez bmz bpz b t) 1 1001 2048 codez_2421 :=
  And.intro (okz_1001 Hy) (okzz 3049)
theorem anz_2422 (Hy : Hyz tys cA base adS Ex) : xall (fun b t => xOK l Dg clz tys cA flz ftz base adS GWz xyz xcz xnz xrz Ex codez bmz bpz b t) 1 2025 2048 codez_2422 :=
  And.intro (okz_2025 Hy) (okzz 4073)
theorem anz_2423 (Hy : Hyz tys cA base adS Ex) : xall (fun b t => xOK l Dg clz tys cA flz ftz base adS GWz xyz xcz xnz xrz Ex codez bmz bpz b t) 2 1001 1024 codez_2423 :=
  And.intro (anz_2421 Hy) (anz_2422 Hy)
theorem anz_2424 (Hy : Hyz tys cA base adS Ex) : xall (fun b t => xOK l Dg clz tys cA flz ftz base adS GWz xyz xcz xnz xrz Ex codez bmz bpz b t) 3 489 512 codez_2424 :=
  And.intro (anz_2420 Hy) (anz_2423 Hy)
theorem anz_2425 (Hy : Hyz tys cA base adS Ex) : xall (fun b t => xOK l Dg clz tys cA flz ftz base adS GWz xyz xcz xnz xrz Ex codez bmz bpz b t) 4 233 256 codez_2425 :=
  And.intro (anz_2417 Hy) (anz_2424 Hy)
theorem anz_2426 (Hy : Hyz tys cA base adS Ex) : xall (fun b t => xOK l Dg clz tys cA flz ftz base adS GWz xyz xcz xnz xrz Ex codez bmz bpz b t) 5 105 128 codez_2426 :=
  And.intro (anz_2410 Hy) (anz_2425 Hy)
theorem anz_2427 (Hy : Hyz tys cA base adS Ex) : xall (fun b t => xOK l Dg clz tys cA flz ftz base adS GWz xyz xcz xnz xrz Ex codez bmz bpz b t) 6 41 64 codez_2427 :=
  And.intro (anz_2395 Hy) (anz_2426 Hy)
theorem anz_2428 (Hy : Hyz tys cA base adS Ex) : xall (fun b t => xOK l Dg clz tys cA flz ftz base adS GWz xyz xcz xnz xrz Ex codez bmz bpz b t) 7 9 32 codez_2428 :=
  And.intro (anz_2364 Hy) (anz_2427 Hy)
theorem anz_2429 (Hy : Hyz tys cA base adS Ex) : xall (fun b t => xOK l Dg clz tys cA flz ftz base adS GWz xyz xcz xnz xrz Ex codez bmz bpz b t) 1 25 2048 codez_2429 :=
  And.intro (okz_25 Hy) (okz_2073 Hy)
theorem anz_2430 (Hy : Hyz tys cA base adS Ex) : xall (fun b t => xOK l Dg clz tys cA flz ftz base adS GWz xyz xcz xnz xrz Ex codez bmz bpz b t) 1 1049 2048 codez_2430 :=
  And.intro (okz_1049 Hy) (okzz 3097)
theorem anz_2431 (Hy : Hyz tys cA base adS Ex) : xall (fun b t => xOK l Dg clz tys cA flz ftz base adS GWz xyz xcz xnz xrz Ex codez bmz bpz b t) 2 25 1024 codez_2431 :=
  And.intro (anz_2429 Hy) (anz_2430 Hy)
theorem anz_2432 (Hy : Hyz tys cA base adS Ex) : xall (fun b t => xOK l Dg clz tys cA flz ftz base adS GWz xyz xcz xnz xrz Ex codez bmz bpz b t) 1 537 2048 codez_2432 :=
  And.intro (okz_537 Hy) (okzz 2585)
theorem anz_2433 (Hy : Hyz tys cA base adS Ex) : xall (fun b t => xOK l Dg clz tys cA flz ftz base adS GWz xyz xcz xnz xrz Ex codez bmz bpz b t) 1 1561 2048 codez_2433 :=
  And.intro (okz_1561 Hy) (okzz 3609)
theorem anz_2434 (Hy : Hyz tys cA base adS Ex) : xall (fun b t => xOK l Dg clz tys cA flz ftz base adS GWz xyz xcz xnz xrz Ex codez bmz bpz b t) 2 537 1024 codez_2434 :=
  And.intro (anz_2432 Hy) (anz_2433 Hy)
theorem anz_2435 (Hy : Hyz tys cA base adS Ex) : xall (fun b t => xOK l Dg clz tys cA flz ftz base adS GWz xyz xcz xnz xrz Ex codez bmz bpz b t) 3 25 512 codez_2435 :=
  And.intro (anz_2431 Hy) (anz_2434 Hy)
theorem anz_2436 (Hy : Hyz tys cA base adS Ex) : xall (fun b t => xOK l Dg clz tys cA flz ftz base adS GWz xyz xcz xnz xrz Ex codez bmz bpz b t) 1 281 2048 codez_2436 :=
  And.intro (okz_281 Hy) (okz_2329 Hy)
theorem anz_2437 (Hy : Hyz tys cA base adS Ex) : xall (fun b t => xOK l Dg clz tys cA flz ftz base adS GWz xyz xcz xnz xrz Ex codez bmz bpz b t) 1 1305 2048 codez_2437 :=
  And.intro (okz_1305 Hy) (okzz 3353)
theorem anz_2438 (Hy : Hyz tys cA base adS Ex) : xall (fun b t => xOK l Dg clz tys cA flz ftz base adS GWz xyz xcz xnz xrz Ex codez bmz bpz b t) 2 281 1024 codez_2438 :=
  And.intro (anz_2436 Hy) (anz_2437 Hy)
theorem anz_2439 (Hy : Hyz tys cA base adS Ex) : xall (fun b t => xOK l Dg clz tys cA flz ftz base adS GWz xyz xcz xnz xrz Ex codez bmz bpz b t) 1 793 2048 codez_2439 :=
  And.intro (okz_793 Hy) (okzz 2841)
theorem anz_2440 (Hy : Hyz tys cA base adS Ex) : xall (fun b t => xOK l Dg clz tys cA flz ftz base adS GWz xyz xcz xnz xrz Ex codez bmz bpz b t) 1 1817 2048 codez_2440 :=
  And.intro (okz_1817 Hy) (okzz 3865)
theorem anz_2441 (Hy : Hyz tys cA base adS Ex) : xall (fun b t => xOK l Dg clz tys cA flz ftz base adS GWz xyz xcz xnz xrz Ex codez bmz bpz b t) 2 793 1024 codez_2441 :=
  And.intro (anz_2439 Hy) (anz_2440 Hy)
theorem anz_2442 (Hy : Hyz tys cA base adS Ex) : xall (fun b t => xOK l Dg clz tys cA flz ftz base adS GWz xyz xcz xnz xrz Ex codez bmz bpz b t) 3 281 512 codez_2442 :=
  And.intro (anz_2438 Hy) (anz_2441 Hy)
theorem anz_2443 (Hy : Hyz tys cA base adS Ex) : xall (fun b t => xOK l Dg clz tys cA flz ftz base adS GWz xyz xcz xnz xrz Ex codez bmz bpz b t) 4 25 256 codez_2443 :=
  And.intro (anz_2435 Hy) (anz_2442 Hy)
theorem anz_2444 (Hy : Hyz tys cA base adS Ex) : xall (fun b t => xOK l Dg clz tys cA flz ftz base adS GWz xyz xcz xnz xrz Ex codez bmz bpz b t) 1 153 2048 codez_2444 :=
  And.intro (okz_153 Hy) (okz_2201 Hy)
theorem anz_2445 (Hy : Hyz tys cA base adS Ex) : xall (fun b t => xOK l Dg clz tys cA flz ftz base adS GWz xyz xcz xnz xrz Ex codez bmz bpz b t) 1 1177 2048 codez_2445 :=
  And.intro (okz_1177 Hy) (okzz 3225)
theorem anz_2446 (Hy : Hyz tys cA base adS Ex) : xall (fun b t => xOK l Dg clz tys cA flz ftz base adS GWz xyz xcz xnz xrz Ex codez bmz bpz b t) 2 153 1024 codez_2446 :=
  And.intro (anz_2444 Hy) (anz_2445 Hy)
theorem anz_2447 (Hy : Hyz tys cA base adS Ex) : xall (fun b t => xOK l Dg clz tys cA flz ftz base adS GWz xyz xcz xnz xrz Ex codez bmz bpz b t) 1 665 2048 codez_2447 :=
  And.intro (okz_665 Hy) (okzz 2713)
theorem anz_2448 (Hy : Hyz tys cA base adS Ex) : xall (fun b t => xOK l Dg clz tys cA flz ftz base adS GWz xyz xcz xnz xrz Ex codez bmz bpz b t) 1 1689 2048 codez_2448 :=
  And.intro (okz_1689 Hy) (okzz 3737)
theorem anz_2449 (Hy : Hyz tys cA base adS Ex) : xall (fun b t => xOK l Dg clz tys cA flz ftz base adS GWz xyz xcz xnz xrz Ex codez bmz bpz b t) 2 665 1024 codez_2449 :=
  And.intro (anz_2447 Hy) (anz_2448 Hy)
theorem anz_2450 (Hy : Hyz tys cA base adS Ex) : xall (fun b t => xOK l Dg clz tys cA flz ftz base adS GWz xyz xcz xnz xrz Ex codez bmz bpz b t) 3 153 512 codez_2450 :=
  And.intro (anz_2446 Hy) (anz_2449 Hy)
theorem anz_2451 (Hy : Hyz tys cA base adS Ex) : xall (fun b t => xOK l Dg clz tys cA flz ftz base adS GWz xyz xcz xnz xrz Ex codez bmz bpz b t) 1 409 2048 codez_2451 :=
  And.intro (okz_409 Hy) (okz_2457 Hy)
theorem anz_2452 (Hy : Hyz tys cA base adS Ex) : xall (fun b t => xOK l Dg clz tys cA flz ftz base adS GWz xyz xcz xnz xrz Ex codez bmz bpz b t) 1 1433 2048 codez_2452 :=
  And.intro (okz_1433 Hy) (okzz 3481)
theorem anz_2453 (Hy : Hyz tys cA base adS Ex) : xall (fun b t => xOK l Dg clz tys cA flz ftz base adS GWz xyz xcz xnz xrz Ex codez bmz bpz b t) 2 409 1024 codez_2453 :=
  And.intro (anz_2451 Hy) (anz_2452 Hy)
theorem anz_2454 (Hy : Hyz tys cA base adS Ex) : xall (fun b t => xOK l Dg clz tys cA flz ftz base adS GWz xyz xcz xnz xrz Ex codez bmz bpz b t) 1 921 2048 codez_2454 :=
  And.intro (okz_921 Hy) (okzz 2969)
theorem anz_2455 (Hy : Hyz tys cA base adS Ex) : xall (fun b t => xOK l Dg clz tys cA flz ftz base adS GWz xyz xcz xnz xrz Ex codez bmz bpz b t) 1 1945 2048 codez_2455 :=
  And.intro (okz_1945 Hy) (okzz 3993)
theorem anz_2456 (Hy : Hyz tys cA base adS Ex) : xall (fun b t => xOK l Dg clz tys cA flz ftz base adS GWz xyz xcz xnz xrz Ex codez bmz bpz b t) 2 921 1024 codez_2456 :=
  And.intro (anz_2454 Hy) (anz_2455 Hy)
theorem anz_2457 (Hy : Hyz tys cA base adS Ex) : xall (fun b t => xOK l Dg clz tys cA flz ftz base adS GWz xyz xcz xnz xrz Ex codez bmz bpz b t) 3 409 512 codez_2457 :=
  And.intro (anz_2453 Hy) (anz_2456 Hy)
theorem anz_2458 (Hy : Hyz tys cA base adS Ex) : xall (fun b t => xOK l Dg clz tys cA flz ftz base adS GWz xyz xcz xnz xrz Ex codez bmz bpz b t) 4 153 256 codez_2458 :=
  And.intro (anz_2450 Hy) (anz_2457 Hy)
theorem anz_2459 (Hy : Hyz tys cA base adS Ex) : xall (fun b t => xOK l Dg clz tys cA flz ftz base adS GWz xyz xcz xnz xrz Ex codez bmz bpz b t) 5 25 128 codez_2459 :=
  And.intro (anz_2443 Hy) (anz_2458 Hy)
theorem anz_2460 (Hy : Hyz tys cA base adS Ex) : xall (fun b t => xOK l Dg clz tys cA flz ftz base adS GWz xyz xcz xnz xrz Ex codez bmz bpz b t) 1 89 2048 codez_2460 :=
  And.intro (okz_89 Hy) (okz_2137 Hy)
theorem anz_2461 (Hy : Hyz tys cA base adS Ex) : xall (fun b t => xOK l Dg clz tys cA flz ftz base adS GWz xyz xcz xnz xrz Ex codez bmz bpz b t) 1 1113 2048 codez_2461 :=
  And.intro (okz_1113 Hy) (okzz 3161)
theorem anz_2462 (Hy : Hyz tys cA base adS Ex) : xall (fun b t => xOK l Dg clz tys cA flz ftz base adS GWz xyz xcz xnz xrz Ex codez bmz bpz b t) 2 89 1024 codez_2462 :=
  And.intro (anz_2460 Hy) (anz_2461 Hy)
theorem anz_2463 (Hy : Hyz tys cA base adS Ex) : xall (fun b t => xOK l Dg clz tys cA flz ftz base adS GWz xyz xcz xnz xrz Ex codez bmz bpz b t) 1 601 2048 codez_2463 :=
  And.intro (okz_601 Hy) (okzz 2649)
theorem anz_2464 (Hy : Hyz tys cA base adS Ex) : xall (fun b t => xOK l Dg clz tys cA flz ftz base adS GWz xyz xcz xnz xrz Ex codez bmz bpz b t) 1 1625 2048 codez_2464 :=
  And.intro (okz_1625 Hy) (okzz 3673)
theorem anz_2465 (Hy : Hyz tys cA base adS Ex) : xall (fun b t => xOK l Dg clz tys cA flz ftz base adS GWz xyz xcz xnz xrz Ex codez bmz bpz b t) 2 601 1024 codez_2465 :=
  And.intro (anz_2463 Hy) (anz_2464 Hy)
theorem anz_2466 (Hy : Hyz tys cA base adS Ex) : xall (fun b t => xOK l Dg clz tys cA flz ftz base adS GWz xyz xcz xnz xrz Ex codez bmz bpz b t) 3 89 512 codez_2466 :=
  And.intro (anz_2462 Hy) (anz_2465 Hy)
theorem anz_2467 (Hy : Hyz tys cA base adS Ex) : xall (fun b t => xOK l Dg clz tys cA flz ftz base adS GWz xyz xcz xnz xrz Ex codez bmz bpz b t) 1 345 2048 codez_2467 :=
  And.intro (okz_345 Hy) (okz_2393 Hy)
theorem anz_2468 (Hy : Hyz tys cA base adS Ex) : xall (fun b t => xOK l Dg clz tys cA flz ftz base adS GWz xyz xcz xnz xrz Ex codez bmz bpz b t) 1 1369 2048 codez_2468 :=
  And.intro (okz_1369 Hy) (okzz 3417)
theorem anz_2469 (Hy : Hyz tys cA base adS Ex) : xall (fun b t => xOK l Dg clz tys cA flz ftz base adS GWz xyz xcz xnz xrz Ex codez bmz bpz b t) 2 345 1024 codez_2469 :=
  And.intro (anz_2467 Hy) (anz_2468 Hy)
theorem anz_2470 (Hy : Hyz tys cA base adS Ex) : xall (fun b t => xOK l Dg clz tys cA flz ftz base adS GWz xyz xcz xnz xrz Ex codez bmz bpz b t) 1 857 2048 codez_2470 :=
  And.intro (okz_857 Hy) (okzz 2905)
theorem anz_2471 (Hy : Hyz tys cA base adS Ex) : xall (fun b t => xOK l Dg clz tys cA flz ftz base adS GWz xyz xcz xnz xrz Ex codez bmz bpz b t) 1 1881 2048 codez_2471 :=
  And.intro (okz_1881 Hy) (okzz 3929)
theorem anz_2472 (Hy : Hyz tys cA base adS Ex) : xall (fun b t => xOK l Dg clz tys cA flz ftz base adS GWz xyz xcz xnz xrz Ex codez bmz bpz b t) 2 857 1024 codez_2472 :=
  And.intro (anz_2470 Hy) (anz_2471 Hy)
theorem anz_2473 (Hy : Hyz tys cA base adS Ex) : xall (fun b t => xOK l Dg clz tys cA flz ftz base adS GWz xyz xcz xnz xrz Ex codez bmz bpz b t) 3 345 512 codez_2473 :=
  And.intro (anz_2469 Hy) (anz_2472 Hy)
theorem anz_2474 (Hy : Hyz tys cA base adS Ex) : xall (fun b t => xOK l Dg clz tys cA flz ftz base adS GWz xyz xcz xnz xrz Ex codez bmz bpz b t) 4 89 256 codez_2474 :=
  And.intro (anz_2466 Hy) (anz_2473 Hy)
theorem anz_2475 (Hy : Hyz tys cA base adS Ex) : xall (fun b t => xOK l Dg clz tys cA flz ftz base adS GWz xyz xcz xnz xrz Ex codez bmz bpz b t) 1 217 2048 codez_2475 :=
  And.intro (okz_217 Hy) (okz_2265 Hy)
theorem anz_2476 (Hy : Hyz tys cA base adS Ex) : xall (fun b t => xOK l Dg clz tys cA flz ftz base adS GWz xyz xcz xnz xrz Ex codez bmz bpz b t) 1 1241 2048 codez_2476 :=
  And.intro (okz_1241 Hy) (okzz 3289)
theorem anz_2477 (Hy : Hyz tys cA base adS Ex) : xall (fun b t => xOK l Dg clz tys cA flz ftz base adS GWz xyz xcz xnz xrz Ex codez bmz bpz b t) 2 217 1024 codez_2477 :=
  And.intro (anz_2475 Hy) (anz_2476 Hy)
theorem anz_2478 (Hy : Hyz tys cA base adS Ex) : xall (fun b t => xOK l Dg clz tys cA flz ftz base adS GWz xyz xcz xnz xrz Ex codez bmz bpz b t) 1 729 2048 codez_2478 :=
  And.intro (okz_729 Hy) (okzz 2777)
theorem anz_2479 (Hy : Hyz tys cA base adS Ex) : xall (fun b t => xOK l Dg clz tys cA flz ftz base adS GWz xyz xcz xnz xrz Ex codez bmz bpz b t) 1 1753 2048 codez_2479 :=
  And.intro (okz_1753 Hy) (okzz 3801)
theorem anz_2480 (Hy : Hyz tys cA base adS Ex) : xall (fun b t => xOK l Dg clz tys cA flz ftz base adS GWz xyz xcz xnz xrz Ex codez bmz bpz b t) 2 729 1024 codez_2480 :=
  And.intro (anz_2478 Hy) (anz_2479 Hy)
theorem anz_2481 (Hy : Hyz tys cA base adS Ex) : xall (fun b t => xOK l Dg clz tys cA flz ftz base adS GWz xyz xcz xnz xrz Ex codez bmz bpz b t) 3 217 512 codez_2481 :=
  And.intro (anz_2477 Hy) (anz_2480 Hy)
theorem anz_2482 (Hy : Hyz tys cA base adS Ex) : xall (fun b t => xOK l Dg clz tys cA flz ftz base adS GWz xyz xcz xnz xrz Ex codez bmz bpz b t) 1 473 2048 codez_2482 :=
  And.intro (okz_473 Hy) (okz_2521 Hy)
theorem anz_2483 (Hy : Hyz tys cA base adS Ex) : xall (fun b t => xOK l Dg clz tys cA flz ftz base adS GWz xyz xcz xnz xrz Ex codez bmz bpz b t) 1 1497 2048 codez_2483 :=
  And.intro (okz_1497 Hy) (okzz 3545)
theorem anz_2484 (Hy : Hyz tys cA base adS Ex) : xall (fun b t => xOK l Dg clz tys cA flz ftz base adS GWz xyz xcz xnz xrz Ex codez bmz bpz b t) 2 473 1024 codez_2484 :=
  And.intro (anz_2482 Hy) (anz_2483 Hy)
theorem anz_2485 (Hy : Hyz tys cA base adS Ex) : xall (fun b t => xOK l Dg clz tys cA flz ftz base adS GWz xyz xcz xnz xrz Ex codez bmz bpz b t) 1 985 2048 codez_2485 :=
  And.intro (okz_985 Hy) (okzz 3033)
theorem anz_2486 (Hy : Hyz tys cA base adS Ex) : xall (fun b t => xOK l Dg clz tys cA flz ftz base adS GWz xyz xcz xnz xrz Ex codez bmz bpz b t) 1 2009 2048 codez_2486 :=
  And.intro (okz_2009 Hy) (okzz 4057)
theorem anz_2487 (Hy : Hyz tys cA base adS Ex) : xall (fun b t => xOK l Dg clz tys cA flz ftz base adS GWz xyz xcz xnz xrz Ex codez bmz bpz b t) 2 985 1024 codez_2487 :=
  And.intro (anz_2485 Hy) (anz_2486 Hy)
theorem anz_2488 (Hy : Hyz tys cA base adS Ex) : xall (fun b t => xOK l Dg clz tys cA flz ftz base adS GWz xyz xcz xnz xrz Ex codez bmz bpz b t) 3 473 512 codez_2488 :=
  And.intro (anz_2484 Hy) (anz_2487 Hy)
theorem anz_2489 (Hy : Hyz tys cA base adS Ex) : xall (fun b t => xOK l Dg clz tys cA flz ftz base adS GWz xyz xcz xnz xrz Ex codez bmz bpz b t) 4 217 256 codez_2489 :=
  And.intro (anz_2481 Hy) (anz_2488 Hy)
theorem anz_2490 (Hy : Hyz tys cA base adS Ex) : xall (fun b t => xOK l Dg clz tys cA flz ftz base adS GWz xyz xcz xnz xrz Ex codez bmz bpz b t) 5 89 128 codez_2490 :=
  And.intro (anz_2474 Hy) (anz_2489 Hy)
theorem anz_2491 (Hy : Hyz tys cA base adS Ex) : xall (fun b t => xOK l Dg clz tys cA flz ftz base adS GWz xyz xcz xnz xrz Ex codez bmz bpz b t) 6 25 64 codez_2491 :=
  And.intro (anz_2459 Hy) (anz_2490 Hy)
theorem anz_2492 (Hy : Hyz tys cA base adS Ex) : xall (fun b t => xOK l Dg clz tys cA flz ftz base adS GWz xyz xcz xnz xrz Ex codez bmz bpz b t) 1 57 2048 codez_2492 :=
  And.intro (okz_57 Hy) (okz_2105 Hy)
theorem anz_2493 (Hy : Hyz tys cA base adS Ex) : xall (fun b t => xOK l Dg clz tys cA flz ftz base adS GWz xyz xcz xnz xrz Ex codez bmz bpz b t) 1 1081 2048 codez_2493 :=
  And.intro (okz_1081 Hy) (okzz 3129)
theorem anz_2494 (Hy : Hyz tys cA base adS Ex) : xall (fun b t => xOK l Dg clz tys cA flz ftz base adS GWz xyz xcz xnz xrz Ex codez bmz bpz b t) 2 57 1024 codez_2494 :=
  And.intro (anz_2492 Hy) (anz_2493 Hy)
theorem anz_2495 (Hy : Hyz tys cA base adS Ex) : xall (fun b t => xOK l Dg clz tys cA flz ftz base adS GWz xyz xcz xnz xrz Ex codez bmz bpz b t) 1 569 2048 codez_2495 :=
  And.intro (okz_569 Hy) (okzz 2617)
theorem anz_2496 (Hy : Hyz tys cA base adS Ex) : xall (fun b t => xOK l Dg clz tys cA flz ftz base adS GWz xyz xcz xnz xrz Ex codez bmz bpz b t) 1 1593 2048 codez_2496 :=
  And.intro (okz_1593 Hy) (okzz 3641)
theorem anz_2497 (Hy : Hyz tys cA base adS Ex) : xall (fun b t => xOK l Dg clz tys cA flz ftz base adS GWz xyz xcz xnz xrz Ex codez bmz bpz b t) 2 569 1024 codez_2497 :=
  And.intro (anz_2495 Hy) (anz_2496 Hy)
theorem anz_2498 (Hy : Hyz tys cA base adS Ex) : xall (fun b t => xOK l Dg clz tys cA flz ftz base adS GWz xyz xcz xnz xrz Ex codez bmz bpz b t) 3 57 512 codez_2498 :=
  And.intro (anz_2494 Hy) (anz_2497 Hy)
theorem anz_2499 (Hy : Hyz tys cA base adS Ex) : xall (fun b t => xOK l Dg clz tys cA flz ftz base adS GWz xyz xcz xnz xrz Ex codez bmz bpz b t) 1 313 2048 codez_2499 :=
  And.intro (okz_313 Hy) (okz_2361 Hy)
theorem anz_2500 (Hy : Hyz tys cA base adS Ex) : xall (fun b t => xOK l Dg clz tys cA flz ftz base adS GWz xyz xcz xnz xrz Ex codez bmz bpz b t) 1 1337 2048 codez_2500 :=
  And.intro (okz_1337 Hy) (okzz 3385)
theorem anz_2501 (Hy : Hyz tys cA base adS Ex) : xall (fun b t => xOK l Dg clz tys cA flz ftz base adS GWz xyz xcz xnz xrz Ex codez bmz bpz b t) 2 313 1024 codez_2501 :=
  And.intro (anz_2499 Hy) (anz_2500 Hy)
theorem anz_2502 (Hy : Hyz tys cA base adS Ex) : xall (fun b t => xOK l Dg clz tys cA flz ftz base adS GWz xyz xcz xnz xrz Ex codez bmz bpz b t) 1 825 2048 codez_2502 :=
  And.intro (okz_825 Hy) (okzz 2873)
theorem anz_2503 (Hy : Hyz tys cA base adS Ex) : xall (fun b t => xOK l Dg clz tys cA flz ftz base adS GWz xyz xcz xnz xrz Ex codez bmz bpz b t) 1 1849 2048 codez_2503 :=
  And.intro (okz_1849 Hy) (okzz 3897)
theorem anz_2504 (Hy : Hyz tys cA base adS Ex) : xall (fun b t => xOK l Dg clz tys cA flz ftz base adS GWz xyz xcz xnz xrz Ex codez bmz bpz b t) 2 825 1024 codez_2504 :=
  And.intro (anz_2502 Hy) (anz_2503 Hy)
theorem anz_2505 (Hy : Hyz tys cA base adS Ex) : xall (fun b t => xOK l Dg clz tys cA flz ftz base adS GWz xyz xcz xnz xrz Ex codez bmz bpz b t) 3 313 512 codez_2505 :=
  And.intro (anz_2501 Hy) (anz_2504 Hy)
theorem anz_2506 (Hy : Hyz tys cA base adS Ex) : xall (fun b t => xOK l Dg clz tys cA flz ftz base adS GWz xyz xcz xnz xrz Ex codez bmz bpz b t) 4 57 256 codez_2506 :=
  And.intro (anz_2498 Hy) (anz_2505 Hy)
theorem anz_2507 (Hy : Hyz tys cA base adS Ex) : xall (fun b t => xOK l Dg clz tys cA flz ftz base adS GWz xyz xcz xnz xrz Ex codez bmz bpz b t) 1 185 2048 codez_2507 :=
  And.intro (okz_185 Hy) (okz_2233 Hy)
theorem anz_2508 (Hy : Hyz tys cA base adS Ex) : xall (fun b t => xOK l Dg clz tys cA flz ftz base adS GWz xyz xcz xnz xrz Ex codez bmz bpz b t) 1 1209 2048 codez_2508 :=
  And.intro (okz_1209 Hy) (okzz 3257)
theorem anz_2509 (Hy : Hyz tys cA base adS Ex) : xall (fun b t => xOK l Dg clz tys cA flz ftz base adS GWz xyz xcz xnz xrz Ex codez bmz bpz b t) 2 185 1024 codez_2509 :=
  And.intro (anz_2507 Hy) (anz_2508 Hy)
theorem anz_2510 (Hy : Hyz tys cA base adS Ex) : xall (fun b t => xOK l Dg clz tys cA flz ftz base adS GWz xyz xcz xnz xrz Ex codez bmz bpz b t) 1 697 2048 codez_2510 :=
  And.intro (okz_697 Hy) (okzz 2745)
theorem anz_2511 (Hy : Hyz tys cA base adS Ex) : xall (fun b t => xOK l Dg clz tys cA flz ftz base adS GWz xyz xcz xnz xrz Ex codez bmz bpz b t) 1 1721 2048 codez_2511 :=
  And.intro (okz_1721 Hy) (okzz 3769)
theorem anz_2512 (Hy : Hyz tys cA base adS Ex) : xall (fun b t => xOK l Dg clz tys cA flz ftz base adS GWz xyz xcz xnz xrz Ex codez bmz bpz b t) 2 697 1024 codez_2512 :=
  And.intro (anz_2510 Hy) (anz_2511 Hy)
theorem anz_2513 (Hy : Hyz tys cA base adS Ex) : xall (fun b t => xOK l Dg clz tys cA flz ftz base adS GWz xyz xcz xnz xrz Ex codez bmz bpz b t) 3 185 512 codez_2513 :=
  And.intro (anz_2509 Hy) (anz_2512 Hy)
theorem anz_2514 (Hy : Hyz tys cA base adS Ex) : xall (fun b t => xOK l Dg clz tys cA flz ftz base adS GWz xyz xcz xnz xrz Ex codez bmz bpz b t) 1 441 2048 codez_2514 :=
  And.intro (okz_441 Hy) (okz_2489 Hy)
theorem anz_2515 (Hy : Hyz tys cA base adS Ex) : xall (fun b t => xOK l Dg clz tys cA flz ftz base adS GWz xyz xcz xnz xrz Ex codez bmz bpz b t) 1 1465 2048 codez_2515 :=
  And.intro (okz_1465 Hy) (okzz 3513)
theorem anz_2516 (Hy : Hyz tys cA base adS Ex) : xall (fun b t => xOK l Dg clz tys cA flz ftz base adS GWz xyz xcz xnz xrz Ex codez bmz bpz b t) 2 441 1024 codez_2516 :=
  And.intro (anz_2514 Hy) (anz_2515 Hy)
theorem anz_2517 (Hy : Hyz tys cA base adS Ex) : xall (fun b t => xOK l Dg clz tys cA flz ftz base adS GWz xyz xcz xnz xrz Ex codez bmz bpz b t) 1 953 2048 codez_2517 :=
  And.intro (okz_953 Hy) (okzz 3001)
theorem anz_2518 (Hy : Hyz tys cA base adS Ex) : xall (fun b t => xOK l Dg clz tys cA flz ftz base adS GWz xyz xcz xnz xrz Ex codez bmz bpz b t) 1 1977 2048 codez_2518 :=
  And.intro (okz_1977 Hy) (okzz 4025)
theorem anz_2519 (Hy : Hyz tys cA base adS Ex) : xall (fun b t => xOK l Dg clz tys cA flz ftz base adS GWz xyz xcz xnz xrz Ex codez bmz bpz b t) 2 953 1024 codez_2519 :=
  And.intro (anz_2517 Hy) (anz_2518 Hy)
theorem anz_2520 (Hy : Hyz tys cA base adS Ex) : xall (fun b t => xOK l Dg clz tys cA flz ftz base adS GWz xyz xcz xnz xrz Ex codez bmz bpz b t) 3 441 512 codez_2520 :=
  And.intro (anz_2516 Hy) (anz_2519 Hy)
theorem anz_2521 (Hy : Hyz tys cA base adS Ex) : xall (fun b t => xOK l Dg clz tys cA flz ftz base adS GWz xyz xcz xnz xrz Ex codez bmz bpz b t) 4 185 256 codez_2521 :=
  And.intro (anz_2513 Hy) (anz_2520 Hy)
theorem anz_2522 (Hy : Hyz tys cA base adS Ex) : xall (fun b t => xOK l Dg clz tys cA flz ftz base adS GWz xyz xcz xnz xrz Ex codez bmz bpz b t) 5 57 128 codez_2522 :=
  And.intro (anz_2506 Hy) (anz_2521 Hy)
theorem anz_2523 (Hy : Hyz tys cA base adS Ex) : xall (fun b t => xOK l Dg clz tys cA flz ftz base adS GWz xyz xcz xnz xrz Ex codez bmz bpz b t) 1 121 2048 codez_2523 :=
  And.intro (okz_121 Hy) (okz_2169 Hy)
theorem anz_2524 (Hy : Hyz tys cA base adS Ex) : xall (fun b t => xOK l Dg clz tys cA flz ftz base adS GWz xyz xcz xnz xrz Ex codez bmz bpz b t) 1 1145 2048 codez_2524 :=
  And.intro (okz_1145 Hy) (okzz 3193)
theorem anz_2525 (Hy : Hyz tys cA base adS Ex) : xall (fun b t => xOK l Dg clz tys cA flz ftz base adS GWz xyz xcz xnz xrz Ex codez bmz bpz b t) 2 121 1024 codez_2525 :=
  And.intro (anz_2523 Hy) (anz_2524 Hy)
theorem anz_2526 (Hy : Hyz tys cA base adS Ex) : xall (fun b t => xOK l Dg clz tys cA flz ftz base adS GWz xyz xcz xnz xrz Ex codez bmz bpz b t) 1 633 2048 codez_2526 :=
  And.intro (okz_633 Hy) (okzz 2681)
theorem anz_2527 (Hy : Hyz tys cA base adS Ex) : xall (fun b t => xOK l Dg clz tys cA flz ftz base adS GWz xyz xcz xnz xrz Ex codez bmz bpz b t) 1 1657 2048 codez_2527 :=
  And.intro (okz_1657 Hy) (okzz 3705)
theorem anz_2528 (Hy : Hyz tys cA base adS Ex) : xall (fun b t => xOK l Dg clz tys cA flz ftz base adS GWz xyz xcz xnz xrz Ex codez bmz bpz b t) 2 633 1024 codez_2528 :=
  And.intro (anz_2526 Hy) (anz_2527 Hy)
theorem anz_2529 (Hy : Hyz tys cA base adS Ex) : xall (fun b t => xOK l Dg clz tys cA flz ftz base adS GWz xyz xcz xnz xrz Ex codez bmz bpz b t) 3 121 512 codez_2529 :=
  And.intro (anz_2525 Hy) (anz_2528 Hy)
theorem anz_2530 (Hy : Hyz tys cA base adS Ex) : xall (fun b t => xOK l Dg clz tys cA flz ftz base adS GWz xyz xcz xnz xrz Ex codez bmz bpz b t) 1 377 2048 codez_2530 :=
  And.intro (okz_377 Hy) (okz_2425 Hy)
theorem anz_2531 (Hy : Hyz tys cA base adS Ex) : xall (fun b t => xOK l Dg clz tys cA flz ftz base adS GWz xyz xcz xnz xrz Ex codez bmz bpz b t) 1 1401 2048 codez_2531 :=
  And.intro (okz_1401 Hy) (okzz 3449)
theorem anz_2532 (Hy : Hyz tys cA base adS Ex) : xall (fun b t => xOK l Dg clz tys cA flz ftz base adS GWz xyz xcz xnz xrz Ex codez bmz bpz b t) 2 377 1024 codez_2532 :=
  And.intro (anz_2530 Hy) (anz_2531 Hy)
theorem anz_2533 (Hy : Hyz tys cA base adS Ex) : xall (fun b t => xOK l Dg clz tys cA flz ftz base adS GWz xyz xcz xnz xrz Ex codez bmz bpz b t) 1 889 2048 codez_2533 :=
  And.intro (okz_889 Hy) (okzz 2937)
theorem anz_2534 (Hy : Hyz tys cA base adS Ex) : xall (fun b t => xOK l Dg clz tys cA flz ftz base adS GWz xyz xcz xnz xrz Ex codez bmz bpz b t) 1 1913 2048 codez_2534 :=
  And.intro (okz_1913 Hy) (okzz 3961)
theorem anz_2535 (Hy : Hyz tys cA base adS Ex) : xall (fun b t => xOK l Dg clz tys cA flz ftz base adS GWz xyz xcz xnz xrz Ex codez bmz bpz b t) 2 889 1024 codez_2535 :=
  And.intro (anz_2533 Hy) (anz_2534 Hy)
theorem anz_2536 (Hy : Hyz tys cA base adS Ex) : xall (fun b t => xOK l Dg clz tys cA flz ftz base adS GWz xyz xcz xnz xrz Ex codez bmz bpz b t) 3 377 512 codez_2536 :=
  And.intro (anz_2532 Hy) (anz_2535 Hy)
theorem anz_2537 (Hy : Hyz tys cA base adS Ex) : xall (fun b t => xOK l Dg clz tys cA flz ftz base adS GWz xyz xcz xnz xrz Ex codez bmz bpz b t) 4 121 256 codez_2537 :=
  And.intro (anz_2529 Hy) (anz_2536 Hy)
theorem anz_2538 (Hy : Hyz tys cA base adS Ex) : xall (fun b t => xOK l Dg clz tys cA flz ftz base adS GWz xyz xcz xnz xrz Ex codez bmz bpz b t) 1 249 2048 codez_2538 :=
  And.intro (okz_249 Hy) (okz_2297 Hy)
theorem anz_2539 (Hy : Hyz tys cA base adS Ex) : xall (fun b t => xOK l Dg clz tys cA flz ftz base adS GWz xyz xcz xnz xrz Ex codez bmz bpz b t) 1 1273 2048 codez_2539 :=
  And.intro (okz_1273 Hy) (okzz 3321)
theorem anz_2540 (Hy : Hyz tys cA base adS Ex) : xall (fun b t => xOK l Dg clz tys cA flz ftz base adS GWz xyz xcz xnz xrz Ex codez bmz bpz b t) 2 249 1024 codez_2540 :=
  And.intro (anz_2538 Hy) (anz_2539 Hy)
theorem anz_2541 (Hy : Hyz tys cA base adS Ex) : xall (fun b t => xOK l Dg clz tys cA flz ftz base adS GWz xyz xcz xnz xrz Ex codez bmz bpz b t) 1 761 2048 codez_2541 :=
  And.intro (okz_761 Hy) (okzz 2809)
theorem anz_2542 (Hy : Hyz tys cA base adS Ex) : xall (fun b t => xOK l Dg clz tys cA flz ftz base adS GWz xyz xcz xnz xrz Ex codez bmz bpz b t) 1 1785 2048 codez_2542 :=
  And.intro (okz_1785 Hy) (okzz 3833)
theorem anz_2543 (Hy : Hyz tys cA base adS Ex) : xall (fun b t => xOK l Dg clz tys cA flz ftz base adS GWz xyz xcz xnz xrz Ex codez bmz bpz b t) 2 761 1024 codez_2543 :=
  And.intro (anz_2541 Hy) (anz_2542 Hy)
theorem anz_2544 (Hy : Hyz tys cA base adS Ex) : xall (fun b t => xOK l Dg clz tys cA flz ftz base adS GWz xyz xcz xnz xrz Ex codez bmz bpz b t) 3 249 512 codez_2544 :=
  And.intro (anz_2540 Hy) (anz_2543 Hy)
theorem anz_2545 (Hy : Hyz tys cA base adS Ex) : xall (fun b t => xOK l Dg clz tys cA flz ftz base adS GWz xyz xcz xnz xrz Ex codez bmz bpz b t) 1 505 2048 codez_2545 :=
  And.intro (okz_505 Hy) (okzz 2553)
theorem anz_2546 (Hy : Hyz tys cA base adS Ex) : xall (fun b t => xOK l Dg clz tys cA flz ftz base adS GWz xyz xcz xnz xrz Ex codez bmz bpz b t) 1 1529 2048 codez_2546 :=
  And.intro (okz_1529 Hy) (okzz 3577)
theorem anz_2547 (Hy : Hyz tys cA base adS Ex) : xall (fun b t => xOK l Dg clz tys cA flz ftz base adS GWz xyz xcz xnz xrz Ex codez bmz bpz b t) 2 505 1024 codez_2547 :=
  And.intro (anz_2545 Hy) (anz_2546 Hy)
theorem anz_2548 (Hy : Hyz tys cA base adS Ex) : xall (fun b t => xOK l Dg clz tys cA flz ftz base adS GWz xyz xcz xnz xrz Ex codez bmz bpz b t) 1 1017 2048 codez_2548 :=
  And.intro (okz_1017 Hy) (okzz 3065)
theorem anz_2549 (Hy : Hyz tys cA base adS Ex) : xall (fun b t => xOK l Dg clz tys cA flz ftz base adS GWz xyz xcz xnz xrz Ex codez bmz bpz b t) 1 2041 2048 codez_2549 :=
  And.intro (okz_2041 Hy) (okzz 4089)
theorem anz_2550 (Hy : Hyz tys cA base adS Ex) : xall (fun b t => xOK l Dg clz tys cA flz ftz base adS GWz xyz xcz xnz xrz Ex codez bmz bpz b t) 2 1017 1024 codez_2550 :=
  And.intro (anz_2548 Hy) (anz_2549 Hy)
theorem anz_2551 (Hy : Hyz tys cA base adS Ex) : xall (fun b t => xOK l Dg clz tys cA flz ftz base adS GWz xyz xcz xnz xrz Ex codez bmz bpz b t) 3 505 512 codez_2551 :=
  And.intro (anz_2547 Hy) (anz_2550 Hy)
theorem anz_2552 (Hy : Hyz tys cA base adS Ex) : xall (fun b t => xOK l Dg clz tys cA flz ftz base adS GWz xyz xcz xnz xrz Ex codez bmz bpz b t) 4 249 256 codez_2552 :=
  And.intro (anz_2544 Hy) (anz_2551 Hy)
theorem anz_2553 (Hy : Hyz tys cA base adS Ex) : xall (fun b t => xOK l Dg clz tys cA flz ftz base adS GWz xyz xcz xnz xrz Ex codez bmz bpz b t) 5 121 128 codez_2553 :=
  And.intro (anz_2537 Hy) (anz_2552 Hy)
theorem anz_2554 (Hy : Hyz tys cA base adS Ex) : xall (fun b t => xOK l Dg clz tys cA flz ftz base adS GWz xyz xcz xnz xrz Ex codez bmz bpz b t) 6 57 64 codez_2554 :=
  And.intro (anz_2522 Hy) (anz_2553 Hy)
theorem anz_2555 (Hy : Hyz tys cA base adS Ex) : xall (fun b t => xOK l Dg clz tys cA flz ftz base adS GWz xyz xcz xnz xrz Ex codez bmz bpz b t) 7 25 32 codez_2555 :=
  And.intro (anz_2491 Hy) (anz_2554 Hy)
theorem anz_2556 (Hy : Hyz tys cA base adS Ex) : xall (fun b t => xOK l Dg clz tys cA flz ftz base adS GWz xyz xcz xnz xrz Ex codez bmz bpz b t) 8 9 16 codez_2556 :=
  And.intro (anz_2428 Hy) (anz_2555 Hy)
theorem anz_2557 (Hy : Hyz tys cA base adS Ex) : xall (fun b t => xOK l Dg clz tys cA flz ftz base adS GWz xyz xcz xnz xrz Ex codez bmz bpz b t) 9 1 8 codez_2557 :=
  And.intro (anz_2301 Hy) (anz_2556 Hy)
theorem anz_2558 (Hy : Hyz tys cA base adS Ex) : xall (fun b t => xOK l Dg clz tys cA flz ftz base adS GWz xyz xcz xnz xrz Ex codez bmz bpz b t) 1 5 2048 codez_2558 :=
  And.intro (okz_5 Hy) (okz_2053 Hy)
theorem anz_2559 (Hy : Hyz tys cA base adS Ex) : xall (fun b t => xOK l Dg clz tys cA flz ftz base adS GWz xyz xcz xnz xrz Ex codez bmz bpz b t) 1 1029 2048 codez_2559 :=
  And.intro (okz_1029 Hy) (okzz 3077)
theorem anz_2560 (Hy : Hyz tys cA base adS Ex) : xall (fun b t => xOK l Dg clz tys cA flz ftz base adS GWz xyz xcz xnz xrz Ex codez bmz bpz b t) 2 5 1024 codez_2560 :=
  And.intro (anz_2558 Hy) (anz_2559 Hy)
theorem anz_2561 (Hy : Hyz tys cA base adS Ex) : xall (fun b t => xOK l Dg clz tys cA flz ftz base adS GWz xyz xcz xnz xrz Ex codez bmz bpz b t) 1 517 2048 codez_2561 :=
  And.intro (okz_517 Hy) (okzz 2565)
theorem anz_2562 (Hy : Hyz tys cA base adS Ex) : xall (fun b t => xOK l Dg clz tys cA flz ftz base adS GWz xyz xcz xnz xrz Ex codez bmz bpz b t) 1 1541 2048 codez_2562 :=
  And.intro (okz_1541 Hy) (okzz 3589)
theorem anz_2563 (Hy : Hyz tys cA base adS Ex) : xall (fun b t => xOK l Dg clz tys cA flz ftz base adS GWz xyz xcz xnz xrz Ex codez bmz bpz b t) 2 517 1024 codez_2563 :=
  And.intro (anz_2561 Hy) (anz_2562 Hy)
theorem anz_2564 (Hy : Hyz tys cA base adS Ex) : xall (fun b t => xOK l Dg clz tys cA flz ftz base adS GWz xyz xcz xnz xrz Ex codez bmz bpz b t) 3 5 512 codez_2564 :=
  And.intro (anz_2560 Hy) (anz_2563 Hy)
theorem anz_2565 (Hy : Hyz tys cA base adS Ex) : xall (fun b t => xOK l Dg clz tys cA flz ftz base adS GWz xyz xcz xnz xrz Ex codez bmz bpz b t) 1 261 2048 codez_2565 :=
  And.intro (okz_261 Hy) (okz_2309 Hy)
theorem anz_2566 (Hy : Hyz tys cA base adS Ex) : xall (fun b t => xOK l Dg clz tys cA flz ftz base adS GWz xyz xcz xnz xrz Ex codez bmz bpz b t) 1 1285 2048 codez_2566 :=
  And.intro (okz_1285 Hy) (okzz 3333)
theorem anz_2567 (Hy : Hyz tys cA base adS Ex) : xall (fun b t => xOK l Dg clz tys cA flz ftz base adS GWz xyz xcz xnz xrz Ex codez bmz bpz b t) 2 261 1024 codez_2567 :=
  And.intro (anz_2565 Hy) (anz_2566 Hy)
theorem anz_2568 (Hy : Hyz tys cA base adS Ex) : xall (fun b t => xOK l Dg clz tys cA flz ftz base adS GWz xyz xcz xnz xrz Ex codez bmz bpz b t) 1 773 2048 codez_2568 :=
  And.intro (okz_773 Hy) (okzz 2821)
theorem anz_2569 (Hy : Hyz tys cA base adS Ex) : xall (fun b t => xOK l Dg clz tys cA flz ftz base adS GWz xyz xcz xnz xrz Ex codez bmz bpz b t) 1 1797 2048 codez_2569 :=
  And.intro (okz_1797 Hy) (okzz 3845)
theorem anz_2570 (Hy : Hyz tys cA base adS Ex) : xall (fun b t => xOK l Dg clz tys cA flz ftz base adS GWz xyz xcz xnz xrz Ex codez bmz bpz b t) 2 773 1024 codez_2570 :=
  And.intro (anz_2568 Hy) (anz_2569 Hy)
theorem anz_2571 (Hy : Hyz tys cA base adS Ex) : xall (fun b t => xOK l Dg clz tys cA flz ftz base adS GWz xyz xcz xnz xrz Ex codez bmz bpz b t) 3 261 512 codez_2571 :=
  And.intro (anz_2567 Hy) (anz_2570 Hy)
theorem anz_2572 (Hy : Hyz tys cA base adS Ex) : xall (fun b t => xOK l Dg clz tys cA flz ftz base adS GWz xyz xcz xnz xrz Ex codez bmz bpz b t) 4 5 256 codez_2572 :=
  And.intro (anz_2564 Hy) (anz_2571 Hy)
theorem anz_2573 (Hy : Hyz tys cA base adS Ex) : xall (fun b t => xOK l Dg clz tys cA flz ftz base adS GWz xyz xcz xnz xrz Ex codez bmz bpz b t) 1 133 2048 codez_2573 :=
  And.intro (okz_133 Hy) (okz_2181 Hy)
theorem anz_2574 (Hy : Hyz tys cA base adS Ex) : xall (fun b t => xOK l Dg clz tys cA flz ftz base adS GWz xyz xcz xnz xrz Ex codez bmz bpz b t) 1 1157 2048 codez_2574 :=
  And.intro (okz_1157 Hy) (okzz 3205)
theorem anz_2575 (Hy : Hyz tys cA base adS Ex) : xall (fun b t => xOK l Dg clz tys cA flz ftz base adS GWz xyz xcz xnz xrz Ex codez bmz bpz b t) 2 133 1024 codez_2575 :=
  And.intro (anz_2573 Hy) (anz_2574 Hy)
theorem anz_2576 (Hy : Hyz tys cA base adS Ex) : xall (fun b t => xOK l Dg clz tys cA flz ftz base adS GWz xyz xcz xnz xrz Ex codez bmz bpz b t) 1 645 2048 codez_2576 :=
  And.intro (okz_645 Hy) (okzz 2693)
theorem anz_2577 (Hy : Hyz tys cA base adS Ex) : xall (fun b t => xOK l Dg clz tys cA flz ftz base adS GWz xyz xcz xnz xrz Ex codez bmz bpz b t) 1 1669 2048 codez_2577 :=
  And.intro (okz_1669 Hy) (okzz 3717)
theorem anz_2578 (Hy : Hyz tys cA base adS Ex) : xall (fun b t => xOK l Dg clz tys cA flz ftz base adS GWz xyz xcz xnz xrz Ex codez bmz bpz b t) 2 645 1024 codez_2578 :=
  And.intro (anz_2576 Hy) (anz_2577 Hy)
theorem anz_2579 (Hy : Hyz tys cA base adS Ex) : xall (fun b t => xOK l Dg clz tys cA flz ftz base adS GWz xyz xcz xnz xrz Ex codez bmz bpz b t) 3 133 512 codez_2579 :=
  And.intro (anz_2575 Hy) (anz_2578 Hy)
theorem anz_2580 (Hy : Hyz tys cA base adS Ex) : xall (fun b t => xOK l Dg clz tys cA flz ftz base adS GWz xyz xcz xnz xrz Ex codez bmz bpz b t) 1 389 2048 codez_2580 :=
  And.intro (okz_389 Hy) (okz_2437 Hy)
theorem anz_2581 (Hy : Hyz tys cA base adS Ex) : xall (fun b t => xOK l Dg clz tys cA flz ftz base adS GWz xyz xcz xnz xrz Ex codez bmz bpz b t) 1 1413 2048 codez_2581 :=
  And.intro (okz_1413 Hy) (okzz 3461)
theorem anz_2582 (Hy : Hyz tys cA base adS Ex) : xall (fun b t => xOK l Dg clz tys cA flz ftz base adS GWz xyz xcz xnz xrz Ex codez bmz bpz b t) 2 389 1024 codez_2582 :=
  And.intro (anz_2580 Hy) (anz_2581 Hy)
theorem anz_2583 (Hy : Hyz tys cA base adS Ex) : xall (fun b t => xOK l Dg clz tys cA flz ftz base adS GWz xyz xcz xnz xrz Ex codez bmz bpz b t) 1 901 2048 codez_2583 :=
  And.intro (okz_901 Hy) (okzz 2949)
theorem anz_2584 (Hy : Hyz tys cA base adS Ex) : xall (fun b t => xOK l Dg clz tys cA flz ftz base adS GWz xyz xcz xnz xrz Ex codez bmz bpz b t) 1 1925 2048 codez_2584 :=
  And.intro (okz_1925 Hy) (okzz 3973)
theorem anz_2585 (Hy : Hyz tys cA base adS Ex) : xall (fun b t => xOK l Dg clz tys cA flz ftz base adS GWz xyz xcz xnz xrz Ex codez bmz bpz b t) 2 901 1024 codez_2585 :=
  And.intro (anz_2583 Hy) (anz_2584 Hy)
theorem anz_2586 (Hy : Hyz tys cA base adS Ex) : xall (fun b t => xOK l Dg clz tys cA flz ftz base adS GWz xyz xcz xnz xrz Ex codez bmz bpz b t) 3 389 512 codez_2586 :=
  And.intro (anz_2582 Hy) (anz_2585 Hy)
theorem anz_2587 (Hy : Hyz tys cA base adS Ex) : xall (fun b t => xOK l Dg clz tys cA flz ftz base adS GWz xyz xcz xnz xrz Ex codez bmz bpz b t) 4 133 256 codez_2587 :=
  And.intro (anz_2579 Hy) (anz_2586 Hy)
theorem anz_2588 (Hy : Hyz tys cA base adS Ex) : xall (fun b t => xOK l Dg clz tys cA flz ftz base adS GWz xyz xcz xnz xrz Ex codez bmz bpz b t) 5 5 128 codez_2588 :=
  And.intro (anz_2572 Hy) (anz_2587 Hy)
theorem anz_2589 (Hy : Hyz tys cA base adS Ex) : xall (fun b t => xOK l Dg clz tys cA flz ftz base adS GWz xyz xcz xnz xrz Ex codez bmz bpz b t) 1 69 2048 codez_2589 :=
  And.intro (okz_69 Hy) (okz_2117 Hy)
theorem anz_2590 (Hy : Hyz tys cA base adS Ex) : xall (fun b t => xOK l Dg clz tys cA flz ftz base adS GWz xyz xcz xnz xrz Ex codez bmz bpz b t) 1 1093 2048 codez_2590 :=
  And.intro (okz_1093 Hy) (okzz 3141)
theorem anz_2591 (Hy : Hyz tys cA base adS Ex) : xall (fun b t => xOK l Dg clz tys cA flz ftz base adS GWz xyz xcz xnz xrz Ex codez bmz bpz b t) 2 69 1024 codez_2591 :=
  And.intro (anz_2589 Hy) (anz_2590 Hy)
theorem anz_2592 (Hy : Hyz tys cA base adS Ex) : xall (fun b t => xOK l Dg clz tys cA flz ftz base adS GWz xyz xcz xnz xrz Ex codez bmz bpz b t) 1 581 2048 codez_2592 :=
  And.intro (okz_581 Hy) (okzz 2629)
theorem anz_2593 (Hy : Hyz tys cA base adS Ex) : xall (fun b t => xOK l Dg clz tys cA flz ftz base adS GWz xyz xcz xnz xrz Ex codez bmz bpz b t) 1 1605 2048 codez_2593 :=
  And.intro (okz_1605 Hy) (okzz 3653)
theorem anz_2594 (Hy : Hyz tys cA base adS Ex) : xall (fun b t => xOK l Dg clz tys cA flz ftz base adS GWz xyz xcz xnz xrz Ex codez bmz bpz b t) 2 581 1024 codez_2594 :=
  And.intro (anz_2592 Hy) (anz_2593 Hy)
theorem anz_2595 (Hy : Hyz tys cA base adS Ex) : xall (fun b t => xOK l Dg clz tys cA flz ftz base adS GWz xyz xcz xnz xrz Ex codez bmz bpz b t) 3 69 512 codez_2595 :=
  And.intro (anz_2591 Hy) (anz_2594 Hy)
theorem anz_2596 (Hy : Hyz tys cA base adS Ex) : xall (fun b t => xOK l Dg clz tys cA flz ftz base adS GWz xyz xcz xnz xrz Ex codez bmz bpz b t) 1 325 2048 codez_2596 :=
  And.intro (okz_325 Hy) (okz_2373 Hy)
theorem anz_2597 (Hy : Hyz tys cA base adS Ex) : xall (fun b t => xOK l Dg clz tys cA flz ftz base adS GWz xyz xcz xnz xrz Ex codez bmz bpz b t) 1 1349 2048 codez_2597 :=
  And.intro (okz_1349 Hy) (okzz 3397)
theorem anz_2598 (Hy : Hyz tys cA base adS Ex) : xall (fun b t => xOK l Dg clz tys cA flz ftz base adS GWz xyz xcz xnz xrz Ex codez bmz bpz b t) 2 325 1024 codez_2598 :=
  And.intro (anz_2596 Hy) (anz_2597 Hy)
theorem anz_2599 (Hy : Hyz tys cA base adS Ex) : xall (fun b t => xOK l Dg clz tys cA flz ftz base adS GWz xyz xcz xnz xrz Ex codez bmz bpz b t) 1 837 2048 codez_2599 :=
  And.intro (okz_837 Hy) (okzz 2885)
theorem anz_2600 (Hy : Hyz tys cA base adS Ex) : xall (fun b t => xOK l Dg clz tys cA flz ftz base adS GWz xyz xcz xnz xrz Ex codez bmz bpz b t) 1 1861 2048 codez_2600 :=
  And.intro (okz_1861 Hy) (okzz 3909)
theorem anz_2601 (Hy : Hyz tys cA base adS Ex) : xall (fun b t => xOK l Dg clz tys cA flz ftz base adS GWz xyz xcz xnz xrz Ex codez bmz bpz b t) 2 837 1024 codez_2601 :=
  And.intro (anz_2599 Hy) (anz_2600 Hy)
theorem anz_2602 (Hy : Hyz tys cA base adS Ex) : xall (fun b t => xOK l Dg clz tys cA flz ftz base adS GWz xyz xcz xnz xrz Ex codez bmz bpz b t) 3 325 512 codez_2602 :=
  And.intro (anz_2598 Hy) (anz_2601 Hy)
theorem anz_2603 (Hy : Hyz tys cA base adS Ex) : xall (fun b t => xOK l Dg clz tys cA flz ftz base adS GWz xyz xcz xnz xrz Ex codez bmz bpz b t) 4 69 256 codez_2603 :=
  And.intro (anz_2595 Hy) (anz_2602 Hy)
theorem anz_2604 (Hy : Hyz tys cA base adS Ex) : xall (fun b t => xOK l Dg clz tys cA flz ftz base adS GWz xyz xcz xnz xrz Ex codez bmz bpz b t) 1 197 2048 codez_2604 :=
  And.intro (okz_197 Hy) (okz_2245 Hy)
theorem anz_2605 (Hy : Hyz tys cA base adS Ex) : xall (fun b t => xOK l Dg clz tys cA flz ftz base adS GWz xyz xcz xnz xrz Ex codez bmz bpz b t) 1 1221 2048 codez_2605 :=
  And.intro (okz_1221 Hy) (okzz 3269)
theorem anz_2606 (Hy : Hyz tys cA base adS Ex) : xall (fun b t => xOK l Dg clz tys cA flz ftz base adS GWz xyz xcz xnz xrz Ex codez bmz bpz b t) 2 197 1024 codez_2606 :=
  And.intro (anz_2604 Hy) (anz_2605 Hy)
theorem anz_2607 (Hy : Hyz tys cA base adS Ex) : xall (fun b t => xOK l Dg clz tys cA flz ftz base adS GWz xyz xcz xnz xrz Ex codez bmz bpz b t) 1 709 2048 codez_2607 :=
  And.intro (okz_709 Hy) (okzz 2757)
theorem anz_2608 (Hy : Hyz tys cA base adS Ex) : xall (fun b t => xOK l Dg clz tys cA flz ftz base adS GWz xyz xcz xnz xrz Ex codez bmz bpz b t) 1 1733 2048 codez_2608 :=
  And.intro (okz_1733 Hy) (okzz 3781)
theorem anz_2609 (Hy : Hyz tys cA base adS Ex) : xall (fun b t => xOK l Dg clz tys cA flz ftz base adS GWz xyz xcz xnz xrz Ex codez bmz bpz b t) 2 709 1024 codez_2609 :=
  And.intro (anz_2607 Hy) (anz_2608 Hy)
theorem anz_2610 (Hy : Hyz tys cA base adS Ex) : xall (fun b t => xOK l Dg clz tys cA flz ftz base adS GWz xyz xcz xnz xrz Ex codez bmz bpz b t) 3 197 512 codez_2610 :=
  And.intro (anz_2606 Hy) (anz_2609 Hy)
theorem anz_2611 (Hy : Hyz tys cA base adS Ex) : xall (fun b t => xOK l Dg clz tys cA flz ftz base adS GWz xyz xcz xnz xrz Ex codez bmz bpz b t) 1 453 2048 codez_2611 :=
  And.intro (okz_453 Hy) (okz_2501 Hy)
theorem anz_2612 (Hy : Hyz tys cA base adS Ex) : xall (fun b t => xOK l Dg clz tys cA flz ftz base adS GWz xyz xcz xnz xrz Ex codez bmz bpz b t) 1 1477 2048 codez_2612 :=
  And.intro (okz_1477 Hy) (okzz 3525)
theorem anz_2613 (Hy : Hyz tys cA base adS Ex) : xall (fun b t => xOK l Dg clz tys cA flz ftz base adS GWz xyz xcz xnz xrz Ex codez bmz bpz b t) 2 453 1024 codez_2613 :=
  And.intro (anz_2611 Hy) (anz_2612 Hy)
theorem anz_2614 (Hy : Hyz tys cA base adS Ex) : xall (fun b t => xOK l Dg clz tys cA flz ftz base adS GWz xyz xcz xnz xrz Ex codez bmz bpz b t) 1 965 2048 codez_2614 :=
  And.intro (okz_965 Hy) (okzz 3013)
theorem anz_2615 (Hy : Hyz tys cA base adS Ex) : xall (fun b t => xOK l Dg clz tys cA flz ftz base adS GWz xyz xcz xnz xrz Ex codez bmz bpz b t) 1 1989 2048 codez_2615 :=
  And.intro (okz_1989 Hy) (okzz 4037)
theorem anz_2616 (Hy : Hyz tys cA base adS Ex) : xall (fun b t => xOK l Dg clz tys cA flz ftz base adS GWz xyz xcz xnz xrz Ex codez bmz bpz b t) 2 965 1024 codez_2616 :=
  And.intro (anz_2614 Hy) (anz_2615 Hy)
theorem anz_2617 (Hy : Hyz tys cA base adS Ex) : xall (fun b t => xOK l Dg clz tys cA flz ftz base adS GWz xyz xcz xnz xrz Ex codez bmz bpz b t) 3 453 512 codez_2617 :=
  And.intro (anz_2613 Hy) (anz_2616 Hy)
theorem anz_2618 (Hy : Hyz tys cA base adS Ex) : xall (fun b t => xOK l Dg clz tys cA flz ftz base adS GWz xyz xcz xnz xrz Ex codez bmz bpz b t) 4 197 256 codez_2618 :=
  And.intro (anz_2610 Hy) (anz_2617 Hy)
theorem anz_2619 (Hy : Hyz tys cA base adS Ex) : xall (fun b t => xOK l Dg clz tys cA flz ftz base adS GWz xyz xcz xnz xrz Ex codez bmz bpz b t) 5 69 128 codez_2619 :=
  And.intro (anz_2603 Hy) (anz_2618 Hy)
theorem anz_2620 (Hy : Hyz tys cA base adS Ex) : xall (fun b t => xOK l Dg clz tys cA flz ftz base adS GWz xyz xcz xnz xrz Ex codez bmz bpz b t) 6 5 64 codez_2620 :=
  And.intro (anz_2588 Hy) (anz_2619 Hy)
theorem anz_2621 (Hy : Hyz tys cA base adS Ex) : xall (fun b t => xOK l Dg clz tys cA flz ftz base adS GWz xyz xcz xnz xrz Ex codez bmz bpz b t) 1 37 2048 codez_2621 :=
  And.intro (okz_37 Hy) (okz_2085 Hy)
theorem anz_2622 (Hy : Hyz tys cA base adS Ex) : xall (fun b t => xOK l Dg clz tys cA flz ftz base adS GWz xyz xcz xnz xrz Ex codez bmz bpz b t) 1 1061 2048 codez_2622 :=
  And.intro (okz_1061 Hy) (okzz 3109)
theorem anz_2623 (Hy : Hyz tys cA base adS Ex) : xall (fun b t => xOK l Dg clz tys cA flz ftz base adS GWz xyz xcz xnz xrz Ex codez bmz bpz b t) 2 37 1024 codez_2623 :=
  And.intro (anz_2621 Hy) (anz_2622 Hy)
theorem anz_2624 (Hy : Hyz tys cA base adS Ex) : xall (fun b t => xOK l Dg clz tys cA flz ftz base adS GWz xyz xcz xnz xrz Ex codez bmz bpz b t) 1 549 2048 codez_2624 :=
  And.intro (okz_549 Hy) (okzz 2597)
theorem anz_2625 (Hy : Hyz tys cA base adS Ex) : xall (fun b t => xOK l Dg clz tys cA flz ftz base adS GWz xyz xcz xnz xrz Ex codez bmz bpz b t) 1 1573 2048 codez_2625 :=
  And.intro (okz_1573 Hy) (okzz 3621)
theorem anz_2626 (Hy : Hyz tys cA base adS Ex) : xall (fun b t => xOK l Dg clz tys cA flz ftz base adS GWz xyz xcz xnz xrz Ex codez bmz bpz b t) 2 549 1024 codez_2626 :=
  And.intro (anz_2624 Hy) (anz_2625 Hy)
theorem anz_2627 (Hy : Hyz tys cA base adS Ex) : xall (fun b t => xOK l Dg clz tys cA flz ftz base adS GWz xyz xcz xnz xrz Ex codez bmz bpz b t) 3 37 512 codez_2627 :=
  And.intro (anz_2623 Hy) (anz_2626 Hy)
theorem anz_2628 (Hy : Hyz tys cA base adS Ex) : xall (fun b t => xOK l Dg clz tys cA flz ftz base adS GWz xyz xcz xnz xrz Ex codez bmz bpz b t) 1 293 2048 codez_2628 :=
  And.intro (okz_293 Hy) (okz_2341 Hy)
theorem anz_2629 (Hy : Hyz tys cA base adS Ex) : xall (fun b t => xOK l Dg clz tys cA flz ftz base adS GWz xyz xcz xnz xrz Ex codez bmz bpz b t) 1 1317 2048 codez_2629 :=
  And.intro (okz_1317 Hy) (okzz 3365)
theorem anz_2630 (Hy : Hyz tys cA base adS Ex) : xall (fun b t => xOK l Dg clz tys cA flz ftz base adS GWz xyz xcz xnz xrz Ex codez bmz bpz b t) 2 293 1024 codez_2630 :=
  And.intro (anz_2628 Hy) (anz_2629 Hy)
theorem anz_2631 (Hy : Hyz tys cA base adS Ex) : xall (fun b t => xOK l Dg clz tys cA flz ftz base adS GWz xyz xcz xnz xrz Ex codez bmz bpz b t) 1 805 2048 codez_2631 :=
  And.intro (okz_805 Hy) (okzz 2853)
theorem anz_2632 (Hy : Hyz tys cA base adS Ex) : xall (fun b t => xOK l Dg clz tys cA flz ftz base adS GWz xyz xcz xnz xrz Ex codez bmz bpz b t) 1 1829 2048 codez_2632 :=
  And.intro (okz_1829 Hy) (okzz 3877)
theorem anz_2633 (Hy : Hyz tys cA base adS Ex) : xall (fun b t => xOK l Dg clz tys cA flz ftz base adS GWz xyz xcz xnz xrz Ex codez bmz bpz b t) 2 805 1024 codez_2633 :=
  And.intro (anz_2631 Hy) (anz_2632 Hy)
theorem anz_2634 (Hy : Hyz tys cA base adS Ex) : xall (fun b t => xOK l Dg clz tys cA flz ftz base adS GWz xyz xcz xnz xrz Ex codez bmz bpz b t) 3 293 512 codez_2634 :=
  And.intro (anz_2630 Hy) (anz_2633 Hy)
theorem anz_2635 (Hy : Hyz tys cA base adS Ex) : xall (fun b t => xOK l Dg clz tys cA flz ftz base adS GWz xyz xcz xnz xrz Ex codez bmz bpz b t) 4 37 256 codez_2635 :=
  And.intro (anz_2627 Hy) (anz_2634 Hy)
theorem anz_2636 (Hy : Hyz tys cA base adS Ex) : xall (fun b t => xOK l Dg clz tys cA flz ftz base adS GWz xyz xcz xnz xrz Ex codez bmz bpz b t) 1 165 2048 codez_2636 :=
  And.intro (okz_165 Hy) (okz_2213 Hy)
theorem anz_2637 (Hy : Hyz tys cA base adS Ex) : xall (fun b t => xOK l Dg clz tys cA flz ftz base adS GWz xyz xcz xnz xrz Ex codez bmz bpz b t) 1 1189 2048 codez_2637 :=
  And.intro (okz_1189 Hy) (okzz 3237)
theorem anz_2638 (Hy : Hyz tys cA base adS Ex) : xall (fun b t => xOK l Dg clz tys cA flz ftz base adS GWz xyz xcz xnz xrz Ex codez bmz bpz b t) 2 165 1024 codez_2638 :=
  And.intro (anz_2636 Hy) (anz_2637 Hy)
theorem anz_2639 (Hy : Hyz tys cA base adS Ex) : xall (fun b t => xOK l Dg clz tys cA flz ftz base adS GWz xyz xcz xnz xrz Ex codez bmz bpz b t) 1 677 2048 codez_2639 :=
  And.intro (okz_677 Hy) (okzz 2725)
theorem anz_2640 (Hy : Hyz tys cA base adS Ex) : xall (fun b t => xOK l Dg clz tys cA flz ftz base adS GWz xyz xcz xnz xrz Ex codez bmz bpz b t) 1 1701 2048 codez_2640 :=
  And.intro (okz_1701 Hy) (okzz 3749)
theorem anz_2641 (Hy : Hyz tys cA base adS Ex) : xall (fun b t => xOK l Dg clz tys cA flz ftz base adS GWz xyz xcz xnz xrz Ex codez bmz bpz b t) 2 677 1024 codez_2641 :=
  And.intro (anz_2639 Hy) (anz_2640 Hy)
theorem anz_2642 (Hy : Hyz tys cA base adS Ex) : xall (fun b t => xOK l Dg clz tys cA flz ftz base adS GWz xyz xcz xnz xrz Ex codez bmz bpz b t) 3 165 512 codez_2642 :=
  And.intro (anz_2638 Hy) (anz_2641 Hy)
theorem anz_2643 (Hy : Hyz tys cA base adS Ex) : xall (fun b t => xOK l Dg clz tys cA flz ftz base adS GWz xyz xcz xnz xrz Ex codez bmz bpz b t) 1 421 2048 codez_2643 :=
  And.intro (okz_421 Hy) (okz_2469 Hy)
theorem anz_2644 (Hy : Hyz tys cA base adS Ex) : xall (fun b t => xOK l Dg clz tys cA flz ftz base adS GWz xyz xcz xnz xrz Ex codez bmz bpz b t) 1 1445 2048 codez_2644 :=
  And.intro (okz_1445 Hy) (okzz 3493)
theorem anz_2645 (Hy : Hyz tys cA base adS Ex) : xall (fun b t => xOK l Dg clz tys cA flz ftz base adS GWz xyz xcz xnz xrz Ex codez bmz bpz b t) 2 421 1024 codez_2645 :=
  And.intro (anz_2643 Hy) (anz_2644 Hy)
theorem anz_2646 (Hy : Hyz tys cA base adS Ex) : xall (fun b t => xOK l Dg clz tys cA flz ftz base adS GWz xyz xcz xnz xrz Ex codez bmz bpz b t) 1 933 2048 codez_2646 :=
  And.intro (okz_933 Hy) (okzz 2981)
theorem anz_2647 (Hy : Hyz tys cA base adS Ex) : xall (fun b t => xOK l Dg clz tys cA flz ftz base adS GWz xyz xcz xnz xrz Ex codez bmz bpz b t) 1 1957 2048 codez_2647 :=
  And.intro (okz_1957 Hy) (okzz 4005)
theorem anz_2648 (Hy : Hyz tys cA base adS Ex) : xall (fun b t => xOK l Dg clz tys cA flz ftz base adS GWz xyz xcz xnz xrz Ex codez bmz bpz b t) 2 933 1024 codez_2648 :=
  And.intro (anz_2646 Hy) (anz_2647 Hy)
theorem anz_2649 (Hy : Hyz tys cA base adS Ex) : xall (fun b t => xOK l Dg clz tys cA flz ftz base adS GWz xyz xcz xnz xrz Ex codez bmz bpz b t) 3 421 512 codez_2649 :=
  And.intro (anz_2645 Hy) (anz_2648 Hy)
theorem anz_2650 (Hy : Hyz tys cA base adS Ex) : xall (fun b t => xOK l Dg clz tys cA flz ftz base adS GWz xyz xcz xnz xrz Ex codez bmz bpz b t) 4 165 256 codez_2650 :=
  And.intro (anz_2642 Hy) (anz_2649 Hy)
theorem anz_2651 (Hy : Hyz tys cA base adS Ex) : xall (fun b t => xOK l Dg clz tys cA flz ftz base adS GWz xyz xcz xnz xrz Ex codez bmz bpz b t) 5 37 128 codez_2651 :=
  And.intro (anz_2635 Hy) (anz_2650 Hy)
theorem anz_2652 (Hy : Hyz tys cA base adS Ex) : xall (fun b t => xOK l Dg clz tys cA flz ftz base adS GWz xyz xcz xnz xrz Ex codez bmz bpz b t) 1 101 2048 codez_2652 :=
  And.intro (okz_101 Hy) (okz_2149 Hy)
theorem anz_2653 (Hy : Hyz tys cA base adS Ex) : xall (fun b t => xOK l Dg clz tys cA flz ftz base adS GWz xyz xcz xnz xrz Ex codez bmz bpz b t) 1 1125 2048 codez_2653 :=
  And.intro (okz_1125 Hy) (okzz 3173)
theorem anz_2654 (Hy : Hyz tys cA base adS Ex) : xall (fun b t => xOK l Dg clz tys cA flz ftz base adS GWz xyz xcz xnz xrz Ex codez bmz bpz b t) 2 101 1024 codez_2654 :=
  And.intro (anz_2652 Hy) (anz_2653 Hy)
theorem anz_2655 (Hy : Hyz tys cA base adS Ex) : xall (fun b t => xOK l Dg clz tys cA flz ftz base adS GWz xyz xcz xnz xrz Ex codez bmz bpz b t) 1 613 2048 codez_2655 :=
  And.intro (okz_613 Hy) (okzz 2661)
theorem anz_2656 (Hy : Hyz tys cA base adS Ex) : xall (fun b t => xOK l Dg clz tys cA flz ftz base adS GWz xyz xcz xnz xrz Ex codez bmz bpz b t) 1 1637 2048 codez_2656 :=
  And.intro (okz_1637 Hy) (okzz 3685)
theorem anz_2657 (Hy : Hyz tys cA base adS Ex) : xall (fun b t => xOK l Dg clz tys cA flz ftz base adS GWz xyz xcz xnz xrz Ex codez bmz bpz b t) 2 613 1024 codez_2657 :=
  And.intro (anz_2655 Hy) (anz_2656 Hy)
theorem anz_2658 (Hy : Hyz tys cA base adS Ex) : xall (fun b t => xOK l Dg clz tys cA flz ftz base adS GWz xyz xcz xnz xrz Ex codez bmz bpz b t) 3 101 512 codez_2658 :=
  And.intro (anz_2654 Hy) (anz_2657 Hy)
theorem anz_2659 (Hy : Hyz tys cA base adS Ex) : xall (fun b t => xOK l Dg clz tys cA flz ftz base adS GWz xyz xcz xnz xrz Ex codez bmz bpz b t) 1 357 2048 codez_2659 :=
  And.intro (okz_357 Hy) (okz_2405 Hy)
theorem anz_2660 (Hy : Hyz tys cA base adS Ex) : xall (fun b t => xOK l Dg clz tys cA flz ftz base adS GWz xyz xcz xnz xrz Ex codez bmz bpz b t) 1 1381 2048 codez_2660 :=
  And.intro (okz_1381 Hy) (okzz 3429)
theorem anz_2661 (Hy : Hyz tys cA base adS Ex) : xall (fun b t => xOK l Dg clz tys cA flz ftz base adS GWz xyz xcz xnz xrz Ex codez bmz bpz b t) 2 357 1024 codez_2661 :=
  And.intro (anz_2659 Hy) (anz_2660 Hy)
theorem anz_2662 (Hy : Hyz tys cA base adS Ex) : xall (fun b t => xOK l Dg clz tys cA flz ftz base adS GWz xyz xcz xnz xrz Ex codez bmz bpz b t) 1 869 2048 codez_2662 :=
  And.intro (okz_869 Hy) (okzz 2917)
theorem anz_2663 (Hy : Hyz tys cA base adS Ex) : xall (fun b t => xOK l Dg clz tys cA flz ftz base adS GWz xyz xcz xnz xrz Ex codez bmz bpz b t) 1 1893 2048 codez_2663 :=
  And.intro (okz_1893 Hy) (okzz 3941)
theorem anz_2664 (Hy : Hyz tys cA base adS Ex) : xall (fun b t => xOK l Dg clz tys cA flz ftz base adS GWz xyz xcz xnz xrz Ex codez bmz bpz b t) 2 869 1024 codez_2664 :=
  And.intro (anz_2662 Hy) (anz_2663 Hy)
theorem anz_2665 (Hy : Hyz tys cA base adS Ex) : xall (fun b t => xOK l Dg clz tys cA flz ftz base adS GWz xyz xcz xnz xrz Ex codez bmz bpz b t) 3 357 512 codez_2665 :=
  And.intro (anz_2661 Hy) (anz_2664 Hy)
theorem anz_2666 (Hy : Hyz tys cA base adS Ex) : xall (fun b t => xOK l Dg clz tys cA flz ftz base adS GWz xyz xcz xnz xrz Ex codez bmz bpz b t) 4 101 256 codez_2666 :=
  And.intro (anz_2658 Hy) (anz_2665 Hy)
theorem anz_2667 (Hy : Hyz tys cA base adS Ex) : xall (fun b t => xOK l Dg clz tys cA flz ftz base adS GWz xyz xcz xnz xrz Ex codez bmz bpz b t) 1 229 2048 codez_2667 :=
  And.intro (okz_229 Hy) (okz_2277 Hy)
theorem anz_2668 (Hy : Hyz tys cA base adS Ex) : xall (fun b t => xOK l Dg clz tys cA flz ftz base adS GWz xyz xcz xnz xrz Ex codez bmz bpz b t) 1 1253 2048 codez_2668 :=
  And.intro (okz_1253 Hy) (okzz 3301)
theorem anz_2669 (Hy : Hyz tys cA base adS Ex) : xall (fun b t => xOK l Dg clz tys cA flz ftz base adS GWz xyz xcz xnz xrz Ex codez bmz bpz b t) 2 229 1024 codez_2669 :=
  And.intro (anz_2667 Hy) (anz_2668 Hy)
theorem anz_2670 (Hy : Hyz tys cA base adS Ex) : xall (fun b t => xOK l Dg clz tys cA flz ftz base adS GWz xyz xcz xnz xrz Ex codez bmz bpz b t) 1 741 2048 codez_2670 :=
  And.intro (okz_741 Hy) (okzz 2789)
theorem anz_2671 (Hy : Hyz tys cA base adS Ex) : xall (fun b t => xOK l Dg clz tys cA flz ftz base adS GWz xyz xcz xnz xrz Ex codez bmz bpz b t) 1 1765 2048 codez_2671 :=
  And.intro (okz_1765 Hy) (okzz 3813)
theorem anz_2672 (Hy : Hyz tys cA base adS Ex) : xall (fun b t => xOK l Dg clz tys cA flz ftz base adS GWz xyz xcz xnz xrz Ex codez bmz bpz b t) 2 741 1024 codez_2672 :=
  And.intro (anz_2670 Hy) (anz_2671 Hy)
theorem anz_2673 (Hy : Hyz tys cA base adS Ex) : xall (fun b t => xOK l Dg clz tys cA flz ftz base adS GWz xyz xcz xnz xrz Ex codez bmz bpz b t) 3 229 512 codez_2673 :=
  And.intro (anz_2669 Hy) (anz_2672 Hy)
theorem anz_2674 (Hy : Hyz tys cA base adS Ex) : xall (fun b t => xOK l Dg clz tys cA flz ftz base adS GWz xyz xcz xnz xrz Ex codez bmz bpz b t) 1 485 2048 codez_2674 :=
  And.intro (okz_485 Hy) (okz_2533 Hy)
theorem anz_2675 (Hy : Hyz tys cA base adS Ex) : xall (fun b t => xOK l Dg clz tys cA flz ftz base adS GWz xyz xcz xnz xrz Ex codez bmz bpz b t) 1 1509 2048 codez_2675 :=
  And.intro (okz_1509 Hy) (okzz 3557)
theorem anz_2676 (Hy : Hyz tys cA base adS Ex) : xall (fun b t => xOK l Dg clz tys cA flz ftz base adS GWz xyz xcz xnz xrz Ex codez bmz bpz b t) 2 485 1024 codez_2676 :=
  And.intro (anz_2674 Hy) (anz_2675 Hy)
theorem anz_2677 (Hy : Hyz tys cA base adS Ex) : xall (fun b t => xOK l Dg clz tys cA flz ftz base adS GWz xyz xcz xnz xrz Ex codez bmz bpz b t) 1 997 2048 codez_2677 :=
  And.intro (okz_997 Hy) (okzz 3045)
theorem anz_2678 (Hy : Hyz tys cA base adS Ex) : xall (fun b t => xOK l Dg clz tys cA flz ftz base adS GWz xyz xcz xnz xrz Ex codez bmz bpz b t) 1 2021 2048 codez_2678 :=
  And.intro (okz_2021 Hy) (okzz 4069)
theorem anz_2679 (Hy : Hyz tys cA base adS Ex) : xall (fun b t => xOK l Dg clz tys cA flz ftz base adS GWz xyz xcz xnz xrz Ex codez bmz bpz b t) 2 997 1024 codez_2679 :=
  And.intro (anz_2677 Hy) (anz_2678 Hy)
theorem anz_2680 (Hy : Hyz tys cA base adS Ex) : xall (fun b t => xOK l Dg clz tys cA flz ftz base adS GWz xyz xcz xnz xrz Ex codez bmz bpz b t) 3 485 512 codez_2680 :=
  And.intro (anz_2676 Hy) (anz_2679 Hy)
theorem anz_2681 (Hy : Hyz tys cA base adS Ex) : xall (fun b t => xOK l Dg clz tys cA flz ftz base adS GWz xyz xcz xnz xrz Ex codez bmz bpz b t) 4 229 256 codez_2681 :=
  And.intro (anz_2673 Hy) (anz_2680 Hy)
theorem anz_2682 (Hy : Hyz tys cA base adS Ex) : xall (fun b t => xOK l Dg clz tys cA flz ftz base adS GWz xyz xcz xnz xrz Ex codez bmz bpz b t) 5 101 128 codez_2682 :=
  And.intro (anz_2666 Hy) (anz_2681 Hy)
theorem anz_2683 (Hy : Hyz tys cA base adS Ex) : xall (fun b t => xOK l Dg clz tys cA flz ftz base adS GWz xyz xcz xnz xrz Ex codez bmz bpz b t) 6 37 64 codez_2683 :=
  And.intro (anz_2651 Hy) (anz_2682 Hy)
theorem anz_2684 (Hy : Hyz tys cA base adS Ex) : xall (fun b t => xOK l Dg clz tys cA flz ftz base adS GWz xyz xcz xnz xrz Ex codez bmz bpz b t) 7 5 32 codez_2684 :=
  And.intro (anz_2620 Hy) (anz_2683 Hy)
theorem anz_2685 (Hy : Hyz tys cA base adS Ex) : xall (fun b t => xOK l Dg clz tys cA flz ftz base adS GWz xyz xcz xnz xrz Ex codez bmz bpz b t) 1 21 2048 codez_2685 :=
  And.intro (okz_21 Hy) (okz_2069 Hy)
theorem anz_2686 (Hy : Hyz tys cA base adS Ex) : xall (fun b t => xOK l Dg clz tys cA flz ftz base adS GWz xyz xcz xnz xrz Ex codez bmz bpz b t) 1 1045 2048 codez_2686 :=
  And.intro (okz_1045 Hy) (okzz 3093)
theorem anz_2687 (Hy : Hyz tys cA base adS Ex) : xall (fun b t => xOK l Dg clz tys cA flz ftz base adS GWz xyz xcz xnz xrz Ex codez bmz bpz b t) 2 21 1024 codez_2687 :=
  And.intro (anz_2685 Hy) (anz_2686 Hy)
theorem anz_2688 (Hy : Hyz tys cA base adS Ex) : xall (fun b t => xOK l Dg clz tys cA flz ftz base adS GWz xyz xcz xnz xrz Ex codez bmz bpz b t) 1 533 2048 codez_2688 :=
  And.intro (okz_533 Hy) (okzz 2581)
theorem anz_2689 (Hy : Hyz tys cA base adS Ex) : xall (fun b t => xOK l Dg clz tys cA flz ftz base adS GWz xyz xcz xnz xrz Ex codez bmz bpz b t) 1 1557 2048 codez_2689 :=
  And.intro (okz_1557 Hy) (okzz 3605)
theorem anz_2690 (Hy : Hyz tys cA base adS Ex) : xall (fun b t => xOK l Dg clz tys cA flz ftz base adS GWz xyz xcz xnz xrz Ex codez bmz bpz b t) 2 533 1024 codez_2690 :=
  And.intro (anz_2688 Hy) (anz_2689 Hy)
theorem anz_2691 (Hy : Hyz tys cA base adS Ex) : xall (fun b t => xOK l Dg clz tys cA flz ftz base adS GWz xyz xcz xnz xrz Ex codez bmz bpz b t) 3 21 512 codez_2691 :=
  And.intro (anz_2687 Hy) (anz_2690 Hy)
theorem anz_2692 (Hy : Hyz tys cA base adS Ex) : xall (fun b t => xOK l Dg clz tys cA flz ftz base adS GWz xyz xcz xnz xrz Ex codez bmz bpz b t) 1 277 2048 codez_2692 :=
  And.intro (okz_277 Hy) (okz_2325 Hy)
theorem anz_2693 (Hy : Hyz tys cA base adS Ex) : xall (fun b t => xOK l Dg clz tys cA flz ftz base adS GWz xyz xcz xnz xrz Ex codez bmz bpz b t) 1 1301 2048 codez_2693 :=
  And.intro (okz_1301 Hy) (okzz 3349)
theorem anz_2694 (Hy : Hyz tys cA base adS Ex) : xall (fun b t => xOK l Dg clz tys cA flz ftz base adS GWz xyz xcz xnz xrz Ex codez bmz bpz b t) 2 277 1024 codez_2694 :=
  And.intro (anz_2692 Hy) (anz_2693 Hy)
theorem anz_2695 (Hy : Hyz tys cA base adS Ex) : xall (fun b t => xOK l Dg clz tys cA flz ftz base adS GWz xyz xcz xnz xrz Ex codez bmz bpz b t) 1 789 2048 codez_2695 :=
  And.intro (okz_789 Hy) (okzz 2837)
theorem anz_2696 (Hy : Hyz tys cA base adS Ex) : xall (fun b t => xOK l Dg clz tys cA flz ftz base adS GWz xyz xcz xnz xrz Ex codez bmz bpz b t) 1 1813 2048 codez_2696 :=
  And.intro (okz_1813 Hy) (okzz 3861)
theorem anz_2697 (Hy : Hyz tys cA base adS Ex) : xall (fun b t => xOK l Dg clz tys cA flz ftz base adS GWz xyz xcz xnz xrz Ex codez bmz bpz b t) 2 789 1024 codez_2697 :=
  And.intro (anz_2695 Hy) (anz_2696 Hy)
theorem anz_2698 (Hy : Hyz tys cA base adS Ex) : xall (fun b t => xOK l Dg clz tys cA flz ftz base adS GWz xyz xcz xnz xrz Ex codez bmz bpz b t) 3 277 512 codez_2698 :=
  And.intro (anz_2694 Hy) (anz_2697 Hy)
theorem anz_2699 (Hy : Hyz tys cA base adS Ex) : xall (fun b t => xOK l Dg clz tys cA flz ftz base adS GWz xyz xcz xnz xrz Ex codez bmz bpz b t) 4 21 256 codez_2699 :=
  And.intro (anz_2691 Hy) (anz_2698 Hy)
theorem anz_2700 (Hy : Hyz tys cA base adS Ex) : xall (fun b t => xOK l Dg clz tys cA flz ftz base adS GWz xyz xcz xnz xrz Ex codez bmz bpz b t) 1 149 2048 codez_2700 :=
  And.intro (okz_149 Hy) (okz_2197 Hy)
theorem anz_2701 (Hy : Hyz tys cA base adS Ex) : xall (fun b t => xOK l Dg clz tys cA flz ftz base adS GWz xyz xcz xnz xrz Ex codez bmz bpz b t) 1 1173 2048 codez_2701 :=
  And.intro (okz_1173 Hy) (okzz 3221)
theorem anz_2702 (Hy : Hyz tys cA base adS Ex) : xall (fun b t => xOK l Dg clz tys cA flz ftz base adS GWz xyz xcz xnz xrz Ex codez bmz bpz b t) 2 149 1024 codez_2702 :=
  And.intro (anz_2700 Hy) (anz_2701 Hy)
theorem anz_2703 (Hy : Hyz tys cA base adS Ex) : xall (fun b t => xOK l Dg clz tys cA flz ftz base adS GWz xyz xcz xnz xrz Ex codez bmz bpz b t) 1 661 2048 codez_2703 :=
  And.intro (okz_661 Hy) (okzz 2709)
theorem anz_2704 (Hy : Hyz tys cA base adS Ex) : xall (fun b t => xOK l Dg clz tys cA flz ftz base adS GWz xyz xcz xnz xrz Ex codez bmz bpz b t) 1 1685 2048 codez_2704 :=
  And.intro (okz_1685 Hy) (okzz 3733)
theorem anz_2705 (Hy : Hyz tys cA base adS Ex) : xall (fun b t => xOK l Dg clz tys cA flz ftz base adS GWz xyz xcz xnz xrz Ex codez bmz bpz b t) 2 661 1024 codez_2705 :=
  And.intro (anz_2703 Hy) (anz_2704 Hy)
theorem anz_2706 (Hy : Hyz tys cA base adS Ex) : xall (fun b t => xOK l Dg clz tys cA flz ftz base adS GWz xyz xcz xnz xrz Ex codez bmz bpz b t) 3 149 512 codez_2706 :=
  And.intro (anz_2702 Hy) (anz_2705 Hy)
theorem anz_2707 (Hy : Hyz tys cA base adS Ex) : xall (fun b t => xOK l Dg clz tys cA flz ftz base adS GWz xyz xcz xnz xrz Ex codez bmz bpz b t) 1 405 2048 codez_2707 :=
  And.intro (okz_405 Hy) (okz_2453 Hy)
theorem anz_2708 (Hy : Hyz tys cA base adS Ex) : xall (fun b t => xOK l Dg clz tys cA flz ftz base adS GWz xyz xcz xnz xrz Ex codez bmz bpz b t) 1 1429 2048 codez_2708 :=
  And.intro (okz_1429 Hy) (okzz 3477)
theorem anz_2709 (Hy : Hyz tys cA base adS Ex) : xall (fun b t => xOK l Dg clz tys cA flz ftz base adS GWz xyz xcz xnz xrz Ex codez bmz bpz b t) 2 405 1024 codez_2709 :=
  And.intro (anz_2707 Hy) (anz_2708 Hy)
theorem anz_2710 (Hy : Hyz tys cA base adS Ex) : xall (fun b t => xOK l Dg clz tys cA flz ftz base adS GWz xyz xcz xnz xrz Ex codez bmz bpz b t) 1 917 2048 codez_2710 :=
  And.intro (okz_917 Hy) (okzz 2965)
theorem anz_2711 (Hy : Hyz tys cA base adS Ex) : xall (fun b t => xOK l Dg clz tys cA flz ftz base adS GWz xyz xcz xnz xrz Ex codez bmz bpz b t) 1 1941 2048 codez_2711 :=
  And.intro (okz_1941 Hy) (okzz 3989)
theorem anz_2712 (Hy : Hyz tys cA base adS Ex) : xall (fun b t => xOK l Dg clz tys cA flz ftz base adS GWz xyz xcz xnz xrz Ex codez bmz bpz b t) 2 917 1024 codez_2712 :=
  And.intro (anz_2710 Hy) (anz_2711 Hy)
theorem anz_2713 (Hy : Hyz tys cA base adS Ex) : xall (fun b t => xOK l Dg clz tys cA flz ftz base adS GWz xyz xcz xnz xrz Ex codez bmz bpz b t) 3 405 512 codez_2713 :=
  And.intro (anz_2709 Hy) (anz_2712 Hy)
theorem anz_2714 (Hy : Hyz tys cA base adS Ex) : xall (fun b t => xOK l Dg clz tys cA flz ftz base adS GWz xyz xcz xnz xrz Ex codez bmz bpz b t) 4 149 256 codez_2714 :=
  And.intro (anz_2706 Hy) (anz_2713 Hy)
theorem anz_2715 (Hy : Hyz tys cA base adS Ex) : xall (fun b t => xOK l Dg clz tys cA flz ftz base adS GWz xyz xcz xnz xrz Ex codez bmz bpz b t) 5 21 128 codez_2715 :=
  And.intro (anz_2699 Hy) (anz_2714 Hy)
theorem anz_2716 (Hy : Hyz tys cA base adS Ex) : xall (fun b t => xOK l Dg clz tys cA flz ftz base adS GWz xyz xcz xnz xrz Ex codez bmz bpz b t) 1 85 2048 codez_2716 :=
  And.intro (okz_85 Hy) (okz_2133 Hy)
theorem anz_2717 (Hy : Hyz tys cA base adS Ex) : xall (fun b t => xOK l Dg clz tys cA flz ftz base adS GWz xyz xcz xnz xrz Ex codez bmz bpz b t) 1 1109 2048 codez_2717 :=
  And.intro (okz_1109 Hy) (okzz 3157)
theorem anz_2718 (Hy : Hyz tys cA base adS Ex) : xall (fun b t => xOK l Dg clz tys cA flz ftz base adS GWz xyz xcz xnz xrz Ex codez bmz bpz b t) 2 85 1024 codez_2718 :=
  And.intro (anz_2716 Hy) (anz_2717 Hy)
theorem anz_2719 (Hy : Hyz tys cA base adS Ex) : xall (fun b t => xOK l Dg clz tys cA flz ftz base adS GWz xyz xcz xnz xrz Ex codez bmz bpz b t) 1 597 2048 codez_2719 :=
  And.intro (okz_597 Hy) (okzz 2645)
theorem anz_2720 (Hy : Hyz tys cA base adS Ex) : xall (fun b t => xOK l Dg clz tys cA flz ftz base adS GWz xyz xcz xnz xrz Ex codez bmz bpz b t) 1 1621 2048 codez_2720 :=
  And.intro (okz_1621 Hy) (okzz 3669)
theorem anz_2721 (Hy : Hyz tys cA base adS Ex) : xall (fun b t => xOK l Dg clz tys cA flz ftz base adS GWz xyz xcz xnz xrz Ex codez bmz bpz b t) 2 597 1024 codez_2721 :=
  And.intro (anz_2719 Hy) (anz_2720 Hy)
theorem anz_2722 (Hy : Hyz tys cA base adS Ex) : xall (fun b t => xOK l Dg clz tys cA flz ftz base adS GWz xyz xcz xnz xrz Ex codez bmz bpz b t) 3 85 512 codez_2722 :=
  And.intro (anz_2718 Hy) (anz_2721 Hy)
theorem anz_2723 (Hy : Hyz tys cA base adS Ex) : xall (fun b t => xOK l Dg clz tys cA flz ftz base adS GWz xyz xcz xnz xrz Ex codez bmz bpz b t) 1 341 2048 codez_2723 :=
  And.intro (okz_341 Hy) (okz_2389 Hy)
theorem anz_2724 (Hy : Hyz tys cA base adS Ex) : xall (fun b t => xOK l Dg clz tys cA flz ftz base adS GWz xyz xcz xnz xrz Ex codez bmz bpz b t) 1 1365 2048 codez_2724 :=
  And.intro (okz_1365 Hy) (okzz 3413)
theorem anz_2725 (Hy : Hyz tys cA base adS Ex) : xall (fun b t => xOK l Dg clz tys cA flz ftz base adS GWz xyz xcz xnz xrz Ex codez bmz bpz b t) 2 341 1024 codez_2725 :=
  And.intro (anz_2723 Hy) (anz_2724 Hy)
theorem anz_2726 (Hy : Hyz tys cA base adS Ex) : xall (fun b t => xOK l Dg clz tys cA flz ftz base adS GWz xyz xcz xnz xrz Ex codez bmz bpz b t) 1 853 2048 codez_2726 :=
  And.intro (okz_853 Hy) (okzz 2901)
theorem anz_2727 (Hy : Hyz tys cA base adS Ex) : xall (fun b t => xOK l Dg clz tys cA flz ftz base adS GWz xyz xcz xnz xrz Ex codez bmz bpz b t) 1 1877 2048 codez_2727 :=
  And.intro (okz_1877 Hy) (okzz 3925)
theorem anz_2728 (Hy : Hyz tys cA base adS Ex) : xall (fun b t => xOK l Dg clz tys cA flz ftz base adS GWz xyz xcz xnz xrz Ex codez bmz bpz b t) 2 853 1024 codez_2728 :=
  And.intro (anz_2726 Hy) (anz_2727 Hy)
theorem anz_2729 (Hy : Hyz tys cA base adS Ex) : xall (fun b t => xOK l Dg clz tys cA flz ftz base adS GWz xyz xcz xnz xrz Ex codez bmz bpz b t) 3 341 512 codez_2729 :=
  And.intro (anz_2725 Hy) (anz_2728 Hy)
theorem anz_2730 (Hy : Hyz tys cA base adS Ex) : xall (fun b t => xOK l Dg clz tys cA flz ftz base adS GWz xyz xcz xnz xrz Ex codez bmz bpz b t) 4 85 256 codez_2730 :=
  And.intro (anz_2722 Hy) (anz_2729 Hy)
theorem anz_2731 (Hy : Hyz tys cA base adS Ex) : xall (fun b t => xOK l Dg clz tys cA flz ftz base adS GWz xyz xcz xnz xrz Ex codez bmz bpz b t) 1 213 2048 codez_2731 :=
  And.intro (okz_213 Hy) (okz_2261 Hy)
theorem anz_2732 (Hy : Hyz tys cA base adS Ex) : xall (fun b t => xOK l Dg clz tys cA flz ftz base adS GWz xyz xcz xnz xrz Ex codez bmz bpz b t) 1 1237 2048 codez_2732 :=
  And.intro (okz_1237 Hy) (okzz 3285)
theorem anz_2733 (Hy : Hyz tys cA base adS Ex) : xall (fun b t => xOK l Dg clz tys cA flz ftz base adS GWz xyz xcz xnz xrz Ex codez bmz bpz b t) 2 213 1024 codez_2733 :=
  And.intro (anz_2731 Hy) (anz_2732 Hy)
theorem anz_2734 (Hy : Hyz tys cA base adS Ex) : xall (fun b t => xOK l Dg clz tys cA flz ftz base adS GWz xyz xcz xnz xrz Ex codez bmz bpz b t) 1 725 2048 codez_2734 :=
  And.intro (okz_725 Hy) (okzz 2773)
theorem anz_2735 (Hy : Hyz tys cA base adS Ex) : xall (fun b t => xOK l Dg clz tys cA flz ftz base adS GWz xyz xcz xnz xrz Ex codez bmz bpz b t) 1 1749 2048 codez_2735 :=
  And.intro (okz_1749 Hy) (okzz 3797)
theorem anz_2736 (Hy : Hyz tys cA base adS Ex) : xall (fun b t => xOK l Dg clz tys cA flz ftz base adS GWz xyz xcz xnz xrz Ex codez bmz bpz b t) 2 725 1024 codez_2736 :=
  And.intro (anz_2734 Hy) (anz_2735 Hy)
theorem anz_2737 (Hy : Hyz tys cA base adS Ex) : xall (fun b t => xOK l Dg clz tys cA flz ftz base adS GWz xyz xcz xnz xrz Ex codez bmz bpz b t) 3 213 512 codez_2737 :=
  And.intro (anz_2733 Hy) (anz_2736 Hy)
theorem anz_2738 (Hy : Hyz tys cA base adS Ex) : xall (fun b t => xOK l Dg clz tys cA flz ftz base adS GWz xyz xcz xnz xrz Ex codez bmz bpz b t) 1 469 2048 codez_2738 :=
  And.intro (okz_469 Hy) (okz_2517 Hy)
theorem anz_2739 (Hy : Hyz tys cA base adS Ex) : xall (fun b t => xOK l Dg clz tys cA flz ftz base adS GWz xyz xcz xnz xrz Ex codez bmz bpz b t) 1 1493 2048 codez_2739 :=
  And.intro (okz_1493 Hy) (okzz 3541)
theorem anz_2740 (Hy : Hyz tys cA base adS Ex) : xall (fun b t => xOK l Dg clz tys cA flz ftz base adS GWz xyz xcz xnz xrz Ex codez bmz bpz b t) 2 469 1024 codez_2740 :=
  And.intro (anz_2738 Hy) (anz_2739 Hy)
theorem anz_2741 (Hy : Hyz tys cA base adS Ex) : xall (fun b t => xOK l Dg clz tys cA flz ftz base adS GWz xyz xcz xnz xrz Ex codez bmz bpz b t) 1 981 2048 codez_2741 :=
  And.intro (okz_981 Hy) (okzz 3029)
theorem anz_2742 (Hy : Hyz tys cA base adS Ex) : xall (fun b t => xOK l Dg clz tys cA flz ftz base adS GWz xyz xcz xnz xrz Ex codez bmz bpz b t) 1 2005 2048 codez_2742 :=
  And.intro (okz_2005 Hy) (okzz 4053)
theorem anz_2743 (Hy : Hyz tys cA base adS Ex) : xall (fun b t => xOK l Dg clz tys cA flz ftz base adS GWz xyz xcz xnz xrz Ex codez bmz bpz b t) 2 981 1024 codez_2743 :=
  And.intro (anz_2741 Hy) (anz_2742 Hy)
theorem anz_2744 (Hy : Hyz tys cA base adS Ex) : xall (fun b t => xOK l Dg clz tys cA flz ftz base adS GWz xyz xcz xnz xrz Ex codez bmz bpz b t) 3 469 512 codez_2744 :=
  And.intro (anz_2740 Hy) (anz_2743 Hy)
theorem anz_2745 (Hy : Hyz tys cA base adS Ex) : xall (fun b t => xOK l Dg clz tys cA flz ftz base adS GWz xyz xcz xnz xrz Ex codez bmz bpz b t) 4 213 256 codez_2745 :=
  And.intro (anz_2737 Hy) (anz_2744 Hy)
theorem anz_2746 (Hy : Hyz tys cA base adS Ex) : xall (fun b t => xOK l Dg clz tys cA flz ftz base adS GWz xyz xcz xnz xrz Ex codez bmz bpz b t) 5 85 128 codez_2746 :=
  And.intro (anz_2730 Hy) (anz_2745 Hy)
theorem anz_2747 (Hy : Hyz tys cA base adS Ex) : xall (fun b t => xOK l Dg clz tys cA flz ftz base adS GWz xyz xcz xnz xrz Ex codez bmz bpz b t) 6 21 64 codez_2747 :=
  And.intro (anz_2715 Hy) (anz_2746 Hy)
theorem anz_2748 (Hy : Hyz tys cA base adS Ex) : xall (fun b t => xOK l Dg clz tys cA flz ftz base adS GWz xyz xcz xnz xrz Ex codez bmz bpz b t) 1 53 2048 codez_2748 :=
  And.intro (okz_53 Hy) (okz_2101 Hy)
theorem anz_2749 (Hy : Hyz tys cA base adS Ex) : xall (fun b t => xOK l Dg clz tys cA flz ftz base adS GWz xyz xcz xnz xrz Ex codez bmz bpz b t) 1 1077 2048 codez_2749 :=
  And.intro (okz_1077 Hy) (okzz 3125)
theorem anz_2750 (Hy : Hyz tys cA base adS Ex) : xall (fun b t => xOK l Dg clz tys cA flz ftz base adS GWz xyz xcz xnz xrz Ex codez bmz bpz b t) 2 53 1024 codez_2750 :=
  And.intro (anz_2748 Hy) (anz_2749 Hy)
theorem anz_2751 (Hy : Hyz tys cA base adS Ex) : xall (fun b t => xOK l Dg clz tys cA flz ftz base adS GWz xyz xcz xnz xrz Ex codez bmz bpz b t) 1 565 2048 codez_2751 :=
  And.intro (okz_565 Hy) (okzz 2613)
theorem anz_2752 (Hy : Hyz tys cA base adS Ex) : xall (fun b t => xOK l Dg clz tys cA flz ftz base adS GWz xyz xcz xnz xrz Ex codez bmz bpz b t) 1 1589 2048 codez_2752 :=
  And.intro (okz_1589 Hy) (okzz 3637)
theorem anz_2753 (Hy : Hyz tys cA base adS Ex) : xall (fun b t => xOK l Dg clz tys cA flz ftz base adS GWz xyz xcz xnz xrz Ex codez bmz bpz b t) 2 565 1024 codez_2753 :=
  And.intro (anz_2751 Hy) (anz_2752 Hy)
theorem anz_2754 (Hy : Hyz tys cA base adS Ex) : xall (fun b t => xOK l Dg clz tys cA flz ftz base adS GWz xyz xcz xnz xrz Ex codez bmz bpz b t) 3 53 512 codez_2754 :=
  And.intro (anz_2750 Hy) (anz_2753 Hy)
theorem anz_2755 (Hy : Hyz tys cA base adS Ex) : xall (fun b t => xOK l Dg clz tys cA flz ftz base adS GWz xyz xcz xnz xrz Ex codez bmz bpz b t) 1 309 2048 codez_2755 :=
  And.intro (okz_309 Hy) (okz_2357 Hy)
theorem anz_2756 (Hy : Hyz tys cA base adS Ex) : xall (fun b t => xOK l Dg clz tys cA flz ftz base adS GWz xyz xcz xnz xrz Ex codez bmz bpz b t) 1 1333 2048 codez_2756 :=
  And.intro (okz_1333 Hy) (okzz 3381)
theorem anz_2757 (Hy : Hyz tys cA base adS Ex) : xall (fun b t => xOK l Dg clz tys cA flz ftz base adS GWz xyz xcz xnz xrz Ex codez bmz bpz b t) 2 309 1024 codez_2757 :=
  And.intro (anz_2755 Hy) (anz_2756 Hy)
theorem anz_2758 (Hy : Hyz tys cA base adS Ex) : xall (fun b t => xOK l Dg clz tys cA flz ftz base adS GWz xyz xcz xnz xrz Ex codez bmz bpz b t) 1 821 2048 codez_2758 :=
  And.intro (okz_821 Hy) (okzz 2869)
theorem anz_2759 (Hy : Hyz tys cA base adS Ex) : xall (fun b t => xOK l Dg clz tys cA flz ftz base adS GWz xyz xcz xnz xrz Ex codez bmz bpz b t) 1 1845 2048 codez_2759 :=
  And.intro (okz_1845 Hy) (okzz 3893)
theorem anz_2760 (Hy : Hyz tys cA base adS Ex) : xall (fun b t => xOK l Dg clz tys cA flz ftz base adS GWz xyz xcz xnz xrz Ex codez bmz bpz b t) 2 821 1024 codez_2760 :=
  And.intro (anz_2758 Hy) (anz_2759 Hy)
theorem anz_2761 (Hy : Hyz tys cA base adS Ex) : xall (fun b t => xOK l Dg clz tys cA flz ftz base adS GWz xyz xcz xnz xrz Ex codez bmz bpz b t) 3 309 512 codez_2761 :=
  And.intro (anz_2757 Hy) (anz_2760 Hy)
theorem anz_2762 (Hy : Hyz tys cA base adS Ex) : xall (fun b t => xOK l Dg clz tys cA flz ftz base adS GWz xyz xcz xnz xrz Ex codez bmz bpz b t) 4 53 256 codez_2762 :=
  And.intro (anz_2754 Hy) (anz_2761 Hy)
theorem anz_2763 (Hy : Hyz tys cA base adS Ex) : xall (fun b t => xOK l Dg clz tys cA flz ftz base adS GWz xyz xcz xnz xrz Ex codez bmz bpz b t) 1 181 2048 codez_2763 :=
  And.intro (okz_181 Hy) (okz_2229 Hy)
theorem anz_2764 (Hy : Hyz tys cA base adS Ex) : xall (fun b t => xOK l Dg clz tys cA flz ftz base adS GWz xyz xcz xnz xrz Ex codez bmz bpz b t) 1 1205 2048 codez_2764 :=
  And.intro (okz_1205 Hy) (okzz 3253)
theorem anz_2765 (Hy : Hyz tys cA base adS Ex) : xall (fun b t => xOK l Dg clz tys cA flz ftz base adS GWz xyz xcz xnz xrz Ex codez bmz bpz b t) 2 181 1024 codez_2765 :=
  And.intro (anz_2763 Hy) (anz_2764 Hy)
theorem anz_2766 (Hy : Hyz tys cA base adS Ex) : xall (fun b t => xOK l Dg clz tys cA flz ftz base adS GWz xyz xcz xnz xrz Ex codez bmz bpz b t) 1 693 2048 codez_2766 :=
  And.intro (okz_693 Hy) (okzz 2741)
theorem anz_2767 (Hy : Hyz tys cA base adS Ex) : xall (fun b t => xOK l Dg clz tys cA flz ftz base adS GWz xyz xcz xnz xrz Ex codez bmz bpz b t) 1 1717 2048 codez_2767 :=
  And.intro (okz_1717 Hy) (okzz 3765)
theorem anz_2768 (Hy : Hyz tys cA base adS Ex) : xall (fun b t => xOK l Dg clz tys cA flz ftz base adS GWz xyz xcz xnz xrz Ex codez bmz bpz b t) 2 693 1024 codez_2768 :=
  And.intro (anz_2766 Hy) (anz_2767 Hy)
theorem anz_2769 (Hy : Hyz tys cA base adS Ex) : xall (fun b t => xOK l Dg clz tys cA flz ftz base adS GWz xyz xcz xnz xrz Ex codez bmz bpz b t) 3 181 512 codez_2769 :=
  And.intro (anz_2765 Hy) (anz_2768 Hy)
theorem anz_2770 (Hy : Hyz tys cA base adS Ex) : xall (fun b t => xOK l Dg clz tys cA flz ftz base adS GWz xyz xcz xnz xrz Ex codez bmz bpz b t) 1 437 2048 codez_2770 :=
  And.intro (okz_437 Hy) (okz_2485 Hy)
theorem anz_2771 (Hy : Hyz tys cA base adS Ex) : xall (fun b t => xOK l Dg clz tys cA flz ftz base adS GWz xyz xcz xnz xrz Ex codez bmz bpz b t) 1 1461 2048 codez_2771 :=
  And.intro (okz_1461 Hy) (okzz 3509)
theorem anz_2772 (Hy : Hyz tys cA base adS Ex) : xall (fun b t => xOK l Dg clz tys cA flz ftz base adS GWz xyz xcz xnz xrz Ex codez bmz bpz b t) 2 437 1024 codez_2772 :=
  And.intro (anz_2770 Hy) (anz_2771 Hy)
theorem anz_2773 (Hy : Hyz tys cA base adS Ex) : xall (fun b t => xOK l Dg clz tys cA flz ftz base adS GWz xyz xcz xnz xrz Ex codez bmz bpz b t) 1 949 2048 codez_2773 :=
  And.intro (okz_949 Hy) (okzz 2997)
theorem anz_2774 (Hy : Hyz tys cA base adS Ex) : xall (fun b t => xOK l Dg clz tys cA flz ftz base adS GWz xyz xcz xnz xrz Ex codez bmz bpz b t) 1 1973 2048 codez_2774 :=
  And.intro (okz_1973 Hy) (okzz 4021)
theorem anz_2775 (Hy : Hyz tys cA base adS Ex) : xall (fun b t => xOK l Dg clz tys cA flz ftz base adS GWz xyz xcz xnz xrz Ex codez bmz bpz b t) 2 949 1024 codez_2775 :=
  And.intro (anz_2773 Hy) (anz_2774 Hy)
theorem anz_2776 (Hy : Hyz tys cA base adS Ex) : xall (fun b t => xOK l Dg clz tys cA flz ftz base adS GWz xyz xcz xnz xrz Ex codez bmz bpz b t) 3 437 512 codez_2776 :=
  And.intro (anz_2772 Hy) (anz_2775 Hy)
theorem anz_2777 (Hy : Hyz tys cA base adS Ex) : xall (fun b t => xOK l Dg clz tys cA flz ftz base adS GWz xyz xcz xnz xrz Ex codez bmz bpz b t) 4 181 256 codez_2777 :=
  And.intro (anz_2769 Hy) (anz_2776 Hy)
theorem anz_2778 (Hy : Hyz tys cA base adS Ex) : xall (fun b t => xOK l Dg clz tys cA flz ftz base adS GWz xyz xcz xnz xrz Ex codez bmz bpz b t) 5 53 128 codez_2778 :=
  And.intro (anz_2762 Hy) (anz_2777 Hy)
theorem anz_2779 (Hy : Hyz tys cA base adS Ex) : xall (fun b t => xOK l Dg clz tys cA flz ftz base adS GWz xyz xcz xnz xrz Ex codez bmz bpz b t) 1 117 2048 codez_2779 :=
  And.intro (okz_117 Hy) (okz_2165 Hy)
theorem anz_2780 (Hy : Hyz tys cA base adS Ex) : xall (fun b t => xOK l Dg clz tys cA flz ftz base adS GWz xyz xcz xnz xrz Ex codez bmz bpz b t) 1 1141 2048 codez_2780 :=
  And.intro (okz_1141 Hy) (okzz 3189)
theorem anz_2781 (Hy : Hyz tys cA base adS Ex) : xall (fun b t => xOK l Dg clz tys cA flz ftz base adS GWz xyz xcz xnz xrz Ex codez bmz bpz b t) 2 117 1024 codez_2781 :=
  And.intro (anz_2779 Hy) (anz_2780 Hy)
theorem anz_2782 (Hy : Hyz tys cA base adS Ex) : xall (fun b t => xOK l Dg clz tys cA flz ftz base adS GWz xyz xcz xnz xrz Ex codez bmz bpz b t) 1 629 2048 codez_2782 :=
  And.intro (okz_629 Hy) (okzz 2677)
theorem anz_2783 (Hy : Hyz tys cA base adS Ex) : xall (fun b t => xOK l Dg clz tys cA flz ftz base adS GWz xyz xcz xnz xrz Ex codez bmz bpz b t) 1 1653 2048 codez_2783 :=
  And.intro (okz_1653 Hy) (okzz 3701)
theorem anz_2784 (Hy : Hyz tys cA base adS Ex) : xall (fun b t => xOK l Dg clz tys cA flz ftz base adS GWz xyz xcz xnz xrz Ex codez bmz bpz b t) 2 629 1024 codez_2784 :=
  And.intro (anz_2782 Hy) (anz_2783 Hy)
theorem anz_2785 (Hy : Hyz tys cA base adS Ex) : xall (fun b t => xOK l Dg clz tys cA flz ftz base adS GWz xyz xcz xnz xrz Ex codez bmz bpz b t) 3 117 512 codez_2785 :=
  And.intro (anz_2781 Hy) (anz_2784 Hy)
theorem anz_2786 (Hy : Hyz tys cA base adS Ex) : xall (fun b t => xOK l Dg clz tys cA flz ftz base adS GWz xyz xcz xnz xrz Ex codez bmz bpz b t) 1 373 2048 codez_2786 :=
  And.intro (okz_373 Hy) (okz_2421 Hy)
theorem anz_2787 (Hy : Hyz tys cA base adS Ex) : xall (fun b t => xOK l Dg clz tys cA flz ftz base adS GWz xyz xcz xnz xrz Ex codez bmz bpz b t) 1 1397 2048 codez_2787 :=
  And.intro (okz_1397 Hy) (okzz 3445)
theorem anz_2788 (Hy : Hyz tys cA base adS Ex) : xall (fun b t => xOK l Dg clz tys cA flz ftz base adS GWz xyz xcz xnz xrz Ex codez bmz bpz b t) 2 373 1024 codez_2788 :=
  And.intro (anz_2786 Hy) (anz_2787 Hy)
theorem anz_2789 (Hy : Hyz tys cA base adS Ex) : xall (fun b t => xOK l Dg clz tys cA flz ftz base adS GWz xyz xcz xnz xrz Ex codez bmz bpz b t) 1 885 2048 codez_2789 :=
  And.intro (okz_885 Hy) (okzz 2933)
theorem anz_2790 (Hy : Hyz tys cA base adS Ex) : xall (fun b t => xOK l Dg clz tys cA flz ftz base adS GWz xyz xcz xnz xrz Ex codez bmz bpz b t) 1 1909 2048 codez_2790 :=
  And.intro (okz_1909 Hy) (okzz 3957)
theorem anz_2791 (Hy : Hyz tys cA base adS Ex) : xall (fun b t => xOK l Dg clz tys cA flz ftz base adS GWz xyz xcz xnz xrz Ex codez bmz bpz b t) 2 885 1024 codez_2791 :=
  And.intro (anz_2789 Hy) (anz_2790 Hy)
theorem anz_2792 (Hy : Hyz tys cA base adS Ex) : xall (fun b t => xOK l Dg clz tys cA flz ftz base adS GWz xyz xcz xnz xrz Ex codez bmz bpz b t) 3 373 512 codez_2792 :=
  And.intro (anz_2788 Hy) (anz_2791 Hy)
theorem anz_2793 (Hy : Hyz tys cA base adS Ex) : xall (fun b t => xOK l Dg clz tys cA flz ftz base adS GWz xyz xcz xnz xrz Ex codez bmz bpz b t) 4 117 256 codez_2793 :=
  And.intro (anz_2785 Hy) (anz_2792 Hy)
theorem anz_2794 (Hy : Hyz tys cA base adS Ex) : xall (fun b t => xOK l Dg clz tys cA flz ftz base adS GWz xyz xcz xnz xrz Ex codez bmz bpz b t) 1 245 2048 codez_2794 :=
  And.intro (okz_245 Hy) (okz_2293 Hy)
theorem anz_2795 (Hy : Hyz tys cA base adS Ex) : xall (fun b t => xOK l Dg clz tys cA flz ftz base adS GWz xyz xcz xnz xrz Ex codez bmz bpz b t) 1 1269 2048 codez_2795 :=
  And.intro (okz_1269 Hy) (okzz 3317)
theorem anz_2796 (Hy : Hyz tys cA base adS Ex) : xall (fun b t => xOK l Dg clz tys cA flz ftz base adS GWz xyz xcz xnz xrz Ex codez bmz bpz b t) 2 245 1024 codez_2796 :=
  And.intro (anz_2794 Hy) (anz_2795 Hy)
theorem anz_2797 (Hy : Hyz tys cA base adS Ex) : xall (fun b t => xOK l Dg clz tys cA flz ftz base adS GWz xyz xcz xnz xrz Ex codez bmz bpz b t) 1 757 2048 codez_2797 :=
  And.intro (okz_757 Hy) (okzz 2805)
theorem anz_2798 (Hy : Hyz tys cA base adS Ex) : xall (fun b t => xOK l Dg clz tys cA flz ftz base adS GWz xyz xcz xnz xrz Ex codez bmz bpz b t) 1 1781 2048 codez_2798 :=
  And.intro (okz_1781 Hy) (okzz 3829)
theorem anz_2799 (Hy : Hyz tys cA base adS Ex) : xall (fun b t => xOK l Dg clz tys cA flz ftz base adS GWz xyz xcz xnz xrz Ex codez bmz bpz b t) 2 757 1024 codez_2799 :=
  And.intro (anz_2797 Hy) (anz_2798 Hy)
theorem anz_2800 (Hy : Hyz tys cA base adS Ex) : xall (fun b t => xOK l Dg clz tys cA flz ftz base adS GWz xyz xcz xnz xrz Ex codez bmz bpz b t) 3 245 512 codez_2800 :=
  And.intro (anz_2796 Hy) (anz_2799 Hy)
theorem anz_2801 (Hy : Hyz tys cA base adS Ex) : xall (fun b t => xOK l Dg clz tys cA flz ftz base adS GWz xyz xcz xnz xrz Ex codez bmz bpz b t) 1 501 2048 codez_2801 :=
  And.intro (okz_501 Hy) (okzz 2549)
theorem anz_2802 (Hy : Hyz tys cA base adS Ex) : xall (fun b t => xOK l Dg clz tys cA flz ftz base adS GWz xyz xcz xnz xrz Ex codez bmz bpz b t) 1 1525 2048 codez_2802 :=
  And.intro (okz_1525 Hy) (okzz 3573)
theorem anz_2803 (Hy : Hyz tys cA base adS Ex) : xall (fun b t => xOK l Dg clz tys cA flz ftz base adS GWz xyz xcz xnz xrz Ex codez bmz bpz b t) 2 501 1024 codez_2803 :=
  And.intro (anz_2801 Hy) (anz_2802 Hy)
theorem anz_2804 (Hy : Hyz tys cA base adS Ex) : xall (fun b t => xOK l Dg clz tys cA flz ftz base adS GWz xyz xcz xnz xrz Ex codez bmz bpz b t) 1 1013 2048 codez_2804 :=
  And.intro (okz_1013 Hy) (okzz 3061)
theorem anz_2805 (Hy : Hyz tys cA base adS Ex) : xall (fun b t => xOK l Dg clz tys cA flz ftz base adS GWz xyz xcz xnz xrz Ex codez bmz bpz b t) 1 2037 2048 codez_2805 :=
  And.intro (okz_2037 Hy) (okzz 4085)
theorem anz_2806 (Hy : Hyz tys cA base adS Ex) : xall (fun b t => xOK l Dg clz tys cA flz ftz base adS GWz xyz xcz xnz xrz Ex codez bmz bpz b t) 2 1013 1024 codez_2806 :=
  And.intro (anz_2804 Hy) (anz_2805 Hy)
theorem anz_2807 (Hy : Hyz tys cA base adS Ex) : xall (fun b t => xOK l Dg clz tys cA flz ftz base adS GWz xyz xcz xnz xrz Ex codez bmz bpz b t) 3 501 512 codez_2807 :=
  And.intro (anz_2803 Hy) (anz_2806 Hy)
theorem anz_2808 (Hy : Hyz tys cA base adS Ex) : xall (fun b t => xOK l Dg clz tys cA flz ftz base adS GWz xyz xcz xnz xrz Ex codez bmz bpz b t) 4 245 256 codez_2808 :=
  And.intro (anz_2800 Hy) (anz_2807 Hy)
theorem anz_2809 (Hy : Hyz tys cA base adS Ex) : xall (fun b t => xOK l Dg clz tys cA flz ftz base adS GWz xyz xcz xnz xrz Ex codez bmz bpz b t) 5 117 128 codez_2809 :=
  And.intro (anz_2793 Hy) (anz_2808 Hy)
theorem anz_2810 (Hy : Hyz tys cA base adS Ex) : xall (fun b t => xOK l Dg clz tys cA flz ftz base adS GWz xyz xcz xnz xrz Ex codez bmz bpz b t) 6 53 64 codez_2810 :=
  And.intro (anz_2778 Hy) (anz_2809 Hy)
theorem anz_2811 (Hy : Hyz tys cA base adS Ex) : xall (fun b t => xOK l Dg clz tys cA flz ftz base adS GWz xyz xcz xnz xrz Ex codez bmz bpz b t) 7 21 32 codez_2811 :=
  And.intro (anz_2747 Hy) (anz_2810 Hy)
theorem anz_2812 (Hy : Hyz tys cA base adS Ex) : xall (fun b t => xOK l Dg clz tys cA flz ftz base adS GWz xyz xcz xnz xrz Ex codez bmz bpz b t) 8 5 16 codez_2812 :=
  And.intro (anz_2684 Hy) (anz_2811 Hy)
theorem anz_2813 (Hy : Hyz tys cA base adS Ex) : xall (fun b t => xOK l Dg clz tys cA flz ftz base adS GWz xyz xcz xnz xrz Ex codez bmz bpz b t) 1 13 2048 codez_2813 :=
  And.intro (okz_13 Hy) (okz_2061 Hy)
theorem anz_2814 (Hy : Hyz tys cA base adS Ex) : xall (fun b t => xOK l Dg clz tys cA flz ftz base adS GWz xyz xcz xnz xrz Ex codez bmz bpz b t) 1 1037 2048 codez_2814 :=
  And.intro (okz_1037 Hy) (okzz 3085)
theorem anz_2815 (Hy : Hyz tys cA base adS Ex) : xall (fun b t => xOK l Dg clz tys cA flz ftz base adS GWz xyz xcz xnz xrz Ex codez bmz bpz b t) 2 13 1024 codez_2815 :=
  And.intro (anz_2813 Hy) (anz_2814 Hy)
theorem anz_2816 (Hy : Hyz tys cA base adS Ex) : xall (fun b t => xOK l Dg clz tys cA flz ftz base adS GWz xyz xcz xnz xrz Ex codez bmz bpz b t) 1 525 2048 codez_2816 :=
  And.intro (okz_525 Hy) (okzz 2573)
theorem anz_2817 (Hy : Hyz tys cA base adS Ex) : xall (fun b t => xOK l Dg clz tys cA flz ftz base adS GWz xyz xcz xnz xrz Ex codez bmz bpz b t) 1 1549 2048 codez_2817 :=
  And.intro (okz_1549 Hy) (okzz 3597)
theorem anz_2818 (Hy : Hyz tys cA base adS Ex) : xall (fun b t => xOK l Dg clz tys cA flz ftz base adS GWz xyz xcz xnz xrz Ex codez bmz bpz b t) 2 525 1024 codez_2818 :=
  And.intro (anz_2816 Hy) (anz_2817 Hy)
theorem anz_2819 (Hy : Hyz tys cA base adS Ex) : xall (fun b t => xOK l Dg clz tys cA flz ftz base adS GWz xyz xcz xnz xrz Ex codez bmz bpz b t) 3 13 512 codez_2819 :=
  And.intro (anz_2815 Hy) (anz_2818 Hy)
theorem anz_2820 (Hy : Hyz tys cA base adS Ex) : xall (fun b t => xOK l Dg clz tys cA flz ftz base adS GWz xyz xcz xnz xrz Ex codez bmz bpz b t) 1 269 2048 codez_2820 :=
  And.intro (okz_269 Hy) (okz_2317 Hy)
theorem anz_2821 (Hy : Hyz tys cA base adS Ex) : xall (fun b t => xOK l Dg clz tys cA flz ftz base adS GWz xyz xcz xnz xrz Ex codez bmz bpz b t) 1 1293 2048 codez_2821 :=
  And.intro (okz_1293 Hy) (okzz 3341)
theorem anz_2822 (Hy : Hyz tys cA base adS Ex) : xall (fun b t => xOK l Dg clz tys cA flz ftz base adS GWz xyz xcz xnz xrz Ex codez bmz bpz b t) 2 269 1024 codez_2822 :=
  And.intro (anz_2820 Hy) (anz_2821 Hy)
theorem anz_2823 (Hy : Hyz tys cA base adS Ex) : xall (fun b t => xOK l Dg clz tys cA flz ftz base adS GWz xyz xcz xnz xrz Ex codez bmz bpz b t) 1 781 2048 codez_2823 :=
  And.intro (okz_781 Hy) (okzz 2829)
theorem anz_2824 (Hy : Hyz tys cA base adS Ex) : xall (fun b t => xOK l Dg clz tys cA flz ftz base adS GWz xyz xcz xnz xrz Ex codez bmz bpz b t) 1 1805 2048 codez_2824 :=
  And.intro (okz_1805 Hy) (okzz 3853)
theorem anz_2825 (Hy : Hyz tys cA base adS Ex) : xall (fun b t => xOK l Dg clz tys cA flz ftz base adS GWz xyz xcz xnz xrz Ex codez bmz bpz b t) 2 781 1024 codez_2825 :=
  And.intro (anz_2823 Hy) (anz_2824 Hy)
theorem anz_2826 (Hy : Hyz tys cA base adS Ex) : xall (fun b t => xOK l Dg clz tys cA flz ftz base adS GWz xyz xcz xnz xrz Ex codez bmz bpz b t) 3 269 512 codez_2826 :=
  And.intro (anz_2822 Hy) (anz_2825 Hy)
theorem anz_2827 (Hy : Hyz tys cA base adS Ex) : xall (fun b t => xOK l Dg clz tys cA flz ftz base adS GWz xyz xcz xnz xrz Ex codez bmz bpz b t) 4 13 256 codez_2827 :=
  And.intro (anz_2819 Hy) (anz_2826 Hy)
theorem anz_2828 (Hy : Hyz tys cA base adS Ex) : xall (fun b t => xOK l Dg clz tys cA flz ftz base adS GWz xyz xcz xnz xrz Ex codez bmz bpz b t) 1 141 2048 codez_2828 :=
  And.intro (okz_141 Hy) (okz_2189 Hy)
theorem anz_2829 (Hy : Hyz tys cA base adS Ex) : xall (fun b t => xOK l Dg clz tys cA flz ftz base adS GWz xyz xcz xnz xrz Ex codez bmz bpz b t) 1 1165 2048 codez_2829 :=
  And.intro (okz_1165 Hy) (okzz 3213)
theorem anz_2830 (Hy : Hyz tys cA base adS Ex) : xall (fun b t => xOK l Dg clz tys cA flz ftz base adS GWz xyz xcz xnz xrz Ex codez bmz bpz b t) 2 141 1024 codez_2830 :=
  And.intro (anz_2828 Hy) (anz_2829 Hy)
theorem anz_2831 (Hy : Hyz tys cA base adS Ex) : xall (fun b t => xOK l Dg clz tys cA flz ftz base adS GWz xyz xcz xnz xrz Ex codez bmz bpz b t) 1 653 2048 codez_2831 :=
  And.intro (okz_653 Hy) (okzz 2701)
theorem anz_2832 (Hy : Hyz tys cA base adS Ex) : xall (fun b t => xOK l Dg clz tys cA flz ftz base adS GWz xyz xcz xnz xrz Ex codez bmz bpz b t) 1 1677 2048 codez_2832 :=
  And.intro (okz_1677 Hy) (okzz 3725)
theorem anz_2833 (Hy : Hyz tys cA base adS Ex) : xall (fun b t => xOK l Dg clz tys cA flz ftz base adS GWz xyz xcz xnz xrz Ex codez bmz bpz b t) 2 653 1024 codez_2833 :=
  And.intro (anz_2831 Hy) (anz_2832 Hy)
theorem anz_2834 (Hy : Hyz tys cA base adS Ex) : xall (fun b t => xOK l Dg clz tys cA flz ftz base adS GWz xyz xcz xnz xrz Ex codez bmz bpz b t) 3 141 512 codez_2834 :=
  And.intro (anz_2830 Hy) (anz_2833 Hy)
theorem anz_2835 (Hy : Hyz tys cA base adS Ex) : xall (fun b t => xOK l Dg clz tys cA flz ftz base adS GWz xyz xcz xnz xrz Ex codez bmz bpz b t) 1 397 2048 codez_2835 :=
  And.intro (okz_397 Hy) (okz_2445 Hy)
theorem anz_2836 (Hy : Hyz tys cA base adS Ex) : xall (fun b t => xOK l Dg clz tys cA flz ftz base adS GWz xyz xcz xnz xrz Ex codez bmz bpz b t) 1 1421 2048 codez_2836 :=
  And.intro (okz_1421 Hy) (okzz 3469)
theorem anz_2837 (Hy : Hyz tys cA base adS Ex) : xall (fun b t => xOK l Dg clz tys cA flz ftz base adS GWz xyz xcz xnz xrz Ex codez bmz bpz b t) 2 397 1024 codez_2837 :=
  And.intro (anz_2835 Hy) (anz_2836 Hy)
theorem anz_2838 (Hy : Hyz tys cA base adS Ex) : xall (fun b t => xOK l Dg clz tys cA flz ftz base adS GWz xyz xcz xnz xrz Ex codez bmz bpz b t) 1 909 2048 codez_2838 :=
  And.intro (okz_909 Hy) (okzz 2957)
theorem anz_2839 (Hy : Hyz tys cA base adS Ex) : xall (fun b t => xOK l Dg clz tys cA flz ftz base adS GWz xyz xcz xnz xrz Ex codez bmz bpz b t) 1 1933 2048 codez_2839 :=
  And.intro (okz_1933 Hy) (okzz 3981)
theorem anz_2840 (Hy : Hyz tys cA base adS Ex) : xall (fun b t => xOK l Dg clz tys cA flz ftz base adS GWz xyz xcz xnz xrz Ex codez bmz bpz b t) 2 909 1024 codez_2840 :=
  And.intro (anz_2838 Hy) (anz_2839 Hy)
theorem anz_2841 (Hy : Hyz tys cA base adS Ex) : xall (fun b t => xOK l Dg clz tys cA flz ftz base adS GWz xyz xcz xnz xrz Ex codez bmz bpz b t) 3 397 512 codez_2841 :=
  And.intro (anz_2837 Hy) (anz_2840 Hy)
theorem anz_2842 (Hy : Hyz tys cA base adS Ex) : xall (fun b t => xOK l Dg clz tys cA flz ftz base adS GWz xyz xcz xnz xrz Ex codez bmz bpz b t) 4 141 256 codez_2842 :=
  And.intro (anz_2834 Hy) (anz_2841 Hy)
theorem anz_2843 (Hy : Hyz tys cA base adS Ex) : xall (fun b t => xOK l Dg clz tys cA flz ftz base adS GWz xyz xcz xnz xrz Ex codez bmz bpz b t) 5 13 128 codez_2843 :=
  And.intro (anz_2827 Hy) (anz_2842 Hy)
theorem anz_2844 (Hy : Hyz tys cA base adS Ex) : xall (fun b t => xOK l Dg clz tys cA flz ftz base adS GWz xyz xcz xnz xrz Ex codez bmz bpz b t) 1 77 2048 codez_2844 :=
  And.intro (okz_77 Hy) (okz_2125 Hy)
theorem anz_2845 (Hy : Hyz tys cA base adS Ex) : xall (fun b t => xOK l Dg clz tys cA flz ftz base adS GWz xyz xcz xnz xrz Ex codez bmz bpz b t) 1 1101 2048 codez_2845 :=
  And.intro (okz_1101 Hy) (okzz 3149)
theorem anz_2846 (Hy : Hyz tys cA base adS Ex) : xall (fun b t => xOK l Dg clz tys cA flz ftz base adS GWz xyz xcz xnz xrz Ex codez bmz bpz b t) 2 77 1024 codez_2846 :=
  And.intro (anz_2844 Hy) (anz_2845 Hy)
theorem anz_2847 (Hy : Hyz tys cA base adS Ex) : xall (fun b t => xOK l Dg clz tys cA flz ftz base adS GWz xyz xcz xnz xrz Ex codez bmz bpz b t) 1 589 2048 codez_2847 :=
  And.intro (okz_589 Hy) (okzz 2637)
theorem anz_2848 (Hy : Hyz tys cA base adS Ex) : xall (fun b t => xOK l Dg clz tys cA flz ftz base adS GWz xyz xcz xnz xrz Ex codez bmz bpz b t) 1 1613 2048 codez_2848 :=
  And.intro (okz_1613 Hy) (okzz 3661)
theorem anz_2849 (Hy : Hyz tys cA base adS Ex) : xall (fun b t => xOK l Dg clz tys cA flz ftz base adS GWz xyz xcz xnz xrz Ex codez bmz bpz b t) 2 589 1024 codez_2849 :=
  And.intro (anz_2847 Hy) (anz_2848 Hy)
theorem anz_2850 (Hy : Hyz tys cA base adS Ex) : xall (fun b t => xOK l Dg clz tys cA flz ftz base adS GWz xyz xcz xnz xrz Ex codez bmz bpz b t) 3 77 512 codez_2850 :=
  And.intro (anz_2846 Hy) (anz_2849 Hy)
theorem anz_2851 (Hy : Hyz tys cA base adS Ex) : xall (fun b t => xOK l Dg clz tys cA flz ftz base adS GWz xyz xcz xnz xrz Ex codez bmz bpz b t) 1 333 2048 codez_2851 :=
  And.intro (okz_333 Hy) (okz_2381 Hy)
theorem anz_2852 (Hy : Hyz tys cA base adS Ex) : xall (fun b t => xOK l Dg clz tys cA flz ftz base adS GWz xyz xcz xnz xrz Ex codez bmz bpz b t) 1 1357 2048 codez_2852 :=
  And.intro (okz_1357 Hy) (okzz 3405)
theorem anz_2853 (Hy : Hyz tys cA base adS Ex) : xall (fun b t => xOK l Dg clz tys cA flz ftz base adS GWz xyz xcz xnz xrz Ex codez bmz bpz b t) 2 333 1024 codez_2853 :=
  And.intro (anz_2851 Hy) (anz_2852 Hy)
theorem anz_2854 (Hy : Hyz tys cA base adS Ex) : xall (fun b t => xOK l Dg clz tys cA flz ftz base adS GWz xyz xcz xnz xrz Ex codez bmz bpz b t) 1 845 2048 codez_2854 :=
  And.intro (okz_845 Hy) (okzz 2893)
theorem anz_2855 (Hy : Hyz tys cA base adS Ex) : xall (fun b t => xOK l Dg clz tys cA flz ftz base adS GWz xyz xcz xnz xrz Ex codez bmz bpz b t) 1 1869 2048 codez_2855 :=
  And.intro (okz_1869 Hy) (okzz 3917)
theorem anz_2856 (Hy : Hyz tys cA base adS Ex) : xall (fun b t => xOK l Dg clz tys cA flz ftz base adS GWz xyz xcz xnz xrz Ex codez bmz bpz b t) 2 845 1024 codez_2856 :=
  And.intro (anz_2854 Hy) (anz_2855 Hy)
theorem anz_2857 (Hy : Hyz tys cA base adS Ex) : xall (fun b t => xOK l Dg clz tys cA flz ftz base adS GWz xyz xcz xnz xrz Ex codez bmz bpz b t) 3 333 512 codez_2857 :=
  And.intro (anz_2853 Hy) (anz_2856 Hy)
theorem anz_2858 (Hy : Hyz tys cA base adS Ex) : xall (fun b t => xOK l Dg clz tys cA flz ftz base adS GWz xyz xcz xnz xrz Ex codez bmz bpz b t) 4 77 256 codez_2858 :=
  And.intro (anz_2850 Hy) (anz_2857 Hy)
theorem anz_2859 (Hy : Hyz tys cA base adS Ex) : xall (fun b t => xOK l Dg clz tys cA flz ftz base adS GWz xyz xcz xnz xrz Ex codez bmz bpz b t) 1 205 2048 codez_2859 :=
  And.intro (okz_205 Hy) (okz_2253 Hy)
theorem anz_2860 (Hy : Hyz tys cA base adS Ex) : xall (fun b t => xOK l Dg clz tys cA flz ftz base adS GWz xyz xcz xnz xrz Ex codez bmz bpz b t) 1 1229 2048 codez_2860 :=
  And.intro (okz_1229 Hy) (okzz 3277)
theorem anz_2861 (Hy : Hyz tys cA base adS Ex) : xall (fun b t => xOK l Dg clz tys cA flz ftz base adS GWz xyz xcz xnz xrz Ex codez bmz bpz b t) 2 205 1024 codez_2861 :=
  And.intro (anz_2859 Hy) (anz_2860 Hy)
theorem anz_2862 (Hy : Hyz tys cA base adS Ex) : xall (fun b t => xOK l Dg clz tys cA flz ftz base adS GWz xyz xcz xnz xrz Ex codez bmz bpz b t) 1 717 2048 codez_2862 :=
  And.intro (okz_717 Hy) (okzz 2765)
theorem anz_2863 (Hy : Hyz tys cA base adS Ex) : xall (fun b t => xOK l Dg clz tys cA flz ftz base adS GWz xyz xcz xnz xrz Ex codez bmz bpz b t) 1 1741 2048 codez_2863 :=
  And.intro (okz_1741 Hy) (okzz 3789)
theorem anz_2864 (Hy : Hyz tys cA base adS Ex) : xall (fun b t => xOK l Dg clz tys cA flz ftz base adS GWz xyz xcz xnz xrz Ex codez bmz bpz b t) 2 717 1024 codez_2864 :=
  And.intro (anz_2862 Hy) (anz_2863 Hy)
theorem anz_2865 (Hy : Hyz tys cA base adS Ex) : xall (fun b t => xOK l Dg clz tys cA flz ftz base adS GWz xyz xcz xnz xrz Ex codez bmz bpz b t) 3 205 512 codez_2865 :=
  And.intro (anz_2861 Hy) (anz_2864 Hy)
theorem anz_2866 (Hy : Hyz tys cA base adS Ex) : xall (fun b t => xOK l Dg clz tys cA flz ftz base adS GWz xyz xcz xnz xrz Ex codez bmz bpz b t) 1 461 2048 codez_2866 :=
  And.intro (okz_461 Hy) (okz_2509 Hy)
theorem anz_2867 (Hy : Hyz tys cA base adS Ex) : xall (fun b t => xOK l Dg clz tys cA flz ftz base adS GWz xyz xcz xnz xrz Ex codez bmz bpz b t) 1 1485 2048 codez_2867 :=
  And.intro (okz_1485 Hy) (okzz 3533)
theorem anz_2868 (Hy : Hyz tys cA base adS Ex) : xall (fun b t => xOK l Dg clz tys cA flz ftz base adS GWz xyz xcz xnz xrz Ex codez bmz bpz b t) 2 461 1024 codez_2868 :=
  And.intro (anz_2866 Hy) (anz_2867 Hy)
theorem anz_2869 (Hy : Hyz tys cA base adS Ex) : xall (fun b t => xOK l Dg clz tys cA flz ftz base adS GWz xyz xcz xnz xrz Ex codez bmz bpz b t) 1 973 2048 codez_2869 :=
  And.intro (okz_973 Hy) (okzz 3021)
theorem anz_2870 (Hy : Hyz tys cA base adS Ex) : xall (fun b t => xOK l Dg clz tys cA flz ftz base adS GWz xyz xcz xnz xrz Ex codez bmz bpz b t) 1 1997 2048 codez_2870 :=
  And.intro (okz_1997 Hy) (okzz 4045)
theorem anz_2871 (Hy : Hyz tys cA base adS Ex) : xall (fun b t => xOK l Dg clz tys cA flz ftz base adS GWz xyz xcz xnz xrz Ex codez bmz bpz b t) 2 973 1024 codez_2871 :=
  And.intro (anz_2869 Hy) (anz_2870 Hy)
theorem anz_2872 (Hy : Hyz tys cA base adS Ex) : xall (fun b t => xOK l Dg clz tys cA flz ftz base adS GWz xyz xcz xnz xrz Ex codez bmz bpz b t) 3 461 512 codez_2872 :=
  And.intro (anz_2868 Hy) (anz_2871 Hy)
theorem anz_2873 (Hy : Hyz tys cA base adS Ex) : xall (fun b t => xOK l Dg clz tys cA flz ftz base adS GWz xyz xcz xnz xrz Ex codez bmz bpz b t) 4 205 256 codez_2873 :=
  And.intro (anz_2865 Hy) (anz_2872 Hy)
theorem anz_2874 (Hy : Hyz tys cA base adS Ex) : xall (fun b t => xOK l Dg clz tys cA flz ftz base adS GWz xyz xcz xnz xrz Ex codez bmz bpz b t) 5 77 128 codez_2874 :=
  And.intro (anz_2858 Hy) (anz_2873 Hy)
theorem anz_2875 (Hy : Hyz tys cA base adS Ex) : xall (fun b t => xOK l Dg clz tys cA flz ftz base adS GWz xyz xcz xnz xrz Ex codez bmz bpz b t) 6 13 64 codez_2875 :=
  And.intro (anz_2843 Hy) (anz_2874 Hy)
theorem anz_2876 (Hy : Hyz tys cA base adS Ex) : xall (fun b t => xOK l Dg clz tys cA flz ftz base adS GWz xyz xcz xnz xrz Ex codez bmz bpz b t) 1 45 2048 codez_2876 :=
  And.intro (okz_45 Hy) (okz_2093 Hy)
theorem anz_2877 (Hy : Hyz tys cA base adS Ex) : xall (fun b t => xOK l Dg clz tys cA flz ftz base adS GWz xyz xcz xnz xrz Ex codez bmz bpz b t) 1 1069 2048 codez_2877 :=
  And.intro (okz_1069 Hy) (okzz 3117)
theorem anz_2878 (Hy : Hyz tys cA base adS Ex) : xall (fun b t => xOK l Dg clz tys cA flz ftz base adS GWz xyz xcz xnz xrz Ex codez bmz bpz b t) 2 45 1024 codez_2878 :=
  And.intro (anz_2876 Hy) (anz_2877 Hy)
theorem anz_2879 (Hy : Hyz tys cA base adS Ex) : xall (fun b t => xOK l Dg clz tys cA flz ftz base adS GWz xyz xcz xnz xrz Ex codez bmz bpz b t) 1 557 2048 codez_2879 :=
  And.intro (okz_557 Hy) (okzz 2605)
theorem anz_2880 (Hy : Hyz tys cA base adS Ex) : xall (fun b t => xOK l Dg clz tys cA flz ftz base adS GWz xyz xcz xnz xrz Ex codez bmz bpz b t) 1 1581 2048 codez_2880 :=
  And.intro (okz_1581 Hy) (okzz 3629)
theorem anz_2881 (Hy : Hyz tys cA base adS Ex) : xall (fun b t => xOK l Dg clz tys cA flz ftz base adS GWz xyz xcz xnz xrz Ex codez bmz bpz b t) 2 557 1024 codez_2881 :=
  And.intro (anz_2879 Hy) (anz_2880 Hy)
theorem anz_2882 (Hy : Hyz tys cA base adS Ex) : xall (fun b t => xOK l Dg clz tys cA flz ftz base adS GWz xyz xcz xnz xrz Ex codez bmz bpz b t) 3 45 512 codez_2882 :=
  And.intro (anz_2878 Hy) (anz_2881 Hy)
theorem anz_2883 (Hy : Hyz tys cA base adS Ex) : xall (fun b t => xOK l Dg clz tys cA flz ftz base adS GWz xyz xcz xnz xrz Ex codez bmz bpz b t) 1 301 2048 codez_2883 :=
  And.intro (okz_301 Hy) (okz_2349 Hy)
theorem anz_2884 (Hy : Hyz tys cA base adS Ex) : xall (fun b t => xOK l Dg clz tys cA flz ftz base adS GWz xyz xcz xnz xrz Ex codez bmz bpz b t) 1 1325 2048 codez_2884 :=
  And.intro (okz_1325 Hy) (okzz 3373)
theorem anz_2885 (Hy : Hyz tys cA base adS Ex) : xall (fun b t => xOK l Dg clz tys cA flz ftz base adS GWz xyz xcz xnz xrz Ex codez bmz bpz b t) 2 301 1024 codez_2885 :=
  And.intro (anz_2883 Hy) (anz_2884 Hy)
theorem anz_2886 (Hy : Hyz tys cA base adS Ex) : xall (fun b t => xOK l Dg clz tys cA flz ftz base adS GWz xyz xcz xnz xrz Ex codez bmz bpz b t) 1 813 2048 codez_2886 :=
  And.intro (okz_813 Hy) (okzz 2861)
theorem anz_2887 (Hy : Hyz tys cA base adS Ex) : xall (fun b t => xOK l Dg clz tys cA flz ftz base adS GWz xyz xcz xnz xrz Ex codez bmz bpz b t) 1 1837 2048 codez_2887 :=
  And.intro (okz_1837 Hy) (okzz 3885)
theorem anz_2888 (Hy : Hyz tys cA base adS Ex) : xall (fun b t => xOK l Dg clz tys cA flz ftz base adS GWz xyz xcz xnz xrz Ex codez bmz bpz b t) 2 813 1024 codez_2888 :=
  And.intro (anz_2886 Hy) (anz_2887 Hy)
theorem anz_2889 (Hy : Hyz tys cA base adS Ex) : xall (fun b t => xOK l Dg clz tys cA flz ftz base adS GWz xyz xcz xnz xrz Ex codez bmz bpz b t) 3 301 512 codez_2889 :=
  And.intro (anz_2885 Hy) (anz_2888 Hy)
theorem anz_2890 (Hy : Hyz tys cA base adS Ex) : xall (fun b t => xOK l Dg clz tys cA flz ftz base adS GWz xyz xcz xnz xrz Ex codez bmz bpz b t) 4 45 256 codez_2890 :=
  And.intro (anz_2882 Hy) (anz_2889 Hy)
theorem anz_2891 (Hy : Hyz tys cA base adS Ex) : xall (fun b t => xOK l Dg clz tys cA flz ftz base adS GWz xyz xcz xnz xrz Ex codez bmz bpz b t) 1 173 2048 codez_2891 :=
  And.intro (okz_173 Hy) (okz_2221 Hy)
theorem anz_2892 (Hy : Hyz tys cA base adS Ex) : xall (fun b t => xOK l Dg clz tys cA flz ftz base adS GWz xyz xcz xnz xrz Ex codez bmz bpz b t) 1 1197 2048 codez_2892 :=
  And.intro (okz_1197 Hy) (okzz 3245)
theorem anz_2893 (Hy : Hyz tys cA base adS Ex) : xall (fun b t => xOK l Dg clz tys cA flz ftz base adS GWz xyz xcz xnz xrz Ex codez bmz bpz b t) 2 173 1024 codez_2893 :=
  And.intro (anz_2891 Hy) (anz_2892 Hy)
theorem anz_2894 (Hy : Hyz tys cA base adS Ex) : xall (fun b t => xOK l Dg clz tys cA flz ftz base adS GWz xyz xcz xnz xrz Ex codez bmz bpz b t) 1 685 2048 codez_2894 :=
  And.intro (okz_685 Hy) (okzz 2733)
theorem anz_2895 (Hy : Hyz tys cA base adS Ex) : xall (fun b t => xOK l Dg clz tys cA flz ftz base adS GWz xyz xcz xnz xrz Ex codez bmz bpz b t) 1 1709 2048 codez_2895 :=
  And.intro (okz_1709 Hy) (okzz 3757)
theorem anz_2896 (Hy : Hyz tys cA base adS Ex) : xall (fun b t => xOK l Dg clz tys cA flz ftz base adS GWz xyz xcz xnz xrz Ex codez bmz bpz b t) 2 685 1024 codez_2896 :=
  And.intro (anz_2894 Hy) (anz_2895 Hy)
theorem anz_2897 (Hy : Hyz tys cA base adS Ex) : xall (fun b t => xOK l Dg clz tys cA flz ftz base adS GWz xyz xcz xnz xrz Ex codez bmz bpz b t) 3 173 512 codez_2897 :=
  And.intro (anz_2893 Hy) (anz_2896 Hy)
theorem anz_2898 (Hy : Hyz tys cA base adS Ex) : xall (fun b t => xOK l Dg clz tys cA flz ftz base adS GWz xyz xcz xnz xrz Ex codez bmz bpz b t) 1 429 2048 codez_2898 :=
  And.intro (okz_429 Hy) (okz_2477 Hy)
theorem anz_2899 (Hy : Hyz tys cA base adS Ex) : xall (fun b t => xOK l Dg clz tys cA flz ftz base adS GWz xyz xcz xnz xrz Ex codez bmz bpz b t) 1 1453 2048 codez_2899 :=
  And.intro (okz_1453 Hy) (okzz 3501)
theorem anz_2900 (Hy : Hyz tys cA base adS Ex) : xall (fun b t => xOK l Dg clz tys cA flz ftz base adS GWz xyz xcz xnz xrz Ex codez bmz bpz b t) 2 429 1024 codez_2900 :=
  And.intro (anz_2898 Hy) (anz_2899 Hy)
theorem anz_2901 (Hy : Hyz tys cA base adS Ex) : xall (fun b t => xOK l Dg clz tys cA flz ftz base adS GWz xyz xcz xnz xrz Ex codez bmz bpz b t) 1 941 2048 codez_2901 :=
  And.intro (okz_941 Hy) (okzz 2989)
theorem anz_2902 (Hy : Hyz tys cA base adS Ex) : xall (fun b t => xOK l Dg clz tys cA flz ftz base adS GWz xyz xcz xnz xrz Ex codez bmz bpz b t) 1 1965 2048 codez_2902 :=
  And.intro (okz_1965 Hy) (okzz 4013)
theorem anz_2903 (Hy : Hyz tys cA base adS Ex) : xall (fun b t => xOK l Dg clz tys cA flz ftz base adS GWz xyz xcz xnz xrz Ex codez bmz bpz b t) 2 941 1024 codez_2903 :=
  And.intro (anz_2901 Hy) (anz_2902 Hy)
theorem anz_2904 (Hy : Hyz tys cA base adS Ex) : xall (fun b t => xOK l Dg clz tys cA flz ftz base adS GWz xyz xcz xnz xrz Ex codez bmz bpz b t) 3 429 512 codez_2904 :=
  And.intro (anz_2900 Hy) (anz_2903 Hy)
theorem anz_2905 (Hy : Hyz tys cA base adS Ex) : xall (fun b t => xOK l Dg clz tys cA flz ftz base adS GWz xyz xcz xnz xrz Ex codez bmz bpz b t) 4 173 256 codez_2905 :=
  And.intro (anz_2897 Hy) (anz_2904 Hy)
theorem anz_2906 (Hy : Hyz tys cA base adS Ex) : xall (fun b t => xOK l Dg clz tys cA flz ftz base adS GWz xyz xcz xnz xrz Ex codez bmz bpz b t) 5 45 128 codez_2906 :=
  And.intro (anz_2890 Hy) (anz_2905 Hy)
theorem anz_2907 (Hy : Hyz tys cA base adS Ex) : xall (fun b t => xOK l Dg clz tys cA flz ftz base adS GWz xyz xcz xnz xrz Ex codez bmz bpz b t) 1 109 2048 codez_2907 :=
  And.intro (okz_109 Hy) (okz_2157 Hy)
theorem anz_2908 (Hy : Hyz tys cA base adS Ex) : xall (fun b t => xOK l Dg clz tys cA flz ftz base adS GWz xyz xcz xnz xrz Ex codez bmz bpz b t) 1 1133 2048 codez_2908 :=
  And.intro (okz_1133 Hy) (okzz 3181)
theorem anz_2909 (Hy : Hyz tys cA base adS Ex) : xall (fun b t => xOK l Dg clz tys cA flz ftz base adS GWz xyz xcz xnz xrz Ex codez bmz bpz b t) 2 109 1024 codez_2909 :=
  And.intro (anz_2907 Hy) (anz_2908 Hy)
theorem anz_2910 (Hy : Hyz tys cA base adS Ex) : xall (fun b t => xOK l Dg clz tys cA flz ftz base adS GWz xyz xcz xnz xrz Ex codez bmz bpz b t) 1 621 2048 codez_2910 :=
  And.intro (okz_621 Hy) (okzz 2669)
theorem anz_2911 (Hy : Hyz tys cA base adS Ex) : xall (fun b t => xOK l Dg clz tys cA flz ftz base adS GWz xyz xcz xnz xrz Ex codez bmz bpz b t) 1 1645 2048 codez_2911 :=
  And.intro (okz_1645 Hy) (okzz 3693)
theorem anz_2912 (Hy : Hyz tys cA base adS Ex) : xall (fun b t => xOK l Dg clz tys cA flz ftz base adS GWz xyz xcz xnz xrz Ex codez bmz bpz b t) 2 621 1024 codez_2912 :=
  And.intro (anz_2910 Hy) (anz_2911 Hy)
theorem anz_2913 (Hy : Hyz tys cA base adS Ex) : xall (fun b t => xOK l Dg clz tys cA flz ftz base adS GWz xyz xcz xnz xrz Ex codez bmz bpz b t) 3 109 512 codez_2913 :=
  And.intro (anz_2909 Hy) (anz_2912 Hy)
theorem anz_2914 (Hy : Hyz tys cA base adS Ex) : xall (fun b t => xOK l Dg clz tys cA flz ftz base adS GWz xyz xcz xnz xrz Ex codez bmz bpz b t) 1 365 2048 codez_2914 :=
  And.intro (okz_365 Hy) (okz_2413 Hy)
theorem anz_2915 (Hy : Hyz tys cA base adS Ex) : xall (fun b t => xOK l Dg clz tys cA flz ftz base adS GWz xyz xcz xnz xrz Ex codez bmz bpz b t) 1 1389 2048 codez_2915 :=
  And.intro (okz_1389 Hy) (okzz 3437)
theorem anz_2916 (Hy : Hyz tys cA base adS Ex) : xall (fun b t => xOK l Dg clz tys cA flz ftz base adS GWz xyz xcz xnz xrz Ex codez bmz bpz b t) 2 365 1024 codez_2916 :=
  And.intro (anz_2914 Hy) (anz_2915 Hy)
theorem anz_2917 (Hy : Hyz tys cA base adS Ex) : xall (fun b t => xOK l Dg clz tys cA flz ftz base adS GWz xyz xcz xnz xrz Ex codez bmz bpz b t) 1 877 2048 codez_2917 :=
  And.intro (okz_877 Hy) (okzz 2925)
theorem anz_2918 (Hy : Hyz tys cA base adS Ex) : xall (fun b t => xOK l Dg clz tys cA flz ftz base adS GWz xyz xcz xnz xrz Ex codez bmz bpz b t) 1 1901 2048 codez_2918 :=
  And.intro (okz_1901 Hy) (okzz 3949)
theorem anz_2919 (Hy : Hyz tys cA base adS Ex) : xall (fun b t => xOK l Dg clz tys cA flz ftz base adS GWz xyz xcz xnz xrz Ex codez bmz bpz b t) 2 877 1024 codez_2919 :=
  And.intro (anz_2917 Hy) (anz_2918 Hy)
theorem anz_2920 (Hy : Hyz tys cA base adS Ex) : xall (fun b t => xOK l Dg clz tys cA flz ftz base adS GWz xyz xcz xnz xrz Ex codez bmz bpz b t) 3 365 512 codez_2920 :=
  And.intro (anz_2916 Hy) (anz_2919 Hy)
theorem anz_2921 (Hy : Hyz tys cA base adS Ex) : xall (fun b t => xOK l Dg clz tys cA flz ftz base adS GWz xyz xcz xnz xrz Ex codez bmz bpz b t) 4 109 256 codez_2921 :=
  And.intro (anz_2913 Hy) (anz_2920 Hy)
theorem anz_2922 (Hy : Hyz tys cA base adS Ex) : xall (fun b t => xOK l Dg clz tys cA flz ftz base adS GWz xyz xcz xnz xrz Ex codez bmz bpz b t) 1 237 2048 codez_2922 :=
  And.intro (okz_237 Hy) (okz_2285 Hy)
theorem anz_2923 (Hy : Hyz tys cA base adS Ex) : xall (fun b t => xOK l Dg clz tys cA flz ftz base adS GWz xyz xcz xnz xrz Ex codez bmz bpz b t) 1 1261 2048 codez_2923 :=
  And.intro (okz_1261 Hy) (okzz 3309)
theorem anz_2924 (Hy : Hyz tys cA base adS Ex) : xall (fun b t => xOK l Dg clz tys cA flz ftz base adS GWz xyz xcz xnz xrz Ex codez bmz bpz b t) 2 237 1024 codez_2924 :=
  And.intro (anz_2922 Hy) (anz_2923 Hy)
theorem anz_2925 (Hy : Hyz tys cA base adS Ex) : xall (fun b t => xOK l Dg clz tys cA flz ftz base adS GWz xyz xcz xnz xrz Ex codez bmz bpz b t) 1 749 2048 codez_2925 :=
  And.intro (okz_749 Hy) (okzz 2797)
theorem anz_2926 (Hy : Hyz tys cA base adS Ex) : xall (fun b t => xOK l Dg clz tys cA flz ftz base adS GWz xyz xcz xnz xrz Ex codez bmz bpz b t) 1 1773 2048 codez_2926 :=
  And.intro (okz_1773 Hy) (okzz 3821)
theorem anz_2927 (Hy : Hyz tys cA base adS Ex) : xall (fun b t => xOK l Dg clz tys cA flz ftz base adS GWz xyz xcz xnz xrz Ex codez bmz bpz b t) 2 749 1024 codez_2927 :=
  And.intro (anz_2925 Hy) (anz_2926 Hy)
theorem anz_2928 (Hy : Hyz tys cA base adS Ex) : xall (fun b t => xOK l Dg clz tys cA flz ftz base adS GWz xyz xcz xnz xrz Ex codez bmz bpz b t) 3 237 512 codez_2928 :=
  And.intro (anz_2924 Hy) (anz_2927 Hy)
theorem anz_2929 (Hy : Hyz tys cA base adS Ex) : xall (fun b t => xOK l Dg clz tys cA flz ftz base adS GWz xyz xcz xnz xrz Ex codez bmz bpz b t) 1 493 2048 codez_2929 :=
  And.intro (okz_493 Hy) (okz_2541 Hy)
theorem anz_2930 (Hy : Hyz tys cA base adS Ex) : xall (fun b t => xOK l Dg clz tys cA flz ftz base adS GWz xyz xcz xnz xrz Ex codez bmz bpz b t) 1 1517 2048 codez_2930 :=
  And.intro (okz_1517 Hy) (okzz 3565)
theorem anz_2931 (Hy : Hyz tys cA base adS Ex) : xall (fun b t => xOK l Dg clz tys cA flz ftz base adS GWz xyz xcz xnz xrz Ex codez bmz bpz b t) 2 493 1024 codez_2931 :=
  And.intro (anz_2929 Hy) (anz_2930 Hy)
theorem anz_2932 (Hy : Hyz tys cA base adS Ex) : xall (fun b t => xOK l Dg clz tys cA flz ftz base adS GWz xyz xcz xnz xrz Ex codez bmz bpz b t) 1 1005 2048 codez_2932 :=
  And.intro (okz_1005 Hy) (okzz 3053)
theorem anz_2933 (Hy : Hyz tys cA base adS Ex) : xall (fun b t => xOK l Dg clz tys cA flz ftz base adS GWz xyz xcz xnz xrz Ex codez bmz bpz b t) 1 2029 2048 codez_2933 :=
  And.intro (okz_2029 Hy) (okzz 4077)
theorem anz_2934 (Hy : Hyz tys cA base adS Ex) : xall (fun b t => xOK l Dg clz tys cA flz ftz base adS GWz xyz xcz xnz xrz Ex codez bmz bpz b t) 2 1005 1024 codez_2934 :=
  And.intro (anz_2932 Hy) (anz_2933 Hy)
theorem anz_2935 (Hy : Hyz tys cA base adS Ex) : xall (fun b t => xOK l Dg clz tys cA flz ftz base adS GWz xyz xcz xnz xrz Ex codez bmz bpz b t) 3 493 512 codez_2935 :=
  And.intro (anz_2931 Hy) (anz_2934 Hy)
theorem anz_2936 (Hy : Hyz tys cA base adS Ex) : xall (fun b t => xOK l Dg clz tys cA flz ftz base adS GWz xyz xcz xnz xrz Ex codez bmz bpz b t) 4 237 256 codez_2936 :=
  And.intro (anz_2928 Hy) (anz_2935 Hy)
theorem anz_2937 (Hy : Hyz tys cA base adS Ex) : xall (fun b t => xOK l Dg clz tys cA flz ftz base adS GWz xyz xcz xnz xrz Ex codez bmz bpz b t) 5 109 128 codez_2937 :=
  And.intro (anz_2921 Hy) (anz_2936 Hy)
theorem anz_2938 (Hy : Hyz tys cA base adS Ex) : xall (fun b t => xOK l Dg clz tys cA flz ftz base adS GWz xyz xcz xnz xrz Ex codez bmz bpz b t) 6 45 64 codez_2938 :=
  And.intro (anz_2906 Hy) (anz_2937 Hy)
theorem anz_2939 (Hy : Hyz tys cA base adS Ex) : xall (fun b t => xOK l Dg clz tys cA flz ftz base adS GWz xyz xcz xnz xrz Ex codez bmz bpz b t) 7 13 32 codez_2939 :=
  And.intro (anz_2875 Hy) (anz_2938 Hy)
theorem anz_2940 (Hy : Hyz tys cA base adS Ex) : xall (fun b t => xOK l Dg clz tys cA flz ftz base adS GWz xyz xcz xnz xrz Ex codez bmz bpz b t) 1 29 2048 codez_2940 :=
  And.intro (okz_29 Hy) (okz_2077 Hy)
theorem anz_2941 (Hy : Hyz tys cA base adS Ex) : xall (fun b t => xOK l Dg clz tys cA flz ftz base adS GWz xyz xcz xnz xrz Ex codez bmz bpz b t) 1 1053 2048 codez_2941 :=
  And.intro (okz_1053 Hy) (okzz 3101)
theorem anz_2942 (Hy : Hyz tys cA base adS Ex) : xall (fun b t => xOK l Dg clz tys cA flz ftz base adS GWz xyz xcz xnz xrz Ex codez bmz bpz b t) 2 29 1024 codez_2942 :=
  And.intro (anz_2940 Hy) (anz_2941 Hy)
theorem anz_2943 (Hy : Hyz tys cA base adS Ex) : xall (fun b t => xOK l Dg clz tys cA flz ftz base adS GWz xyz xcz xnz xrz Ex codez bmz bpz b t) 1 541 2048 codez_2943 :=
  And.intro (okz_541 Hy) (okzz 2589)
theorem anz_2944 (Hy : Hyz tys cA base adS Ex) : xall (fun b t => xOK l Dg clz tys cA flz ftz base adS GWz xyz xcz xnz xrz Ex codez bmz bpz b t) 1 1565 2048 codez_2944 :=
  And.intro (okz_1565 Hy) (okzz 3613)
theorem anz_2945 (Hy : Hyz tys cA base adS Ex) : xall (fun b t => xOK l Dg clz tys cA flz ftz base adS GWz xyz xcz xnz xrz Ex codez bmz bpz b t) 2 541 1024 codez_2945 :=
  And.intro (anz_2943 Hy) (anz_2944 Hy)
theorem anz_2946 (Hy : Hyz tys cA base adS Ex) : xall (fun b t => xOK l Dg clz tys cA flz ftz base adS GWz xyz xcz xnz xrz Ex codez bmz bpz b t) 3 29 512 codez_2946 :=
  And.intro (anz_2942 Hy) (anz_2945 Hy)
theorem anz_2947 (Hy : Hyz tys cA base adS Ex) : xall (fun b t => xOK l Dg clz tys cA flz ftz base adS GWz xyz xcz xnz xrz Ex codez bmz bpz b t) 1 285 2048 codez_2947 :=
  And.intro (okz_285 Hy) (okz_2333 Hy)
theorem anz_2948 (Hy : Hyz tys cA base adS Ex) : xall (fun b t => xOK l Dg clz tys cA flz ftz base adS GWz xyz xcz xnz xrz Ex codez bmz bpz b t) 1 1309 2048 codez_2948 :=
  And.intro (okz_1309 Hy) (okzz 3357)
theorem anz_2949 (Hy : Hyz tys cA base adS Ex) : xall (fun b t => xOK l Dg clz tys cA flz ftz base adS GWz xyz xcz xnz xrz Ex codez bmz bpz b t) 2 285 1024 codez_2949 :=
  And.intro (anz_2947 Hy) (anz_2948 Hy)
theorem anz_2950 (Hy : Hyz tys cA base adS Ex) : xall (fun b t => xOK l Dg clz tys cA flz ftz base adS GWz xyz xcz xnz xrz Ex codez bmz bpz b t) 1 797 2048 codez_2950 :=
  And.intro (okz_797 Hy) (okzz 2845)
theorem anz_2951 (Hy : Hyz tys cA base adS Ex) : xall (fun b t => xOK l Dg clz tys cA flz ftz base adS GWz xyz xcz xnz xrz Ex codez bmz bpz b t) 1 1821 2048 codez_2951 :=
  And.intro (okz_1821 Hy) (okzz 3869)
theorem anz_2952 (Hy : Hyz tys cA base adS Ex) : xall (fun b t => xOK l Dg clz tys cA flz ftz base adS GWz xyz xcz xnz xrz Ex codez bmz bpz b t) 2 797 1024 codez_2952 :=
  And.intro (anz_2950 Hy) (anz_2951 Hy)
theorem anz_2953 (Hy : Hyz tys cA base adS Ex) : xall (fun b t => xOK l Dg clz tys cA flz ftz base adS GWz xyz xcz xnz xrz Ex codez bmz bpz b t) 3 285 512 codez_2953 :=
  And.intro (anz_2949 Hy) (anz_2952 Hy)
theorem anz_2954 (Hy : Hyz tys cA base adS Ex) : xall (fun b t => xOK l Dg clz tys cA flz ftz base adS GWz xyz xcz xnz xrz Ex codez bmz bpz b t) 4 29 256 codez_2954 :=
  And.intro (anz_2946 Hy) (anz_2953 Hy)
theorem anz_2955 (Hy : Hyz tys cA base adS Ex) : xall (fun b t => xOK l Dg clz tys cA flz ftz base adS GWz xyz xcz xnz xrz Ex codez bmz bpz b t) 1 157 2048 codez_2955 :=
  And.intro (okz_157 Hy) (okz_2205 Hy)
theorem anz_2956 (Hy : Hyz tys cA base adS Ex) : xall (fun b t => xOK l Dg clz tys cA flz ftz base adS GWz xyz xcz xnz xrz Ex codez bmz bpz b t) 1 1181 2048 codez_2956 :=
  And.intro (okz_1181 Hy) (okzz 3229)
theorem anz_2957 (Hy : Hyz tys cA base adS Ex) : xall (fun b t => xOK l Dg clz tys cA flz ftz base adS GWz xyz xcz xnz xrz Ex codez bmz bpz b t) 2 157 1024 codez_2957 :=
  And.intro (anz_2955 Hy) (anz_2956 Hy)
theorem anz_2958 (Hy : Hyz tys cA base adS Ex) : xall (fun b t => xOK l Dg clz tys cA flz ftz base adS GWz xyz xcz xnz xrz Ex codez bmz bpz b t) 1 669 2048 codez_2958 :=
  And.intro (okz_669 Hy) (okzz 2717)
theorem anz_2959 (Hy : Hyz tys cA base adS Ex) : xall (fun b t => xOK l Dg clz tys cA flz ftz base adS GWz xyz xcz xnz xrz Ex codez bmz bpz b t) 1 1693 2048 codez_2959 :=
  And.intro (okz_1693 Hy) (okzz 3741)
theorem anz_2960 (Hy : Hyz tys cA base adS Ex) : xall (fun b t => xOK l Dg clz tys cA flz ftz base adS GWz xyz xcz xnz xrz Ex codez bmz bpz b t) 2 669 1024 codez_2960 :=
  And.intro (anz_2958 Hy) (anz_2959 Hy)
theorem anz_2961 (Hy : Hyz tys cA base adS Ex) : xall (fun b t => xOK l Dg clz tys cA flz ftz base adS GWz xyz xcz xnz xrz Ex codez bmz bpz b t) 3 157 512 codez_2961 :=
  And.intro (anz_2957 Hy) (anz_2960 Hy)
theorem anz_2962 (Hy : Hyz tys cA base adS Ex) : xall (fun b t => xOK l Dg clz tys cA flz ftz base adS GWz xyz xcz xnz xrz Ex codez bmz bpz b t) 1 413 2048 codez_2962 :=
  And.intro (okz_413 Hy) (okz_2461 Hy)
theorem anz_2963 (Hy : Hyz tys cA base adS Ex) : xall (fun b t => xOK l Dg clz tys cA flz ftz base adS GWz xyz xcz xnz xrz Ex codez bmz bpz b t) 1 1437 2048 codez_2963 :=
  And.intro (okz_1437 Hy) (okzz 3485)
theorem anz_2964 (Hy : Hyz tys cA base adS Ex) : xall (fun b t => xOK l Dg clz tys cA flz ftz base adS GWz xyz xcz xnz xrz Ex codez bmz bpz b t) 2 413 1024 codez_2964 :=
  And.intro (anz_2962 Hy) (anz_2963 Hy)
theorem anz_2965 (Hy : Hyz tys cA base adS Ex) : xall (fun b t => xOK l Dg clz tys cA flz ftz base adS GWz xyz xcz xnz xrz Ex codez bmz bpz b t) 1 925 2048 codez_2965 :=
  And.intro (okz_925 Hy) (okzz 2973)
theorem anz_2966 (Hy : Hyz tys cA base adS Ex) : xall (fun b t => xOK l Dg clz tys cA flz ftz base adS GWz xyz xcz xnz xrz Ex codez bmz bpz b t) 1 1949 2048 codez_2966 :=
  And.intro (okz_1949 Hy) (okzz 3997)
theorem anz_2967 (Hy : Hyz tys cA base adS Ex) : xall (fun b t => xOK l Dg clz tys cA flz ftz base adS GWz xyz xcz xnz xrz Ex codez bmz bpz b t) 2 925 1024 codez_2967 :=
  And.intro (anz_2965 Hy) (anz_2966 Hy)
theorem anz_2968 (Hy : Hyz tys cA base adS Ex) : xall (fun b t => xOK l Dg clz tys cA flz ftz base adS GWz xyz xcz xnz xrz Ex codez bmz bpz b t) 3 413 512 codez_2968 :=
  And.intro (anz_2964 Hy) (anz_2967 Hy)
theorem anz_2969 (Hy : Hyz tys cA base adS Ex) : xall (fun b t => xOK l Dg clz tys cA flz ftz base adS GWz xyz xcz xnz xrz Ex codez bmz bpz b t) 4 157 256 codez_2969 :=
  And.intro (anz_2961 Hy) (anz_2968 Hy)
theorem anz_2970 (Hy : Hyz tys cA base adS Ex) : xall (fun b t => xOK l Dg clz tys cA flz ftz base adS GWz xyz xcz xnz xrz Ex codez bmz bpz b t) 5 29 128 codez_2970 :=
  And.intro (anz_2954 Hy) (anz_2969 Hy)
theorem anz_2971 (Hy : Hyz tys cA base adS Ex) : xall (fun b t => xOK l Dg clz tys cA flz ftz base adS GWz xyz xcz xnz xrz Ex codez bmz bpz b t) 1 93 2048 codez_2971 :=
  And.intro (okz_93 Hy) (okz_2141 Hy)
theorem anz_2972 (Hy : Hyz tys cA base adS Ex) : xall (fun b t => xOK l Dg clz tys cA flz ftz base adS GWz xyz xcz xnz xrz Ex codez bmz bpz b t) 1 1117 2048 codez_2972 :=
  And.intro (okz_1117 Hy) (okzz 3165)
theorem anz_2973 (Hy : Hyz tys cA base adS Ex) : xall (fun b t => xOK l Dg clz tys cA flz ftz base adS GWz xyz xcz xnz xrz Ex codez bmz bpz b t) 2 93 1024 codez_2973 :=
  And.intro (anz_2971 Hy) (anz_2972 Hy)
theorem anz_2974 (Hy : Hyz tys cA base adS Ex) : xall (fun b t => xOK l Dg clz tys cA flz ftz base adS GWz xyz xcz xnz xrz Ex codez bmz bpz b t) 1 605 2048 codez_2974 :=
  And.intro (okz_605 Hy) (okzz 2653)
theorem anz_2975 (Hy : Hyz tys cA base adS Ex) : xall (fun b t => xOK l Dg clz tys cA flz ftz base adS GWz xyz xcz xnz xrz Ex codez bmz bpz b t) 1 1629 2048 codez_2975 :=
  And.intro (okz_1629 Hy) (okzz 3677)
theorem anz_2976 (Hy : Hyz tys cA base adS Ex) : xall (fun b t => xOK l Dg clz tys cA flz ftz base adS GWz xyz xcz xnz xrz Ex codez bmz bpz b t) 2 605 1024 codez_2976 :=
  And.intro (anz_2974 Hy) (anz_2975 Hy)
theorem anz_2977 (Hy : Hyz tys cA base adS Ex) : xall (fun b t => xOK l Dg clz tys cA flz ftz base adS GWz xyz xcz xnz xrz Ex codez bmz bpz b t) 3 93 512 codez_2977 :=
  And.intro (anz_2973 Hy) (anz_2976 Hy)
theorem anz_2978 (Hy : Hyz tys cA base adS Ex) : xall (fun b t => xOK l Dg clz tys cA flz ftz base adS GWz xyz xcz xnz xrz Ex codez bmz bpz b t) 1 349 2048 codez_2978 :=
  And.intro (okz_349 Hy) (okz_2397 Hy)
theorem anz_2979 (Hy : Hyz tys cA base adS Ex) : xall (fun b t => xOK l Dg clz tys cA flz ftz base adS GWz xyz xcz xnz xrz Ex codez bmz bpz b t) 1 1373 2048 codez_2979 :=
  And.intro (okz_1373 Hy) (okzz 3421)
theorem anz_2980 (Hy : Hyz tys cA base adS Ex) : xall (fun b t => xOK l Dg clz tys cA flz ftz base adS GWz xyz xcz xnz xrz Ex codez bmz bpz b t) 2 349 1024 codez_2980 :=
  And.intro (anz_2978 Hy) (anz_2979 Hy)
theorem anz_2981 (Hy : Hyz tys cA base adS Ex) : xall (fun b t => xOK l Dg clz tys cA flz ftz base adS GWz xyz xcz xnz xrz Ex codez bmz bpz b t) 1 861 2048 codez_2981 :=
  And.intro (okz_861 Hy) (okzz 2909)
theorem anz_2982 (Hy : Hyz tys cA base adS Ex) : xall (fun b t => xOK l Dg clz tys cA flz ftz base adS GWz xyz xcz xnz xrz Ex codez bmz bpz b t) 1 1885 2048 codez_2982 :=
  And.intro (okz_1885 Hy) (okzz 3933)
theorem anz_2983 (Hy : Hyz tys cA base adS Ex) : xall (fun b t => xOK l Dg clz tys cA flz ftz base adS GWz xyz xcz xnz xrz Ex codez bmz bpz b t) 2 861 1024 codez_2983 :=
  And.intro (anz_2981 Hy) (anz_2982 Hy)
theorem anz_2984 (Hy : Hyz tys cA base adS Ex) : xall (fun b t => xOK l Dg clz tys cA flz ftz base adS GWz xyz xcz xnz xrz Ex codez bmz bpz b t) 3 349 512 codez_2984 :=
  And.intro (anz_2980 Hy) (anz_2983 Hy)
theorem anz_2985 (Hy : Hyz tys cA base adS Ex) : xall (fun b t => xOK l Dg clz tys cA flz ftz base adS GWz xyz xcz xnz xrz Ex codez bmz bpz b t) 4 93 256 codez_2985 :=
  And.intro (anz_2977 Hy) (anz_2984 Hy)
theorem anz_2986 (Hy : Hyz tys cA base adS Ex) : xall (fun b t => xOK l Dg clz tys cA flz ftz base adS GWz xyz xcz xnz xrz Ex codez bmz bpz b t) 1 221 2048 codez_2986 :=
  And.intro (okz_221 Hy) (okz_2269 Hy)
theorem anz_2987 (Hy : Hyz tys cA base adS Ex) : xall (fun b t => xOK l Dg clz tys cA flz ftz base adS GWz xyz xcz xnz xrz Ex codez bmz bpz b t) 1 1245 2048 codez_2987 :=
  And.intro (okz_1245 Hy) (okzz 3293)
theorem anz_2988 (Hy : Hyz tys cA base adS Ex) : xall (fun b t => xOK l Dg clz tys cA flz ftz base adS GWz xyz xcz xnz xrz Ex codez bmz bpz b t) 2 221 1024 codez_2988 :=
  And.intro (anz_2986 Hy) (anz_2987 Hy)
theorem anz_2989 (Hy : Hyz tys cA base adS Ex) : xall (fun b t => xOK l Dg clz tys cA flz ftz base adS GWz xyz xcz xnz xrz Ex codez bmz bpz b t) 1 733 2048 codez_2989 :=
  And.intro (okz_733 Hy) (okzz 2781)
theorem anz_2990 (Hy : Hyz tys cA base adS Ex) : xall (fun b t => xOK l Dg clz tys cA flz ftz base adS GWz xyz xcz xnz xrz Ex codez bmz bpz b t) 1 1757 2048 codez_2990 :=
  And.intro (okz_1757 Hy) (okzz 3805)
theorem anz_2991 (Hy : Hyz tys cA base adS Ex) : xall (fun b t => xOK l Dg clz tys cA flz ftz base adS GWz xyz xcz xnz xrz Ex codez bmz bpz b t) 2 733 1024 codez_2991 :=
  And.intro (anz_2989 Hy) (anz_2990 Hy)
theorem anz_2992 (Hy : Hyz tys cA base adS Ex) : xall (fun b t => xOK l Dg clz tys cA flz ftz base adS GWz xyz xcz xnz xrz Ex codez bmz bpz b t) 3 221 512 codez_2992 :=
  And.intro (anz_2988 Hy) (anz_2991 Hy)
theorem anz_2993 (Hy : Hyz tys cA base adS Ex) : xall (fun b t => xOK l Dg clz tys cA flz ftz base adS GWz xyz xcz xnz xrz Ex codez bmz bpz b t) 1 477 2048 codez_2993 :=
  And.intro (okz_477 Hy) (okz_2525 Hy)
theorem anz_2994 (Hy : Hyz tys cA base adS Ex) : xall (fun b t => xOK l Dg clz tys cA flz ftz base adS GWz xyz xcz xnz xrz Ex codez bmz bpz b t) 1 1501 2048 codez_2994 :=
  And.intro (okz_1501 Hy) (okzz 3549)
theorem anz_2995 (Hy : Hyz tys cA base adS Ex) : xall (fun b t => xOK l Dg clz tys cA flz ftz base adS GWz xyz xcz xnz xrz Ex codez bmz bpz b t) 2 477 1024 codez_2995 :=
  And.intro (anz_2993 Hy) (anz_2994 Hy)
theorem anz_2996 (Hy : Hyz tys cA base adS Ex) : xall (fun b t => xOK l Dg clz tys cA flz ftz base adS GWz xyz xcz xnz xrz Ex codez bmz bpz b t) 1 989 2048 codez_2996 :=
  And.intro (okz_989 Hy) (okzz 3037)
theorem anz_2997 (Hy : Hyz tys cA base adS Ex) : xall (fun b t => xOK l Dg clz tys cA flz ftz base adS GWz xyz xcz xnz xrz Ex codez bmz bpz b t) 1 2013 2048 codez_2997 :=
  And.intro (okz_2013 Hy) (okzz 4061)
theorem anz_2998 (Hy : Hyz tys cA base adS Ex) : xall (fun b t => xOK l Dg clz tys cA flz ftz base adS GWz xyz xcz xnz xrz Ex codez bmz bpz b t) 2 989 1024 codez_2998 :=
  And.intro (anz_2996 Hy) (anz_2997 Hy)
theorem anz_2999 (Hy : Hyz tys cA base adS Ex) : xall (fun b t => xOK l Dg clz tys cA flz ftz base adS GWz xyz xcz xnz xrz Ex codez bmz bpz b t) 3 477 512 codez_2999 :=
  And.intro (anz_2995 Hy) (anz_2998 Hy)
theorem anz_3000 (Hy : Hyz tys cA base adS Ex) : xall (fun b t => xOK l Dg clz tys cA flz ftz base adS GWz xyz xcz xnz xrz Ex codez bmz bpz b t) 4 221 256 codez_3000 :=
  And.intro (anz_2992 Hy) (anz_2999 Hy)
theorem anz_3001 (Hy : Hyz tys cA base adS Ex) : xall (fun b t => xOK l Dg clz tys cA flz ftz base adS GWz xyz xcz xnz xrz Ex codez bmz bpz b t) 5 93 128 codez_3001 :=
  And.intro (anz_2985 Hy) (anz_3000 Hy)
theorem anz_3002 (Hy : Hyz tys cA base adS Ex) : xall (fun b t => xOK l Dg clz tys cA flz ftz base adS GWz xyz xcz xnz xrz Ex codez bmz bpz b t) 6 29 64 codez_3002 :=
  And.intro (anz_2970 Hy) (anz_3001 Hy)
theorem anz_3003 (Hy : Hyz tys cA base adS Ex) : xall (fun b t => xOK l Dg clz tys cA flz ftz base adS GWz xyz xcz xnz xrz Ex codez bmz bpz b t) 1 61 2048 codez_3003 :=
  And.intro (okz_61 Hy) (okz_2109 Hy)
theorem anz_3004 (Hy : Hyz tys cA base adS Ex) : xall (fun b t => xOK l Dg clz tys cA flz ftz base adS GWz xyz xcz xnz xrz Ex codez bmz bpz b t) 1 1085 2048 codez_3004 :=
  And.intro (okz_1085 Hy) (okzz 3133)
theorem anz_3005 (Hy : Hyz tys cA base adS Ex) : xall (fun b t => xOK l Dg clz tys cA flz ftz base adS GWz xyz xcz xnz xrz Ex codez bmz bpz b t) 2 61 1024 codez_3005 :=
  And.intro (anz_3003 Hy) (anz_3004 Hy)
theorem anz_3006 (Hy : Hyz tys cA base adS Ex) : xall (fun b t => xOK l Dg clz tys cA flz ftz base adS GWz xyz xcz xnz xrz Ex codez bmz bpz b t) 1 573 2048 codez_3006 :=
  And.intro (okz_573 Hy) (okzz 2621)
theorem anz_3007 (Hy : Hyz tys cA base adS Ex) : xall (fun b t => xOK l Dg clz tys cA flz ftz base adS GWz xyz xcz xnz xrz Ex codez bmz bpz b t) 1 1597 2048 codez_3007 :=
  And.intro (okz_1597 Hy) (okzz 3645)
theorem anz_3008 (Hy : Hyz tys cA base adS Ex) : xall (fun b t => xOK l Dg clz tys cA flz ftz base adS GWz xyz xcz xnz xrz Ex codez bmz bpz b t) 2 573 1024 codez_3008 :=
  And.intro (anz_3006 Hy) (anz_3007 Hy)
theorem anz_3009 (Hy : Hyz tys cA base adS Ex) : xall (fun b t => xOK l Dg clz tys cA flz ftz base adS GWz xyz xcz xnz xrz Ex codez bmz bpz b t) 3 61 512 codez_3009 :=
  And.intro (anz_3005 Hy) (anz_3008 Hy)
theorem anz_3010 (Hy : Hyz tys cA base adS Ex) : xall (fun b t => xOK l Dg clz tys cA flz ftz base adS GWz xyz xcz xnz xrz Ex codez bmz bpz b t) 1 317 2048 codez_3010 :=
  And.intro (okz_317 Hy) (okz_2365 Hy)
theorem anz_3011 (Hy : Hyz tys cA base adS Ex) : xall (fun b t => xOK l Dg clz tys cA flz ftz base adS GWz xyz xcz xnz xrz Ex codez bmz bpz b t) 1 1341 2048 codez_3011 :=
  And.intro (okz_1341 Hy) (okzz 3389)
theorem anz_3012 (Hy : Hyz tys cA base adS Ex) : xall (fun b t => xOK l Dg clz tys cA flz ftz base adS GWz xyz xcz xnz xrz Ex codez bmz bpz b t) 2 317 1024 codez_3012 :=
  And.intro (anz_3010 Hy) (anz_3011 Hy)
theorem anz_3013 (Hy : Hyz tys cA base adS Ex) : xall (fun b t => xOK l Dg clz tys cA flz ftz base adS GWz xyz xcz xnz xrz Ex codez bmz bpz b t) 1 829 2048 codez_3013 :=
  And.intro (okz_829 Hy) (okzz 2877)
theorem anz_3014 (Hy : Hyz tys cA base adS Ex) : xall (fun b t => xOK l Dg clz tys cA flz ftz base adS GWz xyz xcz xnz xrz Ex codez bmz bpz b t) 1 1853 2048 codez_3014 :=
  And.intro (okz_1853 Hy) (okzz 3901)
theorem anz_3015 (Hy : Hyz tys cA base adS Ex) : xall (fun b t => xOK l Dg clz tys cA flz ftz base adS GWz xyz xcz xnz xrz Ex codez bmz bpz b t) 2 829 1024 codez_3015 :=
  And.intro (anz_3013 Hy) (anz_3014 Hy)
theorem anz_3016 (Hy : Hyz tys cA base adS Ex) : xall (fun b t => xOK l Dg clz tys cA flz ftz base adS GWz xyz xcz xnz xrz Ex codez bmz bpz b t) 3 317 512 codez_3016 :=
  And.intro (anz_3012 Hy) (anz_3015 Hy)
theorem anz_3017 (Hy : Hyz tys cA base adS Ex) : xall (fun b t => xOK l Dg clz tys cA flz ftz base adS GWz xyz xcz xnz xrz Ex codez bmz bpz b t) 4 61 256 codez_3017 :=
  And.intro (anz_3009 Hy) (anz_3016 Hy)
theorem anz_3018 (Hy : Hyz tys cA base adS Ex) : xall (fun b t => xOK l Dg clz tys cA flz ftz base adS GWz xyz xcz xnz xrz Ex codez bmz bpz b t) 1 189 2048 codez_3018 :=
  And.intro (okz_189 Hy) (okz_2237 Hy)
theorem anz_3019 (Hy : Hyz tys cA base adS Ex) : xall (fun b t => xOK l Dg clz tys cA flz ftz base adS GWz xyz xcz xnz xrz Ex codez bmz bpz b t) 1 1213 2048 codez_3019 :=
  And.intro (okz_1213 Hy) (okzz 3261)
theorem anz_3020 (Hy : Hyz tys cA base adS Ex) : xall (fun b t => xOK l Dg clz tys cA flz ftz base adS GWz xyz xcz xnz xrz Ex codez bmz bpz b t) 2 189 1024 codez_3020 :=
  And.intro (anz_3018 Hy) (anz_3019 Hy)
theorem anz_3021 (Hy : Hyz tys cA base adS Ex) : xall (fun b t => xOK l Dg clz tys cA flz ftz base adS GWz xyz xcz xnz xrz Ex codez bmz bpz b t) 1 701 2048 codez_3021 :=
  And.intro (okz_701 Hy) (okzz 2749)
theorem anz_3022 (Hy : Hyz tys cA base adS Ex) : xall (fun b t => xOK l Dg clz tys cA flz ftz base adS GWz xyz xcz xnz xrz Ex codez bmz bpz b t) 1 1725 2048 codez_3022 :=
  And.intro (okz_1725 Hy) (okzz 3773)
theorem anz_3023 (Hy : Hyz tys cA base adS Ex) : xall (fun b t => xOK l Dg clz tys cA flz ftz base adS GWz xyz xcz xnz xrz Ex codez bmz bpz b t) 2 701 1024 codez_3023 :=
  And.intro (anz_3021 Hy) (anz_3022 Hy)
theorem anz_3024 (Hy : Hyz tys cA base adS Ex) : xall (fun b t => xOK l Dg clz tys cA flz ftz base adS GWz xyz xcz xnz xrz Ex codez bmz bpz b t) 3 189 512 codez_3024 :=
  And.intro (anz_3020 Hy) (anz_3023 Hy)
theorem anz_3025 (Hy : Hyz tys cA base adS Ex) : xall (fun b t => xOK l Dg clz tys cA flz ftz base adS GWz xyz xcz xnz xrz Ex codez bmz bpz b t) 1 445 2048 codez_3025 :=
  And.intro (okz_445 Hy) (okz_2493 Hy)
theorem anz_3026 (Hy : Hyz tys cA base adS Ex) : xall (fun b t => xOK l Dg clz tys cA flz ftz base adS GWz xyz xcz xnz xrz Ex codez bmz bpz b t) 1 1469 2048 codez_3026 :=
  And.intro (okz_1469 Hy) (okzz 3517)
theorem anz_3027 (Hy : Hyz tys cA base adS Ex) : xall (fun b t => xOK l Dg clz tys cA flz ftz base adS GWz xyz xcz xnz xrz Ex codez bmz bpz b t) 2 445 1024 codez_3027 :=
  And.intro (anz_3025 Hy) (anz_3026 Hy)
theorem anz_3028 (Hy : Hyz tys cA base adS Ex) : xall (fun b t => xOK l Dg clz tys cA flz ftz base adS GWz xyz xcz xnz xrz Ex codez bmz bpz b t) 1 957 2048 codez_3028 :=
  And.intro (okz_957 Hy) (okzz 3005)
theorem anz_3029 (Hy : Hyz tys cA base adS Ex) : xall (fun b t => xOK l Dg clz tys cA flz ftz base adS GWz xyz xcz xnz xrz Ex codez bmz bpz b t) 1 1981 2048 codez_3029 :=
  And.intro (okz_1981 Hy) (okzz 4029)
theorem anz_3030 (Hy : Hyz tys cA base adS Ex) : xall (fun b t => xOK l Dg clz tys cA flz ftz base adS GWz xyz xcz xnz xrz Ex codez bmz bpz b t) 2 957 1024 codez_3030 :=
  And.intro (anz_3028 Hy) (anz_3029 Hy)
theorem anz_3031 (Hy : Hyz tys cA base adS Ex) : xall (fun b t => xOK l Dg clz tys cA flz ftz base adS GWz xyz xcz xnz xrz Ex codez bmz bpz b t) 3 445 512 codez_3031 :=
  And.intro (anz_3027 Hy) (anz_3030 Hy)
theorem anz_3032 (Hy : Hyz tys cA base adS Ex) : xall (fun b t => xOK l Dg clz tys cA flz ftz base adS GWz xyz xcz xnz xrz Ex codez bmz bpz b t) 4 189 256 codez_3032 :=
  And.intro (anz_3024 Hy) (anz_3031 Hy)
theorem anz_3033 (Hy : Hyz tys cA base adS Ex) : xall (fun b t => xOK l Dg clz tys cA flz ftz base adS GWz xyz xcz xnz xrz Ex codez bmz bpz b t) 5 61 128 codez_3033 :=
  And.intro (anz_3017 Hy) (anz_3032 Hy)
theorem anz_3034 (Hy : Hyz tys cA base adS Ex) : xall (fun b t => xOK l Dg clz tys cA flz ftz base adS GWz xyz xcz xnz xrz Ex codez bmz bpz b t) 1 125 2048 codez_3034 :=
  And.intro (okz_125 Hy) (okz_2173 Hy)
theorem anz_3035 (Hy : Hyz tys cA base adS Ex) : xall (fun b t => xOK l Dg clz tys cA flz ftz base adS GWz xyz xcz xnz xrz Ex codez bmz bpz b t) 1 1149 2048 codez_3035 :=
  And.intro (okz_1149 Hy) (okzz 3197)
theorem anz_3036 (Hy : Hyz tys cA base adS Ex) : xall (fun b t => xOK l Dg clz tys cA flz ftz base adS GWz xyz xcz xnz xrz Ex codez bmz bpz b t) 2 125 1024 codez_3036 :=
  And.intro (anz_3034 Hy) (anz_3035 Hy)
theorem anz_3037 (Hy : Hyz tys cA base adS Ex) : xall (fun b t => xOK l Dg clz tys cA flz ftz base adS GWz xyz xcz xnz xrz Ex codez bmz bpz b t) 1 637 2048 codez_3037 :=
  And.intro (okz_637 Hy) (okzz 2685)
theorem anz_3038 (Hy : Hyz tys cA base adS Ex) : xall (fun b t => xOK l Dg clz tys cA flz ftz base adS GWz xyz xcz xnz xrz Ex codez bmz bpz b t) 1 1661 2048 codez_3038 :=
  And.intro (okz_1661 Hy) (okzz 3709)
theorem anz_3039 (Hy : Hyz tys cA base adS Ex) : xall (fun b t => xOK l Dg clz tys cA flz ftz base adS GWz xyz xcz xnz xrz Ex codez bmz bpz b t) 2 637 1024 codez_3039 :=
  And.intro (anz_3037 Hy) (anz_3038 Hy)
theorem anz_3040 (Hy : Hyz tys cA base adS Ex) : xall (fun b t => xOK l Dg clz tys cA flz ftz base adS GWz xyz xcz xnz xrz Ex codez bmz bpz b t) 3 125 512 codez_3040 :=
  And.intro (anz_3036 Hy) (anz_3039 Hy)
theorem anz_3041 (Hy : Hyz tys cA base adS Ex) : xall (fun b t => xOK l Dg clz tys cA flz ftz base adS GWz xyz xcz xnz xrz Ex codez bmz bpz b t) 1 381 2048 codez_3041 :=
  And.intro (okz_381 Hy) (okz_2429 Hy)
theorem anz_3042 (Hy : Hyz tys cA base adS Ex) : xall (fun b t => xOK l Dg clz tys cA flz ftz base adS GWz xyz xcz xnz xrz Ex codez bmz bpz b t) 1 1405 2048 codez_3042 :=
  And.intro (okz_1405 Hy) (okzz 3453)
theorem anz_3043 (Hy : Hyz tys cA base adS Ex) : xall (fun b t => xOK l Dg clz tys cA flz ftz base adS GWz xyz xcz xnz xrz Ex codez bmz bpz b t) 2 381 1024 codez_3043 :=
  And.intro (anz_3041 Hy) (anz_3042 Hy)
theorem anz_3044 (Hy : Hyz tys cA base adS Ex) : xall (fun b t => xOK l Dg clz tys cA flz ftz base adS GWz xyz xcz xnz xrz Ex codez bmz bpz b t) 1 893 2048 codez_3044 :=
  And.intro (okz_893 Hy) (okzz 2941)
theorem anz_3045 (Hy : Hyz tys cA base adS Ex) : xall (fun b t => xOK l Dg clz tys cA flz ftz base adS GWz xyz xcz xnz xrz Ex codez bmz bpz b t) 1 1917 2048 codez_3045 :=
  And.intro (okz_1917 Hy) (okzz 3965)
theorem anz_3046 (Hy : Hyz tys cA base adS Ex) : xall (fun b t => xOK l Dg clz tys cA flz ftz base adS GWz xyz xcz xnz xrz Ex codez bmz bpz b t) 2 893 1024 codez_3046 :=
  And.intro (anz_3044 Hy) (anz_3045 Hy)
theorem anz_3047 (Hy : Hyz tys cA base adS Ex) : xall (fun b t => xOK l Dg clz tys cA flz ftz base adS GWz xyz xcz xnz xrz Ex codez bmz bpz b t) 3 381 512 codez_3047 :=
  And.intro (anz_3043 Hy) (anz_3046 Hy)
theorem anz_3048 (Hy : Hyz tys cA base adS Ex) : xall (fun b t => xOK l Dg clz tys cA flz ftz base adS GWz xyz xcz xnz xrz Ex codez bmz bpz b t) 4 125 256 codez_3048 :=
  And.intro (anz_3040 Hy) (anz_3047 Hy)
theorem anz_3049 (Hy : Hyz tys cA base adS Ex) : xall (fun b t => xOK l Dg clz tys cA flz ftz base adS GWz xyz xcz xnz xrz Ex codez bmz bpz b t) 1 253 2048 codez_3049 :=
  And.intro (okz_253 Hy) (okz_2301 Hy)
theorem anz_3050 (Hy : Hyz tys cA base adS Ex) : xall (fun b t => xOK l Dg clz tys cA flz ftz base adS GWz xyz xcz xnz xrz Ex codez bmz bpz b t) 1 1277 2048 codez_3050 :=
  And.intro (okz_1277 Hy) (okzz 3325)
theorem anz_3051 (Hy : Hyz tys cA base adS Ex) : xall (fun b t => xOK l Dg clz tys cA flz ftz base adS GWz xyz xcz xnz xrz Ex codez bmz bpz b t) 2 253 1024 codez_3051 :=
  And.intro (anz_3049 Hy) (anz_3050 Hy)
theorem anz_3052 (Hy : Hyz tys cA base adS Ex) : xall (fun b t => xOK l Dg clz tys cA flz ftz base adS GWz xyz xcz xnz xrz Ex codez bmz bpz b t) 1 765 2048 codez_3052 :=
  And.intro (okz_765 Hy) (okzz 2813)
theorem anz_3053 (Hy : Hyz tys cA base adS Ex) : xall (fun b t => xOK l Dg clz tys cA flz ftz base adS GWz xyz xcz xnz xrz Ex codez bmz bpz b t) 1 1789 2048 codez_3053 :=
  And.intro (okz_1789 Hy) (okzz 3837)
theorem anz_3054 (Hy : Hyz tys cA base adS Ex) : xall (fun b t => xOK l Dg clz tys cA flz ftz base adS GWz xyz xcz xnz xrz Ex codez bmz bpz b t) 2 765 1024 codez_3054 :=
  And.intro (anz_3052 Hy) (anz_3053 Hy)
theorem anz_3055 (Hy : Hyz tys cA base adS Ex) : xall (fun b t => xOK l Dg clz tys cA flz ftz base adS GWz xyz xcz xnz xrz Ex codez bmz bpz b t) 3 253 512 codez_3055 :=
  And.intro (anz_3051 Hy) (anz_3054 Hy)
theorem anz_3056 (Hy : Hyz tys cA base adS Ex) : xall (fun b t => xOK l Dg clz tys cA flz ftz base adS GWz xyz xcz xnz xrz Ex codez bmz bpz b t) 1 509 2048 codez_3056 :=
  And.intro (okz_509 Hy) (okzz 2557)
theorem anz_3057 (Hy : Hyz tys cA base adS Ex) : xall (fun b t => xOK l Dg clz tys cA flz ftz base adS GWz xyz xcz xnz xrz Ex codez bmz bpz b t) 1 1533 2048 codez_3057 :=
  And.intro (okz_1533 Hy) (okzz 3581)
theorem anz_3058 (Hy : Hyz tys cA base adS Ex) : xall (fun b t => xOK l Dg clz tys cA flz ftz base adS GWz xyz xcz xnz xrz Ex codez bmz bpz b t) 2 509 1024 codez_3058 :=
  And.intro (anz_3056 Hy) (anz_3057 Hy)
theorem anz_3059 (Hy : Hyz tys cA base adS Ex) : xall (fun b t => xOK l Dg clz tys cA flz ftz base adS GWz xyz xcz xnz xrz Ex codez bmz bpz b t) 1 1021 2048 codez_3059 :=
  And.intro (okz_1021 Hy) (okzz 3069)
theorem anz_3060 (Hy : Hyz tys cA base adS Ex) : xall (fun b t => xOK l Dg clz tys cA flz ftz base adS GWz xyz xcz xnz xrz Ex codez bmz bpz b t) 1 2045 2048 codez_3060 :=
  And.intro (okz_2045 Hy) (okzz 4093)
theorem anz_3061 (Hy : Hyz tys cA base adS Ex) : xall (fun b t => xOK l Dg clz tys cA flz ftz base adS GWz xyz xcz xnz xrz Ex codez bmz bpz b t) 2 1021 1024 codez_3061 :=
  And.intro (anz_3059 Hy) (anz_3060 Hy)
theorem anz_3062 (Hy : Hyz tys cA base adS Ex) : xall (fun b t => xOK l Dg clz tys cA flz ftz base adS GWz xyz xcz xnz xrz Ex codez bmz bpz b t) 3 509 512 codez_3062 :=
  And.intro (anz_3058 Hy) (anz_3061 Hy)
theorem anz_3063 (Hy : Hyz tys cA base adS Ex) : xall (fun b t => xOK l Dg clz tys cA flz ftz base adS GWz xyz xcz xnz xrz Ex codez bmz bpz b t) 4 253 256 codez_3063 :=
  And.intro (anz_3055 Hy) (anz_3062 Hy)
theorem anz_3064 (Hy : Hyz tys cA base adS Ex) : xall (fun b t => xOK l Dg clz tys cA flz ftz base adS GWz xyz xcz xnz xrz Ex codez bmz bpz b t) 5 125 128 codez_3064 :=
  And.intro (anz_3048 Hy) (anz_3063 Hy)
theorem anz_3065 (Hy : Hyz tys cA base adS Ex) : xall (fun b t => xOK l Dg clz tys cA flz ftz base adS GWz xyz xcz xnz xrz Ex codez bmz bpz b t) 6 61 64 codez_3065 :=
  And.intro (anz_3033 Hy) (anz_3064 Hy)
theorem anz_3066 (Hy : Hyz tys cA base adS Ex) : xall (fun b t => xOK l Dg clz tys cA flz ftz base adS GWz xyz xcz xnz xrz Ex codez bmz bpz b t) 7 29 32 codez_3066 :=
  And.intro (anz_3002 Hy) (anz_3065 Hy)
theorem anz_3067 (Hy : Hyz tys cA base adS Ex) : xall (fun b t => xOK l Dg clz tys cA flz ftz base adS GWz xyz xcz xnz xrz Ex codez bmz bpz b t) 8 13 16 codez_3067 :=
  And.intro (anz_2939 Hy) (anz_3066 Hy)
theorem anz_3068 (Hy : Hyz tys cA base adS Ex) : xall (fun b t => xOK l Dg clz tys cA flz ftz base adS GWz xyz xcz xnz xrz Ex codez bmz bpz b t) 9 5 8 codez_3068 :=
  And.intro (anz_2812 Hy) (anz_3067 Hy)
theorem anz_3069 (Hy : Hyz tys cA base adS Ex) : xall (fun b t => xOK l Dg clz tys cA flz ftz base adS GWz xyz xcz xnz xrz Ex codez bmz bpz b t) 10 1 4 codez_3069 :=
  And.intro (anz_2557 Hy) (anz_3068 Hy)
theorem anz_3070 (Hy : Hyz tys cA base adS Ex) : xall (fun b t => xOK l Dg clz tys cA flz ftz base adS GWz xyz xcz xnz xrz Ex codez bmz bpz b t) 1 3 2048 codez_3070 :=
  And.intro (okz_3 Hy) (okz_2051 Hy)
theorem anz_3071 (Hy : Hyz tys cA base adS Ex) : xall (fun b t => xOK l Dg clz tys cA flz ftz base adS GWz xyz xcz xnz xrz Ex codez bmz bpz b t) 1 1027 2048 codez_3071 :=
  And.intro (okz_1027 Hy) (okzz 3075)
theorem anz_3072 (Hy : Hyz tys cA base adS Ex) : xall (fun b t => xOK l Dg clz tys cA flz ftz base adS GWz xyz xcz xnz xrz Ex codez bmz bpz b t) 2 3 1024 codez_3072 :=
  And.intro (anz_3070 Hy) (anz_3071 Hy)
theorem anz_3073 (Hy : Hyz tys cA base adS Ex) : xall (fun b t => xOK l Dg clz tys cA flz ftz base adS GWz xyz xcz xnz xrz Ex codez bmz bpz b t) 1 515 2048 codez_3073 :=
  And.intro (okz_515 Hy) (okzz 2563)
theorem anz_3074 (Hy : Hyz tys cA base adS Ex) : xall (fun b t => xOK l Dg clz tys cA flz ftz base adS GWz xyz xcz xnz xrz Ex codez bmz bpz b t) 1 1539 2048 codez_3074 :=
  And.intro (okz_1539 Hy) (okzz 3587)
theorem anz_3075 (Hy : Hyz tys cA base adS Ex) : xall (fun b t => xOK l Dg clz tys cA flz ftz base adS GWz xyz xcz xnz xrz Ex codez bmz bpz b t) 2 515 1024 codez_3075 :=
  And.intro (anz_3073 Hy) (anz_3074 Hy)
theorem anz_3076 (Hy : Hyz tys cA base adS Ex) : xall (fun b t => xOK l Dg clz tys cA flz ftz base adS GWz xyz xcz xnz xrz Ex codez bmz bpz b t) 3 3 512 codez_3076 :=
  And.intro (anz_3072 Hy) (anz_3075 Hy)
theorem anz_3077 (Hy : Hyz tys cA base adS Ex) : xall (fun b t => xOK l Dg clz tys cA flz ftz base adS GWz xyz xcz xnz xrz Ex codez bmz bpz b t) 1 259 2048 codez_3077 :=
  And.intro (okz_259 Hy) (okz_2307 Hy)
theorem anz_3078 (Hy : Hyz tys cA base adS Ex) : xall (fun b t => xOK l Dg clz tys cA flz ftz base adS GWz xyz xcz xnz xrz Ex codez bmz bpz b t) 1 1283 2048 codez_3078 :=
  And.intro (okz_1283 Hy) (okzz 3331)
theorem anz_3079 (Hy : Hyz tys cA base adS Ex) : xall (fun b t => xOK l Dg clz tys cA flz ftz base adS GWz xyz xcz xnz xrz Ex codez bmz bpz b t) 2 259 1024 codez_3079 :=
  And.intro (anz_3077 Hy) (anz_3078 Hy)
theorem anz_3080 (Hy : Hyz tys cA base adS Ex) : xall (fun b t => xOK l Dg clz tys cA flz ftz base adS GWz xyz xcz xnz xrz Ex codez bmz bpz b t) 1 771 2048 codez_3080 :=
  And.intro (okz_771 Hy) (okzz 2819)
theorem anz_3081 (Hy : Hyz tys cA base adS Ex) : xall (fun b t => xOK l Dg clz tys cA flz ftz base adS GWz xyz xcz xnz xrz Ex codez bmz bpz b t) 1 1795 2048 codez_3081 :=
  And.intro (okz_1795 Hy) (okzz 3843)
theorem anz_3082 (Hy : Hyz tys cA base adS Ex) : xall (fun b t => xOK l Dg clz tys cA flz ftz base adS GWz xyz xcz xnz xrz Ex codez bmz bpz b t) 2 771 1024 codez_3082 :=
  And.intro (anz_3080 Hy) (anz_3081 Hy)
theorem anz_3083 (Hy : Hyz tys cA base adS Ex) : xall (fun b t => xOK l Dg clz tys cA flz ftz base adS GWz xyz xcz xnz xrz Ex codez bmz bpz b t) 3 259 512 codez_3083 :=
  And.intro (anz_3079 Hy) (anz_3082 Hy)
theorem anz_3084 (Hy : Hyz tys cA base adS Ex) : xall (fun b t => xOK l Dg clz tys cA flz ftz base adS GWz xyz xcz xnz xrz Ex codez bmz bpz b t) 4 3 256 codez_3084 :=
  And.intro (anz_3076 Hy) (anz_3083 Hy)
theorem anz_3085 (Hy : Hyz tys cA base adS Ex) : xall (fun b t => xOK l Dg clz tys cA flz ftz base adS GWz xyz xcz xnz xrz Ex codez bmz bpz b t) 1 131 2048 codez_3085 :=
  And.intro (okz_131 Hy) (okz_2179 Hy)
theorem anz_3086 (Hy : Hyz tys cA base adS Ex) : xall (fun b t => xOK l Dg clz tys cA flz ftz base adS GWz xyz xcz xnz xrz Ex codez bmz bpz b t) 1 1155 2048 codez_3086 :=
  And.intro (okz_1155 Hy) (okzz 3203)
theorem anz_3087 (Hy : Hyz tys cA base adS Ex) : xall (fun b t => xOK l Dg clz tys cA flz ftz base adS GWz xyz xcz xnz xrz Ex codez bmz bpz b t) 2 131 1024 codez_3087 :=
  And.intro (anz_3085 Hy) (anz_3086 Hy)
theorem anz_3088 (Hy : Hyz tys cA base adS Ex) : xall (fun b t => xOK l Dg clz tys cA flz ftz base adS GWz xyz xcz xnz xrz Ex codez bmz bpz b t) 1 643 2048 codez_3088 :=
  And.intro (okz_643 Hy) (okzz 2691)
theorem anz_3089 (Hy : Hyz tys cA base adS Ex) : xall (fun b t => xOK l Dg clz tys cA flz ftz base adS GWz xyz xcz xnz xrz Ex codez bmz bpz b t) 1 1667 2048 codez_3089 :=
  And.intro (okz_1667 Hy) (okzz 3715)
theorem anz_3090 (Hy : Hyz tys cA base adS Ex) : xall (fun b t => xOK l Dg clz tys cA flz ftz base adS GWz xyz xcz xnz xrz Ex codez bmz bpz b t) 2 643 1024 codez_3090 :=
  And.intro (anz_3088 Hy) (anz_3089 Hy)
theorem anz_3091 (Hy : Hyz tys cA base adS Ex) : xall (fun b t => xOK l Dg clz tys cA flz ftz base adS GWz xyz xcz xnz xrz Ex codez bmz bpz b t) 3 131 512 codez_3091 :=
  And.intro (anz_3087 Hy) (anz_3090 Hy)
theorem anz_3092 (Hy : Hyz tys cA base adS Ex) : xall (fun b t => xOK l Dg clz tys cA flz ftz base adS GWz xyz xcz xnz xrz Ex codez bmz bpz b t) 1 387 2048 codez_3092 :=
  And.intro (okz_387 Hy) (okz_2435 Hy)
theorem anz_3093 (Hy : Hyz tys cA base adS Ex) : xall (fun b t => xOK l Dg clz tys cA flz ftz base adS GWz xyz xcz xnz xrz Ex codez bmz bpz b t) 1 1411 2048 codez_3093 :=
  And.intro (okz_1411 Hy) (okzz 3459)
theorem anz_3094 (Hy : Hyz tys cA base adS Ex) : xall (fun b t => xOK l Dg clz tys cA flz ftz base adS GWz xyz xcz xnz xrz Ex codez bmz bpz b t) 2 387 1024 codez_3094 :=
  And.intro (anz_3092 Hy) (anz_3093 Hy)
theorem anz_3095 (Hy : Hyz tys cA base adS Ex) : xall (fun b t => xOK l Dg clz tys cA flz ftz base adS GWz xyz xcz xnz xrz Ex codez bmz bpz b t) 1 899 2048 codez_3095 :=
  And.intro (okz_899 Hy) (okzz 2947)
theorem anz_3096 (Hy : Hyz tys cA base adS Ex) : xall (fun b t => xOK l Dg clz tys cA flz ftz base adS GWz xyz xcz xnz xrz Ex codez bmz bpz b t) 1 1923 2048 codez_3096 :=
  And.intro (okz_1923 Hy) (okzz 3971)
theorem anz_3097 (Hy : Hyz tys cA base adS Ex) : xall (fun b t => xOK l Dg clz tys cA flz ftz base adS GWz xyz xcz xnz xrz Ex codez bmz bpz b t) 2 899 1024 codez_3097 :=
  And.intro (anz_3095 Hy) (anz_3096 Hy)
theorem anz_3098 (Hy : Hyz tys cA base adS Ex) : xall (fun b t => xOK l Dg clz tys cA flz ftz base adS GWz xyz xcz xnz xrz Ex codez bmz bpz b t) 3 387 512 codez_3098 :=
  And.intro (anz_3094 Hy) (anz_3097 Hy)
theorem anz_3099 (Hy : Hyz tys cA base adS Ex) : xall (fun b t => xOK l Dg clz tys cA flz ftz base adS GWz xyz xcz xnz xrz Ex codez bmz bpz b t) 4 131 256 codez_3099 :=
  And.intro (anz_3091 Hy) (anz_3098 Hy)
theorem anz_3100 (Hy : Hyz tys cA base adS Ex) : xall (fun b t => xOK l Dg clz tys cA flz ftz base adS GWz xyz xcz xnz xrz Ex codez bmz bpz b t) 5 3 128 codez_3100 :=
  And.intro (anz_3084 Hy) (anz_3099 Hy)
theorem anz_3101 (Hy : Hyz tys cA base adS Ex) : xall (fun b t => xOK l Dg clz tys cA flz ftz base adS GWz xyz xcz xnz xrz Ex codez bmz bpz b t) 1 67 2048 codez_3101 :=
  And.intro (okz_67 Hy) (okz_2115 Hy)
theorem anz_3102 (Hy : Hyz tys cA base adS Ex) : xall (fun b t => xOK l Dg clz tys cA flz ftz base adS GWz xyz xcz xnz xrz Ex codez bmz bpz b t) 1 1091 2048 codez_3102 :=
  And.intro (okz_1091 Hy) (okzz 3139)
theorem anz_3103 (Hy : Hyz tys cA base adS Ex) : xall (fun b t => xOK l Dg clz tys cA flz ftz base adS GWz xyz xcz xnz xrz Ex codez bmz bpz b t) 2 67 1024 codez_3103 :=
  And.intro (anz_3101 Hy) (anz_3102 Hy)
theorem anz_3104 (Hy : Hyz tys cA base adS Ex) : xall (fun b t => xOK l Dg clz tys cA flz ftz base adS GWz xyz xcz xnz xrz Ex codez bmz bpz b t) 1 579 2048 codez_3104 :=
  And.intro (okz_579 Hy) (okzz 2627)
theorem anz_3105 (Hy : Hyz tys cA base adS Ex) : xall (fun b t => xOK l Dg clz tys cA flz ftz base adS GWz xyz xcz xnz xrz Ex codez bmz bpz b t) 1 1603 2048 codez_3105 :=
  And.intro (okz_1603 Hy) (okzz 3651)
theorem anz_3106 (Hy : Hyz tys cA base adS Ex) : xall (fun b t => xOK l Dg clz tys cA flz ftz base adS GWz xyz xcz xnz xrz Ex codez bmz bpz b t) 2 579 1024 codez_3106 :=
  And.intro (anz_3104 Hy) (anz_3105 Hy)
theorem anz_3107 (Hy : Hyz tys cA base adS Ex) : xall (fun b t => xOK l Dg clz tys cA flz ftz base adS GWz xyz xcz xnz xrz Ex codez bmz bpz b t) 3 67 512 codez_3107 :=
  And.intro (anz_3103 Hy) (anz_3106 Hy)
theorem anz_3108 (Hy : Hyz tys cA base adS Ex) : xall (fun b t => xOK l Dg clz tys cA flz ftz base adS GWz xyz xcz xnz xrz Ex codez bmz bpz b t) 1 323 2048 codez_3108 :=
  And.intro (okz_323 Hy) (okz_2371 Hy)
theorem anz_3109 (Hy : Hyz tys cA base adS Ex) : xall (fun b t => xOK l Dg clz tys cA flz ftz base adS GWz xyz xcz xnz xrz Ex codez bmz bpz b t) 1 1347 2048 codez_3109 :=
  And.intro (okz_1347 Hy) (okzz 3395)
theorem anz_3110 (Hy : Hyz tys cA base adS Ex) : xall (fun b t => xOK l Dg clz tys cA flz ftz base adS GWz xyz xcz xnz xrz Ex codez bmz bpz b t) 2 323 1024 codez_3110 :=
  And.intro (anz_3108 Hy) (anz_3109 Hy)
theorem anz_3111 (Hy : Hyz tys cA base adS Ex) : xall (fun b t => xOK l Dg clz tys cA flz ftz base adS GWz xyz xcz xnz xrz Ex codez bmz bpz b t) 1 835 2048 codez_3111 :=
  And.intro (okz_835 Hy) (okzz 2883)
theorem anz_3112 (Hy : Hyz tys cA base adS Ex) : xall (fun b t => xOK l Dg clz tys cA flz ftz base adS GWz xyz xcz xnz xrz Ex codez bmz bpz b t) 1 1859 2048 codez_3112 :=
  And.intro (okz_1859 Hy) (okzz 3907)
theorem anz_3113 (Hy : Hyz tys cA base adS Ex) : xall (fun b t => xOK l Dg clz tys cA flz ftz base adS GWz xyz xcz xnz xrz Ex codez bmz bpz b t) 2 835 1024 codez_3113 :=
  And.intro (anz_3111 Hy) (anz_3112 Hy)
theorem anz_3114 (Hy : Hyz tys cA base adS Ex) : xall (fun b t => xOK l Dg clz tys cA flz ftz base adS GWz xyz xcz xnz xrz Ex codez bmz bpz b t) 3 323 512 codez_3114 :=
  And.intro (anz_3110 Hy) (anz_3113 Hy)
theorem anz_3115 (Hy : Hyz tys cA base adS Ex) : xall (fun b t => xOK l Dg clz tys cA flz ftz base adS GWz xyz xcz xnz xrz Ex codez bmz bpz b t) 4 67 256 codez_3115 :=
  And.intro (anz_3107 Hy) (anz_3114 Hy)
theorem anz_3116 (Hy : Hyz tys cA base adS Ex) : xall (fun b t => xOK l Dg clz tys cA flz ftz base adS GWz xyz xcz xnz xrz Ex codez bmz bpz b t) 1 195 2048 codez_3116 :=
  And.intro (okz_195 Hy) (okz_2243 Hy)
theorem anz_3117 (Hy : Hyz tys cA base adS Ex) : xall (fun b t => xOK l Dg clz tys cA flz ftz base adS GWz xyz xcz xnz xrz Ex codez bmz bpz b t) 1 1219 2048 codez_3117 :=
  And.intro (okz_1219 Hy) (okzz 3267)
theorem anz_3118 (Hy : Hyz tys cA base adS Ex) : xall (fun b t => xOK l Dg clz tys cA flz ftz base adS GWz xyz xcz xnz xrz Ex codez bmz bpz b t) 2 195 1024 codez_3118 :=
  And.intro (anz_3116 Hy) (anz_3117 Hy)
theorem anz_3119 (Hy : Hyz tys cA base adS Ex) : xall (fun b t => xOK l Dg clz tys cA flz ftz base adS GWz xyz xcz xnz xrz Ex codez bmz bpz b t) 1 707 2048 codez_3119 :=
  And.intro (okz_707 Hy) (okzz 2755)
theorem anz_3120 (Hy : Hyz tys cA base adS Ex) : xall (fun b t => xOK l Dg clz tys cA flz ftz base adS GWz xyz xcz xnz xrz Ex codez bmz bpz b t) 1 1731 2048 codez_3120 :=
  And.intro (okz_1731 Hy) (okzz 3779)
theorem anz_3121 (Hy : Hyz tys cA base adS Ex) : xall (fun b t => xOK l Dg clz tys cA flz ftz base adS GWz xyz xcz xnz xrz Ex codez bmz bpz b t) 2 707 1024 codez_3121 :=
  And.intro (anz_3119 Hy) (anz_3120 Hy)
theorem anz_3122 (Hy : Hyz tys cA base adS Ex) : xall (fun b t => xOK l Dg clz tys cA flz ftz base adS GWz xyz xcz xnz xrz Ex codez bmz bpz b t) 3 195 512 codez_3122 :=
  And.intro (anz_3118 Hy) (anz_3121 Hy)
theorem anz_3123 (Hy : Hyz tys cA base adS Ex) : xall (fun b t => xOK l Dg clz tys cA flz ftz base adS GWz xyz xcz xnz xrz Ex codez bmz bpz b t) 1 451 2048 codez_3123 :=
  And.intro (okz_451 Hy) (okz_2499 Hy)
theorem anz_3124 (Hy : Hyz tys cA base adS Ex) : xall (fun b t => xOK l Dg clz tys cA flz ftz base adS GWz xyz xcz xnz xrz Ex codez bmz bpz b t) 1 1475 2048 codez_3124 :=
  And.intro (okz_1475 Hy) (okzz 3523)
theorem anz_3125 (Hy : Hyz tys cA base adS Ex) : xall (fun b t => xOK l Dg clz tys cA flz ftz base adS GWz xyz xcz xnz xrz Ex codez bmz bpz b t) 2 451 1024 codez_3125 :=
  And.intro (anz_3123 Hy) (anz_3124 Hy)
theorem anz_3126 (Hy : Hyz tys cA base adS Ex) : xall (fun b t => xOK l Dg clz tys cA flz ftz base adS GWz xyz xcz xnz xrz Ex codez bmz bpz b t) 1 963 2048 codez_3126 :=
  And.intro (okz_963 Hy) (okzz 3011)
theorem anz_3127 (Hy : Hyz tys cA base adS Ex) : xall (fun b t => xOK l Dg clz tys cA flz ftz base adS GWz xyz xcz xnz xrz Ex codez bmz bpz b t) 1 1987 2048 codez_3127 :=
  And.intro (okz_1987 Hy) (okzz 4035)
theorem anz_3128 (Hy : Hyz tys cA base adS Ex) : xall (fun b t => xOK l Dg clz tys cA flz ftz base adS GWz xyz xcz xnz xrz Ex codez bmz bpz b t) 2 963 1024 codez_3128 :=
  And.intro (anz_3126 Hy) (anz_3127 Hy)
theorem anz_3129 (Hy : Hyz tys cA base adS Ex) : xall (fun b t => xOK l Dg clz tys cA flz ftz base adS GWz xyz xcz xnz xrz Ex codez bmz bpz b t) 3 451 512 codez_3129 :=
  And.intro (anz_3125 Hy) (anz_3128 Hy)
theorem anz_3130 (Hy : Hyz tys cA base adS Ex) : xall (fun b t => xOK l Dg clz tys cA flz ftz base adS GWz xyz xcz xnz xrz Ex codez bmz bpz b t) 4 195 256 codez_3130 :=
  And.intro (anz_3122 Hy) (anz_3129 Hy)
theorem anz_3131 (Hy : Hyz tys cA base adS Ex) : xall (fun b t => xOK l Dg clz tys cA flz ftz base adS GWz xyz xcz xnz xrz Ex codez bmz bpz b t) 5 67 128 codez_3131 :=
  And.intro (anz_3115 Hy) (anz_3130 Hy)
theorem anz_3132 (Hy : Hyz tys cA base adS Ex) : xall (fun b t => xOK l Dg clz tys cA flz ftz base adS GWz xyz xcz xnz xrz Ex codez bmz bpz b t) 6 3 64 codez_3132 :=
  And.intro (anz_3100 Hy) (anz_3131 Hy)
theorem anz_3133 (Hy : Hyz tys cA base adS Ex) : xall (fun b t => xOK l Dg clz tys cA flz ftz base adS GWz xyz xcz xnz xrz Ex codez bmz bpz b t) 1 35 2048 codez_3133 :=
  And.intro (okz_35 Hy) (okz_2083 Hy)
theorem anz_3134 (Hy : Hyz tys cA base adS Ex) : xall (fun b t => xOK l Dg clz tys cA flz ftz base adS GWz xyz xcz xnz xrz Ex codez bmz bpz b t) 1 1059 2048 codez_3134 :=
  And.intro (okz_1059 Hy) (okzz 3107)
theorem anz_3135 (Hy : Hyz tys cA base adS Ex) : xall (fun b t => xOK l Dg clz tys cA flz ftz base adS GWz xyz xcz xnz xrz Ex codez bmz bpz b t) 2 35 1024 codez_3135 :=
  And.intro (anz_3133 Hy) (anz_3134 Hy)
theorem anz_3136 (Hy : Hyz tys cA base adS Ex) : xall (fun b t => xOK l Dg clz tys cA flz ftz base adS GWz xyz xcz xnz xrz Ex codez bmz bpz b t) 1 547 2048 codez_3136 :=
  And.intro (okz_547 Hy) (okzz 2595)
theorem anz_3137 (Hy : Hyz tys cA base adS Ex) : xall (fun b t => xOK l Dg clz tys cA flz ftz base adS GWz xyz xcz xnz xrz Ex codez bmz bpz b t) 1 1571 2048 codez_3137 :=
  And.intro (okz_1571 Hy) (okzz 3619)
theorem anz_3138 (Hy : Hyz tys cA base adS Ex) : xall (fun b t => xOK l Dg clz tys cA flz ftz base adS GWz xyz xcz xnz xrz Ex codez bmz bpz b t) 2 547 1024 codez_3138 :=
  And.intro (anz_3136 Hy) (anz_3137 Hy)
theorem anz_3139 (Hy : Hyz tys cA base adS Ex) : xall (fun b t => xOK l Dg clz tys cA flz ftz base adS GWz xyz xcz xnz xrz Ex codez bmz bpz b t) 3 35 512 codez_3139 :=
  And.intro (anz_3135 Hy) (anz_3138 Hy)
theorem anz_3140 (Hy : Hyz tys cA base adS Ex) : xall (fun b t => xOK l Dg clz tys cA flz ftz base adS GWz xyz xcz xnz xrz Ex codez bmz bpz b t) 1 291 2048 codez_3140 :=
  And.intro (okz_291 Hy) (okz_2339 Hy)
theorem anz_3141 (Hy : Hyz tys cA base adS Ex) : xall (fun b t => xOK l Dg clz tys cA flz ftz base adS GWz xyz xcz xnz xrz Ex codez bmz bpz b t) 1 1315 2048 codez_3141 :=
  And.intro (okz_1315 Hy) (okzz 3363)
theorem anz_3142 (Hy : Hyz tys cA base adS Ex) : xall (fun b t => xOK l Dg clz tys cA flz ftz base adS GWz xyz xcz xnz xrz Ex codez bmz bpz b t) 2 291 1024 codez_3142 :=
  And.intro (anz_3140 Hy) (anz_3141 Hy)
theorem anz_3143 (Hy : Hyz tys cA base adS Ex) : xall (fun b t => xOK l Dg clz tys cA flz ftz base adS GWz xyz xcz xnz xrz Ex codez bmz bpz b t) 1 803 2048 codez_3143 :=
  And.intro (okz_803 Hy) (okzz 2851)
theorem anz_3144 (Hy : Hyz tys cA base adS Ex) : xall (fun b t => xOK l Dg clz tys cA flz ftz base adS GWz xyz xcz xnz xrz Ex codez bmz bpz b t) 1 1827 2048 codez_3144 :=
  And.intro (okz_1827 Hy) (okzz 3875)
theorem anz_3145 (Hy : Hyz tys cA base adS Ex) : xall (fun b t => xOK l Dg clz tys cA flz ftz base adS GWz xyz xcz xnz xrz Ex codez bmz bpz b t) 2 803 1024 codez_3145 :=
  And.intro (anz_3143 Hy) (anz_3144 Hy)
theorem anz_3146 (Hy : Hyz tys cA base adS Ex) : xall (fun b t => xOK l Dg clz tys cA flz ftz base adS GWz xyz xcz xnz xrz Ex codez bmz bpz b t) 3 291 512 codez_3146 :=
  And.intro (anz_3142 Hy) (anz_3145 Hy)
theorem anz_3147 (Hy : Hyz tys cA base adS Ex) : xall (fun b t => xOK l Dg clz tys cA flz ftz base adS GWz xyz xcz xnz xrz Ex codez bmz bpz b t) 4 35 256 codez_3147 :=
  And.intro (anz_3139 Hy) (anz_3146 Hy)
theorem anz_3148 (Hy : Hyz tys cA base adS Ex) : xall (fun b t => xOK l Dg clz tys cA flz ftz base adS GWz xyz xcz xnz xrz Ex codez bmz bpz b t) 1 163 2048 codez_3148 :=
  And.intro (okz_163 Hy) (okz_2211 Hy)
theorem anz_3149 (Hy : Hyz tys cA base adS Ex) : xall (fun b t => xOK l Dg clz tys cA flz ftz base adS GWz xyz xcz xnz xrz Ex codez bmz bpz b t) 1 1187 2048 codez_3149 :=
  And.intro (okz_1187 Hy) (okzz 3235)
theorem anz_3150 (Hy : Hyz tys cA base adS Ex) : xall (fun b t => xOK l Dg clz tys cA flz ftz base adS GWz xyz xcz xnz xrz Ex codez bmz bpz b t) 2 163 1024 codez_3150 :=
  And.intro (anz_3148 Hy) (anz_3149 Hy)
theorem anz_3151 (Hy : Hyz tys cA base adS Ex) : xall (fun b t => xOK l Dg clz tys cA flz ftz base adS GWz xyz xcz xnz xrz Ex codez bmz bpz b t) 1 675 2048 codez_3151 :=
  And.intro (okz_675 Hy) (okzz 2723)
theorem anz_3152 (Hy : Hyz tys cA base adS Ex) : xall (fun b t => xOK l Dg clz tys cA flz ftz base adS GWz xyz xcz xnz xrz Ex codez bmz bpz b t) 1 1699 2048 codez_3152 :=
  And.intro (okz_1699 Hy) (okzz 3747)
theorem anz_3153 (Hy : Hyz tys cA base adS Ex) : xall (fun b t => xOK l Dg clz tys cA flz ftz base adS GWz xyz xcz xnz xrz Ex codez bmz bpz b t) 2 675 1024 codez_3153 :=
  And.intro (anz_3151 Hy) (anz_3152 Hy)
theorem anz_3154 (Hy : Hyz tys cA base adS Ex) : xall (fun b t => xOK l Dg clz tys cA flz ftz base adS GWz xyz xcz xnz xrz Ex codez bmz bpz b t) 3 163 512 codez_3154 :=
  And.intro (anz_3150 Hy) (anz_3153 Hy)
theorem anz_3155 (Hy : Hyz tys cA base adS Ex) : xall (fun b t => xOK l Dg clz tys cA flz ftz base adS GWz xyz xcz xnz xrz Ex codez bmz bpz b t) 1 419 2048 codez_3155 :=
  And.intro (okz_419 Hy) (okz_2467 Hy)
theorem anz_3156 (Hy : Hyz tys cA base adS Ex) : xall (fun b t => xOK l Dg clz tys cA flz ftz base adS GWz xyz xcz xnz xrz Ex codez bmz bpz b t) 1 1443 2048 codez_3156 :=
  And.intro (okz_1443 Hy) (okzz 3491)
theorem anz_3157 (Hy : Hyz tys cA base adS Ex) : xall (fun b t => xOK l Dg clz tys cA flz ftz base adS GWz xyz xcz xnz xrz Ex codez bmz bpz b t) 2 419 1024 codez_3157 :=
  And.intro (anz_3155 Hy) (anz_3156 Hy)
theorem anz_3158 (Hy : Hyz tys cA base adS Ex) : xall (fun b t => xOK l Dg clz tys cA flz ftz base adS GWz xyz xcz xnz xrz Ex codez bmz bpz b t) 1 931 2048 codez_3158 :=
  And.intro (okz_931 Hy) (okzz 2979)
theorem anz_3159 (Hy : Hyz tys cA base adS Ex) : xall (fun b t => xOK l Dg clz tys cA flz ftz base adS GWz xyz xcz xnz xrz Ex codez bmz bpz b t) 1 1955 2048 codez_3159 :=
  And.intro (okz_1955 Hy) (okzz 4003)
theorem anz_3160 (Hy : Hyz tys cA base adS Ex) : xall (fun b t => xOK l Dg clz tys cA flz ftz base adS GWz xyz xcz xnz xrz Ex codez bmz bpz b t) 2 931 1024 codez_3160 :=
  And.intro (anz_3158 Hy) (anz_3159 Hy)
theorem anz_3161 (Hy : Hyz tys cA base adS Ex) : xall (fun b t => xOK l Dg clz tys cA flz ftz base adS GWz xyz xcz xnz xrz Ex codez bmz bpz b t) 3 419 512 codez_3161 :=
  And.intro (anz_3157 Hy) (anz_3160 Hy)
theorem anz_3162 (Hy : Hyz tys cA base adS Ex) : xall (fun b t => xOK l Dg clz tys cA flz ftz base adS GWz xyz xcz xnz xrz Ex codez bmz bpz b t) 4 163 256 codez_3162 :=
  And.intro (anz_3154 Hy) (anz_3161 Hy)
theorem anz_3163 (Hy : Hyz tys cA base adS Ex) : xall (fun b t => xOK l Dg clz tys cA flz ftz base adS GWz xyz xcz xnz xrz Ex codez bmz bpz b t) 5 35 128 codez_3163 :=
  And.intro (anz_3147 Hy) (anz_3162 Hy)
theorem anz_3164 (Hy : Hyz tys cA base adS Ex) : xall (fun b t => xOK l Dg clz tys cA flz ftz base adS GWz xyz xcz xnz xrz Ex codez bmz bpz b t) 1 99 2048 codez_3164 :=
  And.intro (okz_99 Hy) (okz_2147 Hy)
theorem anz_3165 (Hy : Hyz tys cA base adS Ex) : xall (fun b t => xOK l Dg clz tys cA flz ftz base adS GWz xyz xcz xnz xrz Ex codez bmz bpz b t) 1 1123 2048 codez_3165 :=
  And.intro (okz_1123 Hy) (okzz 3171)
theorem anz_3166 (Hy : Hyz tys cA base adS Ex) : xall (fun b t => xOK l Dg clz tys cA flz ftz base adS GWz xyz xcz xnz xrz Ex codez bmz bpz b t) 2 99 1024 codez_3166 :=
  And.intro (anz_3164 Hy) (anz_3165 Hy)
theorem anz_3167 (Hy : Hyz tys cA base adS Ex) : xall (fun b t => xOK l Dg clz tys cA flz ftz base adS GWz xyz xcz xnz xrz Ex codez bmz bpz b t) 1 611 2048 codez_3167 :=
  And.intro (okz_611 Hy) (okzz 2659)
theorem anz_3168 (Hy : Hyz tys cA base adS Ex) : xall (fun b t => xOK l Dg clz tys cA flz ftz base adS GWz xyz xcz xnz xrz Ex codez bmz bpz b t) 1 1635 2048 codez_3168 :=
  And.intro (okz_1635 Hy) (okzz 3683)
theorem anz_3169 (Hy : Hyz tys cA base adS Ex) : xall (fun b t => xOK l Dg clz tys cA flz ftz base adS GWz xyz xcz xnz xrz Ex codez bmz bpz b t) 2 611 1024 codez_3169 :=
  And.intro (anz_3167 Hy) (anz_3168 Hy)
theorem anz_3170 (Hy : Hyz tys cA base adS Ex) : xall (fun b t => xOK l Dg clz tys cA flz ftz base adS GWz xyz xcz xnz xrz Ex codez bmz bpz b t) 3 99 512 codez_3170 :=
  And.intro (anz_3166 Hy) (anz_3169 Hy)
theorem anz_3171 (Hy : Hyz tys cA base adS Ex) : xall (fun b t => xOK l Dg clz tys cA flz ftz base adS GWz xyz xcz xnz xrz Ex codez bmz bpz b t) 1 355 2048 codez_3171 :=
  And.intro (okz_355 Hy) (okz_2403 Hy)
theorem anz_3172 (Hy : Hyz tys cA base adS Ex) : xall (fun b t => xOK l Dg clz tys cA flz ftz base adS GWz xyz xcz xnz xrz Ex codez bmz bpz b t) 1 1379 2048 codez_3172 :=
  And.intro (okz_1379 Hy) (okzz 3427)
theorem anz_3173 (Hy : Hyz tys cA base adS Ex) : xall (fun b t => xOK l Dg clz tys cA flz ftz base adS GWz xyz xcz xnz xrz Ex codez bmz bpz b t) 2 355 1024 codez_3173 :=
  And.intro (anz_3171 Hy) (anz_3172 Hy)
theorem anz_3174 (Hy : Hyz tys cA base adS Ex) : xall (fun b t => xOK l Dg clz tys cA flz ftz base adS GWz xyz xcz xnz xrz Ex codez bmz bpz b t) 1 867 2048 codez_3174 :=
  And.intro (okz_867 Hy) (okzz 2915)
theorem anz_3175 (Hy : Hyz tys cA base adS Ex) : xall (fun b t => xOK l Dg clz tys cA flz ftz base adS GWz xyz xcz xnz xrz Ex codez bmz bpz b t) 1 1891 2048 codez_3175 :=
  And.intro (okz_1891 Hy) (okzz 3939)
theorem anz_3176 (Hy : Hyz tys cA base adS Ex) : xall (fun b t => xOK l Dg clz tys cA flz ftz base adS GWz xyz xcz xnz xrz Ex codez bmz bpz b t) 2 867 1024 codez_3176 :=
  And.intro (anz_3174 Hy) (anz_3175 Hy)
theorem anz_3177 (Hy : Hyz tys cA base adS Ex) : xall (fun b t => xOK l Dg clz tys cA flz ftz base adS GWz xyz xcz xnz xrz Ex codez bmz bpz b t) 3 355 512 codez_3177 :=
  And.intro (anz_3173 Hy) (anz_3176 Hy)
theorem anz_3178 (Hy : Hyz tys cA base adS Ex) : xall (fun b t => xOK l Dg clz tys cA flz ftz base adS GWz xyz xcz xnz xrz Ex codez bmz bpz b t) 4 99 256 codez_3178 :=
  And.intro (anz_3170 Hy) (anz_3177 Hy)
theorem anz_3179 (Hy : Hyz tys cA base adS Ex) : xall (fun b t => xOK l Dg clz tys cA flz ftz base adS GWz xyz xcz xnz xrz Ex codez bmz bpz b t) 1 227 2048 codez_3179 :=
  And.intro (okz_227 Hy) (okz_2275 Hy)
theorem anz_3180 (Hy : Hyz tys cA base adS Ex) : xall (fun b t => xOK l Dg clz tys cA flz ftz base adS GWz xyz xcz xnz xrz Ex codez bmz bpz b t) 1 1251 2048 codez_3180 :=
  And.intro (okz_1251 Hy) (okzz 3299)
theorem anz_3181 (Hy : Hyz tys cA base adS Ex) : xall (fun b t => xOK l Dg clz tys cA flz ftz base adS GWz xyz xcz xnz xrz Ex codez bmz bpz b t) 2 227 1024 codez_3181 :=
  And.intro (anz_3179 Hy) (anz_3180 Hy)
theorem anz_3182 (Hy : Hyz tys cA base adS Ex) : xall (fun b t => xOK l Dg clz tys cA flz ftz base adS GWz xyz xcz xnz xrz Ex codez bmz bpz b t) 1 739 2048 codez_3182 :=
  And.intro (okz_739 Hy) (okzz 2787)
theorem anz_3183 (Hy : Hyz tys cA base adS Ex) : xall (fun b t => xOK l Dg clz tys cA flz ftz base adS GWz xyz xcz xnz xrz Ex codez bmz bpz b t) 1 1763 2048 codez_3183 :=
  And.intro (okz_1763 Hy) (okzz 3811)
theorem anz_3184 (Hy : Hyz tys cA base adS Ex) : xall (fun b t => xOK l Dg clz tys cA flz ftz base adS GWz xyz xcz xnz xrz Ex codez bmz bpz b t) 2 739 1024 codez_3184 :=
  And.intro (anz_3182 Hy) (anz_3183 Hy)
theorem anz_3185 (Hy : Hyz tys cA base adS Ex) : xall (fun b t => xOK l Dg clz tys cA flz ftz base adS GWz xyz xcz xnz xrz Ex codez bmz bpz b t) 3 227 512 codez_3185 :=
  And.intro (anz_3181 Hy) (anz_3184 Hy)
theorem anz_3186 (Hy : Hyz tys cA base adS Ex) : xall (fun b t => xOK l Dg clz tys cA flz ftz base adS GWz xyz xcz xnz xrz Ex codez bmz bpz b t) 1 483 2048 codez_3186 :=
  And.intro (okz_483 Hy) (okz_2531 Hy)
theorem anz_3187 (Hy : Hyz tys cA base adS Ex) : xall (fun b t => xOK l Dg clz tys cA flz ftz base adS GWz xyz xcz xnz xrz Ex codez bmz bpz b t) 1 1507 2048 codez_3187 :=
  And.intro (okz_1507 Hy) (okzz 3555)
theorem anz_3188 (Hy : Hyz tys cA base adS Ex) : xall (fun b t => xOK l Dg clz tys cA flz ftz base adS GWz xyz xcz xnz xrz Ex codez bmz bpz b t) 2 483 1024 codez_3188 :=
  And.intro (anz_3186 Hy) (anz_3187 Hy)
theorem anz_3189 (Hy : Hyz tys cA base adS Ex) : xall (fun b t => xOK l Dg clz tys cA flz ftz base adS GWz xyz xcz xnz xrz Ex codez bmz bpz b t) 1 995 2048 codez_3189 :=
  And.intro (okz_995 Hy) (okzz 3043)
theorem anz_3190 (Hy : Hyz tys cA base adS Ex) : xall (fun b t => xOK l Dg clz tys cA flz ftz base adS GWz xyz xcz xnz xrz Ex codez bmz bpz b t) 1 2019 2048 codez_3190 :=
  And.intro (okz_2019 Hy) (okzz 4067)
theorem anz_3191 (Hy : Hyz tys cA base adS Ex) : xall (fun b t => xOK l Dg clz tys cA flz ftz base adS GWz xyz xcz xnz xrz Ex codez bmz bpz b t) 2 995 1024 codez_3191 :=
  And.intro (anz_3189 Hy) (anz_3190 Hy)
theorem anz_3192 (Hy : Hyz tys cA base adS Ex) : xall (fun b t => xOK l Dg clz tys cA flz ftz base adS GWz xyz xcz xnz xrz Ex codez bmz bpz b t) 3 483 512 codez_3192 :=
  And.intro (anz_3188 Hy) (anz_3191 Hy)
theorem anz_3193 (Hy : Hyz tys cA base adS Ex) : xall (fun b t => xOK l Dg clz tys cA flz ftz base adS GWz xyz xcz xnz xrz Ex codez bmz bpz b t) 4 227 256 codez_3193 :=
  And.intro (anz_3185 Hy) (anz_3192 Hy)
theorem anz_3194 (Hy : Hyz tys cA base adS Ex) : xall (fun b t => xOK l Dg clz tys cA flz ftz base adS GWz xyz xcz xnz xrz Ex codez bmz bpz b t) 5 99 128 codez_3194 :=
  And.intro (anz_3178 Hy) (anz_3193 Hy)
theorem anz_3195 (Hy : Hyz tys cA base adS Ex) : xall (fun b t => xOK l Dg clz tys cA flz ftz base adS GWz xyz xcz xnz xrz Ex codez bmz bpz b t) 6 35 64 codez_3195 :=
  And.intro (anz_3163 Hy) (anz_3194 Hy)
theorem anz_3196 (Hy : Hyz tys cA base adS Ex) : xall (fun b t => xOK l Dg clz tys cA flz ftz base adS GWz xyz xcz xnz xrz Ex codez bmz bpz b t) 7 3 32 codez_3196 :=
  And.intro (anz_3132 Hy) (anz_3195 Hy)
theorem anz_3197 (Hy : Hyz tys cA base adS Ex) : xall (fun b t => xOK l Dg clz tys cA flz ftz base adS GWz xyz xcz xnz xrz Ex codez bmz bpz b t) 1 19 2048 codez_3197 :=
  And.intro (okz_19 Hy) (okz_2067 Hy)
theorem anz_3198 (Hy : Hyz tys cA base adS Ex) : xall (fun b t => xOK l Dg clz tys cA flz ftz base adS GWz xyz xcz xnz xrz Ex codez bmz bpz b t) 1 1043 2048 codez_3198 :=
  And.intro (okz_1043 Hy) (okzz 3091)
theorem anz_3199 (Hy : Hyz tys cA base adS Ex) : xall (fun b t => xOK l Dg clz tys cA flz ftz base adS GWz xyz xcz xnz xrz Ex codez bmz bpz b t) 2 19 1024 codez_3199 :=
  And.intro (anz_3197 Hy) (anz_3198 Hy)
theorem anz_3200 (Hy : Hyz tys cA base adS Ex) : xall (fun b t => xOK l Dg clz tys cA flz ftz base adS GWz xyz xcz xnz xrz Ex codez bmz bpz b t) 1 531 2048 codez_3200 :=
  And.intro (okz_531 Hy) (okzz 2579)
theorem anz_3201 (Hy : Hyz tys cA base adS Ex) : xall (fun b t => xOK l Dg clz tys cA flz ftz base adS GWz xyz xcz xnz xrz Ex codez bmz bpz b t) 1 1555 2048 codez_3201 :=
  And.intro (okz_1555 Hy) (okzz 3603)
theorem anz_3202 (Hy : Hyz tys cA base adS Ex) : xall (fun b t => xOK l Dg clz tys cA flz ftz base adS GWz xyz xcz xnz xrz Ex codez bmz bpz b t) 2 531 1024 codez_3202 :=
  And.intro (anz_3200 Hy) (anz_3201 Hy)
theorem anz_3203 (Hy : Hyz tys cA base adS Ex) : xall (fun b t => xOK l Dg clz tys cA flz ftz base adS GWz xyz xcz xnz xrz Ex codez bmz bpz b t) 3 19 512 codez_3203 :=
  And.intro (anz_3199 Hy) (anz_3202 Hy)
theorem anz_3204 (Hy : Hyz tys cA base adS Ex) : xall (fun b t => xOK l Dg clz tys cA flz ftz base adS GWz xyz xcz xnz xrz Ex codez bmz bpz b t) 1 275 2048 codez_3204 :=
  And.intro (okz_275 Hy) (okz_2323 Hy)
theorem anz_3205 (Hy : Hyz tys cA base adS Ex) : xall (fun b t => xOK l Dg clz tys cA flz ftz base adS GWz xyz xcz xnz xrz Ex codez bmz bpz b t) 1 1299 2048 codez_3205 :=
  And.intro (okz_1299 Hy) (okzz 3347)
theorem anz_3206 (Hy : Hyz tys cA base adS Ex) : xall (fun b t => xOK l Dg clz tys cA flz ftz base adS GWz xyz xcz xnz xrz Ex codez bmz bpz b t) 2 275 1024 codez_3206 :=
  And.intro (anz_3204 Hy) (anz_3205 Hy)
theorem anz_3207 (Hy : Hyz tys cA base adS Ex) : xall (fun b t => xOK l Dg clz tys cA flz ftz base adS GWz xyz xcz xnz xrz Ex codez bmz bpz b t) 1 787 2048 codez_3207 :=
  And.intro (okz_787 Hy) (okzz 2835)
theorem anz_3208 (Hy : Hyz tys cA base adS Ex) : xall (fun b t => xOK l Dg clz tys cA flz ftz base adS GWz xyz xcz xnz xrz Ex codez bmz bpz b t) 1 1811 2048 codez_3208 :=
  And.intro (okz_1811 Hy) (okzz 3859)
theorem anz_3209 (Hy : Hyz tys cA base adS Ex) : xall (fun b t => xOK l Dg clz tys cA flz ftz base adS GWz xyz xcz xnz xrz Ex codez bmz bpz b t) 2 787 1024 codez_3209 :=
  And.intro (anz_3207 Hy) (anz_3208 Hy)
theorem anz_3210 (Hy : Hyz tys cA base adS Ex) : xall (fun b t => xOK l Dg clz tys cA flz ftz base adS GWz xyz xcz xnz xrz Ex codez bmz bpz b t) 3 275 512 codez_3210 :=
  And.intro (anz_3206 Hy) (anz_3209 Hy)
theorem anz_3211 (Hy : Hyz tys cA base adS Ex) : xall (fun b t => xOK l Dg clz tys cA flz ftz base adS GWz xyz xcz xnz xrz Ex codez bmz bpz b t) 4 19 256 codez_3211 :=
  And.intro (anz_3203 Hy) (anz_3210 Hy)
theorem anz_3212 (Hy : Hyz tys cA base adS Ex) : xall (fun b t => xOK l Dg clz tys cA flz ftz base adS GWz xyz xcz xnz xrz Ex codez bmz bpz b t) 1 147 2048 codez_3212 :=
  And.intro (okz_147 Hy) (okz_2195 Hy)
theorem anz_3213 (Hy : Hyz tys cA base adS Ex) : xall (fun b t => xOK l Dg clz tys cA flz ftz base adS GWz xyz xcz xnz xrz Ex codez bmz bpz b t) 1 1171 2048 codez_3213 :=
  And.intro (okz_1171 Hy) (okzz 3219)
theorem anz_3214 (Hy : Hyz tys cA base adS Ex) : xall (fun b t => xOK l Dg clz tys cA flz ftz base adS GWz xyz xcz xnz xrz Ex codez bmz bpz b t) 2 147 1024 codez_3214 :=
  And.intro (anz_3212 Hy) (anz_3213 Hy)
theorem anz_3215 (Hy : Hyz tys cA base adS Ex) : xall (fun b t => xOK l Dg clz tys cA flz ftz base adS GWz xyz xcz xnz xrz Ex codez bmz bpz b t) 1 659 2048 codez_3215 :=
  And.intro (okz_659 Hy) (okzz 2707)
theorem anz_3216 (Hy : Hyz tys cA base adS Ex) : xall (fun b t => xOK l Dg clz tys cA flz ftz base adS GWz xyz xcz xnz xrz Ex codez bmz bpz b t) 1 1683 2048 codez_3216 :=
  And.intro (okz_1683 Hy) (okzz 3731)
theorem anz_3217 (Hy : Hyz tys cA base adS Ex) : xall (fun b t => xOK l Dg clz tys cA flz ftz base adS GWz xyz xcz xnz xrz Ex codez bmz bpz b t) 2 659 1024 codez_3217 :=
  And.intro (anz_3215 Hy) (anz_3216 Hy)
theorem anz_3218 (Hy : Hyz tys cA base adS Ex) : xall (fun b t => xOK l Dg clz tys cA flz ftz base adS GWz xyz xcz xnz xrz Ex codez bmz bpz b t) 3 147 512 codez_3218 :=
  And.intro (anz_3214 Hy) (anz_3217 Hy)
theorem anz_3219 (Hy : Hyz tys cA base adS Ex) : xall (fun b t => xOK l Dg clz tys cA flz ftz base adS GWz xyz xcz xnz xrz Ex codez bmz bpz b t) 1 403 2048 codez_3219 :=
  And.intro (okz_403 Hy) (okz_2451 Hy)
theorem anz_3220 (Hy : Hyz tys cA base adS Ex) : xall (fun b t => xOK l Dg clz tys cA flz ftz base adS GWz xyz xcz xnz xrz Ex codez bmz bpz b t) 1 1427 2048 codez_3220 :=
  And.intro (okz_1427 Hy) (okzz 3475)
theorem anz_3221 (Hy : Hyz tys cA base adS Ex) : xall (fun b t => xOK l Dg clz tys cA flz ftz base adS GWz xyz xcz xnz xrz Ex codez bmz bpz b t) 2 403 1024 codez_3221 :=
  And.intro (anz_3219 Hy) (anz_3220 Hy)
theorem anz_3222 (Hy : Hyz tys cA base adS Ex) : xall (fun b t => xOK l Dg clz tys cA flz ftz base adS GWz xyz xcz xnz xrz Ex codez bmz bpz b t) 1 915 2048 codez_3222 :=
  And.intro (okz_915 Hy) (okzz 2963)
theorem anz_3223 (Hy : Hyz tys cA base adS Ex) : xall (fun b t => xOK l Dg clz tys cA flz ftz base adS GWz xyz xcz xnz xrz Ex codez bmz bpz b t) 1 1939 2048 codez_3223 :=
  And.intro (okz_1939 Hy) (okzz 3987)
theorem anz_3224 (Hy : Hyz tys cA base adS Ex) : xall (fun b t => xOK l Dg clz tys cA flz ftz base adS GWz xyz xcz xnz xrz Ex codez bmz bpz b t) 2 915 1024 codez_3224 :=
  And.intro (anz_3222 Hy) (anz_3223 Hy)
theorem anz_3225 (Hy : Hyz tys cA base adS Ex) : xall (fun b t => xOK l Dg clz tys cA flz ftz base adS GWz xyz xcz xnz xrz Ex codez bmz bpz b t) 3 403 512 codez_3225 :=
  And.intro (anz_3221 Hy) (anz_3224 Hy)
theorem anz_3226 (Hy : Hyz tys cA base adS Ex) : xall (fun b t => xOK l Dg clz tys cA flz ftz base adS GWz xyz xcz xnz xrz Ex codez bmz bpz b t) 4 147 256 codez_3226 :=
  And.intro (anz_3218 Hy) (anz_3225 Hy)
theorem anz_3227 (Hy : Hyz tys cA base adS Ex) : xall (fun b t => xOK l Dg clz tys cA flz ftz base adS GWz xyz xcz xnz xrz Ex codez bmz bpz b t) 5 19 128 codez_3227 :=
  And.intro (anz_3211 Hy) (anz_3226 Hy)
theorem anz_3228 (Hy : Hyz tys cA base adS Ex) : xall (fun b t => xOK l Dg clz tys cA flz ftz base adS GWz xyz xcz xnz xrz Ex codez bmz bpz b t) 1 83 2048 codez_3228 :=
  And.intro (okz_83 Hy) (okz_2131 Hy)
theorem anz_3229 (Hy : Hyz tys cA base adS Ex) : xall (fun b t => xOK l Dg clz tys cA flz ftz base adS GWz xyz xcz xnz xrz Ex codez bmz bpz b t) 1 1107 2048 codez_3229 :=
  And.intro (okz_1107 Hy) (okzz 3155)
theorem anz_3230 (Hy : Hyz tys cA base adS Ex) : xall (fun b t => xOK l Dg clz tys cA flz ftz base adS GWz xyz xcz xnz xrz Ex codez bmz bpz b t) 2 83 1024 codez_3230 :=
  And.intro (anz_3228 Hy) (anz_3229 Hy)
theorem anz_3231 (Hy : Hyz tys cA base adS Ex) : xall (fun b t => xOK l Dg clz tys cA flz ftz base adS GWz xyz xcz xnz xrz Ex codez bmz bpz b t) 1 595 2048 codez_3231 :=
  And.intro (okz_595 Hy) (okzz 2643)
theorem anz_3232 (Hy : Hyz tys cA base adS Ex) : xall (fun b t => xOK l Dg clz tys cA flz ftz base adS GWz xyz xcz xnz xrz Ex codez bmz bpz b t) 1 1619 2048 codez_3232 :=
  And.intro (okz_1619 Hy) (okzz 3667)
theorem anz_3233 (Hy : Hyz tys cA base adS Ex) : xall (fun b t => xOK l Dg clz tys cA flz ftz base adS GWz xyz xcz xnz xrz Ex codez bmz bpz b t) 2 595 1024 codez_3233 :=
  And.intro (anz_3231 Hy) (anz_3232 Hy)
theorem anz_3234 (Hy : Hyz tys cA base adS Ex) : xall (fun b t => xOK l Dg clz tys cA flz ftz base adS GWz xyz xcz xnz xrz Ex codez bmz bpz b t) 3 83 512 codez_3234 :=
  And.intro (anz_3230 Hy) (anz_3233 Hy)
theorem anz_3235 (Hy : Hyz tys cA base adS Ex) : xall (fun b t => xOK l Dg clz tys cA flz ftz base adS GWz xyz xcz xnz xrz Ex codez bmz bpz b t) 1 339 2048 codez_3235 :=
  And.intro (okz_339 Hy) (okz_2387 Hy)
theorem anz_3236 (Hy : Hyz tys cA base adS Ex) : xall (fun b t => xOK l Dg clz tys cA flz ftz base adS GWz xyz xcz xnz xrz Ex codez bmz bpz b t) 1 1363 2048 codez_3236 :=
  And.intro (okz_1363 Hy) (okzz 3411)
theorem anz_3237 (Hy : Hyz tys cA base adS Ex) : xall (fun b t => xOK l Dg clz tys cA flz ftz base adS GWz xyz xcz xnz xrz Ex codez bmz bpz b t) 2 339 1024 codez_3237 :=
  And.intro (anz_3235 Hy) (anz_3236 Hy)
theorem anz_3238 (Hy : Hyz tys cA base adS Ex) : xall (fun b t => xOK l Dg clz tys cA flz ftz base adS GWz xyz xcz xnz xrz Ex codez bmz bpz b t) 1 851 2048 codez_3238 :=
  And.intro (okz_851 Hy) (okzz 2899)
theorem anz_3239 (Hy : Hyz tys cA base adS Ex) : xall (fun b t => xOK l Dg clz tys cA flz ftz base adS GWz xyz xcz xnz xrz Ex codez bmz bpz b t) 1 1875 2048 codez_3239 :=
  And.intro (okz_1875 Hy) (okzz 3923)
theorem anz_3240 (Hy : Hyz tys cA base adS Ex) : xall (fun b t => xOK l Dg clz tys cA flz ftz base adS GWz xyz xcz xnz xrz Ex codez bmz bpz b t) 2 851 1024 codez_3240 :=
  And.intro (anz_3238 Hy) (anz_3239 Hy)
theorem anz_3241 (Hy : Hyz tys cA base adS Ex) : xall (fun b t => xOK l Dg clz tys cA flz ftz base adS GWz xyz xcz xnz xrz Ex codez bmz bpz b t) 3 339 512 codez_3241 :=
  And.intro (anz_3237 Hy) (anz_3240 Hy)
theorem anz_3242 (Hy : Hyz tys cA base adS Ex) : xall (fun b t => xOK l Dg clz tys cA flz ftz base adS GWz xyz xcz xnz xrz Ex codez bmz bpz b t) 4 83 256 codez_3242 :=
  And.intro (anz_3234 Hy) (anz_3241 Hy)
theorem anz_3243 (Hy : Hyz tys cA base adS Ex) : xall (fun b t => xOK l Dg clz tys cA flz ftz base adS GWz xyz xcz xnz xrz Ex codez bmz bpz b t) 1 211 2048 codez_3243 :=
  And.intro (okz_211 Hy) (okz_2259 Hy)
theorem anz_3244 (Hy : Hyz tys cA base adS Ex) : xall (fun b t => xOK l Dg clz tys cA flz ftz base adS GWz xyz xcz xnz xrz Ex codez bmz bpz b t) 1 1235 2048 codez_3244 :=
  And.intro (okz_1235 Hy) (okzz 3283)
theorem anz_3245 (Hy : Hyz tys cA base adS Ex) : xall (fun b t => xOK l Dg clz tys cA flz ftz base adS GWz xyz xcz xnz xrz Ex codez bmz bpz b t) 2 211 1024 codez_3245 :=
  And.intro (anz_3243 Hy) (anz_3244 Hy)
theorem anz_3246 (Hy : Hyz tys cA base adS Ex) : xall (fun b t => xOK l Dg clz tys cA flz ftz base adS GWz xyz xcz xnz xrz Ex codez bmz bpz b t) 1 723 2048 codez_3246 :=
  And.intro (okz_723 Hy) (okzz 2771)
theorem anz_3247 (Hy : Hyz tys cA base adS Ex) : xall (fun b t => xOK l Dg clz tys cA flz ftz base adS GWz xyz xcz xnz xrz Ex codez bmz bpz b t) 1 1747 2048 codez_3247 :=
  And.intro (okz_1747 Hy) (okzz 3795)
theorem anz_3248 (Hy : Hyz tys cA base adS Ex) : xall (fun b t => xOK l Dg clz tys cA flz ftz base adS GWz xyz xcz xnz xrz Ex codez bmz bpz b t) 2 723 1024 codez_3248 :=
  And.intro (anz_3246 Hy) (anz_3247 Hy)
theorem anz_3249 (Hy : Hyz tys cA base adS Ex) : xall (fun b t => xOK l Dg clz tys cA flz ftz base adS GWz xyz xcz xnz xrz Ex codez bmz bpz b t) 3 211 512 codez_3249 :=
  And.intro (anz_3245 Hy) (anz_3248 Hy)
theorem anz_3250 (Hy : Hyz tys cA base adS Ex) : xall (fun b t => xOK l Dg clz tys cA flz ftz base adS GWz xyz xcz xnz xrz Ex codez bmz bpz b t) 1 467 2048 codez_3250 :=
  And.intro (okz_467 Hy) (okz_2515 Hy)
theorem anz_3251 (Hy : Hyz tys cA base adS Ex) : xall (fun b t => xOK l Dg clz tys cA flz ftz base adS GWz xyz xcz xnz xrz Ex codez bmz bpz b t) 1 1491 2048 codez_3251 :=
  And.intro (okz_1491 Hy) (okzz 3539)
theorem anz_3252 (Hy : Hyz tys cA base adS Ex) : xall (fun b t => xOK l Dg clz tys cA flz ftz base adS GWz xyz xcz xnz xrz Ex codez bmz bpz b t) 2 467 1024 codez_3252 :=
  And.intro (anz_3250 Hy) (anz_3251 Hy)
theorem anz_3253 (Hy : Hyz tys cA base adS Ex) : xall (fun b t => xOK l Dg clz tys cA flz ftz base adS GWz xyz xcz xnz xrz Ex codez bmz bpz b t) 1 979 2048 codez_3253 :=
  And.intro (okz_979 Hy) (okzz 3027)
theorem anz_3254 (Hy : Hyz tys cA base adS Ex) : xall (fun b t => xOK l Dg clz tys cA flz ftz base adS GWz xyz xcz xnz xrz Ex codez bmz bpz b t) 1 2003 2048 codez_3254 :=
  And.intro (okz_2003 Hy) (okzz 4051)
theorem anz_3255 (Hy : Hyz tys cA base adS Ex) : xall (fun b t => xOK l Dg clz tys cA flz ftz base adS GWz xyz xcz xnz xrz Ex codez bmz bpz b t) 2 979 1024 codez_3255 :=
  And.intro (anz_3253 Hy) (anz_3254 Hy)
theorem anz_3256 (Hy : Hyz tys cA base adS Ex) : xall (fun b t => xOK l Dg clz tys cA flz ftz base adS GWz xyz xcz xnz xrz Ex codez bmz bpz b t) 3 467 512 codez_3256 :=
  And.intro (anz_3252 Hy) (anz_3255 Hy)
theorem anz_3257 (Hy : Hyz tys cA base adS Ex) : xall (fun b t => xOK l Dg clz tys cA flz ftz base adS GWz xyz xcz xnz xrz Ex codez bmz bpz b t) 4 211 256 codez_3257 :=
  And.intro (anz_3249 Hy) (anz_3256 Hy)
theorem anz_3258 (Hy : Hyz tys cA base adS Ex) : xall (fun b t => xOK l Dg clz tys cA flz ftz base adS GWz xyz xcz xnz xrz Ex codez bmz bpz b t) 5 83 128 codez_3258 :=
  And.intro (anz_3242 Hy) (anz_3257 Hy)
theorem anz_3259 (Hy : Hyz tys cA base adS Ex) : xall (fun b t => xOK l Dg clz tys cA flz ftz base adS GWz xyz xcz xnz xrz Ex codez bmz bpz b t) 6 19 64 codez_3259 :=
  And.intro (anz_3227 Hy) (anz_3258 Hy)
theorem anz_3260 (Hy : Hyz tys cA base adS Ex) : xall (fun b t => xOK l Dg clz tys cA flz ftz base adS GWz xyz xcz xnz xrz Ex codez bmz bpz b t) 1 51 2048 codez_3260 :=
  And.intro (okz_51 Hy) (okz_2099 Hy)
theorem anz_3261 (Hy : Hyz tys cA base adS Ex) : xall (fun b t => xOK l Dg clz tys cA flz ftz base adS GWz xyz xcz xnz xrz Ex codez bmz bpz b t) 1 1075 2048 codez_3261 :=
  And.intro (okz_1075 Hy) (okzz 3123)
theorem anz_3262 (Hy : Hyz tys cA base adS Ex) : xall (fun b t => xOK l Dg clz tys cA flz ftz base adS GWz xyz xcz xnz xrz Ex codez bmz bpz b t) 2 51 1024 codez_3262 :=
  And.intro (anz_3260 Hy) (anz_3261 Hy)
theorem anz_3263 (Hy : Hyz tys cA base adS Ex) : xall (fun b t => xOK l Dg clz tys cA flz ftz base adS GWz xyz xcz xnz xrz Ex codez bmz bpz b t) 1 563 2048 codez_3263 :=
  And.intro (okz_563 Hy) (okzz 2611)
theorem anz_3264 (Hy : Hyz tys cA base adS Ex) : xall (fun b t => xOK l Dg clz tys cA flz ftz base adS GWz xyz xcz xnz xrz Ex codez bmz bpz b t) 1 1587 2048 codez_3264 :=
  And.intro (okz_1587 Hy) (okzz 3635)
theorem anz_3265 (Hy : Hyz tys cA base adS Ex) : xall (fun b t => xOK l Dg clz tys cA flz ftz base adS GWz xyz xcz xnz xrz Ex codez bmz bpz b t) 2 563 1024 codez_3265 :=
  And.intro (anz_3263 Hy) (anz_3264 Hy)
theorem anz_3266 (Hy : Hyz tys cA base adS Ex) : xall (fun b t => xOK l Dg clz tys cA flz ftz base adS GWz xyz xcz xnz xrz Ex codez bmz bpz b t) 3 51 512 codez_3266 :=
  And.intro (anz_3262 Hy) (anz_3265 Hy)
theorem anz_3267 (Hy : Hyz tys cA base adS Ex) : xall (fun b t => xOK l Dg clz tys cA flz ftz base adS GWz xyz xcz xnz xrz Ex codez bmz bpz b t) 1 307 2048 codez_3267 :=
  And.intro (okz_307 Hy) (okz_2355 Hy)
theorem anz_3268 (Hy : Hyz tys cA base adS Ex) : xall (fun b t => xOK l Dg clz tys cA flz ftz base adS GWz xyz xcz xnz xrz Ex codez bmz bpz b t) 1 1331 2048 codez_3268 :=
  And.intro (okz_1331 Hy) (okzz 3379)
theorem anz_3269 (Hy : Hyz tys cA base adS Ex) : xall (fun b t => xOK l Dg clz tys cA flz ftz base adS GWz xyz xcz xnz xrz Ex codez bmz bpz b t) 2 307 1024 codez_3269 :=
  And.intro (anz_3267 Hy) (anz_3268 Hy)
theorem anz_3270 (Hy : Hyz tys cA base adS Ex) : xall (fun b t => xOK l Dg clz tys cA flz ftz base adS GWz xyz xcz xnz xrz Ex codez bmz bpz b t) 1 819 2048 codez_3270 :=
  And.intro (okz_819 Hy) (okzz 2867)
theorem anz_3271 (Hy : Hyz tys cA base adS Ex) : xall (fun b t => xOK l Dg clz tys cA flz ftz base adS GWz xyz xcz xnz xrz Ex codez bmz bpz b t) 1 1843 2048 codez_3271 :=
  And.intro (okz_1843 Hy) (okzz 3891)
theorem anz_3272 (Hy : Hyz tys cA base adS Ex) : xall (fun b t => xOK l Dg clz tys cA flz ftz base adS GWz xyz xcz xnz xrz Ex codez bmz bpz b t) 2 819 1024 codez_3272 :=
  And.intro (anz_3270 Hy) (anz_3271 Hy)
theorem anz_3273 (Hy : Hyz tys cA base adS Ex) : xall (fun b t => xOK l Dg clz tys cA flz ftz base adS GWz xyz xcz xnz xrz Ex codez bmz bpz b t) 3 307 512 codez_3273 :=
  And.intro (anz_3269 Hy) (anz_3272 Hy)
theorem anz_3274 (Hy : Hyz tys cA base adS Ex) : xall (fun b t => xOK l Dg clz tys cA flz ftz base adS GWz xyz xcz xnz xrz Ex codez bmz bpz b t) 4 51 256 codez_3274 :=
  And.intro (anz_3266 Hy) (anz_3273 Hy)
theorem anz_3275 (Hy : Hyz tys cA base adS Ex) : xall (fun b t => xOK l Dg clz tys cA flz ftz base adS GWz xyz xcz xnz xrz Ex codez bmz bpz b t) 1 179 2048 codez_3275 :=
  And.intro (okz_179 Hy) (okz_2227 Hy)
theorem anz_3276 (Hy : Hyz tys cA base adS Ex) : xall (fun b t => xOK l Dg clz tys cA flz ftz base adS GWz xyz xcz xnz xrz Ex codez bmz bpz b t) 1 1203 2048 codez_3276 :=
  And.intro (okz_1203 Hy) (okzz 3251)
theorem anz_3277 (Hy : Hyz tys cA base adS Ex) : xall (fun b t => xOK l Dg clz tys cA flz ftz base adS GWz xyz xcz xnz xrz Ex codez bmz bpz b t) 2 179 1024 codez_3277 :=
  And.intro (anz_3275 Hy) (anz_3276 Hy)
theorem anz_3278 (Hy : Hyz tys cA base adS Ex) : xall (fun b t => xOK l Dg clz tys cA flz ftz base adS GWz xyz xcz xnz xrz Ex codez bmz bpz b t) 1 691 2048 codez_3278 :=
  And.intro (okz_691 Hy) (okzz 2739)
theorem anz_3279 (Hy : Hyz tys cA base adS Ex) : xall (fun b t => xOK l Dg clz tys cA flz ftz base adS GWz xyz xcz xnz xrz Ex codez bmz bpz b t) 1 1715 2048 codez_3279 :=
  And.intro (okz_1715 Hy) (okzz 3763)
theorem anz_3280 (Hy : Hyz tys cA base adS Ex) : xall (fun b t => xOK l Dg clz tys cA flz ftz base adS GWz xyz xcz xnz xrz Ex codez bmz bpz b t) 2 691 1024 codez_3280 :=
  And.intro (anz_3278 Hy) (anz_3279 Hy)
theorem anz_3281 (Hy : Hyz tys cA base adS Ex) : xall (fun b t => xOK l Dg clz tys cA flz ftz base adS GWz xyz xcz xnz xrz Ex codez bmz bpz b t) 3 179 512 codez_3281 :=
  And.intro (anz_3277 Hy) (anz_3280 Hy)
theorem anz_3282 (Hy : Hyz tys cA base adS Ex) : xall (fun b t => xOK l Dg clz tys cA flz ftz base adS GWz xyz xcz xnz xrz Ex codez bmz bpz b t) 1 435 2048 codez_3282 :=
  And.intro (okz_435 Hy) (okz_2483 Hy)
theorem anz_3283 (Hy : Hyz tys cA base adS Ex) : xall (fun b t => xOK l Dg clz tys cA flz ftz base adS GWz xyz xcz xnz xrz Ex codez bmz bpz b t) 1 1459 2048 codez_3283 :=
  And.intro (okz_1459 Hy) (okzz 3507)
theorem anz_3284 (Hy : Hyz tys cA base adS Ex) : xall (fun b t => xOK l Dg clz tys cA flz ftz base adS GWz xyz xcz xnz xrz Ex codez bmz bpz b t) 2 435 1024 codez_3284 :=
  And.intro (anz_3282 Hy) (anz_3283 Hy)
theorem anz_3285 (Hy : Hyz tys cA base adS Ex) : xall (fun b t => xOK l Dg clz tys cA flz ftz base adS GWz xyz xcz xnz xrz Ex codez bmz bpz b t) 1 947 2048 codez_3285 :=
  And.intro (okz_947 Hy) (okzz 2995)
theorem anz_3286 (Hy : Hyz tys cA base adS Ex) : xall (fun b t => xOK l Dg clz tys cA flz ftz base adS GWz xyz xcz xnz xrz Ex codez bmz bpz b t) 1 1971 2048 codez_3286 :=
  And.intro (okz_1971 Hy) (okzz 4019)
theorem anz_3287 (Hy : Hyz tys cA base adS Ex) : xall (fun b t => xOK l Dg clz tys cA flz ftz base adS GWz xyz xcz xnz xrz Ex codez bmz bpz b t) 2 947 1024 codez_3287 :=
  And.intro (anz_3285 Hy) (anz_3286 Hy)
theorem anz_3288 (Hy : Hyz tys cA base adS Ex) : xall (fun b t => xOK l Dg clz tys cA flz ftz base adS GWz xyz xcz xnz xrz Ex codez bmz bpz b t) 3 435 512 codez_3288 :=
  And.intro (anz_3284 Hy) (anz_3287 Hy)
theorem anz_3289 (Hy : Hyz tys cA base adS Ex) : xall (fun b t => xOK l Dg clz tys cA flz ftz base adS GWz xyz xcz xnz xrz Ex codez bmz bpz b t) 4 179 256 codez_3289 :=
  And.intro (anz_3281 Hy) (anz_3288 Hy)
theorem anz_3290 (Hy : Hyz tys cA base adS Ex) : xall (fun b t => xOK l Dg clz tys cA flz ftz base adS GWz xyz xcz xnz xrz Ex codez bmz bpz b t) 5 51 128 codez_3290 :=
  And.intro (anz_3274 Hy) (anz_3289 Hy)
theorem anz_3291 (Hy : Hyz tys cA base adS Ex) : xall (fun b t => xOK l Dg clz tys cA flz ftz base adS GWz xyz xcz xnz xrz Ex codez bmz bpz b t) 1 115 2048 codez_3291 :=
  And.intro (okz_115 Hy) (okz_2163 Hy)
theorem anz_3292 (Hy : Hyz tys cA base adS Ex) : xall (fun b t => xOK l Dg clz tys cA flz ftz base adS GWz xyz xcz xnz xrz Ex codez bmz bpz b t) 1 1139 2048 codez_3292 :=
  And.intro (okz_1139 Hy) (okzz 3187)
theorem anz_3293 (Hy : Hyz tys cA base adS Ex) : xall (fun b t => xOK l Dg clz tys cA flz ftz base adS GWz xyz xcz xnz xrz Ex codez bmz bpz b t) 2 115 1024 codez_3293 :=
  And.intro (anz_3291 Hy) (anz_3292 Hy)
theorem anz_3294 (Hy : Hyz tys cA base adS Ex) : xall (fun b t => xOK l Dg clz tys cA flz ftz base adS GWz xyz xcz xnz xrz Ex codez bmz bpz b t) 1 627 2048 codez_3294 :=
  And.intro (okz_627 Hy) (okzz 2675)
theorem anz_3295 (Hy : Hyz tys cA base adS Ex) : xall (fun b t => xOK l Dg clz tys cA flz ftz base adS GWz xyz xcz xnz xrz Ex codez bmz bpz b t) 1 1651 2048 codez_3295 :=
  And.intro (okz_1651 Hy) (okzz 3699)
theorem anz_3296 (Hy : Hyz tys cA base adS Ex) : xall (fun b t => xOK l Dg clz tys cA flz ftz base adS GWz xyz xcz xnz xrz Ex codez bmz bpz b t) 2 627 1024 codez_3296 :=
  And.intro (anz_3294 Hy) (anz_3295 Hy)
theorem anz_3297 (Hy : Hyz tys cA base adS Ex) : xall (fun b t => xOK l Dg clz tys cA flz ftz base adS GWz xyz xcz xnz xrz Ex codez bmz bpz b t) 3 115 512 codez_3297 :=
  And.intro (anz_3293 Hy) (anz_3296 Hy)
theorem anz_3298 (Hy : Hyz tys cA base adS Ex) : xall (fun b t => xOK l Dg clz tys cA flz ftz base adS GWz xyz xcz xnz xrz Ex codez bmz bpz b t) 1 371 2048 codez_3298 :=
  And.intro (okz_371 Hy) (okz_2419 Hy)
theorem anz_3299 (Hy : Hyz tys cA base adS Ex) : xall (fun b t => xOK l Dg clz tys cA flz ftz base adS GWz xyz xcz xnz xrz Ex codez bmz bpz b t) 1 1395 2048 codez_3299 :=
  And.intro (okz_1395 Hy) (okzz 3443)
theorem anz_3300 (Hy : Hyz tys cA base adS Ex) : xall (fun b t => xOK l Dg clz tys cA flz ftz base adS GWz xyz xcz xnz xrz Ex codez bmz bpz b t) 2 371 1024 codez_3300 :=
  And.intro (anz_3298 Hy) (anz_3299 Hy)
theorem anz_3301 (Hy : Hyz tys cA base adS Ex) : xall (fun b t => xOK l Dg clz tys cA flz ftz base adS GWz xyz xcz xnz xrz Ex codez bmz bpz b t) 1 883 2048 codez_3301 :=
  And.intro (okz_883 Hy) (okzz 2931)
theorem anz_3302 (Hy : Hyz tys cA base adS Ex) : xall (fun b t => xOK l Dg clz tys cA flz ftz base adS GWz xyz xcz xnz xrz Ex codez bmz bpz b t) 1 1907 2048 codez_3302 :=
  And.intro (okz_1907 Hy) (okzz 3955)
theorem anz_3303 (Hy : Hyz tys cA base adS Ex) : xall (fun b t => xOK l Dg clz tys cA flz ftz base adS GWz xyz xcz xnz xrz Ex codez bmz bpz b t) 2 883 1024 codez_3303 :=
  And.intro (anz_3301 Hy) (anz_3302 Hy)
theorem anz_3304 (Hy : Hyz tys cA base adS Ex) : xall (fun b t => xOK l Dg clz tys cA flz ftz base adS GWz xyz xcz xnz xrz Ex codez bmz bpz b t) 3 371 512 codez_3304 :=
  And.intro (anz_3300 Hy) (anz_3303 Hy)
theorem anz_3305 (Hy : Hyz tys cA base adS Ex) : xall (fun b t => xOK l Dg clz tys cA flz ftz base adS GWz xyz xcz xnz xrz Ex codez bmz bpz b t) 4 115 256 codez_3305 :=
  And.intro (anz_3297 Hy) (anz_3304 Hy)
theorem anz_3306 (Hy : Hyz tys cA base adS Ex) : xall (fun b t => xOK l Dg clz tys cA flz ftz base adS GWz xyz xcz xnz xrz Ex codez bmz bpz b t) 1 243 2048 codez_3306 :=
  And.intro (okz_243 Hy) (okz_2291 Hy)
theorem anz_3307 (Hy : Hyz tys cA base adS Ex) : xall (fun b t => xOK l Dg clz tys cA flz ftz base adS GWz xyz xcz xnz xrz Ex codez bmz bpz b t) 1 1267 2048 codez_3307 :=
  And.intro (okz_1267 Hy) (okzz 3315)
theorem anz_3308 (Hy : Hyz tys cA base adS Ex) : xall (fun b t => xOK l Dg clz tys cA flz ftz base adS GWz xyz xcz xnz xrz Ex codez bmz bpz b t) 2 243 1024 codez_3308 :=
  And.intro (anz_3306 Hy) (anz_3307 Hy)
theorem anz_3309 (Hy : Hyz tys cA base adS Ex) : xall (fun b t => xOK l Dg clz tys cA flz ftz base adS GWz xyz xcz xnz xrz Ex codez bmz bpz b t) 1 755 2048 codez_3309 :=
  And.intro (okz_755 Hy) (okzz 2803)
theorem anz_3310 (Hy : Hyz tys cA base adS Ex) : xall (fun b t => xOK l Dg clz tys cA flz ftz base adS GWz xyz xcz xnz xrz Ex codez bmz bpz b t) 1 1779 2048 codez_3310 :=
  And.intro (okz_1779 Hy) (okzz 3827)
theorem anz_3311 (Hy : Hyz tys cA base adS Ex) : xall (fun b t => xOK l Dg clz tys cA flz ftz base adS GWz xyz xcz xnz xrz Ex codez bmz bpz b t) 2 755 1024 codez_3311 :=
  And.intro (anz_3309 Hy) (anz_3310 Hy)
theorem anz_3312 (Hy : Hyz tys cA base adS Ex) : xall (fun b t => xOK l Dg clz tys cA flz ftz base adS GWz xyz xcz xnz xrz Ex codez bmz bpz b t) 3 243 512 codez_3312 :=
  And.intro (anz_3308 Hy) (anz_3311 Hy)
theorem anz_3313 (Hy : Hyz tys cA base adS Ex) : xall (fun b t => xOK l Dg clz tys cA flz ftz base adS GWz xyz xcz xnz xrz Ex codez bmz bpz b t) 1 499 2048 codez_3313 :=
  And.intro (okz_499 Hy) (okzz 2547)
theorem anz_3314 (Hy : Hyz tys cA base adS Ex) : xall (fun b t => xOK l Dg clz tys cA flz ftz base adS GWz xyz xcz xnz xrz Ex codez bmz bpz b t) 1 1523 2048 codez_3314 :=
  And.intro (okz_1523 Hy) (okzz 3571)
theorem anz_3315 (Hy : Hyz tys cA base adS Ex) : xall (fun b t => xOK l Dg clz tys cA flz ftz base adS GWz xyz xcz xnz xrz Ex codez bmz bpz b t) 2 499 1024 codez_3315 :=
  And.intro (anz_3313 Hy) (anz_3314 Hy)
theorem anz_3316 (Hy : Hyz tys cA base adS Ex) : xall (fun b t => xOK l Dg clz tys cA flz ftz base adS GWz xyz xcz xnz xrz Ex codez bmz bpz b t) 1 1011 2048 codez_3316 :=
  And.intro (okz_1011 Hy) (okzz 3059)
theorem anz_3317 (Hy : Hyz tys cA base adS Ex) : xall (fun b t => xOK l Dg clz tys cA flz ftz base adS GWz xyz xcz xnz xrz Ex codez bmz bpz b t) 1 2035 2048 codez_3317 :=
  And.intro (okz_2035 Hy) (okzz 4083)
theorem anz_3318 (Hy : Hyz tys cA base adS Ex) : xall (fun b t => xOK l Dg clz tys cA flz ftz base adS GWz xyz xcz xnz xrz Ex codez bmz bpz b t) 2 1011 1024 codez_3318 :=
  And.intro (anz_3316 Hy) (anz_3317 Hy)
theorem anz_3319 (Hy : Hyz tys cA base adS Ex) : xall (fun b t => xOK l Dg clz tys cA flz ftz base adS GWz xyz xcz xnz xrz Ex codez bmz bpz b t) 3 499 512 codez_3319 :=
  And.intro (anz_3315 Hy) (anz_3318 Hy)
theorem anz_3320 (Hy : Hyz tys cA base adS Ex) : xall (fun b t => xOK l Dg clz tys cA flz ftz base adS GWz xyz xcz xnz xrz Ex codez bmz bpz b t) 4 243 256 codez_3320 :=
  And.intro (anz_3312 Hy) (anz_3319 Hy)
theorem anz_3321 (Hy : Hyz tys cA base adS Ex) : xall (fun b t => xOK l Dg clz tys cA flz ftz base adS GWz xyz xcz xnz xrz Ex codez bmz bpz b t) 5 115 128 codez_3321 :=
  And.intro (anz_3305 Hy) (anz_3320 Hy)
theorem anz_3322 (Hy : Hyz tys cA base adS Ex) : xall (fun b t => xOK l Dg clz tys cA flz ftz base adS GWz xyz xcz xnz xrz Ex codez bmz bpz b t) 6 51 64 codez_3322 :=
  And.intro (anz_3290 Hy) (anz_3321 Hy)
theorem anz_3323 (Hy : Hyz tys cA base adS Ex) : xall (fun b t => xOK l Dg clz tys cA flz ftz base adS GWz xyz xcz xnz xrz Ex codez bmz bpz b t) 7 19 32 codez_3323 :=
  And.intro (anz_3259 Hy) (anz_3322 Hy)
theorem anz_3324 (Hy : Hyz tys cA base adS Ex) : xall (fun b t => xOK l Dg clz tys cA flz ftz base adS GWz xyz xcz xnz xrz Ex codez bmz bpz b t) 8 3 16 codez_3324 :=
  And.intro (anz_3196 Hy) (anz_3323 Hy)
theorem anz_3325 (Hy : Hyz tys cA base adS Ex) : xall (fun b t => xOK l Dg clz tys cA flz ftz base adS GWz xyz xcz xnz xrz Ex codez bmz bpz b t) 1 11 2048 codez_3325 :=
  And.intro (okz_11 Hy) (okz_2059 Hy)
theorem anz_3326 (Hy : Hyz tys cA base adS Ex) : xall (fun b t => xOK l Dg clz tys cA flz ftz base adS GWz xyz xcz xnz xrz Ex codez bmz bpz b t) 1 1035 2048 codez_3326 :=
  And.intro (okz_1035 Hy) (okzz 3083)
theorem anz_3327 (Hy : Hyz tys cA base adS Ex) : xall (fun b t => xOK l Dg clz tys cA flz ftz base adS GWz xyz xcz xnz xrz Ex codez bmz bpz b t) 2 11 1024 codez_3327 :=
  And.intro (anz_3325 Hy) (anz_3326 Hy)
theorem anz_3328 (Hy : Hyz tys cA base adS Ex) : xall (fun b t => xOK l Dg clz tys cA flz ftz base adS GWz xyz xcz xnz xrz Ex codez bmz bpz b t) 1 523 2048 codez_3328 :=
  And.intro (okz_523 Hy) (okzz 2571)
theorem anz_3329 (Hy : Hyz tys cA base adS Ex) : xall (fun b t => xOK l Dg clz tys cA flz ftz base adS GWz xyz xcz xnz xrz Ex codez bmz bpz b t) 1 1547 2048 codez_3329 :=
  And.intro (okz_1547 Hy) (okzz 3595)
theorem anz_3330 (Hy : Hyz tys cA base adS Ex) : xall (fun b t => xOK l Dg clz tys cA flz ftz base adS GWz xyz xcz xnz xrz Ex codez bmz bpz b t) 2 523 1024 codez_3330 :=
  And.intro (anz_3328 Hy) (anz_3329 Hy)
theorem anz_3331 (Hy : Hyz tys cA base adS Ex) : xall (fun b t => xOK l Dg clz tys cA flz ftz base adS GWz xyz xcz xnz xrz Ex codez bmz bpz b t) 3 11 512 codez_3331 :=
  And.intro (anz_3327 Hy) (anz_3330 Hy)
theorem anz_3332 (Hy : Hyz tys cA base adS Ex) : xall (fun b t => xOK l Dg clz tys cA flz ftz base adS GWz xyz xcz xnz xrz Ex codez bmz bpz b t) 1 267 2048 codez_3332 :=
  And.intro (okz_267 Hy) (okz_2315 Hy)
theorem anz_3333 (Hy : Hyz tys cA base adS Ex) : xall (fun b t => xOK l Dg clz tys cA flz ftz base adS GWz xyz xcz xnz xrz Ex codez bmz bpz b t) 1 1291 2048 codez_3333 :=
  And.intro (okz_1291 Hy) (okzz 3339)
theorem anz_3334 (Hy : Hyz tys cA base adS Ex) : xall (fun b t => xOK l Dg clz tys cA flz ftz base adS GWz xyz xcz xnz xrz Ex codez bmz bpz b t) 2 267 1024 codez_3334 :=
  And.intro (anz_3332 Hy) (anz_3333 Hy)
theorem anz_3335 (Hy : Hyz tys cA base adS Ex) : xall (fun b t => xOK l Dg clz tys cA flz ftz base adS GWz xyz xcz xnz xrz Ex codez bmz bpz b t) 1 779 2048 codez_3335 :=
  And.intro (okz_779 Hy) (okzz 2827)
theorem anz_3336 (Hy : Hyz tys cA base adS Ex) : xall (fun b t => xOK l Dg clz tys cA flz ftz base adS GWz xyz xcz xnz xrz Ex codez bmz bpz b t) 1 1803 2048 codez_3336 :=
  And.intro (okz_1803 Hy) (okzz 3851)
theorem anz_3337 (Hy : Hyz tys cA base adS Ex) : xall (fun b t => xOK l Dg clz tys cA flz ftz base adS GWz xyz xcz xnz xrz Ex codez bmz bpz b t) 2 779 1024 codez_3337 :=
  And.intro (anz_3335 Hy) (anz_3336 Hy)
theorem anz_3338 (Hy : Hyz tys cA base adS Ex) : xall (fun b t => xOK l Dg clz tys cA flz ftz base adS GWz xyz xcz xnz xrz Ex codez bmz bpz b t) 3 267 512 codez_3338 :=
  And.intro (anz_3334 Hy) (anz_3337 Hy)
theorem anz_3339 (Hy : Hyz tys cA base adS Ex) : xall (fun b t => xOK l Dg clz tys cA flz ftz base adS GWz xyz xcz xnz xrz Ex codez bmz bpz b t) 4 11 256 codez_3339 :=
  And.intro (anz_3331 Hy) (anz_3338 Hy)
theorem anz_3340 (Hy : Hyz tys cA base adS Ex) : xall (fun b t => xOK l Dg clz tys cA flz ftz base adS GWz xyz xcz xnz xrz Ex codez bmz bpz b t) 1 139 2048 codez_3340 :=
  And.intro (okz_139 Hy) (okz_2187 Hy)
theorem anz_3341 (Hy : Hyz tys cA base adS Ex) : xall (fun b t => xOK l Dg clz tys cA flz ftz base adS GWz xyz xcz xnz xrz Ex codez bmz bpz b t) 1 1163 2048 codez_3341 :=
  And.intro (okz_1163 Hy) (okzz 3211)
theorem anz_3342 (Hy : Hyz tys cA base adS Ex) : xall (fun b t => xOK l Dg clz tys cA flz ftz base adS GWz xyz xcz xnz xrz Ex codez bmz bpz b t) 2 139 1024 codez_3342 :=
  And.intro (anz_3340 Hy) (anz_3341 Hy)
theorem anz_3343 (Hy : Hyz tys cA base adS Ex) : xall (fun b t => xOK l Dg clz tys cA flz ftz base adS GWz xyz xcz xnz xrz Ex codez bmz bpz b t) 1 651 2048 codez_3343 :=
  And.intro (okz_651 Hy) (okzz 2699)
theorem anz_3344 (Hy : Hyz tys cA base adS Ex) : xall (fun b t => xOK l Dg clz tys cA flz ftz base adS GWz xyz xcz xnz xrz Ex codez bmz bpz b t) 1 1675 2048 codez_3344 :=
  And.intro (okz_1675 Hy) (okzz 3723)
theorem anz_3345 (Hy : Hyz tys cA base adS Ex) : xall (fun b t => xOK l Dg clz tys cA flz ftz base adS GWz xyz xcz xnz xrz Ex codez bmz bpz b t) 2 651 1024 codez_3345 :=
  And.intro (anz_3343 Hy) (anz_3344 Hy)
theorem anz_3346 (Hy : Hyz tys cA base adS Ex) : xall (fun b t => xOK l Dg clz tys cA flz ftz base adS GWz xyz xcz xnz xrz Ex codez bmz bpz b t) 3 139 512 codez_3346 :=
  And.intro (anz_3342 Hy) (anz_3345 Hy)
theorem anz_3347 (Hy : Hyz tys cA base adS Ex) : xall (fun b t => xOK l Dg clz tys cA flz ftz base adS GWz xyz xcz xnz xrz Ex codez bmz bpz b t) 1 395 2048 codez_3347 :=
  And.intro (okz_395 Hy) (okz_2443 Hy)
theorem anz_3348 (Hy : Hyz tys cA base adS Ex) : xall (fun b t => xOK l Dg clz tys cA flz ftz base adS GWz xyz xcz xnz xrz Ex codez bmz bpz b t) 1 1419 2048 codez_3348 :=
  And.intro (okz_1419 Hy) (okzz 3467)
theorem anz_3349 (Hy : Hyz tys cA base adS Ex) : xall (fun b t => xOK l Dg clz tys cA flz ftz base adS GWz xyz xcz xnz xrz Ex codez bmz bpz b t) 2 395 1024 codez_3349 :=
  And.intro (anz_3347 Hy) (anz_3348 Hy)
theorem anz_3350 (Hy : Hyz tys cA base adS Ex) : xall (fun b t => xOK l Dg clz tys cA flz ftz base adS GWz xyz xcz xnz xrz Ex codez bmz bpz b t) 1 907 2048 codez_3350 :=
  And.intro (okz_907 Hy) (okzz 2955)
theorem anz_3351 (Hy : Hyz tys cA base adS Ex) : xall (fun b t => xOK l Dg clz tys cA flz ftz base adS GWz xyz xcz xnz xrz Ex codez bmz bpz b t) 1 1931 2048 codez_3351 :=
  And.intro (okz_1931 Hy) (okzz 3979)
theorem anz_3352 (Hy : Hyz tys cA base adS Ex) : xall (fun b t => xOK l Dg clz tys cA flz ftz base adS GWz xyz xcz xnz xrz Ex codez bmz bpz b t) 2 907 1024 codez_3352 :=
  And.intro (anz_3350 Hy) (anz_3351 Hy)
theorem anz_3353 (Hy : Hyz tys cA base adS Ex) : xall (fun b t => xOK l Dg clz tys cA flz ftz base adS GWz xyz xcz xnz xrz Ex codez bmz bpz b t) 3 395 512 codez_3353 :=
  And.intro (anz_3349 Hy) (anz_3352 Hy)
theorem anz_3354 (Hy : Hyz tys cA base adS Ex) : xall (fun b t => xOK l Dg clz tys cA flz ftz base adS GWz xyz xcz xnz xrz Ex codez bmz bpz b t) 4 139 256 codez_3354 :=
  And.intro (anz_3346 Hy) (anz_3353 Hy)
theorem anz_3355 (Hy : Hyz tys cA base adS Ex) : xall (fun b t => xOK l Dg clz tys cA flz ftz base adS GWz xyz xcz xnz xrz Ex codez bmz bpz b t) 5 11 128 codez_3355 :=
  And.intro (anz_3339 Hy) (anz_3354 Hy)
theorem anz_3356 (Hy : Hyz tys cA base adS Ex) : xall (fun b t => xOK l Dg clz tys cA flz ftz base adS GWz xyz xcz xnz xrz Ex codez bmz bpz b t) 1 75 2048 codez_3356 :=
  And.intro (okz_75 Hy) (okz_2123 Hy)
theorem anz_3357 (Hy : Hyz tys cA base adS Ex) : xall (fun b t => xOK l Dg clz tys cA flz ftz base adS GWz xyz xcz xnz xrz Ex codez bmz bpz b t) 1 1099 2048 codez_3357 :=
  And.intro (okz_1099 Hy) (okzz 3147)
theorem anz_3358 (Hy : Hyz tys cA base adS Ex) : xall (fun b t => xOK l Dg clz tys cA flz ftz base adS GWz xyz xcz xnz xrz Ex codez bmz bpz b t) 2 75 1024 codez_3358 :=
  And.intro (anz_3356 Hy) (anz_3357 Hy)
theorem anz_3359 (Hy : Hyz tys cA base adS Ex) : xall (fun b t => xOK l Dg clz tys cA flz ftz base adS GWz xyz xcz xnz xrz Ex codez bmz bpz b t) 1 587 2048 codez_3359 :=
  And.intro (okz_587 Hy) (okzz 2635)
theorem anz_3360 (Hy : Hyz tys cA base adS Ex) : xall (fun b t => xOK l Dg clz tys cA flz ftz base adS GWz xyz xcz xnz xrz Ex codez bmz bpz b t) 1 1611 2048 codez_3360 :=
  And.intro (okz_1611 Hy) (okzz 3659)
theorem anz_3361 (Hy : Hyz tys cA base adS Ex) : xall (fun b t => xOK l Dg clz tys cA flz ftz base adS GWz xyz xcz xnz xrz Ex codez bmz bpz b t) 2 587 1024 codez_3361 :=
  And.intro (anz_3359 Hy) (anz_3360 Hy)
theorem anz_3362 (Hy : Hyz tys cA base adS Ex) : xall (fun b t => xOK l Dg clz tys cA flz ftz base adS GWz xyz xcz xnz xrz Ex codez bmz bpz b t) 3 75 512 codez_3362 :=
  And.intro (anz_3358 Hy) (anz_3361 Hy)
theorem anz_3363 (Hy : Hyz tys cA base adS Ex) : xall (fun b t => xOK l Dg clz tys cA flz ftz base adS GWz xyz xcz xnz xrz Ex codez bmz bpz b t) 1 331 2048 codez_3363 :=
  And.intro (okz_331 Hy) (okz_2379 Hy)
theorem anz_3364 (Hy : Hyz tys cA base adS Ex) : xall (fun b t => xOK l Dg clz tys cA flz ftz base adS GWz xyz xcz xnz xrz Ex codez bmz bpz b t) 1 1355 2048 codez_3364 :=
  And.intro (okz_1355 Hy) (okzz 3403)
theorem anz_3365 (Hy : Hyz tys cA base adS Ex) : xall (fun b t => xOK l Dg clz tys cA flz ftz base adS GWz xyz xcz xnz xrz Ex codez bmz bpz b t) 2 331 1024 codez_3365 :=
  And.intro (anz_3363 Hy) (anz_3364 Hy)
theorem anz_3366 (Hy : Hyz tys cA base adS Ex) : xall (fun b t => xOK l Dg clz tys cA flz ftz base adS GWz xyz xcz xnz xrz Ex codez bmz bpz b t) 1 843 2048 codez_3366 :=
  And.intro (okz_843 Hy) (okzz 2891)
theorem anz_3367 (Hy : Hyz tys cA base adS Ex) : xall (fun b t => xOK l Dg clz tys cA flz ftz base adS GWz xyz xcz xnz xrz Ex codez bmz bpz b t) 1 1867 2048 codez_3367 :=
  And.intro (okz_1867 Hy) (okzz 3915)
theorem anz_3368 (Hy : Hyz tys cA base adS Ex) : xall (fun b t => xOK l Dg clz tys cA flz ftz base adS GWz xyz xcz xnz xrz Ex codez bmz bpz b t) 2 843 1024 codez_3368 :=
  And.intro (anz_3366 Hy) (anz_3367 Hy)
theorem anz_3369 (Hy : Hyz tys cA base adS Ex) : xall (fun b t => xOK l Dg clz tys cA flz ftz base adS GWz xyz xcz xnz xrz Ex codez bmz bpz b t) 3 331 512 codez_3369 :=
  And.intro (anz_3365 Hy) (anz_3368 Hy)
theorem anz_3370 (Hy : Hyz tys cA base adS Ex) : xall (fun b t => xOK l Dg clz tys cA flz ftz base adS GWz xyz xcz xnz xrz Ex codez bmz bpz b t) 4 75 256 codez_3370 :=
  And.intro (anz_3362 Hy) (anz_3369 Hy)
theorem anz_3371 (Hy : Hyz tys cA base adS Ex) : xall (fun b t => xOK l Dg clz tys cA flz ftz base adS GWz xyz xcz xnz xrz Ex codez bmz bpz b t) 1 203 2048 codez_3371 :=
  And.intro (okz_203 Hy) (okz_2251 Hy)
theorem anz_3372 (Hy : Hyz tys cA base adS Ex) : xall (fun b t => xOK l Dg clz tys cA flz ftz base adS GWz xyz xcz xnz xrz Ex codez bmz bpz b t) 1 1227 2048 codez_3372 :=
  And.intro (okz_1227 Hy) (okzz 3275)
theorem anz_3373 (Hy : Hyz tys cA base adS Ex) : xall (fun b t => xOK l Dg clz tys cA flz ftz base adS GWz xyz xcz xnz xrz Ex codez bmz bpz b t) 2 203 1024 codez_3373 :=
  And.intro (anz_3371 Hy) (anz_3372 Hy)
theorem anz_3374 (Hy : Hyz tys cA base adS Ex) : xall (fun b t => xOK l Dg clz tys cA flz ftz base adS GWz xyz xcz xnz xrz Ex codez bmz bpz b t) 1 715 2048 codez_3374 :=
  And.intro (okz_715 Hy) (okzz 2763)
theorem anz_3375 (Hy : Hyz tys cA base adS Ex) : xall (fun b t => xOK l Dg clz tys cA flz ftz base adS GWz xyz xcz xnz xrz Ex codez bmz bpz b t) 1 1739 2048 codez_3375 :=
  And.intro (okz_1739 Hy) (okzz 3787)
theorem anz_3376 (Hy : Hyz tys cA base adS Ex) : xall (fun b t => xOK l Dg clz tys cA flz ftz base adS GWz xyz xcz xnz xrz Ex codez bmz bpz b t) 2 715 1024 codez_3376 :=
  And.intro (anz_3374 Hy) (anz_3375 Hy)
theorem anz_3377 (Hy : Hyz tys cA base adS Ex) : xall (fun b t => xOK l Dg clz tys cA flz ftz base adS GWz xyz xcz xnz xrz Ex codez bmz bpz b t) 3 203 512 codez_3377 :=
  And.intro (anz_3373 Hy) (anz_3376 Hy)
theorem anz_3378 (Hy : Hyz tys cA base adS Ex) : xall (fun b t => xOK l Dg clz tys cA flz ftz base adS GWz xyz xcz xnz xrz Ex codez bmz bpz b t) 1 459 2048 codez_3378 :=
  And.intro (okz_459 Hy) (okz_2507 Hy)
theorem anz_3379 (Hy : Hyz tys cA base adS Ex) : xall (fun b t => xOK l Dg clz tys cA flz ftz base adS GWz xyz xcz xnz xrz Ex codez bmz bpz b t) 1 1483 2048 codez_3379 :=
  And.intro (okz_1483 Hy) (okzz 3531)
theorem anz_3380 (Hy : Hyz tys cA base adS Ex) : xall (fun b t => xOK l Dg clz tys cA flz ftz base adS GWz xyz xcz xnz xrz Ex codez bmz bpz b t) 2 459 1024 codez_3380 :=
  And.intro (anz_3378 Hy) (anz_3379 Hy)
theorem anz_3381 (Hy : Hyz tys cA base adS Ex) : xall (fun b t => xOK l Dg clz tys cA flz ftz base adS GWz xyz xcz xnz xrz Ex codez bmz bpz b t) 1 971 2048 codez_3381 :=
  And.intro (okz_971 Hy) (okzz 3019)
theorem anz_3382 (Hy : Hyz tys cA base adS Ex) : xall (fun b t => xOK l Dg clz tys cA flz ftz base adS GWz xyz xcz xnz xrz Ex codez bmz bpz b t) 1 1995 2048 codez_3382 :=
  And.intro (okz_1995 Hy) (okzz 4043)
theorem anz_3383 (Hy : Hyz tys cA base adS Ex) : xall (fun b t => xOK l Dg clz tys cA flz ftz base adS GWz xyz xcz xnz xrz Ex codez bmz bpz b t) 2 971 1024 codez_3383 :=
  And.intro (anz_3381 Hy) (anz_3382 Hy)
theorem anz_3384 (Hy : Hyz tys cA base adS Ex) : xall (fun b t => xOK l Dg clz tys cA flz ftz base adS GWz xyz xcz xnz xrz Ex codez bmz bpz b t) 3 459 512 codez_3384 :=
  And.intro (anz_3380 Hy) (anz_3383 Hy)
theorem anz_3385 (Hy : Hyz tys cA base adS Ex) : xall (fun b t => xOK l Dg clz tys cA flz ftz base adS GWz xyz xcz xnz xrz Ex codez bmz bpz b t) 4 203 256 codez_3385 :=
  And.intro (anz_3377 Hy) (anz_3384 Hy)
theorem anz_3386 (Hy : Hyz tys cA base adS Ex) : xall (fun b t => xOK l Dg clz tys cA flz ftz base adS GWz xyz xcz xnz xrz Ex codez bmz bpz b t) 5 75 128 codez_3386 :=
  And.intro (anz_3370 Hy) (anz_3385 Hy)
theorem anz_3387 (Hy : Hyz tys cA base adS Ex) : xall (fun b t => xOK l Dg clz tys cA flz ftz base adS GWz xyz xcz xnz xrz Ex codez bmz bpz b t) 6 11 64 codez_3387 :=
  And.intro (anz_3355 Hy) (anz_3386 Hy)
theorem anz_3388 (Hy : Hyz tys cA base adS Ex) : xall (fun b t => xOK l Dg clz tys cA flz ftz base adS GWz xyz xcz xnz xrz Ex codez bmz bpz b t) 1 43 2048 codez_3388 :=
  And.intro (okz_43 Hy) (okz_2091 Hy)
theorem anz_3389 (Hy : Hyz tys cA base adS Ex) : xall (fun b t => xOK l Dg clz tys cA flz ftz base adS GWz xyz xcz xnz xrz Ex codez bmz bpz b t) 1 1067 2048 codez_3389 :=
  And.intro (okz_1067 Hy) (okzz 3115)
theorem anz_3390 (Hy : Hyz tys cA base adS Ex) : xall (fun b t => xOK l Dg clz tys cA flz ftz base adS GWz xyz xcz xnz xrz Ex codez bmz bpz b t) 2 43 1024 codez_3390 :=
  And.intro (anz_3388 Hy) (anz_3389 Hy)
theorem anz_3391 (Hy : Hyz tys cA base adS Ex) : xall (fun b t => xOK l Dg clz tys cA flz ftz base adS GWz xyz xcz xnz xrz Ex codez bmz bpz b t) 1 555 2048 codez_3391 :=
  And.intro (okz_555 Hy) (okzz 2603)
theorem anz_3392 (Hy : Hyz tys cA base adS Ex) : xall (fun b t => xOK l Dg clz tys cA flz ftz base adS GWz xyz xcz xnz xrz Ex codez bmz bpz b t) 1 1579 2048 codez_3392 :=
  And.intro (okz_1579 Hy) (okzz 3627)
theorem anz_3393 (Hy : Hyz tys cA base adS Ex) : xall (fun b t => xOK l Dg clz tys cA flz ftz base adS GWz xyz xcz xnz xrz Ex codez bmz bpz b t) 2 555 1024 codez_3393 :=
  And.intro (anz_3391 Hy) (anz_3392 Hy)
theorem anz_3394 (Hy : Hyz tys cA base adS Ex) : xall (fun b t => xOK l Dg clz tys cA flz ftz base adS GWz xyz xcz xnz xrz Ex codez bmz bpz b t) 3 43 512 codez_3394 :=
  And.intro (anz_3390 Hy) (anz_3393 Hy)
theorem anz_3395 (Hy : Hyz tys cA base adS Ex) : xall (fun b t => xOK l Dg clz tys cA flz ftz base adS GWz xyz xcz xnz xrz Ex codez bmz bpz b t) 1 299 2048 codez_3395 :=
  And.intro (okz_299 Hy) (okz_2347 Hy)
theorem anz_3396 (Hy : Hyz tys cA base adS Ex) : xall (fun b t => xOK l Dg clz tys cA flz ftz base adS GWz xyz xcz xnz xrz Ex codez bmz bpz b t) 1 1323 2048 codez_3396 :=
  And.intro (okz_1323 Hy) (okzz 3371)
theorem anz_3397 (Hy : Hyz tys cA base adS Ex) : xall (fun b t => xOK l Dg clz tys cA flz ftz base adS GWz xyz xcz xnz xrz Ex codez bmz bpz b t) 2 299 1024 codez_3397 :=
  And.intro (anz_3395 Hy) (anz_3396 Hy)
theorem anz_3398 (Hy : Hyz tys cA base adS Ex) : xall (fun b t => xOK l Dg clz tys cA flz ftz base adS GWz xyz xcz xnz xrz Ex codez bmz bpz b t) 1 811 2048 codez_3398 :=
  And.intro (okz_811 Hy) (okzz 2859)
theorem anz_3399 (Hy : Hyz tys cA base adS Ex) : xall (fun b t => xOK l Dg clz tys cA flz ftz base adS GWz xyz xcz xnz xrz Ex codez bmz bpz b t) 1 1835 2048 codez_3399 :=
  And.intro (okz_1835 Hy) (okzz 3883)
theorem anz_3400 (Hy : Hyz tys cA base adS Ex) : xall (fun b t => xOK l Dg clz tys cA flz ftz base adS GWz xyz xcz xnz xrz Ex codez bmz bpz b t) 2 811 1024 codez_3400 :=
  And.intro (anz_3398 Hy) (anz_3399 Hy)
theorem anz_3401 (Hy : Hyz tys cA base adS Ex) : xall (fun b t => xOK l Dg clz tys cA flz ftz base adS GWz xyz xcz xnz xrz Ex codez bmz bpz b t) 3 299 512 codez_3401 :=
  And.intro (anz_3397 Hy) (anz_3400 Hy)
theorem anz_3402 (Hy : Hyz tys cA base adS Ex) : xall (fun b t => xOK l Dg clz tys cA flz ftz base adS GWz xyz xcz xnz xrz Ex codez bmz bpz b t) 4 43 256 codez_3402 :=
  And.intro (anz_3394 Hy) (anz_3401 Hy)
theorem anz_3403 (Hy : Hyz tys cA base adS Ex) : xall (fun b t => xOK l Dg clz tys cA flz ftz base adS GWz xyz xcz xnz xrz Ex codez bmz bpz b t) 1 171 2048 codez_3403 :=
  And.intro (okz_171 Hy) (okz_2219 Hy)
theorem anz_3404 (Hy : Hyz tys cA base adS Ex) : xall (fun b t => xOK l Dg clz tys cA flz ftz base adS GWz xyz xcz xnz xrz Ex codez bmz bpz b t) 1 1195 2048 codez_3404 :=
  And.intro (okz_1195 Hy) (okzz 3243)
theorem anz_3405 (Hy : Hyz tys cA base adS Ex) : xall (fun b t => xOK l Dg clz tys cA flz ftz base adS GWz xyz xcz xnz xrz Ex codez bmz bpz b t) 2 171 1024 codez_3405 :=
  And.intro (anz_3403 Hy) (anz_3404 Hy)
theorem anz_3406 (Hy : Hyz tys cA base adS Ex) : xall (fun b t => xOK l Dg clz tys cA flz ftz base adS GWz xyz xcz xnz xrz Ex codez bmz bpz b t) 1 683 2048 codez_3406 :=
  And.intro (okz_683 Hy) (okzz 2731)
theorem anz_3407 (Hy : Hyz tys cA base adS Ex) : xall (fun b t => xOK l Dg clz tys cA flz ftz base adS GWz xyz xcz xnz xrz Ex codez bmz bpz b t) 1 1707 2048 codez_3407 :=
  And.intro (okz_1707 Hy) (okzz 3755)
theorem anz_3408 (Hy : Hyz tys cA base adS Ex) : xall (fun b t => xOK l Dg clz tys cA flz ftz base adS GWz xyz xcz xnz xrz Ex codez bmz bpz b t) 2 683 1024 codez_3408 :=
  And.intro (anz_3406 Hy) (anz_3407 Hy)
theorem anz_3409 (Hy : Hyz tys cA base adS Ex) : xall (fun b t => xOK l Dg clz tys cA flz ftz base adS GWz xyz xcz xnz xrz Ex codez bmz bpz b t) 3 171 512 codez_3409 :=
  And.intro (anz_3405 Hy) (anz_3408 Hy)
theorem anz_3410 (Hy : Hyz tys cA base adS Ex) : xall (fun b t => xOK l Dg clz tys cA flz ftz base adS GWz xyz xcz xnz xrz Ex codez bmz bpz b t) 1 427 2048 codez_3410 :=
  And.intro (okz_427 Hy) (okz_2475 Hy)
theorem anz_3411 (Hy : Hyz tys cA base adS Ex) : xall (fun b t => xOK l Dg clz tys cA flz ftz base adS GWz xyz xcz xnz xrz Ex codez bmz bpz b t) 1 1451 2048 codez_3411 :=
  And.intro (okz_1451 Hy) (okzz 3499)
theorem anz_3412 (Hy : Hyz tys cA base adS Ex) : xall (fun b t => xOK l Dg clz tys cA flz ftz base adS GWz xyz xcz xnz xrz Ex codez bmz bpz b t) 2 427 1024 codez_3412 :=
  And.intro (anz_3410 Hy) (anz_3411 Hy)
theorem anz_3413 (Hy : Hyz tys cA base adS Ex) : xall (fun b t => xOK l Dg clz tys cA flz ftz base adS GWz xyz xcz xnz xrz Ex codez bmz bpz b t) 1 939 2048 codez_3413 :=
  And.intro (okz_939 Hy) (okzz 2987)
theorem anz_3414 (Hy : Hyz tys cA base adS Ex) : xall (fun b t => xOK l Dg clz tys cA flz ftz base adS GWz xyz xcz xnz xrz Ex codez bmz bpz b t) 1 1963 2048 codez_3414 :=
  And.intro (okz_1963 Hy) (okzz 4011)
theorem anz_3415 (Hy : Hyz tys cA base adS Ex) : xall (fun b t => xOK l Dg clz tys cA flz ftz base adS GWz xyz xcz xnz xrz Ex codez bmz bpz b t) 2 939 1024 codez_3415 :=
  And.intro (anz_3413 Hy) (anz_3414 Hy)
theorem anz_3416 (Hy : Hyz tys cA base adS Ex) : xall (fun b t => xOK l Dg clz tys cA flz ftz base adS GWz xyz xcz xnz xrz Ex codez bmz bpz b t) 3 427 512 codez_3416 :=
  And.intro (anz_3412 Hy) (anz_3415 Hy)
theorem anz_3417 (Hy : Hyz tys cA base adS Ex) : xall (fun b t => xOK l Dg clz tys cA flz ftz base adS GWz xyz xcz xnz xrz Ex codez bmz bpz b t) 4 171 256 codez_3417 :=
  And.intro (anz_3409 Hy) (anz_3416 Hy)
theorem anz_3418 (Hy : Hyz tys cA base adS Ex) : xall (fun b t => xOK l Dg clz tys cA flz ftz base adS GWz xyz xcz xnz xrz Ex codez bmz bpz b t) 5 43 128 codez_3418 :=
  And.intro (anz_3402 Hy) (anz_3417 Hy)
theorem anz_3419 (Hy : Hyz tys cA base adS Ex) : xall (fun b t => xOK l Dg clz tys cA flz ftz base adS GWz xyz xcz xnz xrz Ex codez bmz bpz b t) 1 107 2048 codez_3419 :=
  And.intro (okz_107 Hy) (okz_2155 Hy)
theorem anz_3420 (Hy : Hyz tys cA base adS Ex) : xall (fun b t => xOK l Dg clz tys cA flz ftz base adS GWz xyz xcz xnz xrz Ex codez bmz bpz b t) 1 1131 2048 codez_3420 :=
  And.intro (okz_1131 Hy) (okzz 3179)
theorem anz_3421 (Hy : Hyz tys cA base adS Ex) : xall (fun b t => xOK l Dg clz tys cA flz ftz base adS GWz xyz xcz xnz xrz Ex codez bmz bpz b t) 2 107 1024 codez_3421 :=
  And.intro (anz_3419 Hy) (anz_3420 Hy)
theorem anz_3422 (Hy : Hyz tys cA base adS Ex) : xall (fun b t => xOK l Dg clz tys cA flz ftz base adS GWz xyz xcz xnz xrz Ex codez bmz bpz b t) 1 619 2048 codez_3422 :=
  And.intro (okz_619 Hy) (okzz 2667)
theorem anz_3423 (Hy : Hyz tys cA base adS Ex) : xall (fun b t => xOK l Dg clz tys cA flz ftz base adS GWz xyz xcz xnz xrz Ex codez bmz bpz b t) 1 1643 2048 codez_3423 :=
  And.intro (okz_1643 Hy) (okzz 3691)
theorem anz_3424 (Hy : Hyz tys cA base adS Ex) : xall (fun b t => xOK l Dg clz tys cA flz ftz base adS GWz xyz xcz xnz xrz Ex codez bmz bpz b t) 2 619 1024 codez_3424 :=
  And.intro (anz_3422 Hy) (anz_3423 Hy)
theorem anz_3425 (Hy : Hyz tys cA base adS Ex) : xall (fun b t => xOK l Dg clz tys cA flz ftz base adS GWz xyz xcz xnz xrz Ex codez bmz bpz b t) 3 107 512 codez_3425 :=
  And.intro (anz_3421 Hy) (anz_3424 Hy)
theorem anz_3426 (Hy : Hyz tys cA base adS Ex) : xall (fun b t => xOK l Dg clz tys cA flz ftz base adS GWz xyz xcz xnz xrz Ex codez bmz bpz b t) 1 363 2048 codez_3426 :=
  And.intro (okz_363 Hy) (okz_2411 Hy)
theorem anz_3427 (Hy : Hyz tys cA base adS Ex) : xall (fun b t => xOK l Dg clz tys cA flz ftz base adS GWz xyz xcz xnz xrz Ex codez bmz bpz b t) 1 1387 2048 codez_3427 :=
  And.intro (okz_1387 Hy) (okzz 3435)
theorem anz_3428 (Hy : Hyz tys cA base adS Ex) : xall (fun b t => xOK l Dg clz tys cA flz ftz base adS GWz xyz xcz xnz xrz Ex codez bmz bpz b t) 2 363 1024 codez_3428 :=
  And.intro (anz_3426 Hy) (anz_3427 Hy)
theorem anz_3429 (Hy : Hyz tys cA base adS Ex) : xall (fun b t => xOK l Dg clz tys cA flz ftz base adS GWz xyz xcz xnz xrz Ex codez bmz bpz b t) 1 875 2048 codez_3429 :=
  And.intro (okz_875 Hy) (okzz 2923)
theorem anz_3430 (Hy : Hyz tys cA base adS Ex) : xall (fun b t => xOK l Dg clz tys cA flz ftz base adS GWz xyz xcz xnz xrz Ex codez bmz bpz b t) 1 1899 2048 codez_3430 :=
  And.intro (okz_1899 Hy) (okzz 3947)
theorem anz_3431 (Hy : Hyz tys cA base adS Ex) : xall (fun b t => xOK l Dg clz tys cA flz ftz base adS GWz xyz xcz xnz xrz Ex codez bmz bpz b t) 2 875 1024 codez_3431 :=
  And.intro (anz_3429 Hy) (anz_3430 Hy)
theorem anz_3432 (Hy : Hyz tys cA base adS Ex) : xall (fun b t => xOK l Dg clz tys cA flz ftz base adS GWz xyz xcz xnz xrz Ex codez bmz bpz b t) 3 363 512 codez_3432 :=
  And.intro (anz_3428 Hy) (anz_3431 Hy)
theorem anz_3433 (Hy : Hyz tys cA base adS Ex) : xall (fun b t => xOK l Dg clz tys cA flz ftz base adS GWz xyz xcz xnz xrz Ex codez bmz bpz b t) 4 107 256 codez_3433 :=
  And.intro (anz_3425 Hy) (anz_3432 Hy)
theorem anz_3434 (Hy : Hyz tys cA base adS Ex) : xall (fun b t => xOK l Dg clz tys cA flz ftz base adS GWz xyz xcz xnz xrz Ex codez bmz bpz b t) 1 235 2048 codez_3434 :=
  And.intro (okz_235 Hy) (okz_2283 Hy)
theorem anz_3435 (Hy : Hyz tys cA base adS Ex) : xall (fun b t => xOK l Dg clz tys cA flz ftz base adS GWz xyz xcz xnz xrz Ex codez bmz bpz b t) 1 1259 2048 codez_3435 :=
  And.intro (okz_1259 Hy) (okzz 3307)
theorem anz_3436 (Hy : Hyz tys cA base adS Ex) : xall (fun b t => xOK l Dg clz tys cA flz ftz base adS GWz xyz xcz xnz xrz Ex codez bmz bpz b t) 2 235 1024 codez_3436 :=
  And.intro (anz_3434 Hy) (anz_3435 Hy)
theorem anz_3437 (Hy : Hyz tys cA base adS Ex) : xall (fun b t => xOK l Dg clz tys cA flz ftz base adS GWz xyz xcz xnz xrz Ex codez bmz bpz b t) 1 747 2048 codez_3437 :=
  And.intro (okz_747 Hy) (okzz 2795)
theorem anz_3438 (Hy : Hyz tys cA base adS Ex) : xall (fun b t => xOK l Dg clz tys cA flz ftz base adS GWz xyz xcz xnz xrz Ex codez bmz bpz b t) 1 1771 2048 codez_3438 :=
  And.intro (okz_1771 Hy) (okzz 3819)
theorem anz_3439 (Hy : Hyz tys cA base adS Ex) : xall (fun b t => xOK l Dg clz tys cA flz ftz base adS GWz xyz xcz xnz xrz Ex codez bmz bpz b t) 2 747 1024 codez_3439 :=
  And.intro (anz_3437 Hy) (anz_3438 Hy)
theorem anz_3440 (Hy : Hyz tys cA base adS Ex) : xall (fun b t => xOK l Dg clz tys cA flz ftz base adS GWz xyz xcz xnz xrz Ex codez bmz bpz b t) 3 235 512 codez_3440 :=
  And.intro (anz_3436 Hy) (anz_3439 Hy)
theorem anz_3441 (Hy : Hyz tys cA base adS Ex) : xall (fun b t => xOK l Dg clz tys cA flz ftz base adS GWz xyz xcz xnz xrz Ex codez bmz bpz b t) 1 491 2048 codez_3441 :=
  And.intro (okz_491 Hy) (okz_2539 Hy)
theorem anz_3442 (Hy : Hyz tys cA base adS Ex) : xall (fun b t => xOK l Dg clz tys cA flz ftz base adS GWz xyz xcz xnz xrz Ex codez bmz bpz b t) 1 1515 2048 codez_3442 :=
  And.intro (okz_1515 Hy) (okzz 3563)
theorem anz_3443 (Hy : Hyz tys cA base adS Ex) : xall (fun b t => xOK l Dg clz tys cA flz ftz base adS GWz xyz xcz xnz xrz Ex codez bmz bpz b t) 2 491 1024 codez_3443 :=
  And.intro (anz_3441 Hy) (anz_3442 Hy)
theorem anz_3444 (Hy : Hyz tys cA base adS Ex) : xall (fun b t => xOK l Dg clz tys cA flz ftz base adS GWz xyz xcz xnz xrz Ex codez bmz bpz b t) 1 1003 2048 codez_3444 :=
  And.intro (okz_1003 Hy) (okzz 3051)
theorem anz_3445 (Hy : Hyz tys cA base adS Ex) : xall (fun b t => xOK l Dg clz tys cA flz ftz base adS GWz xyz xcz xnz xrz Ex codez bmz bpz b t) 1 2027 2048 codez_3445 :=
  And.intro (okz_2027 Hy) (okzz 4075)
theorem anz_3446 (Hy : Hyz tys cA base adS Ex) : xall (fun b t => xOK l Dg clz tys cA flz ftz base adS GWz xyz xcz xnz xrz Ex codez bmz bpz b t) 2 1003 1024 codez_3446 :=
  And.intro (anz_3444 Hy) (anz_3445 Hy)
theorem anz_3447 (Hy : Hyz tys cA base adS Ex) : xall (fun b t => xOK l Dg clz tys cA flz ftz base adS GWz xyz xcz xnz xrz Ex codez bmz bpz b t) 3 491 512 codez_3447 :=
  And.intro (anz_3443 Hy) (anz_3446 Hy)
theorem anz_3448 (Hy : Hyz tys cA base adS Ex) : xall (fun b t => xOK l Dg clz tys cA flz ftz base adS GWz xyz xcz xnz xrz Ex codez bmz bpz b t) 4 235 256 codez_3448 :=
  And.intro (anz_3440 Hy) (anz_3447 Hy)
theorem anz_3449 (Hy : Hyz tys cA base adS Ex) : xall (fun b t => xOK l Dg clz tys cA flz ftz base adS GWz xyz xcz xnz xrz Ex codez bmz bpz b t) 5 107 128 codez_3449 :=
  And.intro (anz_3433 Hy) (anz_3448 Hy)
theorem anz_3450 (Hy : Hyz tys cA base adS Ex) : xall (fun b t => xOK l Dg clz tys cA flz ftz base adS GWz xyz xcz xnz xrz Ex codez bmz bpz b t) 6 43 64 codez_3450 :=
  And.intro (anz_3418 Hy) (anz_3449 Hy)
theorem anz_3451 (Hy : Hyz tys cA base adS Ex) : xall (fun b t => xOK l Dg clz tys cA flz ftz base adS GWz xyz xcz xnz xrz Ex codez bmz bpz b t) 7 11 32 codez_3451 :=
  And.intro (anz_3387 Hy) (anz_3450 Hy)
theorem anz_3452 (Hy : Hyz tys cA base adS Ex) : xall (fun b t => xOK l Dg clz tys cA flz ftz base adS GWz xyz xcz xnz xrz Ex codez bmz bpz b t) 1 27 2048 codez_3452 :=
  And.intro (okz_27 Hy) (okz_2075 Hy)
theorem anz_3453 (Hy : Hyz tys cA base adS Ex) : xall (fun b t => xOK l Dg clz tys cA flz ftz base adS GWz xyz xcz xnz xrz Ex codez bmz bpz b t) 1 1051 2048 codez_3453 :=
  And.intro (okz_1051 Hy) (okzz 3099)
theorem anz_3454 (Hy : Hyz tys cA base adS Ex) : xall (fun b t => xOK l Dg clz tys cA flz ftz base adS GWz xyz xcz xnz xrz Ex codez bmz bpz b t) 2 27 1024 codez_3454 :=
  And.intro (anz_3452 Hy) (anz_3453 Hy)
theorem anz_3455 (Hy : Hyz tys cA base adS Ex) : xall (fun b t => xOK l Dg clz tys cA flz ftz base adS GWz xyz xcz xnz xrz Ex codez bmz bpz b t) 1 539 2048 codez_3455 :=
  And.intro (okz_539 Hy) (okzz 2587)
theorem anz_3456 (Hy : Hyz tys cA base adS Ex) : xall (fun b t => xOK l Dg clz tys cA flz ftz base adS GWz xyz xcz xnz xrz Ex codez bmz bpz b t) 1 1563 2048 codez_3456 :=
  And.intro (okz_1563 Hy) (okzz 3611)
theorem anz_3457 (Hy : Hyz tys cA base adS Ex) : xall (fun b t => xOK l Dg clz tys cA flz ftz base adS GWz xyz xcz xnz xrz Ex codez bmz bpz b t) 2 539 1024 codez_3457 :=
  And.intro (anz_3455 Hy) (anz_3456 Hy)
theorem anz_3458 (Hy : Hyz tys cA base adS Ex) : xall (fun b t => xOK l Dg clz tys cA flz ftz base adS GWz xyz xcz xnz xrz Ex codez bmz bpz b t) 3 27 512 codez_3458 :=
  And.intro (anz_3454 Hy) (anz_3457 Hy)
theorem anz_3459 (Hy : Hyz tys cA base adS Ex) : xall (fun b t => xOK l Dg clz tys cA flz ftz base adS GWz xyz xcz xnz xrz Ex codez bmz bpz b t) 1 283 2048 codez_3459 :=
  And.intro (okz_283 Hy) (okz_2331 Hy)
theorem anz_3460 (Hy : Hyz tys cA base adS Ex) : xall (fun b t => xOK l Dg clz tys cA flz ftz base adS GWz xyz xcz xnz xrz Ex codez bmz bpz b t) 1 1307 2048 codez_3460 :=
  And.intro (okz_1307 Hy) (okzz 3355)
theorem anz_3461 (Hy : Hyz tys cA base adS Ex) : xall (fun b t => xOK l Dg clz tys cA flz ftz base adS GWz xyz xcz xnz xrz Ex codez bmz bpz b t) 2 283 1024 codez_3461 :=
  And.intro (anz_3459 Hy) (anz_3460 Hy)
theorem anz_3462 (Hy : Hyz tys cA base adS Ex) : xall (fun b t => xOK l Dg clz tys cA flz ftz base adS GWz xyz xcz xnz xrz Ex codez bmz bpz b t) 1 795 2048 codez_3462 :=
  And.intro (okz_795 Hy) (okzz 2843)
theorem anz_3463 (Hy : Hyz tys cA base adS Ex) : xall (fun b t => xOK l Dg clz tys cA flz ftz base adS GWz xyz xcz xnz xrz Ex codez bmz bpz b t) 1 1819 2048 codez_3463 :=
  And.intro (okz_1819 Hy) (okzz 3867)
theorem anz_3464 (Hy : Hyz tys cA base adS Ex) : xall (fun b t => xOK l Dg clz tys cA flz ftz base adS GWz xyz xcz xnz xrz Ex codez bmz bpz b t) 2 795 1024 codez_3464 :=
  And.intro (anz_3462 Hy) (anz_3463 Hy)
theorem anz_3465 (Hy : Hyz tys cA base adS Ex) : xall (fun b t => xOK l Dg clz tys cA flz ftz base adS GWz xyz xcz xnz xrz Ex codez bmz bpz b t) 3 283 512 codez_3465 :=
  And.intro (anz_3461 Hy) (anz_3464 Hy)
theorem anz_3466 (Hy : Hyz tys cA base adS Ex) : xall (fun b t => xOK l Dg clz tys cA flz ftz base adS GWz xyz xcz xnz xrz Ex codez bmz bpz b t) 4 27 256 codez_3466 :=
  And.intro (anz_3458 Hy) (anz_3465 Hy)
theorem anz_3467 (Hy : Hyz tys cA base adS Ex) : xall (fun b t => xOK l Dg clz tys cA flz ftz base adS GWz xyz xcz xnz xrz Ex codez bmz bpz b t) 1 155 2048 codez_3467 :=
  And.intro (okz_155 Hy) (okz_2203 Hy)
theorem anz_3468 (Hy : Hyz tys cA base adS Ex) : xall (fun b t => xOK l Dg clz tys cA flz ftz base adS GWz xyz xcz xnz xrz Ex codez bmz bpz b t) 1 1179 2048 codez_3468 :=
  And.intro (okz_1179 Hy) (okzz 3227)
theorem anz_3469 (Hy : Hyz tys cA base adS Ex) : xall (fun b t => xOK l Dg clz tys cA flz ftz base adS GWz xyz xcz xnz xrz Ex codez bmz bpz b t) 2 155 1024 codez_3469 :=
  And.intro (anz_3467 Hy) (anz_3468 Hy)
theorem anz_3470 (Hy : Hyz tys cA base adS Ex) : xall (fun b t => xOK l Dg clz tys cA flz ftz base adS GWz xyz xcz xnz xrz Ex codez bmz bpz b t) 1 667 2048 codez_3470 :=
  And.intro (okz_667 Hy) (okzz 2715)
theorem anz_3471 (Hy : Hyz tys cA base adS Ex) : xall (fun b t => xOK l Dg clz tys cA flz ftz base adS GWz xyz xcz xnz xrz Ex codez bmz bpz b t) 1 1691 2048 codez_3471 :=
  And.intro (okz_1691 Hy) (okzz 3739)
theorem anz_3472 (Hy : Hyz tys cA base adS Ex) : xall (fun b t => xOK l Dg clz tys cA flz ftz base adS GWz xyz xcz xnz xrz Ex codez bmz bpz b t) 2 667 1024 codez_3472 :=
  And.intro (anz_3470 Hy) (anz_3471 Hy)
theorem anz_3473 (Hy : Hyz tys cA base adS Ex) : xall (fun b t => xOK l Dg clz tys cA flz ftz base adS GWz xyz xcz xnz xrz Ex codez bmz bpz b t) 3 155 512 codez_3473 :=
  And.intro (anz_3469 Hy) (anz_3472 Hy)
theorem anz_3474 (Hy : Hyz tys cA base adS Ex) : xall (fun b t => xOK l Dg clz tys cA flz ftz base adS GWz xyz xcz xnz xrz Ex codez bmz bpz b t) 1 411 2048 codez_3474 :=
  And.intro (okz_411 Hy) (okz_2459 Hy)
theorem anz_3475 (Hy : Hyz tys cA base adS Ex) : xall (fun b t => xOK l Dg clz tys cA flz ftz base adS GWz xyz xcz xnz xrz Ex codez bmz bpz b t) 1 1435 2048 codez_3475 :=
  And.intro (okz_1435 Hy) (okzz 3483)
theorem anz_3476 (Hy : Hyz tys cA base adS Ex) : xall (fun b t => xOK l Dg clz tys cA flz ftz base adS GWz xyz xcz xnz xrz Ex codez bmz bpz b t) 2 411 1024 codez_3476 :=
  And.intro (anz_3474 Hy) (anz_3475 Hy)
theorem anz_3477 (Hy : Hyz tys cA base adS Ex) : xall (fun b t => xOK l Dg clz tys cA flz ftz base adS GWz xyz xcz xnz xrz Ex codez bmz bpz b t) 1 923 2048 codez_3477 :=
  And.intro (okz_923 Hy) (okzz 2971)
theorem anz_3478 (Hy : Hyz tys cA base adS Ex) : xall (fun b t => xOK l Dg clz tys cA flz ftz base adS GWz xyz xcz xnz xrz Ex codez bmz bpz b t) 1 1947 2048 codez_3478 :=
  And.intro (okz_1947 Hy) (okzz 3995)
theorem anz_3479 (Hy : Hyz tys cA base adS Ex) : xall (fun b t => xOK l Dg clz tys cA flz ftz base adS GWz xyz xcz xnz xrz Ex codez bmz bpz b t) 2 923 1024 codez_3479 :=
  And.intro (anz_3477 Hy) (anz_3478 Hy)
theorem anz_3480 (Hy : Hyz tys cA base adS Ex) : xall (fun b t => xOK l Dg clz tys cA flz ftz base adS GWz xyz xcz xnz xrz Ex codez bmz bpz b t) 3 411 512 codez_3480 :=
  And.intro (anz_3476 Hy) (anz_3479 Hy)
theorem anz_3481 (Hy : Hyz tys cA base adS Ex) : xall (fun b t => xOK l Dg clz tys cA flz ftz base adS GWz xyz xcz xnz xrz Ex codez bmz bpz b t) 4 155 256 codez_3481 :=
  And.intro (anz_3473 Hy) (anz_3480 Hy)
theorem anz_3482 (Hy : Hyz tys cA base adS Ex) : xall (fun b t => xOK l Dg clz tys cA flz ftz base adS GWz xyz xcz xnz xrz Ex codez bmz bpz b t) 5 27 128 codez_3482 :=
  And.intro (anz_3466 Hy) (anz_3481 Hy)
theorem anz_3483 (Hy : Hyz tys cA base adS Ex) : xall (fun b t => xOK l Dg clz tys cA flz ftz base adS GWz xyz xcz xnz xrz Ex codez bmz bpz b t) 1 91 2048 codez_3483 :=
  And.intro (okz_91 Hy) (okz_2139 Hy)
theorem anz_3484 (Hy : Hyz tys cA base adS Ex) : xall (fun b t => xOK l Dg clz tys cA flz ftz base adS GWz xyz xcz xnz xrz Ex codez bmz bpz b t) 1 1115 2048 codez_3484 :=
  And.intro (okz_1115 Hy) (okzz 3163)
theorem anz_3485 (Hy : Hyz tys cA base adS Ex) : xall (fun b t => xOK l Dg clz tys cA flz ftz base adS GWz xyz xcz xnz xrz Ex codez bmz bpz b t) 2 91 1024 codez_3485 :=
  And.intro (anz_3483 Hy) (anz_3484 Hy)
theorem anz_3486 (Hy : Hyz tys cA base adS Ex) : xall (fun b t => xOK l Dg clz tys cA flz ftz base adS GWz xyz xcz xnz xrz Ex codez bmz bpz b t) 1 603 2048 codez_3486 :=
  And.intro (okz_603 Hy) (okzz 2651)
theorem anz_3487 (Hy : Hyz tys cA base adS Ex) : xall (fun b t => xOK l Dg clz tys cA flz ftz base adS GWz xyz xcz xnz xrz Ex codez bmz bpz b t) 1 1627 2048 codez_3487 :=
  And.intro (okz_1627 Hy) (okzz 3675)
theorem anz_3488 (Hy : Hyz tys cA base adS Ex) : xall (fun b t => xOK l Dg clz tys cA flz ftz base adS GWz xyz xcz xnz xrz Ex codez bmz bpz b t) 2 603 1024 codez_3488 :=
  And.intro (anz_3486 Hy) (anz_3487 Hy)
theorem anz_3489 (Hy : Hyz tys cA base adS Ex) : xall (fun b t => xOK l Dg clz tys cA flz ftz base adS GWz xyz xcz xnz xrz Ex codez bmz bpz b t) 3 91 512 codez_3489 :=
  And.intro (anz_3485 Hy) (anz_3488 Hy)
theorem anz_3490 (Hy : Hyz tys cA base adS Ex) : xall (fun b t => xOK l Dg clz tys cA flz ftz base adS GWz xyz xcz xnz xrz Ex codez bmz bpz b t) 1 347 2048 codez_3490 :=
  And.intro (okz_347 Hy) (okz_2395 Hy)
theorem anz_3491 (Hy : Hyz tys cA base adS Ex) : xall (fun b t => xOK l Dg clz tys cA flz ftz base adS GWz xyz xcz xnz xrz Ex codez bmz bpz b t) 1 1371 2048 codez_3491 :=
  And.intro (okz_1371 Hy) (okzz 3419)
theorem anz_3492 (Hy : Hyz tys cA base adS Ex) : xall (fun b t => xOK l Dg clz tys cA flz ftz base adS GWz xyz xcz xnz xrz Ex codez bmz bpz b t) 2 347 1024 codez_3492 :=
  And.intro (anz_3490 Hy) (anz_3491 Hy)
theorem anz_3493 (Hy : Hyz tys cA base adS Ex) : xall (fun b t => xOK l Dg clz tys cA flz ftz base adS GWz xyz xcz xnz xrz Ex codez bmz bpz b t) 1 859 2048 codez_3493 :=
  And.intro (okz_859 Hy) (okzz 2907)
theorem anz_3494 (Hy : Hyz tys cA base adS Ex) : xall (fun b t => xOK l Dg clz tys cA flz ftz base adS GWz xyz xcz xnz xrz Ex codez bmz bpz b t) 1 1883 2048 codez_3494 :=
  And.intro (okz_1883 Hy) (okzz 3931)
theorem anz_3495 (Hy : Hyz tys cA base adS Ex) : xall (fun b t => xOK l Dg clz tys cA flz ftz base adS GWz xyz xcz xnz xrz Ex codez bmz bpz b t) 2 859 1024 codez_3495 :=
  And.intro (anz_3493 Hy) (anz_3494 Hy)
theorem anz_3496 (Hy : Hyz tys cA base adS Ex) : xall (fun b t => xOK l Dg clz tys cA flz ftz base adS GWz xyz xcz xnz xrz Ex codez bmz bpz b t) 3 347 512 codez_3496 :=
  And.intro (anz_3492 Hy) (anz_3495 Hy)
theorem anz_3497 (Hy : Hyz tys cA base adS Ex) : xall (fun b t => xOK l Dg clz tys cA flz ftz base adS GWz xyz xcz xnz xrz Ex codez bmz bpz b t) 4 91 256 codez_3497 :=
  And.intro (anz_3489 Hy) (anz_3496 Hy)
theorem anz_3498 (Hy : Hyz tys cA base adS Ex) : xall (fun b t => xOK l Dg clz tys cA flz ftz base adS GWz xyz xcz xnz xrz Ex codez bmz bpz b t) 1 219 2048 codez_3498 :=
  And.intro (okz_219 Hy) (okz_2267 Hy)
theorem anz_3499 (Hy : Hyz tys cA base adS Ex) : xall (fun b t => xOK l Dg clz tys cA flz ftz base adS GWz xyz xcz xnz xrz Ex codez bmz bpz b t) 1 1243 2048 codez_3499 :=
  And.intro (okz_1243 Hy) (okzz 3291)
theorem anz_3500 (Hy : Hyz tys cA base adS Ex) : xall (fun b t => xOK l Dg clz tys cA flz ftz base adS GWz xyz xcz xnz xrz Ex codez bmz bpz b t) 2 219 1024 codez_3500 :=
  And.intro (anz_3498 Hy) (anz_3499 Hy)
theorem anz_3501 (Hy : Hyz tys cA base adS Ex) : xall (fun b t => xOK l Dg clz tys cA flz ftz base adS GWz xyz xcz xnz xrz Ex codez bmz bpz b t) 1 731 2048 codez_3501 :=
  And.intro (okz_731 Hy) (okzz 2779)
theorem anz_3502 (Hy : Hyz tys cA base adS Ex) : xall (fun b t => xOK l Dg clz tys cA flz ftz base adS GWz xyz xcz xnz xrz Ex codez bmz bpz b t) 1 1755 2048 codez_3502 :=
  And.intro (okz_1755 Hy) (okzz 3803)
theorem anz_3503 (Hy : Hyz tys cA base adS Ex) : xall (fun b t => xOK l Dg clz tys cA flz ftz base adS GWz xyz xcz xnz xrz Ex codez bmz bpz b t) 2 731 1024 codez_3503 :=
  And.intro (anz_3501 Hy) (anz_3502 Hy)
theorem anz_3504 (Hy : Hyz tys cA base adS Ex) : xall (fun b t => xOK l Dg clz tys cA flz ftz base adS GWz xyz xcz xnz xrz Ex codez bmz bpz b t) 3 219 512 codez_3504 :=
  And.intro (anz_3500 Hy) (anz_3503 Hy)
theorem anz_3505 (Hy : Hyz tys cA base adS Ex) : xall (fun b t => xOK l Dg clz tys cA flz ftz base adS GWz xyz xcz xnz xrz Ex codez bmz bpz b t) 1 475 2048 codez_3505 :=
  And.intro (okz_475 Hy) (okz_2523 Hy)
theorem anz_3506 (Hy : Hyz tys cA base adS Ex) : xall (fun b t => xOK l Dg clz tys cA flz ftz base adS GWz xyz xcz xnz xrz Ex codez bmz bpz b t) 1 1499 2048 codez_3506 :=
  And.intro (okz_1499 Hy) (okzz 3547)
theorem anz_3507 (Hy : Hyz tys cA base adS Ex) : xall (fun b t => xOK l Dg clz tys cA flz ftz base adS GWz xyz xcz xnz xrz Ex codez bmz bpz b t) 2 475 1024 codez_3507 :=
  And.intro (anz_3505 Hy) (anz_3506 Hy)
theorem anz_3508 (Hy : Hyz tys cA base adS Ex) : xall (fun b t => xOK l Dg clz tys cA flz ftz base adS GWz xyz xcz xnz xrz Ex codez bmz bpz b t) 1 987 2048 codez_3508 :=
  And.intro (okz_987 Hy) (okzz 3035)
theorem anz_3509 (Hy : Hyz tys cA base adS Ex) : xall (fun b t => xOK l Dg clz tys cA flz ftz base adS GWz xyz xcz xnz xrz Ex codez bmz bpz b t) 1 2011 2048 codez_3509 :=
  And.intro (okz_2011 Hy) (okzz 4059)
theorem anz_3510 (Hy : Hyz tys cA base adS Ex) : xall (fun b t => xOK l Dg clz tys cA flz ftz base adS GWz xyz xcz xnz xrz Ex codez bmz bpz b t) 2 987 1024 codez_3510 :=
  And.intro (anz_3508 Hy) (anz_3509 Hy)
theorem anz_3511 (Hy : Hyz tys cA base adS Ex) : xall (fun b t => xOK l Dg clz tys cA flz ftz base adS GWz xyz xcz xnz xrz Ex codez bmz bpz b t) 3 475 512 codez_3511 :=
  And.intro (anz_3507 Hy) (anz_3510 Hy)
theorem anz_3512 (Hy : Hyz tys cA base adS Ex) : xall (fun b t => xOK l Dg clz tys cA flz ftz base adS GWz xyz xcz xnz xrz Ex codez bmz bpz b t) 4 219 256 codez_3512 :=
  And.intro (anz_3504 Hy) (anz_3511 Hy)
theorem anz_3513 (Hy : Hyz tys cA base adS Ex) : xall (fun b t => xOK l Dg clz tys cA flz ftz base adS GWz xyz xcz xnz xrz Ex codez bmz bpz b t) 5 91 128 codez_3513 :=
  And.intro (anz_3497 Hy) (anz_3512 Hy)
theorem anz_3514 (Hy : Hyz tys cA base adS Ex) : xall (fun b t => xOK l Dg clz tys cA flz ftz base adS GWz xyz xcz xnz xrz Ex codez bmz bpz b t) 6 27 64 codez_3514 :=
  And.intro (anz_3482 Hy) (anz_3513 Hy)
theorem anz_3515 (Hy : Hyz tys cA base adS Ex) : xall (fun b t => xOK l Dg clz tys cA flz ftz base adS GWz xyz xcz xnz xrz Ex codez bmz bpz b t) 1 59 2048 codez_3515 :=
  And.intro (okz_59 Hy) (okz_2107 Hy)
theorem anz_3516 (Hy : Hyz tys cA base adS Ex) : xall (fun b t => xOK l Dg clz tys cA flz ftz base adS GWz xyz xcz xnz xrz Ex codez bmz bpz b t) 1 1083 2048 codez_3516 :=
  And.intro (okz_1083 Hy) (okzz 3131)
theorem anz_3517 (Hy : Hyz tys cA base adS Ex) : xall (fun b t => xOK l Dg clz tys cA flz ftz base adS GWz xyz xcz xnz xrz Ex codez bmz bpz b t) 2 59 1024 codez_3517 :=
  And.intro (anz_3515 Hy) (anz_3516 Hy)
theorem anz_3518 (Hy : Hyz tys cA base adS Ex) : xall (fun b t => xOK l Dg clz tys cA flz ftz base adS GWz xyz xcz xnz xrz Ex codez bmz bpz b t) 1 571 2048 codez_3518 :=
  And.intro (okz_571 Hy) (okzz 2619)
theorem anz_3519 (Hy : Hyz tys cA base adS Ex) : xall (fun b t => xOK l Dg clz tys cA flz ftz base adS GWz xyz xcz xnz xrz Ex codez bmz bpz b t) 1 1595 2048 codez_3519 :=
  And.intro (okz_1595 Hy) (okzz 3643)
theorem anz_3520 (Hy : Hyz tys cA base adS Ex) : xall (fun b t => xOK l Dg clz tys cA flz ftz base adS GWz xyz xcz xnz xrz Ex codez bmz bpz b t) 2 571 1024 codez_3520 :=
  And.intro (anz_3518 Hy) (anz_3519 Hy)
theorem anz_3521 (Hy : Hyz tys cA base adS Ex) : xall (fun b t => xOK l Dg clz tys cA flz ftz base adS GWz xyz xcz xnz xrz Ex codez bmz bpz b t) 3 59 512 codez_3521 :=
  And.intro (anz_3517 Hy) (anz_3520 Hy)
theorem anz_3522 (Hy : Hyz tys cA base adS Ex) : xall (fun b t => xOK l Dg clz tys cA flz ftz base adS GWz xyz xcz xnz xrz Ex codez bmz bpz b t) 1 315 2048 codez_3522 :=
  And.intro (okz_315 Hy) (okz_2363 Hy)
theorem anz_3523 (Hy : Hyz tys cA base adS Ex) : xall (fun b t => xOK l Dg clz tys cA flz ftz base adS GWz xyz xcz xnz xrz Ex codez bmz bpz b t) 1 1339 2048 codez_3523 :=
  And.intro (okz_1339 Hy) (okzz 3387)
theorem anz_3524 (Hy : Hyz tys cA base adS Ex) : xall (fun b t => xOK l Dg clz tys cA flz ftz base adS GWz xyz xcz xnz xrz Ex codez bmz bpz b t) 2 315 1024 codez_3524 :=
  And.intro (anz_3522 Hy) (anz_3523 Hy)
theorem anz_3525 (Hy : Hyz tys cA base adS Ex) : xall (fun b t => xOK l Dg clz tys cA flz ftz base adS GWz xyz xcz xnz xrz Ex codez bmz bpz b t) 1 827 2048 codez_3525 :=
  And.intro (okz_827 Hy) (okzz 2875)
theorem anz_3526 (Hy : Hyz tys cA base adS Ex) : xall (fun b t => xOK l Dg clz tys cA flz ftz base adS GWz xyz xcz xnz xrz Ex codez bmz bpz b t) 1 1851 2048 codez_3526 :=
  And.intro (okz_1851 Hy) (okzz 3899)
theorem anz_3527 (Hy : Hyz tys cA base adS Ex) : xall (fun b t => xOK l Dg clz tys cA flz ftz base adS GWz xyz xcz xnz xrz Ex codez bmz bpz b t) 2 827 1024 codez_3527 :=
  And.intro (anz_3525 Hy) (anz_3526 Hy)
theorem anz_3528 (Hy : Hyz tys cA base adS Ex) : xall (fun b t => xOK l Dg clz tys cA flz ftz base adS GWz xyz xcz xnz xrz Ex codez bmz bpz b t) 3 315 512 codez_3528 :=
  And.intro (anz_3524 Hy) (anz_3527 Hy)
theorem anz_3529 (Hy : Hyz tys cA base adS Ex) : xall (fun b t => xOK l Dg clz tys cA flz ftz base adS GWz xyz xcz xnz xrz Ex codez bmz bpz b t) 4 59 256 codez_3529 :=
  And.intro (anz_3521 Hy) (anz_3528 Hy)
theorem anz_3530 (Hy : Hyz tys cA base adS Ex) : xall (fun b t => xOK l Dg clz tys cA flz ftz base adS GWz xyz xcz xnz xrz Ex codez bmz bpz b t) 1 187 2048 codez_3530 :=
  And.intro (okz_187 Hy) (okz_2235 Hy)
theorem anz_3531 (Hy : Hyz tys cA base adS Ex) : xall (fun b t => xOK l Dg clz tys cA flz ftz base adS GWz xyz xcz xnz xrz Ex codez bmz bpz b t) 1 1211 2048 codez_3531 :=
  And.intro (okz_1211 Hy) (okzz 3259)
theorem anz_3532 (Hy : Hyz tys cA base adS Ex) : xall (fun b t => xOK l Dg clz tys cA flz ftz base adS GWz xyz xcz xnz xrz Ex codez bmz bpz b t) 2 187 1024 codez_3532 :=
  And.intro (anz_3530 Hy) (anz_3531 Hy)
theorem anz_3533 (Hy : Hyz tys cA base adS Ex) : xall (fun b t => xOK l Dg clz tys cA flz ftz base adS GWz xyz xcz xnz xrz Ex codez bmz bpz b t) 1 699 2048 codez_3533 :=
  And.intro (okz_699 Hy) (okzz 2747)
theorem anz_3534 (Hy : Hyz tys cA base adS Ex) : xall (fun b t => xOK l Dg clz tys cA flz ftz base adS GWz xyz xcz xnz xrz Ex codez bmz bpz b t) 1 1723 2048 codez_3534 :=
  And.intro (okz_1723 Hy) (okzz 3771)
theorem anz_3535 (Hy : Hyz tys cA base adS Ex) : xall (fun b t => xOK l Dg clz tys cA flz ftz base adS GWz xyz xcz xnz xrz Ex codez bmz bpz b t) 2 699 1024 codez_3535 :=
  And.intro (anz_3533 Hy) (anz_3534 Hy)
theorem anz_3536 (Hy : Hyz tys cA base adS Ex) : xall (fun b t => xOK l Dg clz tys cA flz ftz base adS GWz xyz xcz xnz xrz Ex codez bmz bpz b t) 3 187 512 codez_3536 :=
  And.intro (anz_3532 Hy) (anz_3535 Hy)
theorem anz_3537 (Hy : Hyz tys cA base adS Ex) : xall (fun b t => xOK l Dg clz tys cA flz ftz base adS GWz xyz xcz xnz xrz Ex codez bmz bpz b t) 1 443 2048 codez_3537 :=
  And.intro (okz_443 Hy) (okz_2491 Hy)
theorem anz_3538 (Hy : Hyz tys cA base adS Ex) : xall (fun b t => xOK l Dg clz tys cA flz ftz base adS GWz xyz xcz xnz xrz Ex codez bmz bpz b t) 1 1467 2048 codez_3538 :=
  And.intro (okz_1467 Hy) (okzz 3515)
theorem anz_3539 (Hy : Hyz tys cA base adS Ex) : xall (fun b t => xOK l Dg clz tys cA flz ftz base adS GWz xyz xcz xnz xrz Ex codez bmz bpz b t) 2 443 1024 codez_3539 :=
  And.intro (anz_3537 Hy) (anz_3538 Hy)
theorem anz_3540 (Hy : Hyz tys cA base adS Ex) : xall (fun b t => xOK l Dg clz tys cA flz ftz base adS GWz xyz xcz xnz xrz Ex codez bmz bpz b t) 1 955 2048 codez_3540 :=
  And.intro (okz_955 Hy) (okzz 3003)
theorem anz_3541 (Hy : Hyz tys cA base adS Ex) : xall (fun b t => xOK l Dg clz tys cA flz ftz base adS GWz xyz xcz xnz xrz Ex codez bmz bpz b t) 1 1979 2048 codez_3541 :=
  And.intro (okz_1979 Hy) (okzz 4027)
theorem anz_3542 (Hy : Hyz tys cA base adS Ex) : xall (fun b t => xOK l Dg clz tys cA flz ftz base adS GWz xyz xcz xnz xrz Ex codez bmz bpz b t) 2 955 1024 codez_3542 :=
  And.intro (anz_3540 Hy) (anz_3541 Hy)
theorem anz_3543 (Hy : Hyz tys cA base adS Ex) : xall (fun b t => xOK l Dg clz tys cA flz ftz base adS GWz xyz xcz xnz xrz Ex codez bmz bpz b t) 3 443 512 codez_3543 :=
  And.intro (anz_3539 Hy) (anz_3542 Hy)
theorem anz_3544 (Hy : Hyz tys cA base adS Ex) : xall (fun b t => xOK l Dg clz tys cA flz ftz base adS GWz xyz xcz xnz xrz Ex codez bmz bpz b t) 4 187 256 codez_3544 :=
  And.intro (anz_3536 Hy) (anz_3543 Hy)
theorem anz_3545 (Hy : Hyz tys cA base adS Ex) : xall (fun b t => xOK l Dg clz tys cA flz ftz base adS GWz xyz xcz xnz xrz Ex codez bmz bpz b t) 5 59 128 codez_3545 :=
  And.intro (anz_3529 Hy) (anz_3544 Hy)
theorem anz_3546 (Hy : Hyz tys cA base adS Ex) : xall (fun b t => xOK l Dg clz tys cA flz ftz base adS GWz xyz xcz xnz xrz Ex codez bmz bpz b t) 1 123 2048 codez_3546 :=
  And.intro (okz_123 Hy) (okz_2171 Hy)
theorem anz_3547 (Hy : Hyz tys cA base adS Ex) : xall (fun b t => xOK l Dg clz tys cA flz ftz base adS GWz xyz xcz xnz xrz Ex codez bmz bpz b t) 1 1147 2048 codez_3547 :=
  And.intro (okz_1147 Hy) (okzz 3195)
theorem anz_3548 (Hy : Hyz tys cA base adS Ex) : xall (fun b t => xOK l Dg clz tys cA flz ftz base adS GWz xyz xcz xnz xrz Ex codez bmz bpz b t) 2 123 1024 codez_3548 :=
  And.intro (anz_3546 Hy) (anz_3547 Hy)
theorem anz_3549 (Hy : Hyz tys cA base adS Ex) : xall (fun b t => xOK l Dg clz tys cA flz ftz base adS GWz xyz xcz xnz xrz Ex codez bmz bpz b t) 1 635 2048 codez_3549 :=
  And.intro (okz_635 Hy) (okzz 2683)
theorem anz_3550 (Hy : Hyz tys cA base adS Ex) : xall (fun b t => xOK l Dg clz tys cA flz ftz base adS GWz xyz xcz xnz xrz Ex codez bmz bpz b t) 1 1659 2048 codez_3550 :=
  And.intro (okz_1659 Hy) (okzz 3707)
theorem anz_3551 (Hy : Hyz tys cA base adS Ex) : xall (fun b t => xOK l Dg clz tys cA flz ftz base adS GWz xyz xcz xnz xrz Ex codez bmz bpz b t) 2 635 1024 codez_3551 :=
  And.intro (anz_3549 Hy) (anz_3550 Hy)
theorem anz_3552 (Hy : Hyz tys cA base adS Ex) : xall (fun b t => xOK l Dg clz tys cA flz ftz base adS GWz xyz xcz xnz xrz Ex codez bmz bpz b t) 3 123 512 codez_3552 :=
  And.intro (anz_3548 Hy) (anz_3551 Hy)
theorem anz_3553 (Hy : Hyz tys cA base adS Ex) : xall (fun b t => xOK l Dg clz tys cA flz ftz base adS GWz xyz xcz xnz xrz Ex codez bmz bpz b t) 1 379 2048 codez_3553 :=
  And.intro (okz_379 Hy) (okz_2427 Hy)
theorem anz_3554 (Hy : Hyz tys cA base adS Ex) : xall (fun b t => xOK l Dg clz tys cA flz ftz base adS GWz xyz xcz xnz xrz Ex codez bmz bpz b t) 1 1403 2048 codez_3554 :=
  And.intro (okz_1403 Hy) (okzz 3451)
theorem anz_3555 (Hy : Hyz tys cA base adS Ex) : xall (fun b t => xOK l Dg clz tys cA flz ftz base adS GWz xyz xcz xnz xrz Ex codez bmz bpz b t) 2 379 1024 codez_3555 :=
  And.intro (anz_3553 Hy) (anz_3554 Hy)
theorem anz_3556 (Hy : Hyz tys cA base adS Ex) : xall (fun b t => xOK l Dg clz tys cA flz ftz base adS GWz xyz xcz xnz xrz Ex codez bmz bpz b t) 1 891 2048 codez_3556 :=
  And.intro (okz_891 Hy) (okzz 2939)
theorem anz_3557 (Hy : Hyz tys cA base adS Ex) : xall (fun b t => xOK l Dg clz tys cA flz ftz base adS GWz xyz xcz xnz xrz Ex codez bmz bpz b t) 1 1915 2048 codez_3557 :=
  And.intro (okz_1915 Hy) (okzz 3963)
theorem anz_3558 (Hy : Hyz tys cA base adS Ex) : xall (fun b t => xOK l Dg clz tys cA flz ftz base adS GWz xyz xcz xnz xrz Ex codez bmz bpz b t) 2 891 1024 codez_3558 :=
  And.intro (anz_3556 Hy) (anz_3557 Hy)
theorem anz_3559 (Hy : Hyz tys cA base adS Ex) : xall (fun b t => xOK l Dg clz tys cA flz ftz base adS GWz xyz xcz xnz xrz Ex codez bmz bpz b t) 3 379 512 codez_3559 :=
  And.intro (anz_3555 Hy) (anz_3558 Hy)
theorem anz_3560 (Hy : Hyz tys cA base adS Ex) : xall (fun b t => xOK l Dg clz tys cA flz ftz base adS GWz xyz xcz xnz xrz Ex codez bmz bpz b t) 4 123 256 codez_3560 :=
  And.intro (anz_3552 Hy) (anz_3559 Hy)
theorem anz_3561 (Hy : Hyz tys cA base adS Ex) : xall (fun b t => xOK l Dg clz tys cA flz ftz base adS GWz xyz xcz xnz xrz Ex codez bmz bpz b t) 1 251 2048 codez_3561 :=
  And.intro (okz_251 Hy) (okz_2299 Hy)
theorem anz_3562 (Hy : Hyz tys cA base adS Ex) : xall (fun b t => xOK l Dg clz tys cA flz ftz base adS GWz xyz xcz xnz xrz Ex codez bmz bpz b t) 1 1275 2048 codez_3562 :=
  And.intro (okz_1275 Hy) (okzz 3323)
theorem anz_3563 (Hy : Hyz tys cA base adS Ex) : xall (fun b t => xOK l Dg clz tys cA flz ftz base adS GWz xyz xcz xnz xrz Ex codez bmz bpz b t) 2 251 1024 codez_3563 :=
  And.intro (anz_3561 Hy) (anz_3562 Hy)
theorem anz_3564 (Hy : Hyz tys cA base adS Ex) : xall (fun b t => xOK l Dg clz tys cA flz ftz base adS GWz xyz xcz xnz xrz Ex codez bmz bpz b t) 1 763 2048 codez_3564 :=
  And.intro (okz_763 Hy) (okzz 2811)
theorem anz_3565 (Hy : Hyz tys cA base adS Ex) : xall (fun b t => xOK l Dg clz tys cA flz ftz base adS GWz xyz xcz xnz xrz Ex codez bmz bpz b t) 1 1787 2048 codez_3565 :=
  And.intro (okz_1787 Hy) (okzz 3835)
theorem anz_3566 (Hy : Hyz tys cA base adS Ex) : xall (fun b t => xOK l Dg clz tys cA flz ftz base adS GWz xyz xcz xnz xrz Ex codez bmz bpz b t) 2 763 1024 codez_3566 :=
  And.intro (anz_3564 Hy) (anz_3565 Hy)
theorem anz_3567 (Hy : Hyz tys cA base adS Ex) : xall (fun b t => xOK l Dg clz tys cA flz ftz base adS GWz xyz xcz xnz xrz Ex codez bmz bpz b t) 3 251 512 codez_3567 :=
  And.intro (anz_3563 Hy) (anz_3566 Hy)
theorem anz_3568 (Hy : Hyz tys cA base adS Ex) : xall (fun b t => xOK l Dg clz tys cA flz ftz base adS GWz xyz xcz xnz xrz Ex codez bmz bpz b t) 1 507 2048 codez_3568 :=
  And.intro (okz_507 Hy) (okzz 2555)
theorem anz_3569 (Hy : Hyz tys cA base adS Ex) : xall (fun b t => xOK l Dg clz tys cA flz ftz base adS GWz xyz xcz xnz xrz Ex codez bmz bpz b t) 1 1531 2048 codez_3569 :=
  And.intro (okz_1531 Hy) (okzz 3579)
theorem anz_3570 (Hy : Hyz tys cA base adS Ex) : xall (fun b t => xOK l Dg clz tys cA flz ftz base adS GWz xyz xcz xnz xrz Ex codez bmz bpz b t) 2 507 1024 codez_3570 :=
  And.intro (anz_3568 Hy) (anz_3569 Hy)
theorem anz_3571 (Hy : Hyz tys cA base adS Ex) : xall (fun b t => xOK l Dg clz tys cA flz ftz base adS GWz xyz xcz xnz xrz Ex codez bmz bpz b t) 1 1019 2048 codez_3571 :=
  And.intro (okz_1019 Hy) (okzz 3067)
theorem anz_3572 (Hy : Hyz tys cA base adS Ex) : xall (fun b t => xOK l Dg clz tys cA flz ftz base adS GWz xyz xcz xnz xrz Ex codez bmz bpz b t) 1 2043 2048 codez_3572 :=
  And.intro (okz_2043 Hy) (okzz 4091)
theorem anz_3573 (Hy : Hyz tys cA base adS Ex) : xall (fun b t => xOK l Dg clz tys cA flz ftz base adS GWz xyz xcz xnz xrz Ex codez bmz bpz b t) 2 1019 1024 codez_3573 :=
  And.intro (anz_3571 Hy) (anz_3572 Hy)
theorem anz_3574 (Hy : Hyz tys cA base adS Ex) : xall (fun b t => xOK l Dg clz tys cA flz ftz base adS GWz xyz xcz xnz xrz Ex codez bmz bpz b t) 3 507 512 codez_3574 :=
  And.intro (anz_3570 Hy) (anz_3573 Hy)
theorem anz_3575 (Hy : Hyz tys cA base adS Ex) : xall (fun b t => xOK l Dg clz tys cA flz ftz base adS GWz xyz xcz xnz xrz Ex codez bmz bpz b t) 4 251 256 codez_3575 :=
  And.intro (anz_3567 Hy) (anz_3574 Hy)
theorem anz_3576 (Hy : Hyz tys cA base adS Ex) : xall (fun b t => xOK l Dg clz tys cA flz ftz base adS GWz xyz xcz xnz xrz Ex codez bmz bpz b t) 5 123 128 codez_3576 :=
  And.intro (anz_3560 Hy) (anz_3575 Hy)
theorem anz_3577 (Hy : Hyz tys cA base adS Ex) : xall (fun b t => xOK l Dg clz tys cA flz ftz base adS GWz xyz xcz xnz xrz Ex codez bmz bpz b t) 6 59 64 codez_3577 :=
  And.intro (anz_3545 Hy) (anz_3576 Hy)
theorem anz_3578 (Hy : Hyz tys cA base adS Ex) : xall (fun b t => xOK l Dg clz tys cA flz ftz base adS GWz xyz xcz xnz xrz Ex codez bmz bpz b t) 7 27 32 codez_3578 :=
  And.intro (anz_3514 Hy) (anz_3577 Hy)
theorem anz_3579 (Hy : Hyz tys cA base adS Ex) : xall (fun b t => xOK l Dg clz tys cA flz ftz base adS GWz xyz xcz xnz xrz Ex codez bmz bpz b t) 8 11 16 codez_3579 :=
  And.intro (anz_3451 Hy) (anz_3578 Hy)
theorem anz_3580 (Hy : Hyz tys cA base adS Ex) : xall (fun b t => xOK l Dg clz tys cA flz ftz base adS GWz xyz xcz xnz xrz Ex codez bmz bpz b t) 9 3 8 codez_3580 :=
  And.intro (anz_3324 Hy) (anz_3579 Hy)
theorem anz_3581 (Hy : Hyz tys cA base adS Ex) : xall (fun b t => xOK l Dg clz tys cA flz ftz base adS GWz xyz xcz xnz xrz Ex codez bmz bpz b t) 1 7 2048 codez_3581 :=
  And.intro (okz_7 Hy) (okz_2055 Hy)
theorem anz_3582 (Hy : Hyz tys cA base adS Ex) : xall (fun b t => xOK l Dg clz tys cA flz ftz base adS GWz xyz xcz xnz xrz Ex codez bmz bpz b t) 1 1031 2048 codez_3582 :=
  And.intro (okz_1031 Hy) (okzz 3079)
theorem anz_3583 (Hy : Hyz tys cA base adS Ex) : xall (fun b t => xOK l Dg clz tys cA flz ftz base adS GWz xyz xcz xnz xrz Ex codez bmz bpz b t) 2 7 1024 codez_3583 :=
  And.intro (anz_3581 Hy) (anz_3582 Hy)
theorem anz_3584 (Hy : Hyz tys cA base adS Ex) : xall (fun b t => xOK l Dg clz tys cA flz ftz base adS GWz xyz xcz xnz xrz Ex codez bmz bpz b t) 1 519 2048 codez_3584 :=
  And.intro (okz_519 Hy) (okzz 2567)
theorem anz_3585 (Hy : Hyz tys cA base adS Ex) : xall (fun b t => xOK l Dg clz tys cA flz ftz base adS GWz xyz xcz xnz xrz Ex codez bmz bpz b t) 1 1543 2048 codez_3585 :=
  And.intro (okz_1543 Hy) (okzz 3591)
theorem anz_3586 (Hy : Hyz tys cA base adS Ex) : xall (fun b t => xOK l Dg clz tys cA flz ftz base adS GWz xyz xcz xnz xrz Ex codez bmz bpz b t) 2 519 1024 codez_3586 :=
  And.intro (anz_3584 Hy) (anz_3585 Hy)
theorem anz_3587 (Hy : Hyz tys cA base adS Ex) : xall (fun b t => xOK l Dg clz tys cA flz ftz base adS GWz xyz xcz xnz xrz Ex codez bmz bpz b t) 3 7 512 codez_3587 :=
  And.intro (anz_3583 Hy) (anz_3586 Hy)
theorem anz_3588 (Hy : Hyz tys cA base adS Ex) : xall (fun b t => xOK l Dg clz tys cA flz ftz base adS GWz xyz xcz xnz xrz Ex codez bmz bpz b t) 1 263 2048 codez_3588 :=
  And.intro (okz_263 Hy) (okz_2311 Hy)
theorem anz_3589 (Hy : Hyz tys cA base adS Ex) : xall (fun b t => xOK l Dg clz tys cA flz ftz base adS GWz xyz xcz xnz xrz Ex codez bmz bpz b t) 1 1287 2048 codez_3589 :=
  And.intro (okz_1287 Hy) (okzz 3335)
theorem anz_3590 (Hy : Hyz tys cA base adS Ex) : xall (fun b t => xOK l Dg clz tys cA flz ftz base adS GWz xyz xcz xnz xrz Ex codez bmz bpz b t) 2 263 1024 codez_3590 :=
  And.intro (anz_3588 Hy) (anz_3589 Hy)
theorem anz_3591 (Hy : Hyz tys cA base adS Ex) : xall (fun b t => xOK l Dg clz tys cA flz ftz base adS GWz xyz xcz xnz xrz Ex codez bmz bpz b t) 1 775 2048 codez_3591 :=
  And.intro (okz_775 Hy) (okzz 2823)
theorem anz_3592 (Hy : Hyz tys cA base adS Ex) : xall (fun b t => xOK l Dg clz tys cA flz ftz base adS GWz xyz xcz xnz xrz Ex codez bmz bpz b t) 1 1799 2048 codez_3592 :=
  And.intro (okz_1799 Hy) (okzz 3847)
theorem anz_3593 (Hy : Hyz tys cA base adS Ex) : xall (fun b t => xOK l Dg clz tys cA flz ftz base adS GWz xyz xcz xnz xrz Ex codez bmz bpz b t) 2 775 1024 codez_3593 :=
  And.intro (anz_3591 Hy) (anz_3592 Hy)
theorem anz_3594 (Hy : Hyz tys cA base adS Ex) : xall (fun b t => xOK l Dg clz tys cA flz ftz base adS GWz xyz xcz xnz xrz Ex codez bmz bpz b t) 3 263 512 codez_3594 :=
  And.intro (anz_3590 Hy) (anz_3593 Hy)
theorem anz_3595 (Hy : Hyz tys cA base adS Ex) : xall (fun b t => xOK l Dg clz tys cA flz ftz base adS GWz xyz xcz xnz xrz Ex codez bmz bpz b t) 4 7 256 codez_3595 :=
  And.intro (anz_3587 Hy) (anz_3594 Hy)
theorem anz_3596 (Hy : Hyz tys cA base adS Ex) : xall (fun b t => xOK l Dg clz tys cA flz ftz base adS GWz xyz xcz xnz xrz Ex codez bmz bpz b t) 1 135 2048 codez_3596 :=
  And.intro (okz_135 Hy) (okz_2183 Hy)
theorem anz_3597 (Hy : Hyz tys cA base adS Ex) : xall (fun b t => xOK l Dg clz tys cA flz ftz base adS GWz xyz xcz xnz xrz Ex codez bmz bpz b t) 1 1159 2048 codez_3597 :=
  And.intro (okz_1159 Hy) (okzz 3207)
theorem anz_3598 (Hy : Hyz tys cA base adS Ex) : xall (fun b t => xOK l Dg clz tys cA flz ftz base adS GWz xyz xcz xnz xrz Ex codez bmz bpz b t) 2 135 1024 codez_3598 :=
  And.intro (anz_3596 Hy) (anz_3597 Hy)
theorem anz_3599 (Hy : Hyz tys cA base adS Ex) : xall (fun b t => xOK l Dg clz tys cA flz ftz base adS GWz xyz xcz xnz xrz Ex codez bmz bpz b t) 1 647 2048 codez_3599 :=
  And.intro (okz_647 Hy) (okzz 2695)
theorem anz_3600 (Hy : Hyz tys cA base adS Ex) : xall (fun b t => xOK l Dg clz tys cA flz ftz base adS GWz xyz xcz xnz xrz Ex codez bmz bpz b t) 1 1671 2048 codez_3600 :=
  And.intro (okz_1671 Hy) (okzz 3719)
theorem anz_3601 (Hy : Hyz tys cA base adS Ex) : xall (fun b t => xOK l Dg clz tys cA flz ftz base adS GWz xyz xcz xnz xrz Ex codez bmz bpz b t) 2 647 1024 codez_3601 :=
  And.intro (anz_3599 Hy) (anz_3600 Hy)
theorem anz_3602 (Hy : Hyz tys cA base adS Ex) : xall (fun b t => xOK l Dg clz tys cA flz ftz base adS GWz xyz xcz xnz xrz Ex codez bmz bpz b t) 3 135 512 codez_3602 :=
  And.intro (anz_3598 Hy) (anz_3601 Hy)
theorem anz_3603 (Hy : Hyz tys cA base adS Ex) : xall (fun b t => xOK l Dg clz tys cA flz ftz base adS GWz xyz xcz xnz xrz Ex codez bmz bpz b t) 1 391 2048 codez_3603 :=
  And.intro (okz_391 Hy) (okz_2439 Hy)
theorem anz_3604 (Hy : Hyz tys cA base adS Ex) : xall (fun b t => xOK l Dg clz tys cA flz ftz base adS GWz xyz xcz xnz xrz Ex codez bmz bpz b t) 1 1415 2048 codez_3604 :=
  And.intro (okz_1415 Hy) (okzz 3463)
theorem anz_3605 (Hy : Hyz tys cA base adS Ex) : xall (fun b t => xOK l Dg clz tys cA flz ftz base adS GWz xyz xcz xnz xrz Ex codez bmz bpz b t) 2 391 1024 codez_3605 :=
  And.intro (anz_3603 Hy) (anz_3604 Hy)
theorem anz_3606 (Hy : Hyz tys cA base adS Ex) : xall (fun b t => xOK l Dg clz tys cA flz ftz base adS GWz xyz xcz xnz xrz Ex codez bmz bpz b t) 1 903 2048 codez_3606 :=
  And.intro (okz_903 Hy) (okzz 2951)
theorem anz_3607 (Hy : Hyz tys cA base adS Ex) : xall (fun b t => xOK l Dg clz tys cA flz ftz base adS GWz xyz xcz xnz xrz Ex codez bmz bpz b t) 1 1927 2048 codez_3607 :=
  And.intro (okz_1927 Hy) (okzz 3975)
theorem anz_3608 (Hy : Hyz tys cA base adS Ex) : xall (fun b t => xOK l Dg clz tys cA flz ftz base adS GWz xyz xcz xnz xrz Ex codez bmz bpz b t) 2 903 1024 codez_3608 :=
  And.intro (anz_3606 Hy) (anz_3607 Hy)
theorem anz_3609 (Hy : Hyz tys cA base adS Ex) : xall (fun b t => xOK l Dg clz tys cA flz ftz base adS GWz xyz xcz xnz xrz Ex codez bmz bpz b t) 3 391 512 codez_3609 :=
  And.intro (anz_3605 Hy) (anz_3608 Hy)
theorem anz_3610 (Hy : Hyz tys cA base adS Ex) : xall (fun b t => xOK l Dg clz tys cA flz ftz base adS GWz xyz xcz xnz xrz Ex codez bmz bpz b t) 4 135 256 codez_3610 :=
  And.intro (anz_3602 Hy) (anz_3609 Hy)
theorem anz_3611 (Hy : Hyz tys cA base adS Ex) : xall (fun b t => xOK l Dg clz tys cA flz ftz base adS GWz xyz xcz xnz xrz Ex codez bmz bpz b t) 5 7 128 codez_3611 :=
  And.intro (anz_3595 Hy) (anz_3610 Hy)
theorem anz_3612 (Hy : Hyz tys cA base adS Ex) : xall (fun b t => xOK l Dg clz tys cA flz ftz base adS GWz xyz xcz xnz xrz Ex codez bmz bpz b t) 1 71 2048 codez_3612 :=
  And.intro (okz_71 Hy) (okz_2119 Hy)
theorem anz_3613 (Hy : Hyz tys cA base adS Ex) : xall (fun b t => xOK l Dg clz tys cA flz ftz base adS GWz xyz xcz xnz xrz Ex codez bmz bpz b t) 1 1095 2048 codez_3613 :=
  And.intro (okz_1095 Hy) (okzz 3143)
theorem anz_3614 (Hy : Hyz tys cA base adS Ex) : xall (fun b t => xOK l Dg clz tys cA flz ftz base adS GWz xyz xcz xnz xrz Ex codez bmz bpz b t) 2 71 1024 codez_3614 :=
  And.intro (anz_3612 Hy) (anz_3613 Hy)
theorem anz_3615 (Hy : Hyz tys cA base adS Ex) : xall (fun b t => xOK l Dg clz tys cA flz ftz base adS GWz xyz xcz xnz xrz Ex codez bmz bpz b t) 1 583 2048 codez_3615 :=
  And.intro (okz_583 Hy) (okzz 2631)
theorem anz_3616 (Hy : Hyz tys cA base adS Ex) : xall (fun b t => xOK l Dg clz tys cA flz ftz base adS GWz xyz xcz xnz xrz Ex codez bmz bpz b t) 1 1607 2048 codez_3616 :=
  And.intro (okz_1607 Hy) (okzz 3655)
theorem anz_3617 (Hy : Hyz tys cA base adS Ex) : xall (fun b t => xOK l Dg clz tys cA flz ftz base adS GWz xyz xcz xnz xrz Ex codez bmz bpz b t) 2 583 1024 codez_3617 :=
  And.intro (anz_3615 Hy) (anz_3616 Hy)
theorem anz_3618 (Hy : Hyz tys cA base adS Ex) : xall (fun b t => xOK l Dg clz tys cA flz ftz base adS GWz xyz xcz xnz xrz Ex codez bmz bpz b t) 3 71 512 codez_3618 :=
  And.intro (anz_3614 Hy) (anz_3617 Hy)
theorem anz_3619 (Hy : Hyz tys cA base adS Ex) : xall (fun b t => xOK l Dg clz tys cA flz ftz base adS GWz xyz xcz xnz xrz Ex codez bmz bpz b t) 1 327 2048 codez_3619 :=
  And.intro (okz_327 Hy) (okz_2375 Hy)
theorem anz_3620 (Hy : Hyz tys cA base adS Ex) : xall (fun b t => xOK l Dg clz tys cA flz ftz base adS GWz xyz xcz xnz xrz Ex codez bmz bpz b t) 1 1351 2048 codez_3620 :=
  And.intro (okz_1351 Hy) (okzz 3399)
theorem anz_3621 (Hy : Hyz tys cA base adS Ex) : xall (fun b t => xOK l Dg clz tys cA flz ftz base adS GWz xyz xcz xnz xrz Ex codez bmz bpz b t) 2 327 1024 codez_3621 :=
  And.intro (anz_3619 Hy) (anz_3620 Hy)
theorem anz_3622 (Hy : Hyz tys cA base adS Ex) : xall (fun b t => xOK l Dg clz tys cA flz ftz base adS GWz xyz xcz xnz xrz Ex codez bmz bpz b t) 1 839 2048 codez_3622 :=
  And.intro (okz_839 Hy) (okzz 2887)
theorem anz_3623 (Hy : Hyz tys cA base adS Ex) : xall (fun b t => xOK l Dg clz tys cA flz ftz base adS GWz xyz xcz xnz xrz Ex codez bmz bpz b t) 1 1863 2048 codez_3623 :=
  And.intro (okz_1863 Hy) (okzz 3911)
theorem anz_3624 (Hy : Hyz tys cA base adS Ex) : xall (fun b t => xOK l Dg clz tys cA flz ftz base adS GWz xyz xcz xnz xrz Ex codez bmz bpz b t) 2 839 1024 codez_3624 :=
  And.intro (anz_3622 Hy) (anz_3623 Hy)
theorem anz_3625 (Hy : Hyz tys cA base adS Ex) : xall (fun b t => xOK l Dg clz tys cA flz ftz base adS GWz xyz xcz xnz xrz Ex codez bmz bpz b t) 3 327 512 codez_3625 :=
  And.intro (anz_3621 Hy) (anz_3624 Hy)
theorem anz_3626 (Hy : Hyz tys cA base adS Ex) : xall (fun b t => xOK l Dg clz tys cA flz ftz base adS GWz xyz xcz xnz xrz Ex codez bmz bpz b t) 4 71 256 codez_3626 :=
  And.intro (anz_3618 Hy) (anz_3625 Hy)
theorem anz_3627 (Hy : Hyz tys cA base adS Ex) : xall (fun b t => xOK l Dg clz tys cA flz ftz base adS GWz xyz xcz xnz xrz Ex codez bmz bpz b t) 1 199 2048 codez_3627 :=
  And.intro (okz_199 Hy) (okz_2247 Hy)
theorem anz_3628 (Hy : Hyz tys cA base adS Ex) : xall (fun b t => xOK l Dg clz tys cA flz ftz base adS GWz xyz xcz xnz xrz Ex codez bmz bpz b t) 1 1223 2048 codez_3628 :=
  And.intro (okz_1223 Hy) (okzz 3271)
theorem anz_3629 (Hy : Hyz tys cA base adS Ex) : xall (fun b t => xOK l Dg clz tys cA flz ftz base adS GWz xyz xcz xnz xrz Ex codez bmz bpz b t) 2 199 1024 codez_3629 :=
  And.intro (anz_3627 Hy) (anz_3628 Hy)
theorem anz_3630 (Hy : Hyz tys cA base adS Ex) : xall (fun b t => xOK l Dg clz tys cA flz ftz base adS GWz xyz xcz xnz xrz Ex codez bmz bpz b t) 1 711 2048 codez_3630 :=
  And.intro (okz_711 Hy) (okzz 2759)
theorem anz_3631 (Hy : Hyz tys cA base adS Ex) : xall (fun b t => xOK l Dg clz tys cA flz ftz base adS GWz xyz xcz xnz xrz Ex codez bmz bpz b t) 1 1735 2048 codez_3631 :=
  And.intro (okz_1735 Hy) (okzz 3783)
theorem anz_3632 (Hy : Hyz tys cA base adS Ex) : xall (fun b t => xOK l Dg clz tys cA flz ftz base adS GWz xyz xcz xnz xrz Ex codez bmz bpz b t) 2 711 1024 codez_3632 :=
  And.intro (anz_3630 Hy) (anz_3631 Hy)
theorem anz_3633 (Hy : Hyz tys cA base adS Ex) : xall (fun b t => xOK l Dg clz tys cA flz ftz base adS GWz xyz xcz xnz xrz Ex codez bmz bpz b t) 3 199 512 codez_3633 :=
  And.intro (anz_3629 Hy) (anz_3632 Hy)
theorem anz_3634 (Hy : Hyz tys cA base adS Ex) : xall (fun b t => xOK l Dg clz tys cA flz ftz base adS GWz xyz xcz xnz xrz Ex codez bmz bpz b t) 1 455 2048 codez_3634 :=
  And.intro (okz_455 Hy) (okz_2503 Hy)
theorem anz_3635 (Hy : Hyz tys cA base adS Ex) : xall (fun b t => xOK l Dg clz tys cA flz ftz base adS GWz xyz xcz xnz xrz Ex codez bmz bpz b t) 1 1479 2048 codez_3635 :=
  And.intro (okz_1479 Hy) (okzz 3527)
theorem anz_3636 (Hy : Hyz tys cA base adS Ex) : xall (fun b t => xOK l Dg clz tys cA flz ftz base adS GWz xyz xcz xnz xrz Ex codez bmz bpz b t) 2 455 1024 codez_3636 :=
  And.intro (anz_3634 Hy) (anz_3635 Hy)
theorem anz_3637 (Hy : Hyz tys cA base adS Ex) : xall (fun b t => xOK l Dg clz tys cA flz ftz base adS GWz xyz xcz xnz xrz Ex codez bmz bpz b t) 1 967 2048 codez_3637 :=
  And.intro (okz_967 Hy) (okzz 3015)
theorem anz_3638 (Hy : Hyz tys cA base adS Ex) : xall (fun b t => xOK l Dg clz tys cA flz ftz base adS GWz xyz xcz xnz xrz Ex codez bmz bpz b t) 1 1991 2048 codez_3638 :=
  And.intro (okz_1991 Hy) (okzz 4039)
theorem anz_3639 (Hy : Hyz tys cA base adS Ex) : xall (fun b t => xOK l Dg clz tys cA flz ftz base adS GWz xyz xcz xnz xrz Ex codez bmz bpz b t) 2 967 1024 codez_3639 :=
  And.intro (anz_3637 Hy) (anz_3638 Hy)
theorem anz_3640 (Hy : Hyz tys cA base adS Ex) : xall (fun b t => xOK l Dg clz tys cA flz ftz base adS GWz xyz xcz xnz xrz Ex codez bmz bpz b t) 3 455 512 codez_3640 :=
  And.intro (anz_3636 Hy) (anz_3639 Hy)
theorem anz_3641 (Hy : Hyz tys cA base adS Ex) : xall (fun b t => xOK l Dg clz tys cA flz ftz base adS GWz xyz xcz xnz xrz Ex codez bmz bpz b t) 4 199 256 codez_3641 :=
  And.intro (anz_3633 Hy) (anz_3640 Hy)
theorem anz_3642 (Hy : Hyz tys cA base adS Ex) : xall (fun b t => xOK l Dg clz tys cA flz ftz base adS GWz xyz xcz xnz xrz Ex codez bmz bpz b t) 5 71 128 codez_3642 :=
  And.intro (anz_3626 Hy) (anz_3641 Hy)
theorem anz_3643 (Hy : Hyz tys cA base adS Ex) : xall (fun b t => xOK l Dg clz tys cA flz ftz base adS GWz xyz xcz xnz xrz Ex codez bmz bpz b t) 6 7 64 codez_3643 :=
  And.intro (anz_3611 Hy) (anz_3642 Hy)
theorem anz_3644 (Hy : Hyz tys cA base adS Ex) : xall (fun b t => xOK l Dg clz tys cA flz ftz base adS GWz xyz xcz xnz xrz Ex codez bmz bpz b t) 1 39 2048 codez_3644 :=
  And.intro (okz_39 Hy) (okz_2087 Hy)
theorem anz_3645 (Hy : Hyz tys cA base adS Ex) : xall (fun b t => xOK l Dg clz tys cA flz ftz base adS GWz xyz xcz xnz xrz Ex codez bmz bpz b t) 1 1063 2048 codez_3645 :=
  And.intro (okz_1063 Hy) (okzz 3111)
theorem anz_3646 (Hy : Hyz tys cA base adS Ex) : xall (fun b t => xOK l Dg clz tys cA flz ftz base adS GWz xyz xcz xnz xrz Ex codez bmz bpz b t) 2 39 1024 codez_3646 :=
  And.intro (anz_3644 Hy) (anz_3645 Hy)
theorem anz_3647 (Hy : Hyz tys cA base adS Ex) : xall (fun b t => xOK l Dg clz tys cA flz ftz base adS GWz xyz xcz xnz xrz Ex codez bmz bpz b t) 1 551 2048 codez_3647 :=
  And.intro (okz_551 Hy) (okzz 2599)
theorem anz_3648 (Hy : Hyz tys cA base adS Ex) : xall (fun b t => xOK l Dg clz tys cA flz ftz base adS GWz xyz xcz xnz xrz Ex codez bmz bpz b t) 1 1575 2048 codez_3648 :=
  And.intro (okz_1575 Hy) (okzz 3623)
theorem anz_3649 (Hy : Hyz tys cA base adS Ex) : xall (fun b t => xOK l Dg clz tys cA flz ftz base adS GWz xyz xcz xnz xrz Ex codez bmz bpz b t) 2 551 1024 codez_3649 :=
  And.intro (anz_3647 Hy) (anz_3648 Hy)
theorem anz_3650 (Hy : Hyz tys cA base adS Ex) : xall (fun b t => xOK l Dg clz tys cA flz ftz base adS GWz xyz xcz xnz xrz Ex codez bmz bpz b t) 3 39 512 codez_3650 :=
  And.intro (anz_3646 Hy) (anz_3649 Hy)
theorem anz_3651 (Hy : Hyz tys cA base adS Ex) : xall (fun b t => xOK l Dg clz tys cA flz ftz base adS GWz xyz xcz xnz xrz Ex codez bmz bpz b t) 1 295 2048 codez_3651 :=
  And.intro (okz_295 Hy) (okz_2343 Hy)
theorem anz_3652 (Hy : Hyz tys cA base adS Ex) : xall (fun b t => xOK l Dg clz tys cA flz ftz base adS GWz xyz xcz xnz xrz Ex codez bmz bpz b t) 1 1319 2048 codez_3652 :=
  And.intro (okz_1319 Hy) (okzz 3367)
theorem anz_3653 (Hy : Hyz tys cA base adS Ex) : xall (fun b t => xOK l Dg clz tys cA flz ftz base adS GWz xyz xcz xnz xrz Ex codez bmz bpz b t) 2 295 1024 codez_3653 :=
  And.intro (anz_3651 Hy) (anz_3652 Hy)
theorem anz_3654 (Hy : Hyz tys cA base adS Ex) : xall (fun b t => xOK l Dg clz tys cA flz ftz base adS GWz xyz xcz xnz xrz Ex codez bmz bpz b t) 1 807 2048 codez_3654 :=
  And.intro (okz_807 Hy) (okzz 2855)
theorem anz_3655 (Hy : Hyz tys cA base adS Ex) : xall (fun b t => xOK l Dg clz tys cA flz ftz base adS GWz xyz xcz xnz xrz Ex codez bmz bpz b t) 1 1831 2048 codez_3655 :=
  And.intro (okz_1831 Hy) (okzz 3879)
theorem anz_3656 (Hy : Hyz tys cA base adS Ex) : xall (fun b t => xOK l Dg clz tys cA flz ftz base adS GWz xyz xcz xnz xrz Ex codez bmz bpz b t) 2 807 1024 codez_3656 :=
  And.intro (anz_3654 Hy) (anz_3655 Hy)
theorem anz_3657 (Hy : Hyz tys cA base adS Ex) : xall (fun b t => xOK l Dg clz tys cA flz ftz base adS GWz xyz xcz xnz xrz Ex codez bmz bpz b t) 3 295 512 codez_3657 :=
  And.intro (anz_3653 Hy) (anz_3656 Hy)
theorem anz_3658 (Hy : Hyz tys cA base adS Ex) : xall (fun b t => xOK l Dg clz tys cA flz ftz base adS GWz xyz xcz xnz xrz Ex codez bmz bpz b t) 4 39 256 codez_3658 :=
  And.intro (anz_3650 Hy) (anz_3657 Hy)
theorem anz_3659 (Hy : Hyz tys cA base adS Ex) : xall (fun b t => xOK l Dg clz tys cA flz ftz base adS GWz xyz xcz xnz xrz Ex codez bmz bpz b t) 1 167 2048 codez_3659 :=
  And.intro (okz_167 Hy) (okz_2215 Hy)
theorem anz_3660 (Hy : Hyz tys cA base adS Ex) : xall (fun b t => xOK l Dg clz tys cA flz ftz base adS GWz xyz xcz xnz xrz Ex codez bmz bpz b t) 1 1191 2048 codez_3660 :=
  And.intro (okz_1191 Hy) (okzz 3239)
theorem anz_3661 (Hy : Hyz tys cA base adS Ex) : xall (fun b t => xOK l Dg clz tys cA flz ftz base adS GWz xyz xcz xnz xrz Ex codez bmz bpz b t) 2 167 1024 codez_3661 :=
  And.intro (anz_3659 Hy) (anz_3660 Hy)
theorem anz_3662 (Hy : Hyz tys cA base adS Ex) : xall (fun b t => xOK l Dg clz tys cA flz ftz base adS GWz xyz xcz xnz xrz Ex codez bmz bpz b t) 1 679 2048 codez_3662 :=
  And.intro (okz_679 Hy) (okzz 2727)
theorem anz_3663 (Hy : Hyz tys cA base adS Ex) : xall (fun b t => xOK l Dg clz tys cA flz ftz base adS GWz xyz xcz xnz xrz Ex codez bmz bpz b t) 1 1703 2048 codez_3663 :=
  And.intro (okz_1703 Hy) (okzz 3751)
theorem anz_3664 (Hy : Hyz tys cA base adS Ex) : xall (fun b t => xOK l Dg clz tys cA flz ftz base adS GWz xyz xcz xnz xrz Ex codez bmz bpz b t) 2 679 1024 codez_3664 :=
  And.intro (anz_3662 Hy) (anz_3663 Hy)
theorem anz_3665 (Hy : Hyz tys cA base adS Ex) : xall (fun b t => xOK l Dg clz tys cA flz ftz base adS GWz xyz xcz xnz xrz Ex codez bmz bpz b t) 3 167 512 codez_3665 :=
  And.intro (anz_3661 Hy) (anz_3664 Hy)
theorem anz_3666 (Hy : Hyz tys cA base adS Ex) : xall (fun b t => xOK l Dg clz tys cA flz ftz base adS GWz xyz xcz xnz xrz Ex codez bmz bpz b t) 1 423 2048 codez_3666 :=
  And.intro (okz_423 Hy) (okz_2471 Hy)
theorem anz_3667 (Hy : Hyz tys cA base adS Ex) : xall (fun b t => xOK l Dg clz tys cA flz ftz base adS GWz xyz xcz xnz xrz Ex codez bmz bpz b t) 1 1447 2048 codez_3667 :=
  And.intro (okz_1447 Hy) (okzz 3495)
theorem anz_3668 (Hy : Hyz tys cA base adS Ex) : xall (fun b t => xOK l Dg clz tys cA flz ftz base adS GWz xyz xcz xnz xrz Ex codez bmz bpz b t) 2 423 1024 codez_3668 :=
  And.intro (anz_3666 Hy) (anz_3667 Hy)
theorem anz_3669 (Hy : Hyz tys cA base adS Ex) : xall (fun b t => xOK l Dg clz tys cA flz ftz base adS GWz xyz xcz xnz xrz Ex codez bmz bpz b t) 1 935 2048 codez_3669 :=
  And.intro (okz_935 Hy) (okzz 2983)
theorem anz_3670 (Hy : Hyz tys cA base adS Ex) : xall (fun b t => xOK l Dg clz tys cA flz ftz base adS GWz xyz xcz xnz xrz Ex codez bmz bpz b t) 1 1959 2048 codez_3670 :=
  And.intro (okz_1959 Hy) (okzz 4007)
theorem anz_3671 (Hy : Hyz tys cA base adS Ex) : xall (fun b t => xOK l Dg clz tys cA flz ftz base adS GWz xyz xcz xnz xrz Ex codez bmz bpz b t) 2 935 1024 codez_3671 :=
  And.intro (anz_3669 Hy) (anz_3670 Hy)
theorem anz_3672 (Hy : Hyz tys cA base adS Ex) : xall (fun b t => xOK l Dg clz tys cA flz ftz base adS GWz xyz xcz xnz xrz Ex codez bmz bpz b t) 3 423 512 codez_3672 :=
  And.intro (anz_3668 Hy) (anz_3671 Hy)
theorem anz_3673 (Hy : Hyz tys cA base adS Ex) : xall (fun b t => xOK l Dg clz tys cA flz ftz base adS GWz xyz xcz xnz xrz Ex codez bmz bpz b t) 4 167 256 codez_3673 :=
  And.intro (anz_3665 Hy) (anz_3672 Hy)
theorem anz_3674 (Hy : Hyz tys cA base adS Ex) : xall (fun b t => xOK l Dg clz tys cA flz ftz base adS GWz xyz xcz xnz xrz Ex codez bmz bpz b t) 5 39 128 codez_3674 :=
  And.intro (anz_3658 Hy) (anz_3673 Hy)
theorem anz_3675 (Hy : Hyz tys cA base adS Ex) : xall (fun b t => xOK l Dg clz tys cA flz ftz base adS GWz xyz xcz xnz xrz Ex codez bmz bpz b t) 1 103 2048 codez_3675 :=
  And.intro (okz_103 Hy) (okz_2151 Hy)
theorem anz_3676 (Hy : Hyz tys cA base adS Ex) : xall (fun b t => xOK l Dg clz tys cA flz ftz base adS GWz xyz xcz xnz xrz Ex codez bmz bpz b t) 1 1127 2048 codez_3676 :=
  And.intro (okz_1127 Hy) (okzz 3175)
theorem anz_3677 (Hy : Hyz tys cA base adS Ex) : xall (fun b t => xOK l Dg clz tys cA flz ftz base adS GWz xyz xcz xnz xrz Ex codez bmz bpz b t) 2 103 1024 codez_3677 :=
  And.intro (anz_3675 Hy) (anz_3676 Hy)
theorem anz_3678 (Hy : Hyz tys cA base adS Ex) : xall (fun b t => xOK l Dg clz tys cA flz ftz base adS GWz xyz xcz xnz xrz Ex codez bmz bpz b t) 1 615 2048 codez_3678 :=
  And.intro (okz_615 Hy) (okzz 2663)
theorem anz_3679 (Hy : Hyz tys cA base adS Ex) : xall (fun b t => xOK l Dg clz tys cA flz ftz base adS GWz xyz xcz xnz xrz Ex codez bmz bpz b t) 1 1639 2048 codez_3679 :=
  And.intro (okz_1639 Hy) (okzz 3687)
theorem anz_3680 (Hy : Hyz tys cA base adS Ex) : xall (fun b t => xOK l Dg clz tys cA flz ftz base adS GWz xyz xcz xnz xrz Ex codez bmz bpz b t) 2 615 1024 codez_3680 :=
  And.intro (anz_3678 Hy) (anz_3679 Hy)
theorem anz_3681 (Hy : Hyz tys cA base adS Ex) : xall (fun b t => xOK l Dg clz tys cA flz ftz base adS GWz xyz xcz xnz xrz Ex codez bmz bpz b t) 3 103 512 codez_3681 :=
  And.intro (anz_3677 Hy) (anz_3680 Hy)
theorem anz_3682 (Hy : Hyz tys cA base adS Ex) : xall (fun b t => xOK l Dg clz tys cA flz ftz base adS GWz xyz xcz xnz xrz Ex codez bmz bpz b t) 1 359 2048 codez_3682 :=
  And.intro (okz_359 Hy) (okz_2407 Hy)
theorem anz_3683 (Hy : Hyz tys cA base adS Ex) : xall (fun b t => xOK l Dg clz tys cA flz ftz base adS GWz xyz xcz xnz xrz Ex codez bmz bpz b t) 1 1383 2048 codez_3683 :=
  And.intro (okz_1383 Hy) (okzz 3431)
theorem anz_3684 (Hy : Hyz tys cA base adS Ex) : xall (fun b t => xOK l Dg clz tys cA flz ftz base adS GWz xyz xcz xnz xrz Ex codez bmz bpz b t) 2 359 1024 codez_3684 :=
  And.intro (anz_3682 Hy) (anz_3683 Hy)
theorem anz_3685 (Hy : Hyz tys cA base adS Ex) : xall (fun b t => xOK l Dg clz tys cA flz ftz base adS GWz xyz xcz xnz xrz Ex codez bmz bpz b t) 1 871 2048 codez_3685 :=
  And.intro (okz_871 Hy) (okzz 2919)
theorem anz_3686 (Hy : Hyz tys cA base adS Ex) : xall (fun b t => xOK l Dg clz tys cA flz ftz base adS GWz xyz xcz xnz xrz Ex codez bmz bpz b t) 1 1895 2048 codez_3686 :=
  And.intro (okz_1895 Hy) (okzz 3943)
theorem anz_3687 (Hy : Hyz tys cA base adS Ex) : xall (fun b t => xOK l Dg clz tys cA flz ftz base adS GWz xyz xcz xnz xrz Ex codez bmz bpz b t) 2 871 1024 codez_3687 :=
  And.intro (anz_3685 Hy) (anz_3686 Hy)
theorem anz_3688 (Hy : Hyz tys cA base adS Ex) : xall (fun b t => xOK l Dg clz tys cA flz ftz base adS GWz xyz xcz xnz xrz Ex codez bmz bpz b t) 3 359 512 codez_3688 :=
  And.intro (anz_3684 Hy) (anz_3687 Hy)
theorem anz_3689 (Hy : Hyz tys cA base adS Ex) : xall (fun b t => xOK l Dg clz tys cA flz ftz base adS GWz xyz xcz xnz xrz Ex codez bmz bpz b t) 4 103 256 codez_3689 :=
  And.intro (anz_3681 Hy) (anz_3688 Hy)
theorem anz_3690 (Hy : Hyz tys cA base adS Ex) : xall (fun b t => xOK l Dg clz tys cA flz ftz base adS GWz xyz xcz xnz xrz Ex codez bmz bpz b t) 1 231 2048 codez_3690 :=
  And.intro (okz_231 Hy) (okz_2279 Hy)
theorem anz_3691 (Hy : Hyz tys cA base adS Ex) : xall (fun b t => xOK l Dg clz tys cA flz ftz base adS GWz xyz xcz xnz xrz Ex codez bmz bpz b t) 1 1255 2048 codez_3691 :=
  And.intro (okz_1255 Hy) (okzz 3303)
theorem anz_3692 (Hy : Hyz tys cA base adS Ex) : xall (fun b t => xOK l Dg clz tys cA flz ftz base adS GWz xyz xcz xnz xrz Ex codez bmz bpz b t) 2 231 1024 codez_3692 :=
  And.intro (anz_3690 Hy) (anz_3691 Hy)
theorem anz_3693 (Hy : Hyz tys cA base adS Ex) : xall (fun b t => xOK l Dg clz tys cA flz ftz base adS GWz xyz xcz xnz xrz Ex codez bmz bpz b t) 1 743 2048 codez_3693 :=
  And.intro (okz_743 Hy) (okzz 2791)
theorem anz_3694 (Hy : Hyz tys cA base adS Ex) : xall (fun b t => xOK l Dg clz tys cA flz ftz base adS GWz xyz xcz xnz xrz Ex codez bmz bpz b t) 1 1767 2048 codez_3694 :=
  And.intro (okz_1767 Hy) (okzz 3815)
theorem anz_3695 (Hy : Hyz tys cA base adS Ex) : xall (fun b t => xOK l Dg clz tys cA flz ftz base adS GWz xyz xcz xnz xrz Ex codez bmz bpz b t) 2 743 1024 codez_3695 :=
  And.intro (anz_3693 Hy) (anz_3694 Hy)
theorem anz_3696 (Hy : Hyz tys cA base adS Ex) : xall (fun b t => xOK l Dg clz tys cA flz ftz base adS GWz xyz xcz xnz xrz Ex codez bmz bpz b t) 3 231 512 codez_3696 :=
  And.intro (anz_3692 Hy) (anz_3695 Hy)
theorem anz_3697 (Hy : Hyz tys cA base adS Ex) : xall (fun b t => xOK l Dg clz tys cA flz ftz base adS GWz xyz xcz xnz xrz Ex codez bmz bpz b t) 1 487 2048 codez_3697 :=
  And.intro (okz_487 Hy) (okz_2535 Hy)
theorem anz_3698 (Hy : Hyz tys cA base adS Ex) : xall (fun b t => xOK l Dg clz tys cA flz ftz base adS GWz xyz xcz xnz xrz Ex codez bmz bpz b t) 1 1511 2048 codez_3698 :=
  And.intro (okz_1511 Hy) (okzz 3559)
theorem anz_3699 (Hy : Hyz tys cA base adS Ex) : xall (fun b t => xOK l Dg clz tys cA flz ftz base adS GWz xyz xcz xnz xrz Ex codez bmz bpz b t) 2 487 1024 codez_3699 :=
  And.intro (anz_3697 Hy) (anz_3698 Hy)
theorem anz_3700 (Hy : Hyz tys cA base adS Ex) : xall (fun b t => xOK l Dg clz tys cA flz ftz base adS GWz xyz xcz xnz xrz Ex codez bmz bpz b t) 1 999 2048 codez_3700 :=
  And.intro (okz_999 Hy) (okzz 3047)
theorem anz_3701 (Hy : Hyz tys cA base adS Ex) : xall (fun b t => xOK l Dg clz tys cA flz ftz base adS GWz xyz xcz xnz xrz Ex codez bmz bpz b t) 1 2023 2048 codez_3701 :=
  And.intro (okz_2023 Hy) (okzz 4071)
theorem anz_3702 (Hy : Hyz tys cA base adS Ex) : xall (fun b t => xOK l Dg clz tys cA flz ftz base adS GWz xyz xcz xnz xrz Ex codez bmz bpz b t) 2 999 1024 codez_3702 :=
  And.intro (anz_3700 Hy) (anz_3701 Hy)
theorem anz_3703 (Hy : Hyz tys cA base adS Ex) : xall (fun b t => xOK l Dg clz tys cA flz ftz base adS GWz xyz xcz xnz xrz Ex codez bmz bpz b t) 3 487 512 codez_3703 :=
  And.intro (anz_3699 Hy) (anz_3702 Hy)
theorem anz_3704 (Hy : Hyz tys cA base adS Ex) : xall (fun b t => xOK l Dg clz tys cA flz ftz base adS GWz xyz xcz xnz xrz Ex codez bmz bpz b t) 4 231 256 codez_3704 :=
  And.intro (anz_3696 Hy) (anz_3703 Hy)
theorem anz_3705 (Hy : Hyz tys cA base adS Ex) : xall (fun b t => xOK l Dg clz tys cA flz ftz base adS GWz xyz xcz xnz xrz Ex codez bmz bpz b t) 5 103 128 codez_3705 :=
  And.intro (anz_3689 Hy) (anz_3704 Hy)
theorem anz_3706 (Hy : Hyz tys cA base adS Ex) : xall (fun b t => xOK l Dg clz tys cA flz ftz base adS GWz xyz xcz xnz xrz Ex codez bmz bpz b t) 6 39 64 codez_3706 :=
  And.intro (anz_3674 Hy) (anz_3705 Hy)
theorem anz_3707 (Hy : Hyz tys cA base adS Ex) : xall (fun b t => xOK l Dg clz tys cA flz ftz base adS GWz xyz xcz xnz xrz Ex codez bmz bpz b t) 7 7 32 codez_3707 :=
  And.intro (anz_3643 Hy) (anz_3706 Hy)
theorem anz_3708 (Hy : Hyz tys cA base adS Ex) : xall (fun b t => xOK l Dg clz tys cA flz ftz base adS GWz xyz xcz xnz xrz Ex codez bmz bpz b t) 1 23 2048 codez_3708 :=
  And.intro (okz_23 Hy) (okz_2071 Hy)
theorem anz_3709 (Hy : Hyz tys cA base adS Ex) : xall (fun b t => xOK l Dg clz tys cA flz ftz base adS GWz xyz xcz xnz xrz Ex codez bmz bpz b t) 1 1047 2048 codez_3709 :=
  And.intro (okz_1047 Hy) (okzz 3095)
theorem anz_3710 (Hy : Hyz tys cA base adS Ex) : xall (fun b t => xOK l Dg clz tys cA flz ftz base adS GWz xyz xcz xnz xrz Ex codez bmz bpz b t) 2 23 1024 codez_3710 :=
  And.intro (anz_3708 Hy) (anz_3709 Hy)
theorem anz_3711 (Hy : Hyz tys cA base adS Ex) : xall (fun b t => xOK l Dg clz tys cA flz ftz base adS GWz xyz xcz xnz xrz Ex codez bmz bpz b t) 1 535 2048 codez_3711 :=
  And.intro (okz_535 Hy) (okzz 2583)
theorem anz_3712 (Hy : Hyz tys cA base adS Ex) : xall (fun b t => xOK l Dg clz tys cA flz ftz base adS GWz xyz xcz xnz xrz Ex codez bmz bpz b t) 1 1559 2048 codez_3712 :=
  And.intro (okz_1559 Hy) (okzz 3607)
theorem anz_3713 (Hy : Hyz tys cA base adS Ex) : xall (fun b t => xOK l Dg clz tys cA flz ftz base adS GWz xyz xcz xnz xrz Ex codez bmz bpz b t) 2 535 1024 codez_3713 :=
  And.intro (anz_3711 Hy) (anz_3712 Hy)
theorem anz_3714 (Hy : Hyz tys cA base adS Ex) : xall (fun b t => xOK l Dg clz tys cA flz ftz base adS GWz xyz xcz xnz xrz Ex codez bmz bpz b t) 3 23 512 codez_3714 :=
  And.intro (anz_3710 Hy) (anz_3713 Hy)
theorem anz_3715 (Hy : Hyz tys cA base adS Ex) : xall (fun b t => xOK l Dg clz tys cA flz ftz base adS GWz xyz xcz xnz xrz Ex codez bmz bpz b t) 1 279 2048 codez_3715 :=
  And.intro (okz_279 Hy) (okz_2327 Hy)
theorem anz_3716 (Hy : Hyz tys cA base adS Ex) : xall (fun b t => xOK l Dg clz tys cA flz ftz base adS GWz xyz xcz xnz xrz Ex codez bmz bpz b t) 1 1303 2048 codez_3716 :=
  And.intro (okz_1303 Hy) (okzz 3351)
theorem anz_3717 (Hy : Hyz tys cA base adS Ex) : xall (fun b t => xOK l Dg clz tys cA flz ftz base adS GWz xyz xcz xnz xrz Ex codez bmz bpz b t) 2 279 1024 codez_3717 :=
  And.intro (anz_3715 Hy) (anz_3716 Hy)
theorem anz_3718 (Hy : Hyz tys cA base adS Ex) : xall (fun b t => xOK l Dg clz tys cA flz ftz base adS GWz xyz xcz xnz xrz Ex codez bmz bpz b t) 1 791 2048 codez_3718 :=
  And.intro (okz_791 Hy) (okzz 2839)
theorem anz_3719 (Hy : Hyz tys cA base adS Ex) : xall (fun b t => xOK l Dg clz tys cA flz ftz base adS GWz xyz xcz xnz xrz Ex codez bmz bpz b t) 1 1815 2048 codez_3719 :=
  And.intro (okz_1815 Hy) (okzz 3863)
theorem anz_3720 (Hy : Hyz tys cA base adS Ex) : xall (fun b t => xOK l Dg clz tys cA flz ftz base adS GWz xyz xcz xnz xrz Ex codez bmz bpz b t) 2 791 1024 codez_3720 :=
  And.intro (anz_3718 Hy) (anz_3719 Hy)
theorem anz_3721 (Hy : Hyz tys cA base adS Ex) : xall (fun b t => xOK l Dg clz tys cA flz ftz base adS GWz xyz xcz xnz xrz Ex codez bmz bpz b t) 3 279 512 codez_3721 :=
  And.intro (anz_3717 Hy) (anz_3720 Hy)
theorem anz_3722 (Hy : Hyz tys cA base adS Ex) : xall (fun b t => xOK l Dg clz tys cA flz ftz base adS GWz xyz xcz xnz xrz Ex codez bmz bpz b t) 4 23 256 codez_3722 :=
  And.intro (anz_3714 Hy) (anz_3721 Hy)
theorem anz_3723 (Hy : Hyz tys cA base adS Ex) : xall (fun b t => xOK l Dg clz tys cA flz ftz base adS GWz xyz xcz xnz xrz Ex codez bmz bpz b t) 1 151 2048 codez_3723 :=
  And.intro (okz_151 Hy) (okz_2199 Hy)
theorem anz_3724 (Hy : Hyz tys cA base adS Ex) : xall (fun b t => xOK l Dg clz tys cA flz ftz base adS GWz xyz xcz xnz xrz Ex codez bmz bpz b t) 1 1175 2048 codez_3724 :=
  And.intro (okz_1175 Hy) (okzz 3223)
theorem anz_3725 (Hy : Hyz tys cA base adS Ex) : xall (fun b t => xOK l Dg clz tys cA flz ftz base adS GWz xyz xcz xnz xrz Ex codez bmz bpz b t) 2 151 1024 codez_3725 :=
  And.intro (anz_3723 Hy) (anz_3724 Hy)
theorem anz_3726 (Hy : Hyz tys cA base adS Ex) : xall (fun b t => xOK l Dg clz tys cA flz ftz base adS GWz xyz xcz xnz xrz Ex codez bmz bpz b t) 1 663 2048 codez_3726 :=
  And.intro (okz_663 Hy) (okzz 2711)
theorem anz_3727 (Hy : Hyz tys cA base adS Ex) : xall (fun b t => xOK l Dg clz tys cA flz ftz base adS GWz xyz xcz xnz xrz Ex codez bmz bpz b t) 1 1687 2048 codez_3727 :=
  And.intro (okz_1687 Hy) (okzz 3735)
theorem anz_3728 (Hy : Hyz tys cA base adS Ex) : xall (fun b t => xOK l Dg clz tys cA flz ftz base adS GWz xyz xcz xnz xrz Ex codez bmz bpz b t) 2 663 1024 codez_3728 :=
  And.intro (anz_3726 Hy) (anz_3727 Hy)
theorem anz_3729 (Hy : Hyz tys cA base adS Ex) : xall (fun b t => xOK l Dg clz tys cA flz ftz base adS GWz xyz xcz xnz xrz Ex codez bmz bpz b t) 3 151 512 codez_3729 :=
  And.intro (anz_3725 Hy) (anz_3728 Hy)
theorem anz_3730 (Hy : Hyz tys cA base adS Ex) : xall (fun b t => xOK l Dg clz tys cA flz ftz base adS GWz xyz xcz xnz xrz Ex codez bmz bpz b t) 1 407 2048 codez_3730 :=
  And.intro (okz_407 Hy) (okz_2455 Hy)
theorem anz_3731 (Hy : Hyz tys cA base adS Ex) : xall (fun b t => xOK l Dg clz tys cA flz ftz base adS GWz xyz xcz xnz xrz Ex codez bmz bpz b t) 1 1431 2048 codez_3731 :=
  And.intro (okz_1431 Hy) (okzz 3479)
theorem anz_3732 (Hy : Hyz tys cA base adS Ex) : xall (fun b t => xOK l Dg clz tys cA flz ftz base adS GWz xyz xcz xnz xrz Ex codez bmz bpz b t) 2 407 1024 codez_3732 :=
  And.intro (anz_3730 Hy) (anz_3731 Hy)
theorem anz_3733 (Hy : Hyz tys cA base adS Ex) : xall (fun b t => xOK l Dg clz tys cA flz ftz base adS GWz xyz xcz xnz xrz Ex codez bmz bpz b t) 1 919 2048 codez_3733 :=
  And.intro (okz_919 Hy) (okzz 2967)
theorem anz_3734 (Hy : Hyz tys cA base adS Ex) : xall (fun b t => xOK l Dg clz tys cA flz ftz base adS GWz xyz xcz xnz xrz Ex codez bmz bpz b t) 1 1943 2048 codez_3734 :=
  And.intro (okz_1943 Hy) (okzz 3991)
theorem anz_3735 (Hy : Hyz tys cA base adS Ex) : xall (fun b t => xOK l Dg clz tys cA flz ftz base adS GWz xyz xcz xnz xrz Ex codez bmz bpz b t) 2 919 1024 codez_3735 :=
  And.intro (anz_3733 Hy) (anz_3734 Hy)
theorem anz_3736 (Hy : Hyz tys cA base adS Ex) : xall (fun b t => xOK l Dg clz tys cA flz ftz base adS GWz xyz xcz xnz xrz Ex codez bmz bpz b t) 3 407 512 codez_3736 :=
  And.intro (anz_3732 Hy) (anz_3735 Hy)
theorem anz_3737 (Hy : Hyz tys cA base adS Ex) : xall (fun b t => xOK l Dg clz tys cA flz ftz base adS GWz xyz xcz xnz xrz Ex codez bmz bpz b t) 4 151 256 codez_3737 :=
  And.intro (anz_3729 Hy) (anz_3736 Hy)
theorem anz_3738 (Hy : Hyz tys cA base adS Ex) : xall (fun b t => xOK l Dg clz tys cA flz ftz base adS GWz xyz xcz xnz xrz Ex codez bmz bpz b t) 5 23 128 codez_3738 :=
  And.intro (anz_3722 Hy) (anz_3737 Hy)
theorem anz_3739 (Hy : Hyz tys cA base adS Ex) : xall (fun b t => xOK l Dg clz tys cA flz ftz base adS GWz xyz xcz xnz xrz Ex codez bmz bpz b t) 1 87 2048 codez_3739 :=
  And.intro (okz_87 Hy) (okz_2135 Hy)
theorem anz_3740 (Hy : Hyz tys cA base adS Ex) : xall (fun b t => xOK l Dg clz tys cA flz ftz base adS GWz xyz xcz xnz xrz Ex codez bmz bpz b t) 1 1111 2048 codez_3740 :=
  And.intro (okz_1111 Hy) (okzz 3159)
theorem anz_3741 (Hy : Hyz tys cA base adS Ex) : xall (fun b t => xOK l Dg clz tys cA flz ftz base adS GWz xyz xcz xnz xrz Ex codez bmz bpz b t) 2 87 1024 codez_3741 :=
  And.intro (anz_3739 Hy) (anz_3740 Hy)
theorem anz_3742 (Hy : Hyz tys cA base adS Ex) : xall (fun b t => xOK l Dg clz tys cA flz ftz base adS GWz xyz xcz xnz xrz Ex codez bmz bpz b t) 1 599 2048 codez_3742 :=
  And.intro (okz_599 Hy) (okzz 2647)
theorem anz_3743 (Hy : Hyz tys cA base adS Ex) : xall (fun b t => xOK l Dg clz tys cA flz ftz base adS GWz xyz xcz xnz xrz Ex codez bmz bpz b t) 1 1623 2048 codez_3743 :=
  And.intro (okz_1623 Hy) (okzz 3671)
theorem anz_3744 (Hy : Hyz tys cA base adS Ex) : xall (fun b t => xOK l Dg clz tys cA flz ftz base adS GWz xyz xcz xnz xrz Ex codez bmz bpz b t) 2 599 1024 codez_3744 :=
  And.intro (anz_3742 Hy) (anz_3743 Hy)
theorem anz_3745 (Hy : Hyz tys cA base adS Ex) : xall (fun b t => xOK l Dg clz tys cA flz ftz base adS GWz xyz xcz xnz xrz Ex codez bmz bpz b t) 3 87 512 codez_3745 :=
  And.intro (anz_3741 Hy) (anz_3744 Hy)
theorem anz_3746 (Hy : Hyz tys cA base adS Ex) : xall (fun b t => xOK l Dg clz tys cA flz ftz base adS GWz xyz xcz xnz xrz Ex codez bmz bpz b t) 1 343 2048 codez_3746 :=
  And.intro (okz_343 Hy) (okz_2391 Hy)
theorem anz_3747 (Hy : Hyz tys cA base adS Ex) : xall (fun b t => xOK l Dg clz tys cA flz ftz base adS GWz xyz xcz xnz xrz Ex codez bmz bpz b t) 1 1367 2048 codez_3747 :=
  And.intro (okz_1367 Hy) (okzz 3415)
theorem anz_3748 (Hy : Hyz tys cA base adS Ex) : xall (fun b t => xOK l Dg clz tys cA flz ftz base adS GWz xyz xcz xnz xrz Ex codez bmz bpz b t) 2 343 1024 codez_3748 :=
  And.intro (anz_3746 Hy) (anz_3747 Hy)
theorem anz_3749 (Hy : Hyz tys cA base adS Ex) : xall (fun b t => xOK l Dg clz tys cA flz ftz base adS GWz xyz xcz xnz xrz Ex codez bmz bpz b t) 1 855 2048 codez_3749 :=
  And.intro (okz_855 Hy) (okzz 2903)
theorem anz_3750 (Hy : Hyz tys cA base adS Ex) : xall (fun b t => xOK l Dg clz tys cA flz ftz base adS GWz xyz xcz xnz xrz Ex codez bmz bpz b t) 1 1879 2048 codez_3750 :=
  And.intro (okz_1879 Hy) (okzz 3927)
theorem anz_3751 (Hy : Hyz tys cA base adS Ex) : xall (fun b t => xOK l Dg clz tys cA flz ftz base adS GWz xyz xcz xnz xrz Ex codez bmz bpz b t) 2 855 1024 codez_3751 :=
  And.intro (anz_3749 Hy) (anz_3750 Hy)
theorem anz_3752 (Hy : Hyz tys cA base adS Ex) : xall (fun b t => xOK l Dg clz tys cA flz ftz base adS GWz xyz xcz xnz xrz Ex codez bmz bpz b t) 3 343 512 codez_3752 :=
  And.intro (anz_3748 Hy) (anz_3751 Hy)
theorem anz_3753 (Hy : Hyz tys cA base adS Ex) : xall (fun b t => xOK l Dg clz tys cA flz ftz base adS GWz xyz xcz xnz xrz Ex codez bmz bpz b t) 4 87 256 codez_3753 :=
  And.intro (anz_3745 Hy) (anz_3752 Hy)
theorem anz_3754 (Hy : Hyz tys cA base adS Ex) : xall (fun b t => xOK l Dg clz tys cA flz ftz base adS GWz xyz xcz xnz xrz Ex codez bmz bpz b t) 1 215 2048 codez_3754 :=
  And.intro (okz_215 Hy) (okz_2263 Hy)
theorem anz_3755 (Hy : Hyz tys cA base adS Ex) : xall (fun b t => xOK l Dg clz tys cA flz ftz base adS GWz xyz xcz xnz xrz Ex codez bmz bpz b t) 1 1239 2048 codez_3755 :=
  And.intro (okz_1239 Hy) (okzz 3287)
theorem anz_3756 (Hy : Hyz tys cA base adS Ex) : xall (fun b t => xOK l Dg clz tys cA flz ftz base adS GWz xyz xcz xnz xrz Ex codez bmz bpz b t) 2 215 1024 codez_3756 :=
  And.intro (anz_3754 Hy) (anz_3755 Hy)
theorem anz_3757 (Hy : Hyz tys cA base adS Ex) : xall (fun b t => xOK l Dg clz tys cA flz ftz base adS GWz xyz xcz xnz xrz Ex codez bmz bpz b t) 1 727 2048 codez_3757 :=
  And.intro (okz_727 Hy) (okzz 2775)
theorem anz_3758 (Hy : Hyz tys cA base adS Ex) : xall (fun b t => xOK l Dg clz tys cA flz ftz base adS GWz xyz xcz xnz xrz Ex codez bmz bpz b t) 1 1751 2048 codez_3758 :=
  And.intro (okz_1751 Hy) (okzz 3799)
theorem anz_3759 (Hy : Hyz tys cA base adS Ex) : xall (fun b t => xOK l Dg clz tys cA flz ftz base adS GWz xyz xcz xnz xrz Ex codez bmz bpz b t) 2 727 1024 codez_3759 :=
  And.intro (anz_3757 Hy) (anz_3758 Hy)
theorem anz_3760 (Hy : Hyz tys cA base adS Ex) : xall (fun b t => xOK l Dg clz tys cA flz ftz base adS GWz xyz xcz xnz xrz Ex codez bmz bpz b t) 3 215 512 codez_3760 :=
  And.intro (anz_3756 Hy) (anz_3759 Hy)
theorem anz_3761 (Hy : Hyz tys cA base adS Ex) : xall (fun b t => xOK l Dg clz tys cA flz ftz base adS GWz xyz xcz xnz xrz Ex codez bmz bpz b t) 1 471 2048 codez_3761 :=
  And.intro (okz_471 Hy) (okz_2519 Hy)
theorem anz_3762 (Hy : Hyz tys cA base adS Ex) : xall (fun b t => xOK l Dg clz tys cA flz ftz base adS GWz xyz xcz xnz xrz Ex codez bmz bpz b t) 1 1495 2048 codez_3762 :=
  And.intro (okz_1495 Hy) (okzz 3543)
theorem anz_3763 (Hy : Hyz tys cA base adS Ex) : xall (fun b t => xOK l Dg clz tys cA flz ftz base adS GWz xyz xcz xnz xrz Ex codez bmz bpz b t) 2 471 1024 codez_3763 :=
  And.intro (anz_3761 Hy) (anz_3762 Hy)
theorem anz_3764 (Hy : Hyz tys cA base adS Ex) : xall (fun b t => xOK l Dg clz tys cA flz ftz base adS GWz xyz xcz xnz xrz Ex codez bmz bpz b t) 1 983 2048 codez_3764 :=
  And.intro (okz_983 Hy) (okzz 3031)
theorem anz_3765 (Hy : Hyz tys cA base adS Ex) : xall (fun b t => xOK l Dg clz tys cA flz ftz base adS GWz xyz xcz xnz xrz Ex codez bmz bpz b t) 1 2007 2048 codez_3765 :=
  And.intro (okz_2007 Hy) (okzz 4055)
theorem anz_3766 (Hy : Hyz tys cA base adS Ex) : xall (fun b t => xOK l Dg clz tys cA flz ftz base adS GWz xyz xcz xnz xrz Ex codez bmz bpz b t) 2 983 1024 codez_3766 :=
  And.intro (anz_3764 Hy) (anz_3765 Hy)
theorem anz_3767 (Hy : Hyz tys cA base adS Ex) : xall (fun b t => xOK l Dg clz tys cA flz ftz base adS GWz xyz xcz xnz xrz Ex codez bmz bpz b t) 3 471 512 codez_3767 :=
  And.intro (anz_3763 Hy) (anz_3766 Hy)
theorem anz_3768 (Hy : Hyz tys cA base adS Ex) : xall (fun b t => xOK l Dg clz tys cA flz ftz base adS GWz xyz xcz xnz xrz Ex codez bmz bpz b t) 4 215 256 codez_3768 :=
  And.intro (anz_3760 Hy) (anz_3767 Hy)
theorem anz_3769 (Hy : Hyz tys cA base adS Ex) : xall (fun b t => xOK l Dg clz tys cA flz ftz base adS GWz xyz xcz xnz xrz Ex codez bmz bpz b t) 5 87 128 codez_3769 :=
  And.intro (anz_3753 Hy) (anz_3768 Hy)
theorem anz_3770 (Hy : Hyz tys cA base adS Ex) : xall (fun b t => xOK l Dg clz tys cA flz ftz base adS GWz xyz xcz xnz xrz Ex codez bmz bpz b t) 6 23 64 codez_3770 :=
  And.intro (anz_3738 Hy) (anz_3769 Hy)
theorem anz_3771 (Hy : Hyz tys cA base adS Ex) : xall (fun b t => xOK l Dg clz tys cA flz ftz base adS GWz xyz xcz xnz xrz Ex codez bmz bpz b t) 1 55 2048 codez_3771 :=
  And.intro (okz_55 Hy) (okz_2103 Hy)
theorem anz_3772 (Hy : Hyz tys cA base adS Ex) : xall (fun b t => xOK l Dg clz tys cA flz ftz base adS GWz xyz xcz xnz xrz Ex codez bmz bpz b t) 1 1079 2048 codez_3772 :=
  And.intro (okz_1079 Hy) (okzz 3127)
theorem anz_3773 (Hy : Hyz tys cA base adS Ex) : xall (fun b t => xOK l Dg clz tys cA flz ftz base adS GWz xyz xcz xnz xrz Ex codez bmz bpz b t) 2 55 1024 codez_3773 :=
  And.intro (anz_3771 Hy) (anz_3772 Hy)
theorem anz_3774 (Hy : Hyz tys cA base adS Ex) : xall (fun b t => xOK l Dg clz tys cA flz ftz base adS GWz xyz xcz xnz xrz Ex codez bmz bpz b t) 1 567 2048 codez_3774 :=
  And.intro (okz_567 Hy) (okzz 2615)
theorem anz_3775 (Hy : Hyz tys cA base adS Ex) : xall (fun b t => xOK l Dg clz tys cA flz ftz base adS GWz xyz xcz xnz xrz Ex codez bmz bpz b t) 1 1591 2048 codez_3775 :=
  And.intro (okz_1591 Hy) (okzz 3639)
theorem anz_3776 (Hy : Hyz tys cA base adS Ex) : xall (fun b t => xOK l Dg clz tys cA flz ftz base adS GWz xyz xcz xnz xrz Ex codez bmz bpz b t) 2 567 1024 codez_3776 :=
  And.intro (anz_3774 Hy) (anz_3775 Hy)
theorem anz_3777 (Hy : Hyz tys cA base adS Ex) : xall (fun b t => xOK l Dg clz tys cA flz ftz base adS GWz xyz xcz xnz xrz Ex codez bmz bpz b t) 3 55 512 codez_3777 :=
  And.intro (anz_3773 Hy) (anz_3776 Hy)
theorem anz_3778 (Hy : Hyz tys cA base adS Ex) : xall (fun b t => xOK l Dg clz tys cA flz ftz base adS GWz xyz xcz xnz xrz Ex codez bmz bpz b t) 1 311 2048 codez_3778 :=
  And.intro (okz_311 Hy) (okz_2359 Hy)
theorem anz_3779 (Hy : Hyz tys cA base adS Ex) : xall (fun b t => xOK l Dg clz tys cA flz ftz base adS GWz xyz xcz xnz xrz Ex codez bmz bpz b t) 1 1335 2048 codez_3779 :=
  And.intro (okz_1335 Hy) (okzz 3383)
theorem anz_3780 (Hy : Hyz tys cA base adS Ex) : xall (fun b t => xOK l Dg clz tys cA flz ftz base adS GWz xyz xcz xnz xrz Ex codez bmz bpz b t) 2 311 1024 codez_3780 :=
  And.intro (anz_3778 Hy) (anz_3779 Hy)
theorem anz_3781 (Hy : Hyz tys cA base adS Ex) : xall (fun b t => xOK l Dg clz tys cA flz ftz base adS GWz xyz xcz xnz xrz Ex codez bmz bpz b t) 1 823 2048 codez_3781 :=
  And.intro (okz_823 Hy) (okzz 2871)
theorem anz_3782 (Hy : Hyz tys cA base adS Ex) : xall (fun b t => xOK l Dg clz tys cA flz ftz base adS GWz xyz xcz xnz xrz Ex codez bmz bpz b t) 1 1847 2048 codez_3782 :=
  And.intro (okz_1847 Hy) (okzz 3895)
theorem anz_3783 (Hy : Hyz tys cA base adS Ex) : xall (fun b t => xOK l Dg clz tys cA flz ftz base adS GWz xyz xcz xnz xrz Ex codez bmz bpz b t) 2 823 1024 codez_3783 :=
  And.intro (anz_3781 Hy) (anz_3782 Hy)
theorem anz_3784 (Hy : Hyz tys cA base adS Ex) : xall (fun b t => xOK l Dg clz tys cA flz ftz base adS GWz xyz xcz xnz xrz Ex codez bmz bpz b t) 3 311 512 codez_3784 :=
  And.intro (anz_3780 Hy) (anz_3783 Hy)
theorem anz_3785 (Hy : Hyz tys cA base adS Ex) : xall (fun b t => xOK l Dg clz tys cA flz ftz base adS GWz xyz xcz xnz xrz Ex codez bmz bpz b t) 4 55 256 codez_3785 :=
  And.intro (anz_3777 Hy) (anz_3784 Hy)
theorem anz_3786 (Hy : Hyz tys cA base adS Ex) : xall (fun b t => xOK l Dg clz tys cA flz ftz base adS GWz xyz xcz xnz xrz Ex codez bmz bpz b t) 1 183 2048 codez_3786 :=
  And.intro (okz_183 Hy) (okz_2231 Hy)
theorem anz_3787 (Hy : Hyz tys cA base adS Ex) : xall (fun b t => xOK l Dg clz tys cA flz ftz base adS GWz xyz xcz xnz xrz Ex codez bmz bpz b t) 1 1207 2048 codez_3787 :=
  And.intro (okz_1207 Hy) (okzz 3255)
theorem anz_3788 (Hy : Hyz tys cA base adS Ex) : xall (fun b t => xOK l Dg clz tys cA flz ftz base adS GWz xyz xcz xnz xrz Ex codez bmz bpz b t) 2 183 1024 codez_3788 :=
  And.intro (anz_3786 Hy) (anz_3787 Hy)
theorem anz_3789 (Hy : Hyz tys cA base adS Ex) : xall (fun b t => xOK l Dg clz tys cA flz ftz base adS GWz xyz xcz xnz xrz Ex codez bmz bpz b t) 1 695 2048 codez_3789 :=
  And.intro (okz_695 Hy) (okzz 2743)
theorem anz_3790 (Hy : Hyz tys cA base adS Ex) : xall (fun b t => xOK l Dg clz tys cA flz ftz base adS GWz xyz xcz xnz xrz Ex codez bmz bpz b t) 1 1719 2048 codez_3790 :=
  And.intro (okz_1719 Hy) (okzz 3767)
theorem anz_3791 (Hy : Hyz tys cA base adS Ex) : xall (fun b t => xOK l Dg clz tys cA flz ftz base adS GWz xyz xcz xnz xrz Ex codez bmz bpz b t) 2 695 1024 codez_3791 :=
  And.intro (anz_3789 Hy) (anz_3790 Hy)
theorem anz_3792 (Hy : Hyz tys cA base adS Ex) : xall (fun b t => xOK l Dg clz tys cA flz ftz base adS GWz xyz xcz xnz xrz Ex codez bmz bpz b t) 3 183 512 codez_3792 :=
  And.intro (anz_3788 Hy) (anz_3791 Hy)
theorem anz_3793 (Hy : Hyz tys cA base adS Ex) : xall (fun b t => xOK l Dg clz tys cA flz ftz base adS GWz xyz xcz xnz xrz Ex codez bmz bpz b t) 1 439 2048 codez_3793 :=
  And.intro (okz_439 Hy) (okz_2487 Hy)
theorem anz_3794 (Hy : Hyz tys cA base adS Ex) : xall (fun b t => xOK l Dg clz tys cA flz ftz base adS GWz xyz xcz xnz xrz Ex codez bmz bpz b t) 1 1463 2048 codez_3794 :=
  And.intro (okz_1463 Hy) (okzz 3511)
theorem anz_3795 (Hy : Hyz tys cA base adS Ex) : xall (fun b t => xOK l Dg clz tys cA flz ftz base adS GWz xyz xcz xnz xrz Ex codez bmz bpz b t) 2 439 1024 codez_3795 :=
  And.intro (anz_3793 Hy) (anz_3794 Hy)
theorem anz_3796 (Hy : Hyz tys cA base adS Ex) : xall (fun b t => xOK l Dg clz tys cA flz ftz base adS GWz xyz xcz xnz xrz Ex codez bmz bpz b t) 1 951 2048 codez_3796 :=
  And.intro (okz_951 Hy) (okzz 2999)
theorem anz_3797 (Hy : Hyz tys cA base adS Ex) : xall (fun b t => xOK l Dg clz tys cA flz ftz base adS GWz xyz xcz xnz xrz Ex codez bmz bpz b t) 1 1975 2048 codez_3797 :=
  And.intro (okz_1975 Hy) (okzz 4023)
theorem anz_3798 (Hy : Hyz tys cA base adS Ex) : xall (fun b t => xOK l Dg clz tys cA flz ftz base adS GWz xyz xcz xnz xrz Ex codez bmz bpz b t) 2 951 1024 codez_3798 :=
  And.intro (anz_3796 Hy) (anz_3797 Hy)
theorem anz_3799 (Hy : Hyz tys cA base adS Ex) : xall (fun b t => xOK l Dg clz tys cA flz ftz base adS GWz xyz xcz xnz xrz Ex codez bmz bpz b t) 3 439 512 codez_3799 :=
  And.intro (anz_3795 Hy) (anz_3798 Hy)
theorem anz_3800 (Hy : Hyz tys cA base adS Ex) : xall (fun b t => xOK l Dg clz tys cA flz ftz base adS GWz xyz xcz xnz xrz Ex codez bmz bpz b t) 4 183 256 codez_3800 :=
  And.intro (anz_3792 Hy) (anz_3799 Hy)
theorem anz_3801 (Hy : Hyz tys cA base adS Ex) : xall (fun b t => xOK l Dg clz tys cA flz ftz base adS GWz xyz xcz xnz xrz Ex codez bmz bpz b t) 5 55 128 codez_3801 :=
  And.intro (anz_3785 Hy) (anz_3800 Hy)
theorem anz_3802 (Hy : Hyz tys cA base adS Ex) : xall (fun b t => xOK l Dg clz tys cA flz ftz base adS GWz xyz xcz xnz xrz Ex codez bmz bpz b t) 1 119 2048 codez_3802 :=
  And.intro (okz_119 Hy) (okz_2167 Hy)
theorem anz_3803 (Hy : Hyz tys cA base adS Ex) : xall (fun b t => xOK l Dg clz tys cA flz ftz base adS GWz xyz xcz xnz xrz Ex codez bmz bpz b t) 1 1143 2048 codez_3803 :=
  And.intro (okz_1143 Hy) (okzz 3191)
theorem anz_3804 (Hy : Hyz tys cA base adS Ex) : xall (fun b t => xOK l Dg clz tys cA flz ftz base adS GWz xyz xcz xnz xrz Ex codez bmz bpz b t) 2 119 1024 codez_3804 :=
  And.intro (anz_3802 Hy) (anz_3803 Hy)
theorem anz_3805 (Hy : Hyz tys cA base adS Ex) : xall (fun b t => xOK l Dg clz tys cA flz ftz base adS GWz xyz xcz xnz xrz Ex codez bmz bpz b t) 1 631 2048 codez_3805 :=
  And.intro (okz_631 Hy) (okzz 2679)
theorem anz_3806 (Hy : Hyz tys cA base adS Ex) : xall (fun b t => xOK l Dg clz tys cA flz ftz base adS GWz xyz xcz xnz xrz Ex codez bmz bpz b t) 1 1655 2048 codez_3806 :=
  And.intro (okz_1655 Hy) (okzz 3703)
theorem anz_3807 (Hy : Hyz tys cA base adS Ex) : xall (fun b t => xOK l Dg clz tys cA flz ftz base adS GWz xyz xcz xnz xrz Ex codez bmz bpz b t) 2 631 1024 codez_3807 :=
  And.intro (anz_3805 Hy) (anz_3806 Hy)
theorem anz_3808 (Hy : Hyz tys cA base adS Ex) : xall (fun b t => xOK l Dg clz tys cA flz ftz base adS GWz xyz xcz xnz xrz Ex codez bmz bpz b t) 3 119 512 codez_3808 :=
  And.intro (anz_3804 Hy) (anz_3807 Hy)
theorem anz_3809 (Hy : Hyz tys cA base adS Ex) : xall (fun b t => xOK l Dg clz tys cA flz ftz base adS GWz xyz xcz xnz xrz Ex codez bmz bpz b t) 1 375 2048 codez_3809 :=
  And.intro (okz_375 Hy) (okz_2423 Hy)
theorem anz_3810 (Hy : Hyz tys cA base adS Ex) : xall (fun b t => xOK l Dg clz tys cA flz ftz base adS GWz xyz xcz xnz xrz Ex codez bmz bpz b t) 1 1399 2048 codez_3810 :=
  And.intro (okz_1399 Hy) (okzz 3447)
theorem anz_3811 (Hy : Hyz tys cA base adS Ex) : xall (fun b t => xOK l Dg clz tys cA flz ftz base adS GWz xyz xcz xnz xrz Ex codez bmz bpz b t) 2 375 1024 codez_3811 :=
  And.intro (anz_3809 Hy) (anz_3810 Hy)
theorem anz_3812 (Hy : Hyz tys cA base adS Ex) : xall (fun b t => xOK l Dg clz tys cA flz ftz base adS GWz xyz xcz xnz xrz Ex codez bmz bpz b t) 1 887 2048 codez_3812 :=
  And.intro (okz_887 Hy) (okzz 2935)
theorem anz_3813 (Hy : Hyz tys cA base adS Ex) : xall (fun b t => xOK l Dg clz tys cA flz ftz base adS GWz xyz xcz xnz xrz Ex codez bmz bpz b t) 1 1911 2048 codez_3813 :=
  And.intro (okz_1911 Hy) (okzz 3959)
theorem anz_3814 (Hy : Hyz tys cA base adS Ex) : xall (fun b t => xOK l Dg clz tys cA flz ftz base adS GWz xyz xcz xnz xrz Ex codez bmz bpz b t) 2 887 1024 codez_3814 :=
  And.intro (anz_3812 Hy) (anz_3813 Hy)
theorem anz_3815 (Hy : Hyz tys cA base adS Ex) : xall (fun b t => xOK l Dg clz tys cA flz ftz base adS GWz xyz xcz xnz xrz Ex codez bmz bpz b t) 3 375 512 codez_3815 :=
  And.intro (anz_3811 Hy) (anz_3814 Hy)
theorem anz_3816 (Hy : Hyz tys cA base adS Ex) : xall (fun b t => xOK l Dg clz tys cA flz ftz base adS GWz xyz xcz xnz xrz Ex codez bmz bpz b t) 4 119 256 codez_3816 :=
  And.intro (anz_3808 Hy) (anz_3815 Hy)
theorem anz_3817 (Hy : Hyz tys cA base adS Ex) : xall (fun b t => xOK l Dg clz tys cA flz ftz base adS GWz xyz xcz xnz xrz Ex codez bmz bpz b t) 1 247 2048 codez_3817 :=
  And.intro (okz_247 Hy) (okz_2295 Hy)
theorem anz_3818 (Hy : Hyz tys cA base adS Ex) : xall (fun b t => xOK l Dg clz tys cA flz ftz base adS GWz xyz xcz xnz xrz Ex codez bmz bpz b t) 1 1271 2048 codez_3818 :=
  And.intro (okz_1271 Hy) (okzz 3319)
theorem anz_3819 (Hy : Hyz tys cA base adS Ex) : xall (fun b t => xOK l Dg clz tys cA flz ftz base adS GWz xyz xcz xnz xrz Ex codez bmz bpz b t) 2 247 1024 codez_3819 :=
  And.intro (anz_3817 Hy) (anz_3818 Hy)
theorem anz_3820 (Hy : Hyz tys cA base adS Ex) : xall (fun b t => xOK l Dg clz tys cA flz ftz base adS GWz xyz xcz xnz xrz Ex codez bmz bpz b t) 1 759 2048 codez_3820 :=
  And.intro (okz_759 Hy) (okzz 2807)
theorem anz_3821 (Hy : Hyz tys cA base adS Ex) : xall (fun b t => xOK l Dg clz tys cA flz ftz base adS GWz xyz xcz xnz xrz Ex codez bmz bpz b t) 1 1783 2048 codez_3821 :=
  And.intro (okz_1783 Hy) (okzz 3831)
theorem anz_3822 (Hy : Hyz tys cA base adS Ex) : xall (fun b t => xOK l Dg clz tys cA flz ftz base adS GWz xyz xcz xnz xrz Ex codez bmz bpz b t) 2 759 1024 codez_3822 :=
  And.intro (anz_3820 Hy) (anz_3821 Hy)
theorem anz_3823 (Hy : Hyz tys cA base adS Ex) : xall (fun b t => xOK l Dg clz tys cA flz ftz base adS GWz xyz xcz xnz xrz Ex codez bmz bpz b t) 3 247 512 codez_3823 :=
  And.intro (anz_3819 Hy) (anz_3822 Hy)
theorem anz_3824 (Hy : Hyz tys cA base adS Ex) : xall (fun b t => xOK l Dg clz tys cA flz ftz base adS GWz xyz xcz xnz xrz Ex codez bmz bpz b t) 1 503 2048 codez_3824 :=
  And.intro (okz_503 Hy) (okzz 2551)
theorem anz_3825 (Hy : Hyz tys cA base adS Ex) : xall (fun b t => xOK l Dg clz tys cA flz ftz base adS GWz xyz xcz xnz xrz Ex codez bmz bpz b t) 1 1527 2048 codez_3825 :=
  And.intro (okz_1527 Hy) (okzz 3575)
theorem anz_3826 (Hy : Hyz tys cA base adS Ex) : xall (fun b t => xOK l Dg clz tys cA flz ftz base adS GWz xyz xcz xnz xrz Ex codez bmz bpz b t) 2 503 1024 codez_3826 :=
  And.intro (anz_3824 Hy) (anz_3825 Hy)
theorem anz_3827 (Hy : Hyz tys cA base adS Ex) : xall (fun b t => xOK l Dg clz tys cA flz ftz base adS GWz xyz xcz xnz xrz Ex codez bmz bpz b t) 1 1015 2048 codez_3827 :=
  And.intro (okz_1015 Hy) (okzz 3063)
theorem anz_3828 (Hy : Hyz tys cA base adS Ex) : xall (fun b t => xOK l Dg clz tys cA flz ftz base adS GWz xyz xcz xnz xrz Ex codez bmz bpz b t) 1 2039 2048 codez_3828 :=
  And.intro (okz_2039 Hy) (okzz 4087)
theorem anz_3829 (Hy : Hyz tys cA base adS Ex) : xall (fun b t => xOK l Dg clz tys cA flz ftz base adS GWz xyz xcz xnz xrz Ex codez bmz bpz b t) 2 1015 1024 codez_3829 :=
  And.intro (anz_3827 Hy) (anz_3828 Hy)
theorem anz_3830 (Hy : Hyz tys cA base adS Ex) : xall (fun b t => xOK l Dg clz tys cA flz ftz base adS GWz xyz xcz xnz xrz Ex codez bmz bpz b t) 3 503 512 codez_3830 :=
  And.intro (anz_3826 Hy) (anz_3829 Hy)
theorem anz_3831 (Hy : Hyz tys cA base adS Ex) : xall (fun b t => xOK l Dg clz tys cA flz ftz base adS GWz xyz xcz xnz xrz Ex codez bmz bpz b t) 4 247 256 codez_3831 :=
  And.intro (anz_3823 Hy) (anz_3830 Hy)
theorem anz_3832 (Hy : Hyz tys cA base adS Ex) : xall (fun b t => xOK l Dg clz tys cA flz ftz base adS GWz xyz xcz xnz xrz Ex codez bmz bpz b t) 5 119 128 codez_3832 :=
  And.intro (anz_3816 Hy) (anz_3831 Hy)
theorem anz_3833 (Hy : Hyz tys cA base adS Ex) : xall (fun b t => xOK l Dg clz tys cA flz ftz base adS GWz xyz xcz xnz xrz Ex codez bmz bpz b t) 6 55 64 codez_3833 :=
  And.intro (anz_3801 Hy) (anz_3832 Hy)
theorem anz_3834 (Hy : Hyz tys cA base adS Ex) : xall (fun b t => xOK l Dg clz tys cA flz ftz base adS GWz xyz xcz xnz xrz Ex codez bmz bpz b t) 7 23 32 codez_3834 :=
  And.intro (anz_3770 Hy) (anz_3833 Hy)
theorem anz_3835 (Hy : Hyz tys cA base adS Ex) : xall (fun b t => xOK l Dg clz tys cA flz ftz base adS GWz xyz xcz xnz xrz Ex codez bmz bpz b t) 8 7 16 codez_3835 :=
  And.intro (anz_3707 Hy) (anz_3834 Hy)
theorem anz_3836 (Hy : Hyz tys cA base adS Ex) : xall (fun b t => xOK l Dg clz tys cA flz ftz base adS GWz xyz xcz xnz xrz Ex codez bmz bpz b t) 1 15 2048 codez_3836 :=
  And.intro (okz_15 Hy) (okz_2063 Hy)
theorem anz_3837 (Hy : Hyz tys cA base adS Ex) : xall (fun b t => xOK l Dg clz tys cA flz ftz base adS GWz xyz xcz xnz xrz Ex codez bmz bpz b t) 1 1039 2048 codez_3837 :=
  And.intro (okz_1039 Hy) (okzz 3087)
theorem anz_3838 (Hy : Hyz tys cA base adS Ex) : xall (fun b t => xOK l Dg clz tys cA flz ftz base adS GWz xyz xcz xnz xrz Ex codez bmz bpz b t) 2 15 1024 codez_3838 :=
  And.intro (anz_3836 Hy) (anz_3837 Hy)
theorem anz_3839 (Hy : Hyz tys cA base adS Ex) : xall (fun b t => xOK l Dg clz tys cA flz ftz base adS GWz xyz xcz xnz xrz Ex codez bmz bpz b t) 1 527 2048 codez_3839 :=
  And.intro (okz_527 Hy) (okzz 2575)
theorem anz_3840 (Hy : Hyz tys cA base adS Ex) : xall (fun b t => xOK l Dg clz tys cA flz ftz base adS GWz xyz xcz xnz xrz Ex codez bmz bpz b t) 1 1551 2048 codez_3840 :=
  And.intro (okz_1551 Hy) (okzz 3599)
theorem anz_3841 (Hy : Hyz tys cA base adS Ex) : xall (fun b t => xOK l Dg clz tys cA flz ftz base adS GWz xyz xcz xnz xrz Ex codez bmz bpz b t) 2 527 1024 codez_3841 :=
  And.intro (anz_3839 Hy) (anz_3840 Hy)
theorem anz_3842 (Hy : Hyz tys cA base adS Ex) : xall (fun b t => xOK l Dg clz tys cA flz ftz base adS GWz xyz xcz xnz xrz Ex codez bmz bpz b t) 3 15 512 codez_3842 :=
  And.intro (anz_3838 Hy) (anz_3841 Hy)
theorem anz_3843 (Hy : Hyz tys cA base adS Ex) : xall (fun b t => xOK l Dg clz tys cA flz ftz base adS GWz xyz xcz xnz xrz Ex codez bmz bpz b t) 1 271 2048 codez_3843 :=
  And.intro (okz_271 Hy) (okz_2319 Hy)
theorem anz_3844 (Hy : Hyz tys cA base adS Ex) : xall (fun b t => xOK l Dg clz tys cA flz ftz base adS GWz xyz xcz xnz xrz Ex codez bmz bpz b t) 1 1295 2048 codez_3844 :=
  And.intro (okz_1295 Hy) (okzz 3343)
theorem anz_3845 (Hy : Hyz tys cA base adS Ex) : xall (fun b t => xOK l Dg clz tys cA flz ftz base adS GWz xyz xcz xnz xrz Ex codez bmz bpz b t) 2 271 1024 codez_3845 :=
  And.intro (anz_3843 Hy) (anz_3844 Hy)
theorem anz_3846 (Hy : Hyz tys cA base adS Ex) : xall (fun b t => xOK l Dg clz tys cA flz ftz base adS GWz xyz xcz xnz xrz Ex codez bmz bpz b t) 1 783 2048 codez_3846 :=
  And.intro (okz_783 Hy) (okzz 2831)
theorem anz_3847 (Hy : Hyz tys cA base adS Ex) : xall (fun b t => xOK l Dg clz tys cA flz ftz base adS GWz xyz xcz xnz xrz Ex codez bmz bpz b t) 1 1807 2048 codez_3847 :=
  And.intro (okz_1807 Hy) (okzz 3855)
theorem anz_3848 (Hy : Hyz tys cA base adS Ex) : xall (fun b t => xOK l Dg clz tys cA flz ftz base adS GWz xyz xcz xnz xrz Ex codez bmz bpz b t) 2 783 1024 codez_3848 :=
  And.intro (anz_3846 Hy) (anz_3847 Hy)
theorem anz_3849 (Hy : Hyz tys cA base adS Ex) : xall (fun b t => xOK l Dg clz tys cA flz ftz base adS GWz xyz xcz xnz xrz Ex codez bmz bpz b t) 3 271 512 codez_3849 :=
  And.intro (anz_3845 Hy) (anz_3848 Hy)
theorem anz_3850 (Hy : Hyz tys cA base adS Ex) : xall (fun b t => xOK l Dg clz tys cA flz ftz base adS GWz xyz xcz xnz xrz Ex codez bmz bpz b t) 4 15 256 codez_3850 :=
  And.intro (anz_3842 Hy) (anz_3849 Hy)
theorem anz_3851 (Hy : Hyz tys cA base adS Ex) : xall (fun b t => xOK l Dg clz tys cA flz ftz base adS GWz xyz xcz xnz xrz Ex codez bmz bpz b t) 1 143 2048 codez_3851 :=
  And.intro (okz_143 Hy) (okz_2191 Hy)
theorem anz_3852 (Hy : Hyz tys cA base adS Ex) : xall (fun b t => xOK l Dg clz tys cA flz ftz base adS GWz xyz xcz xnz xrz Ex codez bmz bpz b t) 1 1167 2048 codez_3852 :=
  And.intro (okz_1167 Hy) (okzz 3215)
theorem anz_3853 (Hy : Hyz tys cA base adS Ex) : xall (fun b t => xOK l Dg clz tys cA flz ftz base adS GWz xyz xcz xnz xrz Ex codez bmz bpz b t) 2 143 1024 codez_3853 :=
  And.intro (anz_3851 Hy) (anz_3852 Hy)
theorem anz_3854 (Hy : Hyz tys cA base adS Ex) : xall (fun b t => xOK l Dg clz tys cA flz ftz base adS GWz xyz xcz xnz xrz Ex codez bmz bpz b t) 1 655 2048 codez_3854 :=
  And.intro (okz_655 Hy) (okzz 2703)
theorem anz_3855 (Hy : Hyz tys cA base adS Ex) : xall (fun b t => xOK l Dg clz tys cA flz ftz base adS GWz xyz xcz xnz xrz Ex codez bmz bpz b t) 1 1679 2048 codez_3855 :=
  And.intro (okz_1679 Hy) (okzz 3727)
theorem anz_3856 (Hy : Hyz tys cA base adS Ex) : xall (fun b t => xOK l Dg clz tys cA flz ftz base adS GWz xyz xcz xnz xrz Ex codez bmz bpz b t) 2 655 1024 codez_3856 :=
  And.intro (anz_3854 Hy) (anz_3855 Hy)
theorem anz_3857 (Hy : Hyz tys cA base adS Ex) : xall (fun b t => xOK l Dg clz tys cA flz ftz base adS GWz xyz xcz xnz xrz Ex codez bmz bpz b t) 3 143 512 codez_3857 :=
  And.intro (anz_3853 Hy) (anz_3856 Hy)
theorem anz_3858 (Hy : Hyz tys cA base adS Ex) : xall (fun b t => xOK l Dg clz tys cA flz ftz base adS GWz xyz xcz xnz xrz Ex codez bmz bpz b t) 1 399 2048 codez_3858 :=
  And.intro (okz_399 Hy) (okz_2447 Hy)
theorem anz_3859 (Hy : Hyz tys cA base adS Ex) : xall (fun b t => xOK l Dg clz tys cA flz ftz base adS GWz xyz xcz xnz xrz Ex codez bmz bpz b t) 1 1423 2048 codez_3859 :=
  And.intro (okz_1423 Hy) (okzz 3471)
theorem anz_3860 (Hy : Hyz tys cA base adS Ex) : xall (fun b t => xOK l Dg clz tys cA flz ftz base adS GWz xyz xcz xnz xrz Ex codez bmz bpz b t) 2 399 1024 codez_3860 :=
  And.intro (anz_3858 Hy) (anz_3859 Hy)
theorem anz_3861 (Hy : Hyz tys cA base adS Ex) : xall (fun b t => xOK l Dg clz tys cA flz ftz base adS GWz xyz xcz xnz xrz Ex codez bmz bpz b t) 1 911 2048 codez_3861 :=
  And.intro (okz_911 Hy) (okzz 2959)
theorem anz_3862 (Hy : Hyz tys cA base adS Ex) : xall (fun b t => xOK l Dg clz tys cA flz ftz base adS GWz xyz xcz xnz xrz Ex codez bmz bpz b t) 1 1935 2048 codez_3862 :=
  And.intro (okz_1935 Hy) (okzz 3983)
theorem anz_3863 (Hy : Hyz tys cA base adS Ex) : xall (fun b t => xOK l Dg clz tys cA flz ftz base adS GWz xyz xcz xnz xrz Ex codez bmz bpz b t) 2 911 1024 codez_3863 :=
  And.intro (anz_3861 Hy) (anz_3862 Hy)
theorem anz_3864 (Hy : Hyz tys cA base adS Ex) : xall (fun b t => xOK l Dg clz tys cA flz ftz base adS GWz xyz xcz xnz xrz Ex codez bmz bpz b t) 3 399 512 codez_3864 :=
  And.intro (anz_3860 Hy) (anz_3863 Hy)
theorem anz_3865 (Hy : Hyz tys cA base adS Ex) : xall (fun b t => xOK l Dg clz tys cA flz ftz base adS GWz xyz xcz xnz xrz Ex codez bmz bpz b t) 4 143 256 codez_3865 :=
  And.intro (anz_3857 Hy) (anz_3864 Hy)
theorem anz_3866 (Hy : Hyz tys cA base adS Ex) : xall (fun b t => xOK l Dg clz tys cA flz ftz base adS GWz xyz xcz xnz xrz Ex codez bmz bpz b t) 5 15 128 codez_3866 :=
  And.intro (anz_3850 Hy) (anz_3865 Hy)
theorem anz_3867 (Hy : Hyz tys cA base adS Ex) : xall (fun b t => xOK l Dg clz tys cA flz ftz base adS GWz xyz xcz xnz xrz Ex codez bmz bpz b t) 1 79 2048 codez_3867 :=
  And.intro (okz_79 Hy) (okz_2127 Hy)
theorem anz_3868 (Hy : Hyz tys cA base adS Ex) : xall (fun b t => xOK l Dg clz tys cA flz ftz base adS GWz xyz xcz xnz xrz Ex codez bmz bpz b t) 1 1103 2048 codez_3868 :=
  And.intro (okz_1103 Hy) (okzz 3151)
theorem anz_3869 (Hy : Hyz tys cA base adS Ex) : xall (fun b t => xOK l Dg clz tys cA flz ftz base adS GWz xyz xcz xnz xrz Ex codez bmz bpz b t) 2 79 1024 codez_3869 :=
  And.intro (anz_3867 Hy) (anz_3868 Hy)
theorem anz_3870 (Hy : Hyz tys cA base adS Ex) : xall (fun b t => xOK l Dg clz tys cA flz ftz base adS GWz xyz xcz xnz xrz Ex codez bmz bpz b t) 1 591 2048 codez_3870 :=
  And.intro (okz_591 Hy) (okzz 2639)
theorem anz_3871 (Hy : Hyz tys cA base adS Ex) : xall (fun b t => xOK l Dg clz tys cA flz ftz base adS GWz xyz xcz xnz xrz Ex codez bmz bpz b t) 1 1615 2048 codez_3871 :=
  And.intro (okz_1615 Hy) (okzz 3663)
theorem anz_3872 (Hy : Hyz tys cA base adS Ex) : xall (fun b t => xOK l Dg clz tys cA flz ftz base adS GWz xyz xcz xnz xrz Ex codez bmz bpz b t) 2 591 1024 codez_3872 :=
  And.intro (anz_3870 Hy) (anz_3871 Hy)
theorem anz_3873 (Hy : Hyz tys cA base adS Ex) : xall (fun b t => xOK l Dg clz tys cA flz ftz base adS GWz xyz xcz xnz xrz Ex codez bmz bpz b t) 3 79 512 codez_3873 :=
  And.intro (anz_3869 Hy) (anz_3872 Hy)
theorem anz_3874 (Hy : Hyz tys cA base adS Ex) : xall (fun b t => xOK l Dg clz tys cA flz ftz base adS GWz xyz xcz xnz xrz Ex codez bmz bpz b t) 1 335 2048 codez_3874 :=
  And.intro (okz_335 Hy) (okz_2383 Hy)
theorem anz_3875 (Hy : Hyz tys cA base adS Ex) : xall (fun b t => xOK l Dg clz tys cA flz ftz base adS GWz xyz xcz xnz xrz Ex codez bmz bpz b t) 1 1359 2048 codez_3875 :=
  And.intro (okz_1359 Hy) (okzz 3407)
theorem anz_3876 (Hy : Hyz tys cA base adS Ex) : xall (fun b t => xOK l Dg clz tys cA flz ftz base adS GWz xyz xcz xnz xrz Ex codez bmz bpz b t) 2 335 1024 codez_3876 :=
  And.intro (anz_3874 Hy) (anz_3875 Hy)
theorem anz_3877 (Hy : Hyz tys cA base adS Ex) : xall (fun b t => xOK l Dg clz tys cA flz ftz base adS GWz xyz xcz xnz xrz Ex codez bmz bpz b t) 1 847 2048 codez_3877 :=
  And.intro (okz_847 Hy) (okzz 2895)
theorem anz_3878 (Hy : Hyz tys cA base adS Ex) : xall (fun b t => xOK l Dg clz tys cA flz ftz base adS GWz xyz xcz xnz xrz Ex codez bmz bpz b t) 1 1871 2048 codez_3878 :=
  And.intro (okz_1871 Hy) (okzz 3919)
theorem anz_3879 (Hy : Hyz tys cA base adS Ex) : xall (fun b t => xOK l Dg clz tys cA flz ftz base adS GWz xyz xcz xnz xrz Ex codez bmz bpz b t) 2 847 1024 codez_3879 :=
  And.intro (anz_3877 Hy) (anz_3878 Hy)
theorem anz_3880 (Hy : Hyz tys cA base adS Ex) : xall (fun b t => xOK l Dg clz tys cA flz ftz base adS GWz xyz xcz xnz xrz Ex codez bmz bpz b t) 3 335 512 codez_3880 :=
  And.intro (anz_3876 Hy) (anz_3879 Hy)
theorem anz_3881 (Hy : Hyz tys cA base adS Ex) : xall (fun b t => xOK l Dg clz tys cA flz ftz base adS GWz xyz xcz xnz xrz Ex codez bmz bpz b t) 4 79 256 codez_3881 :=
  And.intro (anz_3873 Hy) (anz_3880 Hy)
theorem anz_3882 (Hy : Hyz tys cA base adS Ex) : xall (fun b t => xOK l Dg clz tys cA flz ftz base adS GWz xyz xcz xnz xrz Ex codez bmz bpz b t) 1 207 2048 codez_3882 :=
  And.intro (okz_207 Hy) (okz_2255 Hy)
theorem anz_3883 (Hy : Hyz tys cA base adS Ex) : xall (fun b t => xOK l Dg clz tys cA flz ftz base adS GWz xyz xcz xnz xrz Ex codez bmz bpz b t) 1 1231 2048 codez_3883 :=
  And.intro (okz_1231 Hy) (okzz 3279)
theorem anz_3884 (Hy : Hyz tys cA base adS Ex) : xall (fun b t => xOK l Dg clz tys cA flz ftz base adS GWz xyz xcz xnz xrz Ex codez bmz bpz b t) 2 207 1024 codez_3884 :=
  And.intro (anz_3882 Hy) (anz_3883 Hy)
theorem anz_3885 (Hy : Hyz tys cA base adS Ex) : xall (fun b t => xOK l Dg clz tys cA flz ftz base adS GWz xyz xcz xnz xrz Ex codez bmz bpz b t) 1 719 2048 codez_3885 :=
  And.intro (okz_719 Hy) (okzz 2767)
theorem anz_3886 (Hy : Hyz tys cA base adS Ex) : xall (fun b t => xOK l Dg clz tys cA flz ftz base adS GWz xyz xcz xnz xrz Ex codez bmz bpz b t) 1 1743 2048 codez_3886 :=
  And.intro (okz_1743 Hy) (okzz 3791)
theorem anz_3887 (Hy : Hyz tys cA base adS Ex) : xall (fun b t => xOK l Dg clz tys cA flz ftz base adS GWz xyz xcz xnz xrz Ex codez bmz bpz b t) 2 719 1024 codez_3887 :=
  And.intro (anz_3885 Hy) (anz_3886 Hy)
theorem anz_3888 (Hy : Hyz tys cA base adS Ex) : xall (fun b t => xOK l Dg clz tys cA flz ftz base adS GWz xyz xcz xnz xrz Ex codez bmz bpz b t) 3 207 512 codez_3888 :=
  And.intro (anz_3884 Hy) (anz_3887 Hy)
theorem anz_3889 (Hy : Hyz tys cA base adS Ex) : xall (fun b t => xOK l Dg clz tys cA flz ftz base adS GWz xyz xcz xnz xrz Ex codez bmz bpz b t) 1 463 2048 codez_3889 :=
  And.intro (okz_463 Hy) (okz_2511 Hy)
theorem anz_3890 (Hy : Hyz tys cA base adS Ex) : xall (fun b t => xOK l Dg clz tys cA flz ftz base adS GWz xyz xcz xnz xrz Ex codez bmz bpz b t) 1 1487 2048 codez_3890 :=
  And.intro (okz_1487 Hy) (okzz 3535)
theorem anz_3891 (Hy : Hyz tys cA base adS Ex) : xall (fun b t => xOK l Dg clz tys cA flz ftz base adS GWz xyz xcz xnz xrz Ex codez bmz bpz b t) 2 463 1024 codez_3891 :=
  And.intro (anz_3889 Hy) (anz_3890 Hy)
theorem anz_3892 (Hy : Hyz tys cA base adS Ex) : xall (fun b t => xOK l Dg clz tys cA flz ftz base adS GWz xyz xcz xnz xrz Ex codez bmz bpz b t) 1 975 2048 codez_3892 :=
  And.intro (okz_975 Hy) (okzz 3023)
theorem anz_3893 (Hy : Hyz tys cA base adS Ex) : xall (fun b t => xOK l Dg clz tys cA flz ftz base adS GWz xyz xcz xnz xrz Ex codez bmz bpz b t) 1 1999 2048 codez_3893 :=
  And.intro (okz_1999 Hy) (okzz 4047)
theorem anz_3894 (Hy : Hyz tys cA base adS Ex) : xall (fun b t => xOK l Dg clz tys cA flz ftz base adS GWz xyz xcz xnz xrz Ex codez bmz bpz b t) 2 975 1024 codez_3894 :=
  And.intro (anz_3892 Hy) (anz_3893 Hy)
theorem anz_3895 (Hy : Hyz tys cA base adS Ex) : xall (fun b t => xOK l Dg clz tys cA flz ftz base adS GWz xyz xcz xnz xrz Ex codez bmz bpz b t) 3 463 512 codez_3895 :=
  And.intro (anz_3891 Hy) (anz_3894 Hy)
theorem anz_3896 (Hy : Hyz tys cA base adS Ex) : xall (fun b t => xOK l Dg clz tys cA flz ftz base adS GWz xyz xcz xnz xrz Ex codez bmz bpz b t) 4 207 256 codez_3896 :=
  And.intro (anz_3888 Hy) (anz_3895 Hy)
theorem anz_3897 (Hy : Hyz tys cA base adS Ex) : xall (fun b t => xOK l Dg clz tys cA flz ftz base adS GWz xyz xcz xnz xrz Ex codez bmz bpz b t) 5 79 128 codez_3897 :=
  And.intro (anz_3881 Hy) (anz_3896 Hy)
theorem anz_3898 (Hy : Hyz tys cA base adS Ex) : xall (fun b t => xOK l Dg clz tys cA flz ftz base adS GWz xyz xcz xnz xrz Ex codez bmz bpz b t) 6 15 64 codez_3898 :=
  And.intro (anz_3866 Hy) (anz_3897 Hy)
theorem anz_3899 (Hy : Hyz tys cA base adS Ex) : xall (fun b t => xOK l Dg clz tys cA flz ftz base adS GWz xyz xcz xnz xrz Ex codez bmz bpz b t) 1 47 2048 codez_3899 :=
  And.intro (okz_47 Hy) (okz_2095 Hy)
theorem anz_3900 (Hy : Hyz tys cA base adS Ex) : xall (fun b t => xOK l Dg clz tys cA flz ftz base adS GWz xyz xcz xnz xrz Ex codez bmz bpz b t) 1 1071 2048 codez_3900 :=
  And.intro (okz_1071 Hy) (okzz 3119)
theorem anz_3901 (Hy : Hyz tys cA base adS Ex) : xall (fun b t => xOK l Dg clz tys cA flz ftz base adS GWz xyz xcz xnz xrz Ex codez bmz bpz b t) 2 47 1024 codez_3901 :=
  And.intro (anz_3899 Hy) (anz_3900 Hy)
theorem anz_3902 (Hy : Hyz tys cA base adS Ex) : xall (fun b t => xOK l Dg clz tys cA flz ftz base adS GWz xyz xcz xnz xrz Ex codez bmz bpz b t) 1 559 2048 codez_3902 :=
  And.intro (okz_559 Hy) (okzz 2607)
theorem anz_3903 (Hy : Hyz tys cA base adS Ex) : xall (fun b t => xOK l Dg clz tys cA flz ftz base adS GWz xyz xcz xnz xrz Ex codez bmz bpz b t) 1 1583 2048 codez_3903 :=
  And.intro (okz_1583 Hy) (okzz 3631)
theorem anz_3904 (Hy : Hyz tys cA base adS Ex) : xall (fun b t => xOK l Dg clz tys cA flz ftz base adS GWz xyz xcz xnz xrz Ex codez bmz bpz b t) 2 559 1024 codez_3904 :=
  And.intro (anz_3902 Hy) (anz_3903 Hy)
theorem anz_3905 (Hy : Hyz tys cA base adS Ex) : xall (fun b t => xOK l Dg clz tys cA flz ftz base adS GWz xyz xcz xnz xrz Ex codez bmz bpz b t) 3 47 512 codez_3905 :=
  And.intro (anz_3901 Hy) (anz_3904 Hy)
theorem anz_3906 (Hy : Hyz tys cA base adS Ex) : xall (fun b t => xOK l Dg clz tys cA flz ftz base adS GWz xyz xcz xnz xrz Ex codez bmz bpz b t) 1 303 2048 codez_3906 :=
  And.intro (okz_303 Hy) (okz_2351 Hy)
theorem anz_3907 (Hy : Hyz tys cA base adS Ex) : xall (fun b t => xOK l Dg clz tys cA flz ftz base adS GWz xyz xcz xnz xrz Ex codez bmz bpz b t) 1 1327 2048 codez_3907 :=
  And.intro (okz_1327 Hy) (okzz 3375)
theorem anz_3908 (Hy : Hyz tys cA base adS Ex) : xall (fun b t => xOK l Dg clz tys cA flz ftz base adS GWz xyz xcz xnz xrz Ex codez bmz bpz b t) 2 303 1024 codez_3908 :=
  And.intro (anz_3906 Hy) (anz_3907 Hy)
theorem anz_3909 (Hy : Hyz tys cA base adS Ex) : xall (fun b t => xOK l Dg clz tys cA flz ftz base adS GWz xyz xcz xnz xrz Ex codez bmz bpz b t) 1 815 2048 codez_3909 :=
  And.intro (okz_815 Hy) (okzz 2863)
theorem anz_3910 (Hy : Hyz tys cA base adS Ex) : xall (fun b t => xOK l Dg clz tys cA flz ftz base adS GWz xyz xcz xnz xrz Ex codez bmz bpz b t) 1 1839 2048 codez_3910 :=
  And.intro (okz_1839 Hy) (okzz 3887)
theorem anz_3911 (Hy : Hyz tys cA base adS Ex) : xall (fun b t => xOK l Dg clz tys cA flz ftz base adS GWz xyz xcz xnz xrz Ex codez bmz bpz b t) 2 815 1024 codez_3911 :=
  And.intro (anz_3909 Hy) (anz_3910 Hy)
theorem anz_3912 (Hy : Hyz tys cA base adS Ex) : xall (fun b t => xOK l Dg clz tys cA flz ftz base adS GWz xyz xcz xnz xrz Ex codez bmz bpz b t) 3 303 512 codez_3912 :=
  And.intro (anz_3908 Hy) (anz_3911 Hy)
theorem anz_3913 (Hy : Hyz tys cA base adS Ex) : xall (fun b t => xOK l Dg clz tys cA flz ftz base adS GWz xyz xcz xnz xrz Ex codez bmz bpz b t) 4 47 256 codez_3913 :=
  And.intro (anz_3905 Hy) (anz_3912 Hy)
theorem anz_3914 (Hy : Hyz tys cA base adS Ex) : xall (fun b t => xOK l Dg clz tys cA flz ftz base adS GWz xyz xcz xnz xrz Ex codez bmz bpz b t) 1 175 2048 codez_3914 :=
  And.intro (okz_175 Hy) (okz_2223 Hy)
theorem anz_3915 (Hy : Hyz tys cA base adS Ex) : xall (fun b t => xOK l Dg clz tys cA flz ftz base adS GWz xyz xcz xnz xrz Ex codez bmz bpz b t) 1 1199 2048 codez_3915 :=
  And.intro (okz_1199 Hy) (okzz 3247)
theorem anz_3916 (Hy : Hyz tys cA base adS Ex) : xall (fun b t => xOK l Dg clz tys cA flz ftz base adS GWz xyz xcz xnz xrz Ex codez bmz bpz b t) 2 175 1024 codez_3916 :=
  And.intro (anz_3914 Hy) (anz_3915 Hy)
theorem anz_3917 (Hy : Hyz tys cA base adS Ex) : xall (fun b t => xOK l Dg clz tys cA flz ftz base adS GWz xyz xcz xnz xrz Ex codez bmz bpz b t) 1 687 2048 codez_3917 :=
  And.intro (okz_687 Hy) (okzz 2735)
theorem anz_3918 (Hy : Hyz tys cA base adS Ex) : xall (fun b t => xOK l Dg clz tys cA flz ftz base adS GWz xyz xcz xnz xrz Ex codez bmz bpz b t) 1 1711 2048 codez_3918 :=
  And.intro (okz_1711 Hy) (okzz 3759)
theorem anz_3919 (Hy : Hyz tys cA base adS Ex) : xall (fun b t => xOK l Dg clz tys cA flz ftz base adS GWz xyz xcz xnz xrz Ex codez bmz bpz b t) 2 687 1024 codez_3919 :=
  And.intro (anz_3917 Hy) (anz_3918 Hy)
theorem anz_3920 (Hy : Hyz tys cA base adS Ex) : xall (fun b t => xOK l Dg clz tys cA flz ftz base adS GWz xyz xcz xnz xrz Ex codez bmz bpz b t) 3 175 512 codez_3920 :=
  And.intro (anz_3916 Hy) (anz_3919 Hy)
theorem anz_3921 (Hy : Hyz tys cA base adS Ex) : xall (fun b t => xOK l Dg clz tys cA flz ftz base adS GWz xyz xcz xnz xrz Ex codez bmz bpz b t) 1 431 2048 codez_3921 :=
  And.intro (okz_431 Hy) (okz_2479 Hy)
theorem anz_3922 (Hy : Hyz tys cA base adS Ex) : xall (fun b t => xOK l Dg clz tys cA flz ftz base adS GWz xyz xcz xnz xrz Ex codez bmz bpz b t) 1 1455 2048 codez_3922 :=
  And.intro (okz_1455 Hy) (okzz 3503)
theorem anz_3923 (Hy : Hyz tys cA base adS Ex) : xall (fun b t => xOK l Dg clz tys cA flz ftz base adS GWz xyz xcz xnz xrz Ex codez bmz bpz b t) 2 431 1024 codez_3923 :=
  And.intro (anz_3921 Hy) (anz_3922 Hy)
theorem anz_3924 (Hy : Hyz tys cA base adS Ex) : xall (fun b t => xOK l Dg clz tys cA flz ftz base adS GWz xyz xcz xnz xrz Ex codez bmz bpz b t) 1 943 2048 codez_3924 :=
  And.intro (okz_943 Hy) (okzz 2991)
theorem anz_3925 (Hy : Hyz tys cA base adS Ex) : xall (fun b t => xOK l Dg clz tys cA flz ftz base adS GWz xyz xcz xnz xrz Ex codez bmz bpz b t) 1 1967 2048 codez_3925 :=
  And.intro (okz_1967 Hy) (okzz 4015)
theorem anz_3926 (Hy : Hyz tys cA base adS Ex) : xall (fun b t => xOK l Dg clz tys cA flz ftz base adS GWz xyz xcz xnz xrz Ex codez bmz bpz b t) 2 943 1024 codez_3926 :=
  And.intro (anz_3924 Hy) (anz_3925 Hy)
theorem anz_3927 (Hy : Hyz tys cA base adS Ex) : xall (fun b t => xOK l Dg clz tys cA flz ftz base adS GWz xyz xcz xnz xrz Ex codez bmz bpz b t) 3 431 512 codez_3927 :=
  And.intro (anz_3923 Hy) (anz_3926 Hy)
theorem anz_3928 (Hy : Hyz tys cA base adS Ex) : xall (fun b t => xOK l Dg clz tys cA flz ftz base adS GWz xyz xcz xnz xrz Ex codez bmz bpz b t) 4 175 256 codez_3928 :=
  And.intro (anz_3920 Hy) (anz_3927 Hy)
theorem anz_3929 (Hy : Hyz tys cA base adS Ex) : xall (fun b t => xOK l Dg clz tys cA flz ftz base adS GWz xyz xcz xnz xrz Ex codez bmz bpz b t) 5 47 128 codez_3929 :=
  And.intro (anz_3913 Hy) (anz_3928 Hy)
theorem anz_3930 (Hy : Hyz tys cA base adS Ex) : xall (fun b t => xOK l Dg clz tys cA flz ftz base adS GWz xyz xcz xnz xrz Ex codez bmz bpz b t) 1 111 2048 codez_3930 :=
  And.intro (okz_111 Hy) (okz_2159 Hy)
theorem anz_3931 (Hy : Hyz tys cA base adS Ex) : xall (fun b t => xOK l Dg clz tys cA flz ftz base adS GWz xyz xcz xnz xrz Ex codez bmz bpz b t) 1 1135 2048 codez_3931 :=
  And.intro (okz_1135 Hy) (okzz 3183)
theorem anz_3932 (Hy : Hyz tys cA base adS Ex) : xall (fun b t => xOK l Dg clz tys cA flz ftz base adS GWz xyz xcz xnz xrz Ex codez bmz bpz b t) 2 111 1024 codez_3932 :=
  And.intro (anz_3930 Hy) (anz_3931 Hy)
theorem anz_3933 (Hy : Hyz tys cA base adS Ex) : xall (fun b t => xOK l Dg clz tys cA flz ftz base adS GWz xyz xcz xnz xrz Ex codez bmz bpz b t) 1 623 2048 codez_3933 :=
  And.intro (okz_623 Hy) (okzz 2671)
theorem anz_3934 (Hy : Hyz tys cA base adS Ex) : xall (fun b t => xOK l Dg clz tys cA flz ftz base adS GWz xyz xcz xnz xrz Ex codez bmz bpz b t) 1 1647 2048 codez_3934 :=
  And.intro (okz_1647 Hy) (okzz 3695)
theorem anz_3935 (Hy : Hyz tys cA base adS Ex) : xall (fun b t => xOK l Dg clz tys cA flz ftz base adS GWz xyz xcz xnz xrz Ex codez bmz bpz b t) 2 623 1024 codez_3935 :=
  And.intro (anz_3933 Hy) (anz_3934 Hy)
theorem anz_3936 (Hy : Hyz tys cA base adS Ex) : xall (fun b t => xOK l Dg clz tys cA flz ftz base adS GWz xyz xcz xnz xrz Ex codez bmz bpz b t) 3 111 512 codez_3936 :=
  And.intro (anz_3932 Hy) (anz_3935 Hy)
theorem anz_3937 (Hy : Hyz tys cA base adS Ex) : xall (fun b t => xOK l Dg clz tys cA flz ftz base adS GWz xyz xcz xnz xrz Ex codez bmz bpz b t) 1 367 2048 codez_3937 :=
  And.intro (okz_367 Hy) (okz_2415 Hy)
theorem anz_3938 (Hy : Hyz tys cA base adS Ex) : xall (fun b t => xOK l Dg clz tys cA flz ftz base adS GWz xyz xcz xnz xrz Ex codez bmz bpz b t) 1 1391 2048 codez_3938 :=
  And.intro (okz_1391 Hy) (okzz 3439)
theorem anz_3939 (Hy : Hyz tys cA base adS Ex) : xall (fun b t => xOK l Dg clz tys cA flz ftz base adS GWz xyz xcz xnz xrz Ex codez bmz bpz b t) 2 367 1024 codez_3939 :=
  And.intro (anz_3937 Hy) (anz_3938 Hy)
theorem anz_3940 (Hy : Hyz tys cA base adS Ex) : xall (fun b t => xOK l Dg clz tys cA flz ftz base adS GWz xyz xcz xnz xrz Ex codez bmz bpz b t) 1 879 2048 codez_3940 :=
  And.intro (okz_879 Hy) (okzz 2927)
theorem anz_3941 (Hy : Hyz tys cA base adS Ex) : xall (fun b t => xOK l Dg clz tys cA flz ftz base adS GWz xyz xcz xnz xrz Ex codez bmz bpz b t) 1 1903 2048 codez_3941 :=
  And.intro (okz_1903 Hy) (okzz 3951)
theorem anz_3942 (Hy : Hyz tys cA base adS Ex) : xall (fun b t => xOK l Dg clz tys cA flz ftz base adS GWz xyz xcz xnz xrz Ex codez bmz bpz b t) 2 879 1024 codez_3942 :=
  And.intro (anz_3940 Hy) (anz_3941 Hy)
theorem anz_3943 (Hy : Hyz tys cA base adS Ex) : xall (fun b t => xOK l Dg clz tys cA flz ftz base adS GWz xyz xcz xnz xrz Ex codez bmz bpz b t) 3 367 512 codez_3943 :=
  And.intro (anz_3939 Hy) (anz_3942 Hy)
theorem anz_3944 (Hy : Hyz tys cA base adS Ex) : xall (fun b t => xOK l Dg clz tys cA flz ftz base adS GWz xyz xcz xnz xrz Ex codez bmz bpz b t) 4 111 256 codez_3944 :=
  And.intro (anz_3936 Hy) (anz_3943 Hy)
theorem anz_3945 (Hy : Hyz tys cA base adS Ex) : xall (fun b t => xOK l Dg clz tys cA flz ftz base adS GWz xyz xcz xnz xrz Ex codez bmz bpz b t) 1 239 2048 codez_3945 :=
  And.intro (okz_239 Hy) (okz_2287 Hy)
theorem anz_3946 (Hy : Hyz tys cA base adS Ex) : xall (fun b t => xOK l Dg clz tys cA flz ftz base adS GWz xyz xcz xnz xrz Ex codez bmz bpz b t) 1 1263 2048 codez_3946 :=
  And.intro (okz_1263 Hy) (okzz 3311)
theorem anz_3947 (Hy : Hyz tys cA base adS Ex) : xall (fun b t => xOK l Dg clz tys cA flz ftz base adS GWz xyz xcz xnz xrz Ex codez bmz bpz b t) 2 239 1024 codez_3947 :=
  And.intro (anz_3945 Hy) (anz_3946 Hy)
theorem anz_3948 (Hy : Hyz tys cA base adS Ex) : xall (fun b t => xOK l Dg clz tys cA flz ftz base adS GWz xyz xcz xnz xrz Ex codez bmz bpz b t) 1 751 2048 codez_3948 :=
  And.intro (okz_751 Hy) (okzz 2799)
theorem anz_3949 (Hy : Hyz tys cA base adS Ex) : xall (fun b t => xOK l Dg clz tys cA flz ftz base adS GWz xyz xcz xnz xrz Ex codez bmz bpz b t) 1 1775 2048 codez_3949 :=
  And.intro (okz_1775 Hy) (okzz 3823)
theorem anz_3950 (Hy : Hyz tys cA base adS Ex) : xall (fun b t => xOK l Dg clz tys cA flz ftz base adS GWz xyz xcz xnz xrz Ex codez bmz bpz b t) 2 751 1024 codez_3950 :=
  And.intro (anz_3948 Hy) (anz_3949 Hy)
theorem anz_3951 (Hy : Hyz tys cA base adS Ex) : xall (fun b t => xOK l Dg clz tys cA flz ftz base adS GWz xyz xcz xnz xrz Ex codez bmz bpz b t) 3 239 512 codez_3951 :=
  And.intro (anz_3947 Hy) (anz_3950 Hy)
theorem anz_3952 (Hy : Hyz tys cA base adS Ex) : xall (fun b t => xOK l Dg clz tys cA flz ftz base adS GWz xyz xcz xnz xrz Ex codez bmz bpz b t) 1 495 2048 codez_3952 :=
  And.intro (okz_495 Hy) (okzz 2543)
theorem anz_3953 (Hy : Hyz tys cA base adS Ex) : xall (fun b t => xOK l Dg clz tys cA flz ftz base adS GWz xyz xcz xnz xrz Ex codez bmz bpz b t) 1 1519 2048 codez_3953 :=
  And.intro (okz_1519 Hy) (okzz 3567)
theorem anz_3954 (Hy : Hyz tys cA base adS Ex) : xall (fun b t => xOK l Dg clz tys cA flz ftz base adS GWz xyz xcz xnz xrz Ex codez bmz bpz b t) 2 495 1024 codez_3954 :=
  And.intro (anz_3952 Hy) (anz_3953 Hy)
theorem anz_3955 (Hy : Hyz tys cA base adS Ex) : xall (fun b t => xOK l Dg clz tys cA flz ftz base adS GWz xyz xcz xnz xrz Ex codez bmz bpz b t) 1 1007 2048 codez_3955 :=
  And.intro (okz_1007 Hy) (okzz 3055)
theorem anz_3956 (Hy : Hyz tys cA base adS Ex) : xall (fun b t => xOK l Dg clz tys cA flz ftz base adS GWz xyz xcz xnz xrz Ex codez bmz bpz b t) 1 2031 2048 codez_3956 :=
  And.intro (okz_2031 Hy) (okzz 4079)
theorem anz_3957 (Hy : Hyz tys cA base adS Ex) : xall (fun b t => xOK l Dg clz tys cA flz ftz base adS GWz xyz xcz xnz xrz Ex codez bmz bpz b t) 2 1007 1024 codez_3957 :=
  And.intro (anz_3955 Hy) (anz_3956 Hy)
theorem anz_3958 (Hy : Hyz tys cA base adS Ex) : xall (fun b t => xOK l Dg clz tys cA flz ftz base adS GWz xyz xcz xnz xrz Ex codez bmz bpz b t) 3 495 512 codez_3958 :=
  And.intro (anz_3954 Hy) (anz_3957 Hy)
theorem anz_3959 (Hy : Hyz tys cA base adS Ex) : xall (fun b t => xOK l Dg clz tys cA flz ftz base adS GWz xyz xcz xnz xrz Ex codez bmz bpz b t) 4 239 256 codez_3959 :=
  And.intro (anz_3951 Hy) (anz_3958 Hy)
theorem anz_3960 (Hy : Hyz tys cA base adS Ex) : xall (fun b t => xOK l Dg clz tys cA flz ftz base adS GWz xyz xcz xnz xrz Ex codez bmz bpz b t) 5 111 128 codez_3960 :=
  And.intro (anz_3944 Hy) (anz_3959 Hy)
theorem anz_3961 (Hy : Hyz tys cA base adS Ex) : xall (fun b t => xOK l Dg clz tys cA flz ftz base adS GWz xyz xcz xnz xrz Ex codez bmz bpz b t) 6 47 64 codez_3961 :=
  And.intro (anz_3929 Hy) (anz_3960 Hy)
theorem anz_3962 (Hy : Hyz tys cA base adS Ex) : xall (fun b t => xOK l Dg clz tys cA flz ftz base adS GWz xyz xcz xnz xrz Ex codez bmz bpz b t) 7 15 32 codez_3962 :=
  And.intro (anz_3898 Hy) (anz_3961 Hy)
theorem anz_3963 (Hy : Hyz tys cA base adS Ex) : xall (fun b t => xOK l Dg clz tys cA flz ftz base adS GWz xyz xcz xnz xrz Ex codez bmz bpz b t) 1 31 2048 codez_3963 :=
  And.intro (okz_31 Hy) (okz_2079 Hy)
theorem anz_3964 (Hy : Hyz tys cA base adS Ex) : xall (fun b t => xOK l Dg clz tys cA flz ftz base adS GWz xyz xcz xnz xrz Ex codez bmz bpz b t) 1 1055 2048 codez_3964 :=
  And.intro (okz_1055 Hy) (okzz 3103)
theorem anz_3965 (Hy : Hyz tys cA base adS Ex) : xall (fun b t => xOK l Dg clz tys cA flz ftz base adS GWz xyz xcz xnz xrz Ex codez bmz bpz b t) 2 31 1024 codez_3965 :=
  And.intro (anz_3963 Hy) (anz_3964 Hy)
theorem anz_3966 (Hy : Hyz tys cA base adS Ex) : xall (fun b t => xOK l Dg clz tys cA flz ftz base adS GWz xyz xcz xnz xrz Ex codez bmz bpz b t) 1 543 2048 codez_3966 :=
  And.intro (okz_543 Hy) (okzz 2591)
theorem anz_3967 (Hy : Hyz tys cA base adS Ex) : xall (fun b t => xOK l Dg clz tys cA flz ftz base adS GWz xyz xcz xnz xrz Ex codez bmz bpz b t) 1 1567 2048 codez_3967 :=
  And.intro (okz_1567 Hy) (okzz 3615)
theorem anz_3968 (Hy : Hyz tys cA base adS Ex) : xall (fun b t => xOK l Dg clz tys cA flz ftz base adS GWz xyz xcz xnz xrz Ex codez bmz bpz b t) 2 543 1024 codez_3968 :=
  And.intro (anz_3966 Hy) (anz_3967 Hy)
theorem anz_3969 (Hy : Hyz tys cA base adS Ex) : xall (fun b t => xOK l Dg clz tys cA flz ftz base adS GWz xyz xcz xnz xrz Ex codez bmz bpz b t) 3 31 512 codez_3969 :=
  And.intro (anz_3965 Hy) (anz_3968 Hy)
theorem anz_3970 (Hy : Hyz tys cA base adS Ex) : xall (fun b t => xOK l Dg clz tys cA flz ftz base adS GWz xyz xcz xnz xrz Ex codez bmz bpz b t) 1 287 2048 codez_3970 :=
  And.intro (okz_287 Hy) (okz_2335 Hy)
theorem anz_3971 (Hy : Hyz tys cA base adS Ex) : xall (fun b t => xOK l Dg clz tys cA flz ftz base adS GWz xyz xcz xnz xrz Ex codez bmz bpz b t) 1 1311 2048 codez_3971 :=
  And.intro (okz_1311 Hy) (okzz 3359)
theorem anz_3972 (Hy : Hyz tys cA base adS Ex) : xall (fun b t => xOK l Dg clz tys cA flz ftz base adS GWz xyz xcz xnz xrz Ex codez bmz bpz b t) 2 287 1024 codez_3972 :=
  And.intro (anz_3970 Hy) (anz_3971 Hy)
theorem anz_3973 (Hy : Hyz tys cA base adS Ex) : xall (fun b t => xOK l Dg clz tys cA flz ftz base adS GWz xyz xcz xnz xrz Ex codez bmz bpz b t) 1 799 2048 codez_3973 :=
  And.intro (okz_799 Hy) (okzz 2847)
theorem anz_3974 (Hy : Hyz tys cA base adS Ex) : xall (fun b t => xOK l Dg clz tys cA flz ftz base adS GWz xyz xcz xnz xrz Ex codez bmz bpz b t) 1 1823 2048 codez_3974 :=
  And.intro (okz_1823 Hy) (okzz 3871)
theorem anz_3975 (Hy : Hyz tys cA base adS Ex) : xall (fun b t => xOK l Dg clz tys cA flz ftz base adS GWz xyz xcz xnz xrz Ex codez bmz bpz b t) 2 799 1024 codez_3975 :=
  And.intro (anz_3973 Hy) (anz_3974 Hy)
theorem anz_3976 (Hy : Hyz tys cA base adS Ex) : xall (fun b t => xOK l Dg clz tys cA flz ftz base adS GWz xyz xcz xnz xrz Ex codez bmz bpz b t) 3 287 512 codez_3976 :=
  And.intro (anz_3972 Hy) (anz_3975 Hy)
theorem anz_3977 (Hy : Hyz tys cA base adS Ex) : xall (fun b t => xOK l Dg clz tys cA flz ftz base adS GWz xyz xcz xnz xrz Ex codez bmz bpz b t) 4 31 256 codez_3977 :=
  And.intro (anz_3969 Hy) (anz_3976 Hy)
theorem anz_3978 (Hy : Hyz tys cA base adS Ex) : xall (fun b t => xOK l Dg clz tys cA flz ftz base adS GWz xyz xcz xnz xrz Ex codez bmz bpz b t) 1 159 2048 codez_3978 :=
  And.intro (okz_159 Hy) (okz_2207 Hy)
theorem anz_3979 (Hy : Hyz tys cA base adS Ex) : xall (fun b t => xOK l Dg clz tys cA flz ftz base adS GWz xyz xcz xnz xrz Ex codez bmz bpz b t) 1 1183 2048 codez_3979 :=
  And.intro (okz_1183 Hy) (okzz 3231)
theorem anz_3980 (Hy : Hyz tys cA base adS Ex) : xall (fun b t => xOK l Dg clz tys cA flz ftz base adS GWz xyz xcz xnz xrz Ex codez bmz bpz b t) 2 159 1024 codez_3980 :=
  And.intro (anz_3978 Hy) (anz_3979 Hy)
theorem anz_3981 (Hy : Hyz tys cA base adS Ex) : xall (fun b t => xOK l Dg clz tys cA flz ftz base adS GWz xyz xcz xnz xrz Ex codez bmz bpz b t) 1 671 2048 codez_3981 :=
  And.intro (okz_671 Hy) (okzz 2719)
theorem anz_3982 (Hy : Hyz tys cA base adS Ex) : xall (fun b t => xOK l Dg clz tys cA flz ftz base adS GWz xyz xcz xnz xrz Ex codez bmz bpz b t) 1 1695 2048 codez_3982 :=
  And.intro (okz_1695 Hy) (okzz 3743)
theorem anz_3983 (Hy : Hyz tys cA base adS Ex) : xall (fun b t => xOK l Dg clz tys cA flz ftz base adS GWz xyz xcz xnz xrz Ex codez bmz bpz b t) 2 671 1024 codez_3983 :=
  And.intro (anz_3981 Hy) (anz_3982 Hy)
theorem anz_3984 (Hy : Hyz tys cA base adS Ex) : xall (fun b t => xOK l Dg clz tys cA flz ftz base adS GWz xyz xcz xnz xrz Ex codez bmz bpz b t) 3 159 512 codez_3984 :=
  And.intro (anz_3980 Hy) (anz_3983 Hy)
theorem anz_3985 (Hy : Hyz tys cA base adS Ex) : xall (fun b t => xOK l Dg clz tys cA flz ftz base adS GWz xyz xcz xnz xrz Ex codez bmz bpz b t) 1 415 2048 codez_3985 :=
  And.intro (okz_415 Hy) (okz_2463 Hy)
theorem anz_3986 (Hy : Hyz tys cA base adS Ex) : xall (fun b t => xOK l Dg clz tys cA flz ftz base adS GWz xyz xcz xnz xrz Ex codez bmz bpz b t) 1 1439 2048 codez_3986 :=
  And.intro (okz_1439 Hy) (okzz 3487)
theorem anz_3987 (Hy : Hyz tys cA base adS Ex) : xall (fun b t => xOK l Dg clz tys cA flz ftz base adS GWz xyz xcz xnz xrz Ex codez bmz bpz b t) 2 415 1024 codez_3987 :=
  And.intro (anz_3985 Hy) (anz_3986 Hy)
theorem anz_3988 (Hy : Hyz tys cA base adS Ex) : xall (fun b t => xOK l Dg clz tys cA flz ftz base adS GWz xyz xcz xnz xrz Ex codez bmz bpz b t) 1 927 2048 codez_3988 :=
  And.intro (okz_927 Hy) (okzz 2975)
theorem anz_3989 (Hy : Hyz tys cA base adS Ex) : xall (fun b t => xOK l Dg clz tys cA flz ftz base adS GWz xyz xcz xnz xrz Ex codez bmz bpz b t) 1 1951 2048 codez_3989 :=
  And.intro (okz_1951 Hy) (okzz 3999)
theorem anz_3990 (Hy : Hyz tys cA base adS Ex) : xall (fun b t => xOK l Dg clz tys cA flz ftz base adS GWz xyz xcz xnz xrz Ex codez bmz bpz b t) 2 927 1024 codez_3990 :=
  And.intro (anz_3988 Hy) (anz_3989 Hy)
theorem anz_3991 (Hy : Hyz tys cA base adS Ex) : xall (fun b t => xOK l Dg clz tys cA flz ftz base adS GWz xyz xcz xnz xrz Ex codez bmz bpz b t) 3 415 512 codez_3991 :=
  And.intro (anz_3987 Hy) (anz_3990 Hy)
theorem anz_3992 (Hy : Hyz tys cA base adS Ex) : xall (fun b t => xOK l Dg clz tys cA flz ftz base adS GWz xyz xcz xnz xrz Ex codez bmz bpz b t) 4 159 256 codez_3992 :=
  And.intro (anz_3984 Hy) (anz_3991 Hy)
theorem anz_3993 (Hy : Hyz tys cA base adS Ex) : xall (fun b t => xOK l Dg clz tys cA flz ftz base adS GWz xyz xcz xnz xrz Ex codez bmz bpz b t) 5 31 128 codez_3993 :=
  And.intro (anz_3977 Hy) (anz_3992 Hy)
theorem anz_3994 (Hy : Hyz tys cA base adS Ex) : xall (fun b t => xOK l Dg clz tys cA flz ftz base adS GWz xyz xcz xnz xrz Ex codez bmz bpz b t) 1 95 2048 codez_3994 :=
  And.intro (okz_95 Hy) (okz_2143 Hy)
theorem anz_3995 (Hy : Hyz tys cA base adS Ex) : xall (fun b t => xOK l Dg clz tys cA flz ftz base adS GWz xyz xcz xnz xrz Ex codez bmz bpz b t) 1 1119 2048 codez_3995 :=
  And.intro (okz_1119 Hy) (okzz 3167)
theorem anz_3996 (Hy : Hyz tys cA base adS Ex) : xall (fun b t => xOK l Dg clz tys cA flz ftz base adS GWz xyz xcz xnz xrz Ex codez bmz bpz b t) 2 95 1024 codez_3996 :=
  And.intro (anz_3994 Hy) (anz_3995 Hy)
theorem anz_3997 (Hy : Hyz tys cA base adS Ex) : xall (fun b t => xOK l Dg clz tys cA flz ftz base adS GWz xyz xcz xnz xrz Ex codez bmz bpz b t) 1 607 2048 codez_3997 :=
  And.intro (okz_607 Hy) (okzz 2655)
theorem anz_3998 (Hy : Hyz tys cA base adS Ex) : xall (fun b t => xOK l Dg clz tys cA flz ftz base adS GWz xyz xcz xnz xrz Ex codez bmz bpz b t) 1 1631 2048 codez_3998 :=
  And.intro (okz_1631 Hy) (okzz 3679)
theorem anz_3999 (Hy : Hyz tys cA base adS Ex) : xall (fun b t => xOK l Dg clz tys cA flz ftz base adS GWz xyz xcz xnz xrz Ex codez bmz bpz b t) 2 607 1024 codez_3999 :=
  And.intro (anz_3997 Hy) (anz_3998 Hy)
theorem anz_4000 (Hy : Hyz tys cA base adS Ex) : xall (fun b t => xOK l Dg clz tys cA flz ftz base adS GWz xyz xcz xnz xrz Ex codez bmz bpz b t) 3 95 512 codez_4000 :=
  And.intro (anz_3996 Hy) (anz_3999 Hy)
theorem anz_4001 (Hy : Hyz tys cA base adS Ex) : xall (fun b t => xOK l Dg clz tys cA flz ftz base adS GWz xyz xcz xnz xrz Ex codez bmz bpz b t) 1 351 2048 codez_4001 :=
  And.intro (okz_351 Hy) (okz_2399 Hy)
theorem anz_4002 (Hy : Hyz tys cA base adS Ex) : xall (fun b t => xOK l Dg clz tys cA flz ftz base adS GWz xyz xcz xnz xrz Ex codez bmz bpz b t) 1 1375 2048 codez_4002 :=
  And.intro (okz_1375 Hy) (okzz 3423)
theorem anz_4003 (Hy : Hyz tys cA base adS Ex) : xall (fun b t => xOK l Dg clz tys cA flz ftz base adS GWz xyz xcz xnz xrz Ex codez bmz bpz b t) 2 351 1024 codez_4003 :=
  And.intro (anz_4001 Hy) (anz_4002 Hy)
theorem anz_4004 (Hy : Hyz tys cA base adS Ex) : xall (fun b t => xOK l Dg clz tys cA flz ftz base adS GWz xyz xcz xnz xrz Ex codez bmz bpz b t) 1 863 2048 codez_4004 :=
  And.intro (okz_863 Hy) (okzz 2911)
theorem anz_4005 (Hy : Hyz tys cA base adS Ex) : xall (fun b t => xOK l Dg clz tys cA flz ftz base adS GWz xyz xcz xnz xrz Ex codez bmz bpz b t) 1 1887 2048 codez_4005 :=
  And.intro (okz_1887 Hy) (okzz 3935)
theorem anz_4006 (Hy : Hyz tys cA base adS Ex) : xall (fun b t => xOK l Dg clz tys cA flz ftz base adS GWz xyz xcz xnz xrz Ex codez bmz bpz b t) 2 863 1024 codez_4006 :=
  And.intro (anz_4004 Hy) (anz_4005 Hy)
theorem anz_4007 (Hy : Hyz tys cA base adS Ex) : xall (fun b t => xOK l Dg clz tys cA flz ftz base adS GWz xyz xcz xnz xrz Ex codez bmz bpz b t) 3 351 512 codez_4007 :=
  And.intro (anz_4003 Hy) (anz_4006 Hy)
theorem anz_4008 (Hy : Hyz tys cA base adS Ex) : xall (fun b t => xOK l Dg clz tys cA flz ftz base adS GWz xyz xcz xnz xrz Ex codez bmz bpz b t) 4 95 256 codez_4008 :=
  And.intro (anz_4000 Hy) (anz_4007 Hy)
theorem anz_4009 (Hy : Hyz tys cA base adS Ex) : xall (fun b t => xOK l Dg clz tys cA flz ftz base adS GWz xyz xcz xnz xrz Ex codez bmz bpz b t) 1 223 2048 codez_4009 :=
  And.intro (okz_223 Hy) (okz_2271 Hy)
theorem anz_4010 (Hy : Hyz tys cA base adS Ex) : xall (fun b t => xOK l Dg clz tys cA flz ftz base adS GWz xyz xcz xnz xrz Ex codez bmz bpz b t) 1 1247 2048 codez_4010 :=
  And.intro (okz_1247 Hy) (okzz 3295)
theorem anz_4011 (Hy : Hyz tys cA base adS Ex) : xall (fun b t => xOK l Dg clz tys cA flz ftz base adS GWz xyz xcz xnz xrz Ex codez bmz bpz b t) 2 223 1024 codez_4011 :=
  And.intro (anz_4009 Hy) (anz_4010 Hy)
theorem anz_4012 (Hy : Hyz tys cA base adS Ex) : xall (fun b t => xOK l Dg clz tys cA flz ftz base adS GWz xyz xcz xnz xrz Ex codez bmz bpz b t) 1 735 2048 codez_4012 :=
  And.intro (okz_735 Hy) (okzz 2783)
theorem anz_4013 (Hy : Hyz tys cA base adS Ex) : xall (fun b t => xOK l Dg clz tys cA flz ftz base adS GWz xyz xcz xnz xrz Ex codez bmz bpz b t) 1 1759 2048 codez_4013 :=
  And.intro (okz_1759 Hy) (okzz 3807)
theorem anz_4014 (Hy : Hyz tys cA base adS Ex) : xall (fun b t => xOK l Dg clz tys cA flz ftz base adS GWz xyz xcz xnz xrz Ex codez bmz bpz b t) 2 735 1024 codez_4014 :=
  And.intro (anz_4012 Hy) (anz_4013 Hy)
theorem anz_4015 (Hy : Hyz tys cA base adS Ex) : xall (fun b t => xOK l Dg clz tys cA flz ftz base adS GWz xyz xcz xnz xrz Ex codez bmz bpz b t) 3 223 512 codez_4015 :=
  And.intro (anz_4011 Hy) (anz_4014 Hy)
theorem anz_4016 (Hy : Hyz tys cA base adS Ex) : xall (fun b t => xOK l Dg clz tys cA flz ftz base adS GWz xyz xcz xnz xrz Ex codez bmz bpz b t) 1 479 2048 codez_4016 :=
  And.intro (okz_479 Hy) (okz_2527 Hy)
theorem anz_4017 (Hy : Hyz tys cA base adS Ex) : xall (fun b t => xOK l Dg clz tys cA flz ftz base adS GWz xyz xcz xnz xrz Ex codez bmz bpz b t) 1 1503 2048 codez_4017 :=
  And.intro (okz_1503 Hy) (okzz 3551)
theorem anz_4018 (Hy : Hyz tys cA base adS Ex) : xall (fun b t => xOK l Dg clz tys cA flz ftz base adS GWz xyz xcz xnz xrz Ex codez bmz bpz b t) 2 479 1024 codez_4018 :=
  And.intro (anz_4016 Hy) (anz_4017 Hy)
theorem anz_4019 (Hy : Hyz tys cA base adS Ex) : xall (fun b t => xOK l Dg clz tys cA flz ftz base adS GWz xyz xcz xnz xrz Ex codez bmz bpz b t) 1 991 2048 codez_4019 :=
  And.intro (okz_991 Hy) (okzz 3039)
theorem anz_4020 (Hy : Hyz tys cA base adS Ex) : xall (fun b t => xOK l Dg clz tys cA flz ftz base adS GWz xyz xcz xnz xrz Ex codez bmz bpz b t) 1 2015 2048 codez_4020 :=
  And.intro (okz_2015 Hy) (okzz 4063)
theorem anz_4021 (Hy : Hyz tys cA base adS Ex) : xall (fun b t => xOK l Dg clz tys cA flz ftz base adS GWz xyz xcz xnz xrz Ex codez bmz bpz b t) 2 991 1024 codez_4021 :=
  And.intro (anz_4019 Hy) (anz_4020 Hy)
theorem anz_4022 (Hy : Hyz tys cA base adS Ex) : xall (fun b t => xOK l Dg clz tys cA flz ftz base adS GWz xyz xcz xnz xrz Ex codez bmz bpz b t) 3 479 512 codez_4022 :=
  And.intro (anz_4018 Hy) (anz_4021 Hy)
theorem anz_4023 (Hy : Hyz tys cA base adS Ex) : xall (fun b t => xOK l Dg clz tys cA flz ftz base adS GWz xyz xcz xnz xrz Ex codez bmz bpz b t) 4 223 256 codez_4023 :=
  And.intro (anz_4015 Hy) (anz_4022 Hy)
theorem anz_4024 (Hy : Hyz tys cA base adS Ex) : xall (fun b t => xOK l Dg clz tys cA flz ftz base adS GWz xyz xcz xnz xrz Ex codez bmz bpz b t) 5 95 128 codez_4024 :=
  And.intro (anz_4008 Hy) (anz_4023 Hy)
theorem anz_4025 (Hy : Hyz tys cA base adS Ex) : xall (fun b t => xOK l Dg clz tys cA flz ftz base adS GWz xyz xcz xnz xrz Ex codez bmz bpz b t) 6 31 64 codez_4025 :=
  And.intro (anz_3993 Hy) (anz_4024 Hy)
theorem anz_4026 (Hy : Hyz tys cA base adS Ex) : xall (fun b t => xOK l Dg clz tys cA flz ftz base adS GWz xyz xcz xnz xrz Ex codez bmz bpz b t) 1 63 2048 codez_4026 :=
  And.intro (okz_63 Hy) (okz_2111 Hy)
theorem anz_4027 (Hy : Hyz tys cA base adS Ex) : xall (fun b t => xOK l Dg clz tys cA flz ftz base adS GWz xyz xcz xnz xrz Ex codez bmz bpz b t) 1 1087 2048 codez_4027 :=
  And.intro (okz_1087 Hy) (okzz 3135)
theorem anz_4028 (Hy : Hyz tys cA base adS Ex) : xall (fun b t => xOK l Dg clz tys cA flz ftz base adS GWz xyz xcz xnz xrz Ex codez bmz bpz b t) 2 63 1024 codez_4028 :=
  And.intro (anz_4026 Hy) (anz_4027 Hy)
theorem anz_4029 (Hy : Hyz tys cA base adS Ex) : xall (fun b t => xOK l Dg clz tys cA flz ftz base adS GWz xyz xcz xnz xrz Ex codez bmz bpz b t) 1 575 2048 codez_4029 :=
  And.intro (okz_575 Hy) (okzz 2623)
theorem anz_4030 (Hy : Hyz tys cA base adS Ex) : xall (fun b t => xOK l Dg clz tys cA flz ftz base adS GWz xyz xcz xnz xrz Ex codez bmz bpz b t) 1 1599 2048 codez_4030 :=
  And.intro (okz_1599 Hy) (okzz 3647)
theorem anz_4031 (Hy : Hyz tys cA base adS Ex) : xall (fun b t => xOK l Dg clz tys cA flz ftz base adS GWz xyz xcz xnz xrz Ex codez bmz bpz b t) 2 575 1024 codez_4031 :=
  And.intro (anz_4029 Hy) (anz_4030 Hy)
theorem anz_4032 (Hy : Hyz tys cA base adS Ex) : xall (fun b t => xOK l Dg clz tys cA flz ftz base adS GWz xyz xcz xnz xrz Ex codez bmz bpz b t) 3 63 512 codez_4032 :=
  And.intro (anz_4028 Hy) (anz_4031 Hy)
theorem anz_4033 (Hy : Hyz tys cA base adS Ex) : xall (fun b t => xOK l Dg clz tys cA flz ftz base adS GWz xyz xcz xnz xrz Ex codez bmz bpz b t) 1 319 2048 codez_4033 :=
  And.intro (okz_319 Hy) (okz_2367 Hy)
theorem anz_4034 (Hy : Hyz tys cA base adS Ex) : xall (fun b t => xOK l Dg clz tys cA flz ftz base adS GWz xyz xcz xnz xrz Ex codez bmz bpz b t) 1 1343 2048 codez_4034 :=
  And.intro (okz_1343 Hy) (okzz 3391)
theorem anz_4035 (Hy : Hyz tys cA base adS Ex) : xall (fun b t => xOK l Dg clz tys cA flz ftz base adS GWz xyz xcz xnz xrz Ex codez bmz bpz b t) 2 319 1024 codez_4035 :=
  And.intro (anz_4033 Hy) (anz_4034 Hy)
theorem anz_4036 (Hy : Hyz tys cA base adS Ex) : xall (fun b t => xOK l Dg clz tys cA flz ftz base adS GWz xyz xcz xnz xrz Ex codez bmz bpz b t) 1 831 2048 codez_4036 :=
  And.intro (okz_831 Hy) (okzz 2879)
theorem anz_4037 (Hy : Hyz tys cA base adS Ex) : xall (fun b t => xOK l Dg clz tys cA flz ftz base adS GWz xyz xcz xnz xrz Ex codez bmz bpz b t) 1 1855 2048 codez_4037 :=
  And.intro (okz_1855 Hy) (okzz 3903)
theorem anz_4038 (Hy : Hyz tys cA base adS Ex) : xall (fun b t => xOK l Dg clz tys cA flz ftz base adS GWz xyz xcz xnz xrz Ex codez bmz bpz b t) 2 831 1024 codez_4038 :=
  And.intro (anz_4036 Hy) (anz_4037 Hy)
theorem anz_4039 (Hy : Hyz tys cA base adS Ex) : xall (fun b t => xOK l Dg clz tys cA flz ftz base adS GWz xyz xcz xnz xrz Ex codez bmz bpz b t) 3 319 512 codez_4039 :=
  And.intro (anz_4035 Hy) (anz_4038 Hy)
theorem anz_4040 (Hy : Hyz tys cA base adS Ex) : xall (fun b t => xOK l Dg clz tys cA flz ftz base adS GWz xyz xcz xnz xrz Ex codez bmz bpz b t) 4 63 256 codez_4040 :=
  And.intro (anz_4032 Hy) (anz_4039 Hy)
theorem anz_4041 (Hy : Hyz tys cA base adS Ex) : xall (fun b t => xOK l Dg clz tys cA flz ftz base adS GWz xyz xcz xnz xrz Ex codez bmz bpz b t) 1 191 2048 codez_4041 :=
  And.intro (okz_191 Hy) (okz_2239 Hy)
theorem anz_4042 (Hy : Hyz tys cA base adS Ex) : xall (fun b t => xOK l Dg clz tys cA flz ftz base adS GWz xyz xcz xnz xrz Ex codez bmz bpz b t) 1 1215 2048 codez_4042 :=
  And.intro (okz_1215 Hy) (okzz 3263)
theorem anz_4043 (Hy : Hyz tys cA base adS Ex) : xall (fun b t => xOK l Dg clz tys cA flz ftz base adS GWz xyz xcz xnz xrz Ex codez bmz bpz b t) 2 191 1024 codez_4043 :=
  And.intro (anz_4041 Hy) (anz_4042 Hy)
theorem anz_4044 (Hy : Hyz tys cA base adS Ex) : xall (fun b t => xOK l Dg clz tys cA flz ftz base adS GWz xyz xcz xnz xrz Ex codez bmz bpz b t) 1 703 2048 codez_4044 :=
  And.intro (okz_703 Hy) (okzz 2751)
theorem anz_4045 (Hy : Hyz tys cA base adS Ex) : xall (fun b t => xOK l Dg clz tys cA flz ftz base adS GWz xyz xcz xnz xrz Ex codez bmz bpz b t) 1 1727 2048 codez_4045 :=
  And.intro (okz_1727 Hy) (okzz 3775)
theorem anz_4046 (Hy : Hyz tys cA base adS Ex) : xall (fun b t => xOK l Dg clz tys cA flz ftz base adS GWz xyz xcz xnz xrz Ex codez bmz bpz b t) 2 703 1024 codez_4046 :=
  And.intro (anz_4044 Hy) (anz_4045 Hy)
theorem anz_4047 (Hy : Hyz tys cA base adS Ex) : xall (fun b t => xOK l Dg clz tys cA flz ftz base adS GWz xyz xcz xnz xrz Ex codez bmz bpz b t) 3 191 512 codez_4047 :=
  And.intro (anz_4043 Hy) (anz_4046 Hy)
theorem anz_4048 (Hy : Hyz tys cA base adS Ex) : xall (fun b t => xOK l Dg clz tys cA flz ftz base adS GWz xyz xcz xnz xrz Ex codez bmz bpz b t) 1 447 2048 codez_4048 :=
  And.intro (okz_447 Hy) (okz_2495 Hy)
theorem anz_4049 (Hy : Hyz tys cA base adS Ex) : xall (fun b t => xOK l Dg clz tys cA flz ftz base adS GWz xyz xcz xnz xrz Ex codez bmz bpz b t) 1 1471 2048 codez_4049 :=
  And.intro (okz_1471 Hy) (okzz 3519)
theorem anz_4050 (Hy : Hyz tys cA base adS Ex) : xall (fun b t => xOK l Dg clz tys cA flz ftz base adS GWz xyz xcz xnz xrz Ex codez bmz bpz b t) 2 447 1024 codez_4050 :=
  And.intro (anz_4048 Hy) (anz_4049 Hy)
theorem anz_4051 (Hy : Hyz tys cA base adS Ex) : xall (fun b t => xOK l Dg clz tys cA flz ftz base adS GWz xyz xcz xnz xrz Ex codez bmz bpz b t) 1 959 2048 codez_4051 :=
  And.intro (okz_959 Hy) (okzz 3007)
theorem anz_4052 (Hy : Hyz tys cA base adS Ex) : xall (fun b t => xOK l Dg clz tys cA flz ftz base adS GWz xyz xcz xnz xrz Ex codez bmz bpz b t) 1 1983 2048 codez_4052 :=
  And.intro (okz_1983 Hy) (okzz 4031)
theorem anz_4053 (Hy : Hyz tys cA base adS Ex) : xall (fun b t => xOK l Dg clz tys cA flz ftz base adS GWz xyz xcz xnz xrz Ex codez bmz bpz b t) 2 959 1024 codez_4053 :=
  And.intro (anz_4051 Hy) (anz_4052 Hy)
theorem anz_4054 (Hy : Hyz tys cA base adS Ex) : xall (fun b t => xOK l Dg clz tys cA flz ftz base adS GWz xyz xcz xnz xrz Ex codez bmz bpz b t) 3 447 512 codez_4054 :=
  And.intro (anz_4050 Hy) (anz_4053 Hy)
theorem anz_4055 (Hy : Hyz tys cA base adS Ex) : xall (fun b t => xOK l Dg clz tys cA flz ftz base adS GWz xyz xcz xnz xrz Ex codez bmz bpz b t) 4 191 256 codez_4055 :=
  And.intro (anz_4047 Hy) (anz_4054 Hy)
theorem anz_4056 (Hy : Hyz tys cA base adS Ex) : xall (fun b t => xOK l Dg clz tys cA flz ftz base adS GWz xyz xcz xnz xrz Ex codez bmz bpz b t) 5 63 128 codez_4056 :=
  And.intro (anz_4040 Hy) (anz_4055 Hy)
theorem anz_4057 (Hy : Hyz tys cA base adS Ex) : xall (fun b t => xOK l Dg clz tys cA flz ftz base adS GWz xyz xcz xnz xrz Ex codez bmz bpz b t) 1 127 2048 codez_4057 :=
  And.intro (okz_127 Hy) (okz_2175 Hy)
theorem anz_4058 (Hy : Hyz tys cA base adS Ex) : xall (fun b t => xOK l Dg clz tys cA flz ftz base adS GWz xyz xcz xnz xrz Ex codez bmz bpz b t) 1 1151 2048 codez_4058 :=
  And.intro (okz_1151 Hy) (okzz 3199)
theorem anz_4059 (Hy : Hyz tys cA base adS Ex) : xall (fun b t => xOK l Dg clz tys cA flz ftz base adS GWz xyz xcz xnz xrz Ex codez bmz bpz b t) 2 127 1024 codez_4059 :=
  And.intro (anz_4057 Hy) (anz_4058 Hy)
theorem anz_4060 (Hy : Hyz tys cA base adS Ex) : xall (fun b t => xOK l Dg clz tys cA flz ftz base adS GWz xyz xcz xnz xrz Ex codez bmz bpz b t) 1 639 2048 codez_4060 :=
  And.intro (okz_639 Hy) (okzz 2687)
theorem anz_4061 (Hy : Hyz tys cA base adS Ex) : xall (fun b t => xOK l Dg clz tys cA flz ftz base adS GWz xyz xcz xnz xrz Ex codez bmz bpz b t) 1 1663 2048 codez_4061 :=
  And.intro (okz_1663 Hy) (okzz 3711)
theorem anz_4062 (Hy : Hyz tys cA base adS Ex) : xall (fun b t => xOK l Dg clz tys cA flz ftz base adS GWz xyz xcz xnz xrz Ex codez bmz bpz b t) 2 639 1024 codez_4062 :=
  And.intro (anz_4060 Hy) (anz_4061 Hy)
theorem anz_4063 (Hy : Hyz tys cA base adS Ex) : xall (fun b t => xOK l Dg clz tys cA flz ftz base adS GWz xyz xcz xnz xrz Ex codez bmz bpz b t) 3 127 512 codez_4063 :=
  And.intro (anz_4059 Hy) (anz_4062 Hy)
theorem anz_4064 (Hy : Hyz tys cA base adS Ex) : xall (fun b t => xOK l Dg clz tys cA flz ftz base adS GWz xyz xcz xnz xrz Ex codez bmz bpz b t) 1 383 2048 codez_4064 :=
  And.intro (okz_383 Hy) (okz_2431 Hy)
theorem anz_4065 (Hy : Hyz tys cA base adS Ex) : xall (fun b t => xOK l Dg clz tys cA flz ftz base adS GWz xyz xcz xnz xrz Ex codez bmz bpz b t) 1 1407 2048 codez_4065 :=
  And.intro (okz_1407 Hy) (okzz 3455)
theorem anz_4066 (Hy : Hyz tys cA base adS Ex) : xall (fun b t => xOK l Dg clz tys cA flz ftz base adS GWz xyz xcz xnz xrz Ex codez bmz bpz b t) 2 383 1024 codez_4066 :=
  And.intro (anz_4064 Hy) (anz_4065 Hy)
theorem anz_4067 (Hy : Hyz tys cA base adS Ex) : xall (fun b t => xOK l Dg clz tys cA flz ftz base adS GWz xyz xcz xnz xrz Ex codez bmz bpz b t) 1 895 2048 codez_4067 :=
  And.intro (okz_895 Hy) (okzz 2943)
theorem anz_4068 (Hy : Hyz tys cA base adS Ex) : xall (fun b t => xOK l Dg clz tys cA flz ftz base adS GWz xyz xcz xnz xrz Ex codez bmz bpz b t) 1 1919 2048 codez_4068 :=
  And.intro (okz_1919 Hy) (okzz 3967)
theorem anz_4069 (Hy : Hyz tys cA base adS Ex) : xall (fun b t => xOK l Dg clz tys cA flz ftz base adS GWz xyz xcz xnz xrz Ex codez bmz bpz b t) 2 895 1024 codez_4069 :=
  And.intro (anz_4067 Hy) (anz_4068 Hy)
theorem anz_4070 (Hy : Hyz tys cA base adS Ex) : xall (fun b t => xOK l Dg clz tys cA flz ftz base adS GWz xyz xcz xnz xrz Ex codez bmz bpz b t) 3 383 512 codez_4070 :=
  And.intro (anz_4066 Hy) (anz_4069 Hy)
theorem anz_4071 (Hy : Hyz tys cA base adS Ex) : xall (fun b t => xOK l Dg clz tys cA flz ftz base adS GWz xyz xcz xnz xrz Ex codez bmz bpz b t) 4 127 256 codez_4071 :=
  And.intro (anz_4063 Hy) (anz_4070 Hy)
theorem anz_4072 (Hy : Hyz tys cA base adS Ex) : xall (fun b t => xOK l Dg clz tys cA flz ftz base adS GWz xyz xcz xnz xrz Ex codez bmz bpz b t) 1 255 2048 codez_4072 :=
  And.intro (okz_255 Hy) (okz_2303 Hy)
theorem anz_4073 (Hy : Hyz tys cA base adS Ex) : xall (fun b t => xOK l Dg clz tys cA flz ftz base adS GWz xyz xcz xnz xrz Ex codez bmz bpz b t) 1 1279 2048 codez_4073 :=
  And.intro (okz_1279 Hy) (okzz 3327)
theorem anz_4074 (Hy : Hyz tys cA base adS Ex) : xall (fun b t => xOK l Dg clz tys cA flz ftz base adS GWz xyz xcz xnz xrz Ex codez bmz bpz b t) 2 255 1024 codez_4074 :=
  And.intro (anz_4072 Hy) (anz_4073 Hy)
theorem anz_4075 (Hy : Hyz tys cA base adS Ex) : xall (fun b t => xOK l Dg clz tys cA flz ftz base adS GWz xyz xcz xnz xrz Ex codez bmz bpz b t) 1 767 2048 codez_4075 :=
  And.intro (okz_767 Hy) (okzz 2815)
theorem anz_4076 (Hy : Hyz tys cA base adS Ex) : xall (fun b t => xOK l Dg clz tys cA flz ftz base adS GWz xyz xcz xnz xrz Ex codez bmz bpz b t) 1 1791 2048 codez_4076 :=
  And.intro (okz_1791 Hy) (okzz 3839)
theorem anz_4077 (Hy : Hyz tys cA base adS Ex) : xall (fun b t => xOK l Dg clz tys cA flz ftz base adS GWz xyz xcz xnz xrz Ex codez bmz bpz b t) 2 767 1024 codez_4077 :=
  And.intro (anz_4075 Hy) (anz_4076 Hy)
theorem anz_4078 (Hy : Hyz tys cA base adS Ex) : xall (fun b t => xOK l Dg clz tys cA flz ftz base adS GWz xyz xcz xnz xrz Ex codez bmz bpz b t) 3 255 512 codez_4078 :=
  And.intro (anz_4074 Hy) (anz_4077 Hy)
theorem anz_4079 (Hy : Hyz tys cA base adS Ex) : xall (fun b t => xOK l Dg clz tys cA flz ftz base adS GWz xyz xcz xnz xrz Ex codez bmz bpz b t) 1 511 2048 codez_4079 :=
  And.intro (okz_511 Hy) (okzz 2559)
theorem anz_4080 (Hy : Hyz tys cA base adS Ex) : xall (fun b t => xOK l Dg clz tys cA flz ftz base adS GWz xyz xcz xnz xrz Ex codez bmz bpz b t) 1 1535 2048 codez_4080 :=
  And.intro (okz_1535 Hy) (okzz 3583)
theorem anz_4081 (Hy : Hyz tys cA base adS Ex) : xall (fun b t => xOK l Dg clz tys cA flz ftz base adS GWz xyz xcz xnz xrz Ex codez bmz bpz b t) 2 511 1024 codez_4081 :=
  And.intro (anz_4079 Hy) (anz_4080 Hy)
theorem anz_4082 (Hy : Hyz tys cA base adS Ex) : xall (fun b t => xOK l Dg clz tys cA flz ftz base adS GWz xyz xcz xnz xrz Ex codez bmz bpz b t) 1 1023 2048 codez_4082 :=
  And.intro (okz_1023 Hy) (okzz 3071)
theorem anz_4083 (Hy : Hyz tys cA base adS Ex) : xall (fun b t => xOK l Dg clz tys cA flz ftz base adS GWz xyz xcz xnz xrz Ex codez bmz bpz b t) 1 2047 2048 codez_4083 :=
  And.intro (okz_2047 Hy) (okzz 4095)
theorem anz_4084 (Hy : Hyz tys cA base adS Ex) : xall (fun b t => xOK l Dg clz tys cA flz ftz base adS GWz xyz xcz xnz xrz Ex codez bmz bpz b t) 2 1023 1024 codez_4084 :=
  And.intro (anz_4082 Hy) (anz_4083 Hy)
theorem anz_4085 (Hy : Hyz tys cA base adS Ex) : xall (fun b t => xOK l Dg clz tys cA flz ftz base adS GWz xyz xcz xnz xrz Ex codez bmz bpz b t) 3 511 512 codez_4085 :=
  And.intro (anz_4081 Hy) (anz_4084 Hy)
theorem anz_4086 (Hy : Hyz tys cA base adS Ex) : xall (fun b t => xOK l Dg clz tys cA flz ftz base adS GWz xyz xcz xnz xrz Ex codez bmz bpz b t) 4 255 256 codez_4086 :=
  And.intro (anz_4078 Hy) (anz_4085 Hy)
theorem anz_4087 (Hy : Hyz tys cA base adS Ex) : xall (fun b t => xOK l Dg clz tys cA flz ftz base adS GWz xyz xcz xnz xrz Ex codez bmz bpz b t) 5 127 128 codez_4087 :=
  And.intro (anz_4071 Hy) (anz_4086 Hy)
theorem anz_4088 (Hy : Hyz tys cA base adS Ex) : xall (fun b t => xOK l Dg clz tys cA flz ftz base adS GWz xyz xcz xnz xrz Ex codez bmz bpz b t) 6 63 64 codez_4088 :=
  And.intro (anz_4056 Hy) (anz_4087 Hy)
theorem anz_4089 (Hy : Hyz tys cA base adS Ex) : xall (fun b t => xOK l Dg clz tys cA flz ftz base adS GWz xyz xcz xnz xrz Ex codez bmz bpz b t) 7 31 32 codez_4089 :=
  And.intro (anz_4025 Hy) (anz_4088 Hy)
theorem anz_4090 (Hy : Hyz tys cA base adS Ex) : xall (fun b t => xOK l Dg clz tys cA flz ftz base adS GWz xyz xcz xnz xrz Ex codez bmz bpz b t) 8 15 16 codez_4090 :=
  And.intro (anz_3962 Hy) (anz_4089 Hy)
theorem anz_4091 (Hy : Hyz tys cA base adS Ex) : xall (fun b t => xOK l Dg clz tys cA flz ftz base adS GWz xyz xcz xnz xrz Ex codez bmz bpz b t) 9 7 8 codez_4091 :=
  And.intro (anz_3835 Hy) (anz_4090 Hy)
theorem anz_4092 (Hy : Hyz tys cA base adS Ex) : xall (fun b t => xOK l Dg clz tys cA flz ftz base adS GWz xyz xcz xnz xrz Ex codez bmz bpz b t) 10 3 4 codez_4092 :=
  And.intro (anz_3580 Hy) (anz_4091 Hy)
theorem anz_4093 (Hy : Hyz tys cA base adS Ex) : xall (fun b t => xOK l Dg clz tys cA flz ftz base adS GWz xyz xcz xnz xrz Ex codez bmz bpz b t) 11 1 2 codez_4093 :=
  And.intro (anz_3069 Hy) (anz_4092 Hy)
theorem anz (Hy : Hyz tys cA base adS Ex) : xall (fun b t => xOK l Dg clz tys cA flz ftz base adS GWz xyz xcz xnz xrz Ex codez bmz bpz b t) 12 0 1 codez :=
  And.intro (anz_2046 Hy) (anz_4093 Hy)
theorem modz (b : Nat) : bmz b = bmz (b % 2 ^ 12) ∧ bpz b = bpz (b % 2 ^ 12) := ⟨congrArg Prod.fst (xget_mod 12 mpz b), congrArg Prod.snd (xget_mod 12 mpz b)⟩
theorem allz (Hy : Hyz tys cA base adS Ex) : ∀ b, b < 2 ^ 12 → xOK l Dg clz tys cA flz ftz base adS GWz xyz xcz xnz xrz Ex codez bmz bpz b (xget 12 codez b) := fun b hb => by
  have h := xall_get 12 0 1 codez (anz (l := l) (Dg := Dg) Hy) b hb
  rw [Nat.zero_add, Nat.one_mul] at h
  exact h
theorem soundz (Hy : Hyz tys cA base adS Ex) : ∀ K, xIH l Dg clz tys cA flz ftz base adS GWz xyz xcz xnz xrz Ex codez bmz bpz K := x_sound modz (allz Hy)
end
