/-! printed by emit_vld.py: the AM code of methods 1 .. 62 is what the bytes say -/
theorem zvl1 : zcd1.all (z_vl 1) = true := by decide +kernel
theorem zvl2 : zcd2.all (z_vl 2) = true := rfl
theorem zvl3 : zcd3.all (z_vl 3) = true := by decide +kernel
theorem zvl4 : zcd4.all (z_vl 4) = true := by decide +kernel
theorem zvl5 : zcd5.all (z_vl 5) = true := by decide +kernel
theorem zvl6 : zcd6.all (z_vl 6) = true := by decide +kernel
theorem zvl7 : zcd7.all (z_vl 7) = true := by decide +kernel
theorem zvl8 : zcd8.all (z_vl 8) = true := by decide +kernel
theorem zvl9 : zcd9.all (z_vl 9) = true := by decide +kernel
theorem zvl10 : zcd10.all (z_vl 10) = true := by decide +kernel
theorem zvl11 : zcd11.all (z_vl 11) = true := by decide +kernel
theorem zvl12 : zcd12.all (z_vl 12) = true := by decide +kernel
theorem zvl13 : zcd13.all (z_vl 13) = true := by decide +kernel
theorem zvl14 : zcd14.all (z_vl 14) = true := rfl
theorem zvl15 : zcd15.all (z_vl 15) = true := by decide +kernel
theorem zvl16 : zcd16.all (z_vl 16) = true := by decide +kernel
theorem zvl17 : zcd17.all (z_vl 17) = true := by decide +kernel
theorem zvl18 : zcd18.all (z_vl 18) = true := by decide +kernel
theorem zvl19 : zcd19.all (z_vl 19) = true := by decide +kernel
theorem zvl20 : zcd20.all (z_vl 20) = true := by decide +kernel
theorem zvl21 : zcd21.all (z_vl 21) = true := by decide +kernel
theorem zvl22 : zcd22.all (z_vl 22) = true := by decide +kernel
theorem zvl23 : zcd23.all (z_vl 23) = true := by decide +kernel
theorem zvl24 : zcd24.all (z_vl 24) = true := by decide +kernel
theorem zvl25 : zcd25.all (z_vl 25) = true := by decide +kernel
theorem zvl26 : zcd26.all (z_vl 26) = true := by decide +kernel
theorem zvl27 : zcd27.all (z_vl 27) = true := by decide +kernel
theorem zvl28 : zcd28.all (z_vl 28) = true := by decide +kernel
theorem zvl29 : zcd29.all (z_vl 29) = true := by decide +kernel
theorem zvl30 : zcd30.all (z_vl 30) = true := by decide +kernel
theorem zvl31 : zcd31.all (z_vl 31) = true := by decide +kernel
theorem zvl32 : zcd32.all (z_vl 32) = true := by decide +kernel
theorem zvl33 : zcd33.all (z_vl 33) = true := by decide +kernel
theorem zvl34 : zcd34.all (z_vl 34) = true := by decide +kernel
theorem zvl35 : zcd35.all (z_vl 35) = true := rfl
theorem zvl36 : zcd36.all (z_vl 36) = true := by decide +kernel
theorem zvl37 : zcd37.all (z_vl 37) = true := by decide +kernel
theorem zvl38 : zcd38.all (z_vl 38) = true := by decide +kernel
theorem zvl39 : zcd39.all (z_vl 39) = true := by decide +kernel
theorem zvl40 : zcd40.all (z_vl 40) = true := by decide +kernel
theorem zvl41 : zcd41.all (z_vl 41) = true := by decide +kernel
theorem zvl42 : zcd42.all (z_vl 42) = true := by decide +kernel
theorem zvl43 : zcd43.all (z_vl 43) = true := by decide +kernel
theorem zvl44 : zcd44.all (z_vl 44) = true := by decide +kernel
theorem zvl45 : zcd45.all (z_vl 45) = true := by decide +kernel
theorem zvl46 : zcd46.all (z_vl 46) = true := by decide +kernel
theorem zvl47 : zcd47.all (z_vl 47) = true := by decide +kernel
theorem zvl48 : zcd48.all (z_vl 48) = true := by decide +kernel
theorem zvl49 : zcd49.all (z_vl 49) = true := by decide +kernel
theorem zvl50 : zcd50.all (z_vl 50) = true := by decide +kernel
theorem zvl51 : zcd51.all (z_vl 51) = true := by decide +kernel
theorem zvl52 : zcd52.all (z_vl 52) = true := by decide +kernel
theorem zvl53 : zcd53.all (z_vl 53) = true := by decide +kernel
theorem zvl54 : zcd54.all (z_vl 54) = true := rfl
theorem zvl55 : zcd55.all (z_vl 55) = true := rfl
theorem zvl56 : zcd56.all (z_vl 56) = true := rfl
theorem zvl57 : zcd57.all (z_vl 57) = true := rfl
theorem zvl58 : zcd58.all (z_vl 58) = true := by decide +kernel
theorem zvl59 : zcd59.all (z_vl 59) = true := by decide +kernel
theorem zvl60 : zcd60.all (z_vl 60) = true := by decide +kernel
theorem zvl61 : zcd61.all (z_vl 61) = true := by decide +kernel
theorem zvl62 : zcd62.all (z_vl 62) = true := by decide +kernel
