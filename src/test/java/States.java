/** What BoundsTest tries its calls on: an object with something of everything, and full ones. */
final class States {
  /**
   * Posts: 0 held by 0, 1 vacant, 2 ended, 3 held by 1, 4 held by 4. People: 2 holds none, 3 has left,
   * 4 is protected; 0 and 2 are leavers. Unit 0 has the pools 0, 1, 4 and 3; unit 1 has 3 and 4.
   */
  static final Runs.Run SOME = Runs.of("some of everything", """
      unit(0, -1) = 0
      unit(1, 0) = 1
      post(0, 0, 3, 40, 1) = 0
      post(0, 0, 3, 40, 1) = 1
      post(0, 0, 3, 40, 1) = 2
      post(1, 1, 5, 20, 3) = 3
      post(1, 0, 4, 30, 3) = 4
      person(0, 1, -800, 500) = 0
      person(3, 1, -400, 700) = 1
      person(-1, 1, 0, 500) = 2
      person(2, 1, -900, 900) = 3
      person(4, 3, -10, 400) = 4
      leave(3) = 1
      end(2) = 1
      protect(4, 100) = -1
      protect(1, 2) = -1
      tell(0, 0, 40) = 0
      tell(1, 1, 3) = 1
      tell(4, 0, 100) = 2
      days(5) = 5
      right(0, 30) = 1
      right(0, 35) = 2
      volunteer(0, 10) = -1
      leaver(2) = 1
      leaver(0) = 2
      ends(0, 0, 15) = 1
      ends(3, 10, 90) = 2
      set(0, 1) = 1
      set(1, 1) = 0
      set(2, 450) = 600
      weight(3, 5) = 1
      chain(4) = 1
      chain(0) = 0
      pools(0) = 2
      pools(1) = 2
      back(1) = 3
      """);

  static final Runs.Run FULL_UNITS = Runs.of("twelve units", "12 times unit(1, -1) = 0 up");

  static final Runs.Run FULL_POSTS = Runs.of("forty posts", """
      unit(0, -1) = 0
      40 times post(0, 0, 3, 40, 1) = 0 up
      end(7) = 1
      """);

  static final Runs.Run FULL_PEOPLE = Runs.of("forty people", """
      unit(0, -1) = 0
      3 times post(0, 0, 3, 40, 1) = 0 up
      person(0, 1, 0, 500) = 0
      39 times person(-1, 1, 0, 500) = 1 up
      leave(5) = 1
      end(2) = 1
      """);

  static final Runs.Run FULL_TELLINGS = Runs.of("120 tellings", """
      person(-1, 0, 0, 500) = 0
      119 times tell(0, 0, 3) = 0 up
      tell(0, 1, 3) = 119
      """);

  static final Runs.Run FULL_RIGHTS = Runs.of("sixty puttings right", """
      unit(0, -1) = 0
      2 times post(0, 0, 3, 40, 1) = 0 up
      2 times person(#, 1, 0, 500) = 0 up
      tell(0, 0, 50) = 0
      tell(0, 1, 0) = 1
      60 times right(0, 50) = 1 up
      """);

  static final Runs.Run FULL_ENDS = Runs.of("sixty ends", "60 times ends(1, #, 1) = 1 up");

  /** 8 is here, 9 and 10 have left. */
  static final Runs.Run FULL_LEAVERS = Runs.of("eight leavers", """
      11 times person(-1, 0, 0, 500) = 0 up
      leave(9) = 1
      leave(10) = 1
      8 times leaver(#) = 1 up
      """);

  static final Runs.Run LAST_DAY = Runs.of("day 3000", """
      person(-1, 0, 0, 500) = 0
      tell(0, 0, 1) = 0
      days(3000) = 3000
      tell(0, 0, 2) = 1
      """);

  static final Runs.Run TWELVE = Runs.of("a pool of twelve", """
      unit(0, -1) = 0
      13 times post(0, 0, 3, 40, 1) = 0 up
      12 times person(#, 1, 0, 500) = 0 up
      """);

  static final Runs.Run THIRTEEN = Runs.of("a pool of thirteen", """
      unit(0, -1) = 0
      13 times post(0, 0, 3, 40, 1) = 0 up
      13 times person(#, 1, 0, 500) = 0 up
      """);

  private States() {
  }
}
