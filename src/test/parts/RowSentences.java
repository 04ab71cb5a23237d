/** Promises 20 to 25: rows, arms, minutes. */
final class RowSentences implements Refusals {
  /** Only between the last two SEATS can one more ARM matter. */
  private static final String LAST_TWO = "o|o|o|o|o|o|o|o|o|o|oo";

  private RowSentences() {
  }

  static void test(Sentences t) {
    rows(t);
    longer(t);
    arms(t);
    armsWhereOneIs(t);
    armsRefused(t);
    rests(t);
    minutes(t);
    minutesRefused(t);
    away(t);
  }

  private static void rows(Sentences t) {
    NextBench x = new NextBench();
    t.sentence(20, "ROWS: a row of n SEATS (1 to 200) without gaps and ARMS, BEAR 2, the first one in a told SEAT, all others by"
        + " FAR without WORTH: how many.");
    t.got(x.rows(1, 0), x.rows(2, 0), x.rows(2, 1), x.rows(3, 0), x.rows(3, 1), x.rows(3, 2)).due(1, 1, 1, 2, 1, 2);
    t.got(x.rows(4, 0), x.rows(5, 0), x.rows(5, 2), x.rows(7, 0), x.rows(7, 2), x.rows(7, 6)).due(2, 3, 3, 3, 4, 3);
    t.got(x.rows(200, 0), x.rows(200, 199), x.rows(199, 198)).due(72, 72, 71);
    NextBench other = Rooms.worth("o|o-ooooo@", 4, 0, 9, 3, 9);
    t.got(other.rows(7, 0), other.rows(7, 2), other.rows(200, 0)).due(3, 4, 72);
    t.sentence(20, "ROWS: how many.");
    for (int n = 1; n <= 12; n++) {
      NextBench row = Rooms.of(TWELVE.substring(0, n));
      for (int seat = 0; seat < n; seat++) {
        t.got(x.rows(n, seat)).due(Integer.bitCount(row.fill(1 << seat, 0)));
      }
    }
    t.sentence(20, "OUTSIDE; UNKNOWN: the SEAT 0 to n less 1 (behind it).");
    t.got(other.rows(0, 0), other.rows(201, 0), other.rows(-1, 0), other.rows(LEAST_INT, 0), other.rows(MOST_INT, 0))
        .allDue(OUTSIDE);
    t.got(other.rows(1, 1), other.rows(1, -1), other.rows(200, 200), other.rows(200, -1), other.rows(5, LEAST_INT),
        other.rows(5, MOST_INT)).allDue(UNKNOWN);
    t.got(other.rows(0, -1), other.rows(201, 201), other.rows(201, -1), other.rows(0, 0)).allDue(OUTSIDE);
  }

  private static void longer(Sentences t) {
    NextBench x = Rooms.of("o-o@", 4);
    t.sentence(21, "LONGER: the least n up to 200 by which k (1 to 100) or more come in, the first one in SEAT 0.");
    t.got(x.longer(1), x.longer(2), x.longer(3), x.longer(4), x.longer(5)).due(1, 3, 5, 8, 9);
    // between both ends of 129 SEATS lie 127, which fill evenly with 63; then nothing is won till 194
    t.got(x.longer(65), x.longer(66), x.longer(71), x.longer(72)).due(129, 194, 199, 200);
    for (int k = 1; k <= 72; k++) {
      int n = x.longer(k);
      t.got(Math.min(k, x.rows(n, 0)), n == 1 || x.rows(n - 1, 0) < k ? 1 : 0).due(k, 1);
    }
    t.sentence(21, "LONGER; NONE: not up to 200.");
    t.got(x.longer(72), x.longer(73), x.longer(74), x.longer(99), x.longer(100)).due(200, NONE, NONE, NONE, NONE);
    t.sentence(21, "OUTSIDE.");
    t.got(x.longer(0), x.longer(101), x.longer(-1), x.longer(LEAST_INT), x.longer(MOST_INT)).allDue(OUTSIDE);
  }

  private static void arms(Sentences t) {
    t.sentence(22, "PLACES for ARMS: i (0 to SEATS less 2) is between SEATS i and i and 1.");
    t.got(new NextBench().arms(0, 3, 0), Rooms.of("oo").arms(0, 3, 0), Rooms.of(LAST_TWO).arms(0, 3, 0),
        Rooms.of("o|oo").arms(2, 1, 0)).due(0, 1, 1 << 10, 2);
    // between the last one and the first one of a ring there is no PLACE, so all three never come in
    t.got(Rooms.of("ooo@").arms(0, 3, 0), Rooms.of("ooo@").arms(0, 3, 1), Rooms.of("oo@").arms(0, 3, 0)).due(1, 2, 0);
    t.sentence(22, "ARMS: at most k (0 to 3) more on PLACES (bits), such that by a HABIT most come in (from nobody on)");
    NextBench five = Rooms.of("ooooo");
    // 0, 2 and 4 sit; one ARM brings in no more, two do (0|1|234), and a fifth one would need four
    t.got(five.arms(0, 0, 0), five.arms(0, 0, 1), five.arms(0, 1, 1), five.arms(0, 2, 1), five.arms(0, 3, 1)).due(0, 3, 3, 4,
        4);
    t.got(five.arms(0, 1, 0), five.arms(0, 2, 0), five.arms(0, 3, 0)).due(0, 3, 3);
    NextBench four = Rooms.of("oooo");
    t.got(four.arms(0, 0, 1), four.arms(0, 1, 1), four.arms(0, 2, 1), four.arms(0, 3, 1), four.arms(0, 3, 0)).due(2, 3, 3, 4,
        7);
    t.got(Rooms.of(TWELVE, 1).arms(0, 3, 0), Rooms.of(TWELVE, 1).arms(0, 3, 1)).due(0, 12);
    t.got(Rooms.of("o-o", 2).arms(0, 1, 0), Rooms.of("o-o", 3).arms(0, 1, 0), Rooms.of("o-o", 3).arms(0, 1, 1)).due(0, 1, 2);
    t.sentence(22, "of several the fewest, then the least as bits.");
    t.got(four.arms(0, 1, 0), four.arms(0, 2, 0), Rooms.of("oo|oo").arms(0, 1, 0), Rooms.of("oo|oo").arms(0, 2, 0)).due(1, 1,
        1, 5);
    NextBench sunny = Rooms.worth("oooo", 2, 0, 0, 5);
    t.got(sunny.arms(0, 2, 0), sunny.arms(0, 2, 1)).due(4, 3);
    t.sentence(22, "ARMS by a HABIT: the PLACES as bits (what = 0), how many come in (1).");
    for (int habit = 0; habit < 6; habit++) {
      t.got(Rooms.of("ooo").arms(habit, 2, 0), Rooms.of("ooo").arms(habit, 2, 1), Rooms.of(LAST_TWO).arms(habit, 0, 1),
          Rooms.of(LAST_TWO).arms(habit, 1, 0), Rooms.of(LAST_TWO).arms(habit, 1, 1)).due(3, 3, 11, 1 << 10, 12);
      t.got(new NextBench().arms(habit, 3, 1), new NextBench().arms(habit, 0, 0)).due(1, 0);
      // the first and the last of three come in by each habit, so one ARM wins nothing, though the MEAN would be more
      t.got(Rooms.of("ooo").arms(habit, 1, 0), Rooms.of("ooo").arms(habit, 1, 1), Rooms.of("ooo").rests(1)).due(0, 2, 1);
    }
  }

  private static void armsWhereOneIs(Sentences t) {
    t.sentence(22, "(An ARM where one is changes nothing; it counts as one.)");
    t.got(Rooms.of("o|o").arms(0, 3, 0), Rooms.of("o|o").arms(0, 3, 1), Rooms.of("o|oo").arms(0, 1, 0),
        Rooms.of("o|oo").arms(0, 3, 0), Rooms.of("o|oo").arms(0, 3, 1)).due(0, 2, 2, 2, 3);
    NextBench x = Rooms.of("o-|-o|ooo");
    t.got(x.arms(2, 1, 0), x.arms(2, 3, 0), x.arms(2, 3, 1)).due(0, 0b1100, 5);
    t.got(x.far(2, 4), x.may(0b100), x.told(0)).due(2, 0b10011, 5);
  }

  private static void armsRefused(Sentences t) {
    t.sentence(22, "OUTSIDE.");
    NextBench x = Rooms.of("ooo");
    t.got(x.arms(-1, 0, 0), x.arms(6, 0, 0), x.arms(0, -1, 0), x.arms(0, 4, 0), x.arms(0, 0, -1), x.arms(0, 0, 2),
        x.arms(LEAST_INT, 0, 0), x.arms(0, MOST_INT, 0), x.arms(0, 0, LEAST_INT)).allDue(OUTSIDE);
    t.sentence(23, "OUTSIDE.");
    t.got(x.rests(-1), x.rests(4), x.rests(LEAST_INT), x.rests(MOST_INT)).allDue(OUTSIDE);
  }

  private static void rests(Sentences t) {
    t.sentence(23, "or by ANY the MEAN is most");
    NextBench three = Rooms.of("ooo");
    t.got(three.rests(0), three.rests(1), three.rests(2), three.rests(3)).due(0, 1, 3, 3);
    // 0|123 has 1 and 5/3, 01|23 has 1 and 1
    t.got(Rooms.of("oooo").rests(1), Rooms.of("oooo").rests(3), Rooms.of("oo|oo").rests(1)).due(1, 7, 1);
    // an ARM wins 1/3 among the three, and 1 between the two; two among the three win 4/3, as one each do
    t.got(Rooms.of("ooo-oo").rests(1), Rooms.of("ooo-oo").rests(2), Rooms.of("ooo-oo").rests(3)).due(8, 3, 11);
    // 1, 2 and 3 are three, and so are 4, 5 and 0: an ARM wins as much here as there
    t.got(Rooms.of("o-ooo-oo@").rests(1), Rooms.of("oooo@").rests(1), Rooms.of("oooo@").rests(2)).due(2, 0, 3);
    t.sentence(23, "ARMS by ANY: the PLACES, as bits.");
    t.got(new NextBench().rests(3), Rooms.of("oo").rests(0), Rooms.of("oo").rests(1), Rooms.of("oo@").rests(3),
        Rooms.of("ooo@").rests(3), Rooms.of(LAST_TWO).rests(1), Rooms.of(LAST_TWO).rests(3)).due(0, 0, 1, 0, 3, 1 << 10,
        1 << 10);
    t.got(Rooms.of("o|o").rests(3), Rooms.of("o|oo").rests(3), Rooms.of(TWELVE, 1).rests(3), Rooms.of("o-o", 3).rests(1))
        .due(0, 2, 0, 1);
    t.got(three.mean(0), three.mean(1), three.far(0, 2)).due(5, 3, 2);
  }

  private static void minutes(Sentences t) {
    t.sentence(24, "MINUTES, 1 to 3, from a FILLED set on: in each with odds of a half one comes (and takes a SEAT by a HABIT; if"
        + " there is none, is turned away)");
    NextBench one = new NextBench();
    for (int minutes = 1; minutes <= 3; minutes++) {
      oddsAre(t, one, new int[] {0, 2, minutes}, 0, 1, 2);
      oddsAre(t, one, new int[] {0, 2, minutes}, 1, 1, 2);
      oddsAre(t, one, new int[] {1, 2, minutes}, 1, 1, 2);
    }
    NextBench all = Rooms.of(TWELVE, 1);
    oddsAre(t, all, new int[] {0, 0, 3}, 3, 1, 8);
    oddsAre(t, all, new int[] {0, 0, 3}, 4, 0, 1);
    t.sentence(24, "else one of all who sit, all alike, goes (if nobody sits, nothing is).");
    oddsAre(t, all, new int[] {4095, 0, 3}, 9, 1, 8);
    oddsAre(t, all, new int[] {4095, 0, 3}, 8, 0, 1);
    oddsAre(t, one, new int[] {0, 0, 1}, 0, 1, 2);
    oddsAre(t, all, new int[] {0, 0, 3}, 0, 3, 8);
    // 1 and 4 sit: if 1 goes, the next one takes 0, and 2 is free; if 4 goes, the next one takes 3, and none is
    NextBench five = Rooms.of("ooooo");
    t.sentence(24, "ODDS of how many sit behind them");
    oddsAre(t, five, new int[] {0b10010, 2, 3}, 0, 1, 4);
    oddsAre(t, five, new int[] {0b10010, 2, 3}, 1, 3, 8);
    oddsAre(t, five, new int[] {0b10010, 2, 3}, 2, 5, 16);
    oddsAre(t, five, new int[] {0b10010, 2, 3}, 3, 1, 16);
    t.sentence(24, "MINUTES: the odds that n (0 to 12) sit then.");
    oddsAre(t, all, new int[] {4095, 3, 1}, 12, 1, 2);
    oddsAre(t, all, new int[] {4095, 3, 1}, 11, 1, 2);
    oddsAre(t, all, new int[] {4095, 3, 1}, 10, 0, 1);
    oddsAre(t, all, new int[] {4095, 3, 1}, 0, 0, 1);
    oddsAre(t, one, new int[] {0, 3, 1}, 12, 0, 1);
  }

  private static void oddsAre(Sentences t, NextBench x, int[] from, int n, long upper, long lower) {
    t.got(x.minutes(from[0], from[1], from[2], n, 0), x.minutes(from[0], from[1], from[2], n, 1)).due(upper, lower);
  }

  private static void minutesRefused(Sentences t) {
    t.sentence(24, "OUTSIDE: HABIT, minutes, n, part, bits");
    NextBench x = Rooms.of("ooooo");
    t.got(x.minutes(0, -1, 1, 0, 0), x.minutes(0, 6, 1, 0, 0), x.minutes(0, 0, 0, 0, 0), x.minutes(0, 0, 4, 0, 0),
        x.minutes(0, 0, 1, -1, 0), x.minutes(0, 0, 1, 13, 0), x.minutes(0, 0, 1, 0, -1), x.minutes(0, 0, 1, 0, 2),
        x.minutes(32, 0, 1, 0, 0), x.minutes(-1, 0, 1, 0, 0), x.minutes(LEAST_INT, 0, 1, 0, 0),
        x.minutes(0, MOST_INT, MOST_INT, MOST_INT, MOST_INT)).allDue(LOST - 2);
    t.sentence(24, "STATE: the set is not FILLED (LOST less 2, 3).");
    t.got(x.minutes(3, 0, 1, 0, 0), x.minutes(31, 5, 3, 12, 1), Rooms.of("ooooo@").minutes(0b10001, 0, 1, 0, 0))
        .allDue(LOST - 3);
    t.got(x.minutes(3, 6, 1, 0, 0), x.minutes(3, 0, 4, 0, 0), x.minutes(3, 0, 1, 13, 0), x.minutes(3, 0, 1, 0, 2),
        x.minutes(35, 0, 1, 0, 0)).allDue(LOST - 2);
  }

  private static void away(Sentences t) {
    t.sentence(25, "the mean of how many were turned away.");
    NextBench one = new NextBench();
    awayIs(t, one, new int[] {0, 0, 1}, 0, 1);
    awayIs(t, one, new int[] {0, 0, 2}, 1, 4);
    awayIs(t, one, new int[] {0, 0, 3}, 1, 2);
    awayIs(t, one, new int[] {1, 0, 1}, 1, 2);
    awayIs(t, one, new int[] {1, 0, 2}, 3, 4);
    awayIs(t, one, new int[] {1, 0, 3}, 1, 1);
    t.sentence(25, "The mean of how many were turned away.");
    awayIs(t, Rooms.of("ooooo"), new int[] {0b10010, 2, 3}, 15, 16);
    // with 0 there only the sunny 3 leaves nothing for the next one
    NextBench sunny = Rooms.worth("ooooo", 2, 0, 0, 0, 9);
    for (int habit = 0; habit < 6; habit++) {
      awayIs(t, sunny, new int[] {1, habit, 2}, habit == 1 ? 1 : 0, habit == 1 ? 4 : 1);
      oddsAre(t, sunny, new int[] {1, habit, 2}, 3, habit == 1 ? 0 : 1, habit == 1 ? 1 : 4);
    }
    // here the first one takes the sunny 1, which leaves nothing, by FAR too
    NextBench between = Rooms.worth("ooo", 2, 0, 9, 0);
    for (int habit = 0; habit < 6; habit++) {
      awayIs(t, between, new int[] {0, habit, 2}, habit < 2 ? 1 : 0, habit < 2 ? 4 : 1);
    }
    awayIs(t, Rooms.of(TWELVE, 1), new int[] {4095, 5, 1}, 1, 2);
    awayIs(t, Rooms.of(TWELVE, 1), new int[] {0, 5, 3}, 0, 1);
    awayIs(t, Rooms.of(TWELVE, 1), new int[] {2047, 5, 1}, 0, 1);
    t.sentence(25, "OUTSIDE, STATE, likewise.");
    NextBench x = Rooms.of("ooooo");
    t.got(x.away(0, -1, 1, 0), x.away(0, 6, 1, 0), x.away(0, 0, 0, 0), x.away(0, 0, 4, 0), x.away(0, 0, 1, -1),
        x.away(0, 0, 1, 2), x.away(32, 0, 1, 0), x.away(-1, 0, 1, 0), x.away(3, 6, 1, 0), x.away(3, 0, 4, 0),
        x.away(3, 0, 1, 2), x.away(35, 0, 1, 0)).allDue(LOST - 2);
    t.got(x.away(3, 0, 1, 0), x.away(31, 5, 3, 1)).allDue(LOST - 3);
  }

  private static void awayIs(Sentences t, NextBench x, int[] from, long upper, long lower) {
    t.got(x.away(from[0], from[1], from[2], 0), x.away(from[0], from[1], from[2], 1)).due(upper, lower);
  }
}
