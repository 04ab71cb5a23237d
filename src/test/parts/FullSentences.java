import java.math.BigInteger;

/** Promises 12 to 19: how full. */
final class FullSentences implements Refusals {
  private static final String APART = "o|o|o|o|o|o|o|o|o|o|o|o";

  private FullSentences() {
  }

  static void test(Sentences t) {
    whole(t);
    ways(t);
    mean(t);
    odds(t);
    lowestTerms(t);
    first(t);
    game(t);
    gameRefused(t);
    pairs(t);
    mostPairs(t);
    late(t);
  }

  private static void whole(Sentences t) {
    t.sentence(12, "LEAST, MOST: WHOLE sets of the fewest, of the most SEATS, each the least as bits.");
    NextBench ring = Rooms.of(TWELVE + "@");
    t.got(ring.whole(0), ring.whole(1)).due(0b001001001001, 0b010101010101);
    // two that are 4 apart or more, with no SEAT 4 from both: 1 and 8 are the least of them as bits
    NextBench row = Rooms.of(TWELVE, 4);
    t.got(row.whole(0), row.whole(1), row.whole(2), row.whole(3)).due(0b000100000010, 0b000100010001, 2, 3);
    t.got(Rooms.of("oo").whole(0), Rooms.of("oo").whole(1), Rooms.of("oooo").whole(0), Rooms.of("oooo").whole(1))
        .due(1, 1, 0b0101, 0b0101);
    t.got(Rooms.of("ooo").whole(0), Rooms.of("ooo").whole(1)).due(0b010, 0b101);
    // the last SEAT of this ring lies between the other two, so the fewest are not the least as bits of all
    NextBench between = Rooms.of("o|oo@");
    t.got(between.whole(0), between.whole(1), between.whole(2), between.whole(3)).due(0b100, 0b011, 1, 2);
    t.sentence(12, "LEAST (what = 0), MOST (1): the set; how many (2, 3).");
    t.got(ring.whole(2), ring.whole(3), Rooms.of("ooo").whole(2), Rooms.of("ooo").whole(3)).due(4, 6, 1, 2);
    for (int what = 0; what < 4; what++) {
      t.got(new NextBench().whole(what), Rooms.of(APART, 4).whole(what), Rooms.of(TWELVE, 1).whole(what),
          Rooms.of("o@", 4).whole(what)).due(1, what < 2 ? 4095 : 12, what < 2 ? 4095 : 12, 1);
    }
    t.sentence(12, "OUTSIDE.");
    t.got(ring.whole(-1), ring.whole(4), ring.whole(LEAST_INT), ring.whole(MOST_INT)).allDue(OUTSIDE);
  }

  private static void ways(Sentences t) {
    t.sentence(13, "WAYS: how many WHOLE sets have so many.");
    NextBench ring = Rooms.of(TWELVE + "@");
    t.got(ring.ways(3), ring.ways(4), ring.ways(5), ring.ways(6), ring.ways(7)).due(0, 3, 24, 2, 0);
    t.got(Rooms.of("ooo").ways(1), Rooms.of("ooo").ways(2), Rooms.of("ooo@").ways(1), Rooms.of("oo").ways(1)).due(1, 1, 3, 2);
    t.sentence(13, "WAYS to be WHOLE with n (0 to 12).");
    t.got(ring.ways(0), ring.ways(12), new NextBench().ways(0), new NextBench().ways(1), new NextBench().ways(12)).due(0, 0,
        0, 1, 0);
    t.got(Rooms.of(APART).ways(12), Rooms.of(APART).ways(11), Rooms.of(TWELVE, 1).ways(12), Rooms.of(TWELVE, 1).ways(0))
        .due(1, 0, 1, 0);
    t.sentence(13, "OUTSIDE.");
    t.got(ring.ways(-1), ring.ways(13), ring.ways(LEAST_INT), ring.ways(MOST_INT)).allDue(OUTSIDE);
  }

  private static void mean(Sentences t) {
    t.sentence(14, "ANY: if each takes one of all SEATS that may be taken, all alike: MEAN of how many sit when it is WHOLE");
    meanIs(t, Rooms.of("ooo"), 5, 3);
    meanIs(t, Rooms.of("oooo"), 2, 1);
    // from the five SEATS: 2 with the second or fourth; 3 with the third; 1 and 5/3 with an end
    meanIs(t, Rooms.of("ooooo"), 37, 15);
    meanIs(t, Rooms.of("oooo", 3), 3, 2);
    meanIs(t, Rooms.of("ooo|ooo"), 10, 3);
    t.sentence(14, "MEAN.");
    meanIs(t, new NextBench(), 1, 1);
    meanIs(t, Rooms.of("ooo@"), 1, 1);
    meanIs(t, Rooms.of(TWELVE, 1), 12, 1);
    meanIs(t, Rooms.of(APART, 4), 12, 1);
    t.sentence(14, "OUTSIDE: the part (LOST less 2).");
    NextBench x = Rooms.of("ooo");
    t.got(x.mean(-1), x.mean(2), x.mean(LEAST_INT), x.mean(MOST_INT)).allDue(LOST - 2);
  }

  private static void meanIs(Sentences t, NextBench x, long upper, long lower) {
    t.got(x.mean(0), x.mean(1)).due(upper, lower);
  }

  private static void odds(Sentences t) {
    t.sentence(15, "ODDS of each number.");
    oddsAre(t, Rooms.of("ooo"), 1, 1, 3);
    oddsAre(t, Rooms.of("ooo"), 2, 2, 3);
    oddsAre(t, Rooms.of("ooooo"), 2, 8, 15);
    oddsAre(t, Rooms.of("ooooo"), 3, 7, 15);
    oddsAre(t, Rooms.of("oooo", 3), 1, 1, 2);
    oddsAre(t, Rooms.of("ooooo@"), 2, 1, 1);
    oddsAre(t, Rooms.of("oooooo@"), 3, 2, 3);
    t.sentence(15, "ODDS of n (0 to 12).");
    oddsAre(t, Rooms.of("ooo"), 0, 0, 1);
    oddsAre(t, Rooms.of("ooo"), 3, 0, 1);
    oddsAre(t, Rooms.of("ooo"), 12, 0, 1);
    oddsAre(t, new NextBench(), 1, 1, 1);
    oddsAre(t, new NextBench(), 0, 0, 1);
    oddsAre(t, Rooms.of(APART), 12, 1, 1);
    oddsAre(t, Rooms.of(APART), 11, 0, 1);
    oddsAre(t, Rooms.of(TWELVE, 1), 12, 1, 1);
    t.sentence(15, "OUTSIDE (LOST less 2).");
    NextBench x = Rooms.of(TWELVE);
    t.got(x.odds(-1, 0), x.odds(13, 0), x.odds(13, 1), x.odds(4, -1), x.odds(4, 2), x.odds(LEAST_INT, 0),
        x.odds(0, MOST_INT), x.odds(13, 2)).allDue(LOST - 2);
  }

  private static void oddsAre(Sentences t, NextBench x, int n, long upper, long lower) {
    t.got(x.odds(n, 0), x.odds(n, 1)).due(upper, lower);
  }

  private static void lowestTerms(Sentences t) {
    t.sentence(15, "Fractions are told by part: 0 the upper, 1 the lower number, in lowest terms");
    for (String text : new String[] {"o", "oo", TWELVE, TWELVE + "@", "o-ooo|oo-oo@", APART, "oooooo|oooooo"}) {
      for (int bear = 1; bear <= 4; bear++) {
        NextBench x = Rooms.of(text, bear);
        inLowestTerms(t, x.mean(0), x.mean(1));
        for (int n = 0; n <= 12; n++) {
          inLowestTerms(t, x.odds(n, 0), x.odds(n, 1));
          inLowestTerms(t, x.minutes(1, 2, 3, n, 0), x.minutes(1, 2, 3, n, 1));
        }
        inLowestTerms(t, x.away(1, 0, 3, 0), x.away(1, 0, 3, 1));
      }
    }
  }

  private static void inLowestTerms(Sentences t, long upper, long lower) {
    long common = BigInteger.valueOf(upper).gcd(BigInteger.valueOf(lower)).longValue();
    t.got(common, Math.min(upper, 0), Math.min(lower, 1)).due(1, 0, 1);
  }

  private static void first(Sentences t) {
    t.sentence(16, "FIRST by a HABIT: the SEAT for the first one by which, all others by that HABIT, most (fewest) come in,"
        + " the least such.");
    NextBench three = Rooms.of("ooo");
    t.got(three.first(0, 0), three.first(0, 1), three.first(3, 0), three.first(3, 1)).due(0, 1, 0, 1);
    // from 2 on the farthest rule fills 6, 0 and 4; from 4 on likewise, but 2 is the least
    NextBench seven = Rooms.of("ooooooo");
    t.got(seven.first(0, 0), seven.first(0, 1), seven.first(2, 0), seven.first(2, 1)).due(2, 0, 0, 1);
    t.got(Rooms.of("oo|o").first(0, 0), Rooms.of("oo|o").first(0, 1), Rooms.of("o-ooo").first(0, 1)).due(0, 0, 2);
    t.sentence(16, "FIRST by a HABIT for most (what = 0), fewest (1): the SEAT; how many come in (2, 3).");
    t.got(three.first(0, 2), three.first(0, 3), seven.first(0, 2), seven.first(0, 3), seven.first(2, 2), seven.first(2, 3))
        .due(2, 1, 4, 3, 4, 3);
    NextBench ring = Rooms.of(TWELVE + "@");
    NextBench one = new NextBench();
    for (int habit = 0; habit < 6; habit++) {
      t.got(one.first(habit, 0), one.first(habit, 1), one.first(habit, 2), one.first(habit, 3)).due(0, 0, 1, 1);
      t.got(Rooms.of(TWELVE, 1).first(habit, 2), Rooms.of(TWELVE, 1).first(habit, 3)).due(12, 12);
    }
    t.got(ring.first(0, 0), ring.first(0, 1), ring.first(0, 2), ring.first(0, 3)).due(0, 0, 4, 4);
    // all but the last three are alone; of those three the one between keeps both others out
    NextBench last = Rooms.of("o|o|o|o|o|o|o|o|o|ooo");
    t.got(last.first(0, 0), last.first(0, 1), last.first(0, 2), last.first(0, 3)).due(0, 10, 11, 10);
    t.sentence(16, "OUTSIDE.");
    t.got(three.first(-1, 0), three.first(6, 0), three.first(0, -1), three.first(0, 4), three.first(LEAST_INT, 0),
        three.first(5, MOST_INT)).allDue(OUTSIDE);
  }

  private static void game(Sentences t) {
    t.sentence(17, "GAME: a KIND one and a WICKED one take SEATS by turns from a FILLED set on; the one wants most in the end,"
        + " the other one fewest, both as well as can be: how many sit in the end");
    NextBench three = Rooms.of("ooo");
    NextBench five = Rooms.of("ooooo");
    t.got(three.game(0, 0, 0), three.game(0, 1, 0), five.game(0, 0, 0), five.game(0, 1, 0)).due(2, 1, 3, 2);
    t.got(five.game(1, 1, 0), five.game(1, 0, 0), five.game(4, 1, 0), five.game(2, 0, 0)).due(2, 3, 3, 2);
    t.sentence(17, "the least SEAT for whose turn it is by which it comes so.");
    t.got(three.game(0, 0, 1), three.game(0, 1, 1), five.game(0, 0, 1), five.game(0, 1, 1)).due(0, 1, 2, 1);
    t.got(five.game(1, 1, 1), five.game(1, 0, 1), five.game(4, 1, 1), five.game(2, 0, 1), five.game(16, 1, 1)).due(3, 2, 0, 3,
        1);
    t.got(Rooms.of("oo").game(0, 0, 1), Rooms.of("oo").game(0, 1, 1), Rooms.of(TWELVE, 1).game(2047, 1, 1)).due(0, 0, 11);
    // from another ROOM, another BEAR on it is another GAME
    NextBench changed = Rooms.of("ooo");
    t.got(changed.game(0, 0, 0), changed.bear(1), changed.game(0, 0, 0), changed.image(0), changed.bear(4), changed.game(0, 0, 0))
        .due(2, 2, 3, 1, 1, 1);
    t.got(changed.restore(0), changed.game(0, 0, 0), changed.say('o'), changed.room(), changed.game(0, 0, 0)).due(1, 3, 1, 1, 1);
    t.sentence(17, "GAME: how many (what = 0), the SEAT (1; NONE: it is WHOLE), the KIND one's turn (turn = 0), the WICKED"
        + " one's (1).");
    for (int turn = 0; turn < 2; turn++) {
      t.got(five.game(0b10101, turn, 0), five.game(0b10101, turn, 1), five.game(0b01001, turn, 0),
          five.game(0b01001, turn, 1), five.game(0b10001, turn, 0), five.game(0b10001, turn, 1)).due(3, NONE, 2, NONE, 3, 2);
      t.got(new NextBench().game(0, turn, 0), new NextBench().game(0, turn, 1), new NextBench().game(1, turn, 0),
          new NextBench().game(1, turn, 1)).due(1, 0, 1, NONE);
      t.got(Rooms.of(TWELVE, 1).game(0, turn, 0), Rooms.of(TWELVE, 1).game(4095, turn, 0),
          Rooms.of(APART).game(4095, turn, 1), Rooms.of(TWELVE + "@").game(0b010101010101, turn, 0)).due(12, 12, NONE, 6);
    }
  }

  private static void gameRefused(Sentences t) {
    t.sentence(17, "OUTSIDE; STATE: the set is not FILLED.");
    NextBench x = Rooms.of("ooooo");
    t.got(x.game(0, -1, 0), x.game(0, 2, 0), x.game(0, 0, -1), x.game(0, 0, 2), x.game(32, 0, 0), x.game(-1, 0, 0),
        x.game(LEAST_INT, 1, 1), x.game(3, 2, 0), x.game(3, 0, 2), x.game(35, 0, 0), x.game(0b10101, 0, MOST_INT))
        .allDue(OUTSIDE);
    t.got(x.game(3, 0, 0), x.game(3, 1, 1), x.game(31, 0, 1), Rooms.of("ooooo@").game(0b10001, 0, 0),
        Rooms.of("ooooo", 3).game(0b00101, 0, 0)).allDue(STATE);
  }

  private static void pairs(Sentences t) {
    t.sentence(18, "PAIRS: two come together, and take two SEATS that are 1 apart, each as far as BEAR or farther from all who"
        + " sat");
    t.got(Rooms.of("ooo", 1).pairs(0), Rooms.of("oooo", 1).pairs(0)).due(1, 2);
    t.got(Rooms.of("oooo", 2).pairs(0), Rooms.of("ooooo", 2).pairs(0)).due(1, 2);
    t.got(Rooms.of("ooooo", 3).pairs(0), Rooms.of("oooooo", 3).pairs(0)).due(1, 2);
    t.got(Rooms.of("oooooo", 4).pairs(0), Rooms.of("ooooooo", 4).pairs(0)).due(1, 2);
    t.got(Rooms.of("o-o-o").pairs(0), Rooms.of("o|o|o").pairs(0), Rooms.of("oo-oo").pairs(0), Rooms.of("oo-oo", 3).pairs(0),
        Rooms.of("oo|oo", 4).pairs(0)).due(0, 0, 2, 1, 2);
    t.sentence(18, "the first two by the lesser SEAT, then the other one; till none can: how many pairs.");
    // 0 with 1 ahead of 0 with 3; then 2 and 3 are not 1 apart
    t.got(Rooms.of("ooo-o@", 1).pairs(0), Rooms.of("o-oo-o@", 1).pairs(0), Rooms.of("o-oo-o@", 2).pairs(0)).due(1, 2, 2);
    t.got(Rooms.of(TWELVE + "@", 1).pairs(0), Rooms.of(TWELVE + "@", 2).pairs(0), Rooms.of("ooooooooooo@", 2).pairs(0),
        Rooms.of(TWELVE, 1).pairs(0)).due(6, 4, 3, 6);
    t.got(new NextBench().pairs(0), Rooms.of("o@").pairs(0), Rooms.of("oo").pairs(0), Rooms.of("oo@", 4).pairs(0)).due(0, 0,
        1, 1);
    t.sentence(18, "OUTSIDE.");
    t.got(Rooms.of("oo").pairs(-1), Rooms.of("oo").pairs(2), Rooms.of("oo").pairs(LEAST_INT), Rooms.of("oo").pairs(MOST_INT))
        .allDue(OUTSIDE);
  }

  private static void mostPairs(Sentences t) {
    t.sentence(18, "MOST PAIRS: the most that can sit so at once (each two of unlike pairs as far as BEAR or farther).");
    t.got(Rooms.of("ooo-o@", 1).pairs(1), Rooms.of("ooooo", 2).pairs(1), Rooms.of("oooo", 2).pairs(1)).due(2, 2, 1);
    t.got(Rooms.of("oooooo", 3).pairs(1), Rooms.of("ooooo", 3).pairs(1), Rooms.of("ooooooo", 4).pairs(1),
        Rooms.of("oooooo", 4).pairs(1)).due(2, 1, 2, 1);
    t.sentence(18, "PAIRS (what = 0), MOST PAIRS (1).");
    t.got(new NextBench().pairs(1), Rooms.of("o@").pairs(1), Rooms.of("oo").pairs(1), Rooms.of("oo@", 4).pairs(1),
        Rooms.of("o|o|o").pairs(1)).due(0, 0, 1, 1, 0);
    t.got(Rooms.of(TWELVE + "@", 1).pairs(1), Rooms.of(TWELVE + "@", 2).pairs(1), Rooms.of(TWELVE + "@", 3).pairs(1),
        Rooms.of(TWELVE + "@", 4).pairs(1), Rooms.of(TWELVE, 1).pairs(1)).due(6, 4, 3, 2, 6);
    t.got(Rooms.of("ooooo@").pairs(1), Rooms.of("oooooo@").pairs(1), Rooms.of("ooooo@", 1).pairs(1)).due(1, 2, 2);
    // asked again, and in another ROOM with another BEAR
    NextBench again = Rooms.of(TWELVE + "@", 4);
    t.got(again.pairs(1), again.pairs(0), again.pairs(1), again.bear(1), again.pairs(1), again.pairs(0)).due(2, 2, 2, 4, 6, 6);
    Rooms.tell(again, "ooo|oo");
    t.got(again.room(), again.pairs(0), again.pairs(1), again.pairs(0)).due(5, 2, 2, 2);
  }

  private static void late(Sentences t) {
    t.sentence(19, "LATE: filled by a HABIT from nobody on; then each less BEAR by one, down to 1, fills on likewise: how many"
        + " sit behind each.");
    NextBench seven = Rooms.of("ooooooo", 3);
    t.got(seven.late(2, 3), seven.late(2, 2), seven.late(2, 1), Rooms.of("ooooooo", 2).late(2, 2)).due(3, 3, 7, 4);
    NextBench five = Rooms.of("ooooo", 4);
    for (int habit = 0; habit < 6; habit++) {
      t.got(five.late(habit, 4), five.late(habit, 3), five.late(habit, 2), five.late(habit, 1)).due(2, 2, 3, 5);
    }
    NextBench ring = Rooms.of(TWELVE + "@", 4);
    t.got(ring.late(0, 4), ring.late(0, 3), ring.late(0, 2), ring.late(0, 1)).due(2, 4, 4, 12);
    t.got(ring.late(2, 4), ring.late(2, 3), ring.late(2, 2), ring.late(2, 1)).due(3, 3, 6, 12);
    t.sentence(19, "LATE: how many sit by a HABIT at BEAR v in the end.");
    t.got(new NextBench().late(0, 2), new NextBench().late(0, 1), Rooms.of(TWELVE, 1).late(5, 1), Rooms.of(TWELVE, 4).late(5, 1),
        Rooms.of(APART, 4).late(3, 4)).due(1, 1, 12, 12, 12);
    t.got(five.told(1), five.may(1), five.late(0, 4)).due(4, 16, 2);
    t.sentence(19, "OUTSIDE: HABIT; v 1 to BEAR.");
    for (int bear = 1; bear <= 4; bear++) {
      NextBench x = Rooms.of("ooo", bear);
      t.got(x.late(0, 0), x.late(0, bear + 1), x.late(0, -1), x.late(0, MOST_INT), x.late(-1, 1), x.late(6, bear),
          x.late(LEAST_INT, 1)).allDue(OUTSIDE);
      t.got(Math.min(1, x.late(0, 1)), Math.min(1, x.late(5, bear))).due(1, 1);
    }
  }
}
