/** Each promise by its number: ordinary calls, the edges that the document names, wrong calls. */
public final class PromiseTest implements Refusals {
  private static int wrong = 0;

  private static void due(int promise, String what, long got, long want) {
    if (got != want) {
      wrong++;
      System.out.println("promise " + promise + ": " + what + " answered " + got + ", due is " + want);
    }
  }

  /** Each answer of a row of calls in its order. */
  private static void dueAll(int promise, String what, long[] got, long... want) {
    for (int i = 0; i < Math.max(got.length, want.length); i++) {
      due(promise, what + " [" + i + "]", i < got.length ? got[i] : LEAST_INT, i < want.length ? want[i] : MOST_INT);
    }
  }

  private static long[] all(long... answers) {
    return answers;
  }

  public static void main(String[] args) {
    newObject();
    signs();
    faults();
    rooms();
    worths();
    bears();
    farness();
    mayBeTaken();
    takesByHabit();
    fills();
    wholeSets();
    meanAndOdds();
    firsts();
    games();
    pairs();
    late();
    longRows();
    arms();
    minutes();
    comers();
    seen();
    images();
    told();
    System.out.println(wrong == 0 ? "all promises hold" : wrong + " answers are not as due");
    if (wrong != 0) {
      System.exit(1);
    }
  }

  private static void newObject() {
    NextBench x = new NextBench();
    dueAll(1, "told", all(x.told(0), x.told(1), x.told(2), x.told(3), x.told(4), x.told(10), x.told(11)),
        1, 2, 0, 0, 0, 0, NONE);
    dueAll(1, "one seat", all(x.far(0, 0), x.far(0, 1), x.may(0), x.may(1), x.fits(), x.sits(0), x.see(0)),
        0, UNKNOWN, 1, 0, 63, UNKNOWN, STATE);
    dueAll(1, "nothing is kept", all(x.restore(0), x.restore(1)), STATE, STATE);
  }

  private static void signs() {
    NextBench x = new NextBench();
    dueAll(2, "edges", all(x.say(33), x.say(126), x.say(32), x.say(127), x.say(0), x.say(-1), x.say(LEAST_INT),
        x.say(MOST_INT), x.say(65536 + 'o')), 1, 2, OUTSIDE, OUTSIDE, OUTSIDE, OUTSIDE, OUTSIDE, OUTSIDE, OUTSIDE);
    for (int i = 3; i <= 30; i++) {
      due(2, "sign " + i, x.say('o'), i);
    }
    dueAll(2, "more than 30", all(x.say('o'), x.say(32), x.told(2)), FULL, OUTSIDE, 30);
    dueAll(3, "wipe", all(x.wipe(), x.told(2), x.wipe(), x.say('o')), 30, 0, 0, 1);
    due(3, "the room stays", x.told(0), 1);
  }

  private static void faults() {
    dueAll(4, "no seat as yet", all(Rooms.faultOf(""), Rooms.faultOf("-"), Rooms.faultOf("|-|")), 0, 1, 3);
    dueAll(4, "none", all(Rooms.faultOf("o"), Rooms.faultOf("o@"), Rooms.faultOf("-|o|-@"), Rooms.faultOf("oooooooooooo@"),
        Rooms.faultOf("oooooooooooo--||")), NONE, NONE, NONE, NONE, NONE);
    dueAll(4, "a thirteenth", all(Rooms.faultOf("ooooooooooooo"), Rooms.faultOf("o-o-o-o-o-o-o-o-o-o-o-o-o")), 12, 24);
    dueAll(4, "rings", all(Rooms.faultOf("@"), Rooms.faultOf("--@o"), Rooms.faultOf("o@@"),
        Rooms.faultOf("o@-"), Rooms.faultOf("oo@x")),
        0, 2, 2, 2, 3);
    dueAll(4, "other signs", all(Rooms.faultOf("oOo"), Rooms.faultOf("x"), Rooms.faultOf("oo0"),
        Rooms.faultOf("o-!~"), Rooms.faultOf("_o")),
        1, 0, 2, 2, 0);
  }

  private static void rooms() {
    NextBench x = new NextBench();
    dueAll(5, "empty", all(x.room(), x.told(0)), NO, 1);
    Rooms.tell(x, "oo@o");
    dueAll(5, "a fault changes nothing", all(x.room(), x.told(2), x.told(0)), NO, 4, 1);
    x.wipe();
    x.bear(3);
    x.come(2);
    x.worth(0, 7);
    x.begin();
    Rooms.tell(x, "o-o|o");
    dueAll(5, "a room", all(x.room(), x.told(0), x.told(1), x.told(2), x.told(3), x.told(4), x.told(10), x.told(12)),
        3, 3, 3, 0, 1, 0, 0, 0);
    Rooms.tell(x, "oooooooooooo");
    dueAll(5, "twelve, then one", all(x.room(), x.worth(11, 3), x.say('o'), x.room(), x.told(21), x.told(10)),
        12, 0, 1, 1, NONE, 0);
    Rooms.tell(x, "oooooooooooo");
    dueAll(5, "worths are 0 again", all(x.room(), x.told(21)), 12, 0);
  }

  private static void worths() {
    NextBench x = Rooms.of("ooo");
    dueAll(6, "worth", all(x.worth(0, 9), x.worth(0, 0), x.worth(0, 5), x.worth(2, 1), x.told(10), x.told(11),
        x.told(12)), 0, 9, 0, 0, 5, 0, 1);
    dueAll(6, "refused", all(x.worth(3, 0), x.worth(-1, 0), x.worth(3, 10), x.worth(0, 10), x.worth(0, -1),
        x.worth(LEAST_INT, MOST_INT), x.told(10)), UNKNOWN, UNKNOWN, UNKNOWN, OUTSIDE, OUTSIDE, UNKNOWN, 5);
  }

  private static void bears() {
    NextBench x = Rooms.of("oooo");
    x.begin();
    x.see(0);
    dueAll(7, "bear", all(x.bear(2), x.told(4), x.bear(0), x.bear(5), x.bear(-1), x.told(4), x.bear(4), x.told(4),
        x.bear(1), x.told(1)), 2, 1, OUTSIDE, OUTSIDE, OUTSIDE, 1, 2, 0, 4, 1);
    dueAll(7, "what hangs on it", all(x.whole(3), x.game(0, 0, 0), x.mean(0), x.bear(2), x.whole(3), x.game(0, 0, 0),
        x.mean(0), x.bear(4), x.whole(3), x.game(0, 1, 0), x.mean(0)), 4, 4, 4, 1, 2, 2, 2, 2, 1, 1, 1);
  }

  private static void farness() {
    NextBench row = Rooms.of("|-o--oo|o-");
    dueAll(8, "row", all(row.far(0, 0), row.far(0, 1), row.far(1, 2), row.far(0, 2), row.far(2, 0), row.far(2, 3),
        row.far(0, 3)), 0, 3, 1, 4, 4, 99, 99);
    NextBench ring = Rooms.of("-oo--o|oo@");
    dueAll(8, "ring", all(ring.far(0, 4), ring.far(2, 3), ring.far(3, 2), ring.far(1, 4)), 2, 7, 7, 3);
    NextBench cut = Rooms.of("|ooo@");
    dueAll(8, "ring with an arm at its head", all(cut.far(0, 2), cut.far(2, 0)), 2, 2);
    NextBench two = Rooms.of("o---o-@");
    dueAll(8, "ring of two", all(two.far(0, 1), two.far(1, 1)), 2, 0);
    NextBench one = Rooms.of("-o-@");
    dueAll(8, "ring of one", all(one.far(0, 0), one.may(0), one.may(1), one.fill(0, 5)), 0, 1, 0, 1);
    dueAll(8, "refused", all(row.far(4, 0), row.far(0, 4), row.far(-1, 0), row.far(0, MOST_INT), row.far(LEAST_INT, 0)),
        UNKNOWN, UNKNOWN, UNKNOWN, UNKNOWN, UNKNOWN);
  }

  private static void mayBeTaken() {
    NextBench x = Rooms.of("ooooo|o");
    dueAll(9, "may", all(x.may(0), x.may(1), x.may(4), x.may(0b100101), x.may(0b010101), x.may(32)),
        63, 0b111100, 0b110001, 0b010000, 0b100000, 31);
    dueAll(9, "refused", all(x.may(64), x.may(-1), x.may(LEAST_INT), x.may(3), x.may(64 | 3), x.may(0b11000)),
        OUTSIDE, OUTSIDE, OUTSIDE, STATE, OUTSIDE, STATE);
    x.bear(1);
    dueAll(9, "bear 1", all(x.may(3), x.may(63)), 60, 0);
    x.bear(4);
    dueAll(9, "bear 4", all(x.may(1), x.may(0b1001)), 0b110000, STATE);
  }

  private static void takesByHabit() {
    NextBench x = Rooms.of("ooooooo");
    x.worth(4, 6);
    x.worth(6, 6);
    dueAll(10, "nobody sits", all(x.takes(0, 0), x.takes(0, 1), x.takes(0, 2), x.takes(0, 3), x.takes(0, 4),
        x.takes(0, 5)), 4, 4, 0, 6, 0, 0);
    dueAll(10, "one sits", all(x.takes(8, 0), x.takes(8, 1), x.takes(8, 2), x.takes(8, 3), x.takes(8, 4),
        x.takes(8, 5)), 6, 6, 0, 6, 1, 0);
    dueAll(10, "seat 0", all(x.takes(1, 0), x.takes(1, 1), x.takes(1, 4), x.takes(1, 5),
        x.takes(4, 5)), 6, 6, 2, 6, 6);
    NextBench gaps = Rooms.of("oo-oo|o-o");
    dueAll(10, "ends", all(gaps.takes(0, 5), gaps.takes(16, 5), gaps.takes(48, 5), gaps.takes(0, 1)), 4, 5, 0, 0);
    dueAll(10, "none", all(x.takes(0b1010101, 0), x.takes(0b0100101, 3)), NONE, NONE);
    dueAll(10, "refused", all(x.takes(0, 6), x.takes(0, -1), x.takes(128, 0), x.takes(3, 0), x.takes(3, 6),
        x.takes(-1, 2)), OUTSIDE, OUTSIDE, OUTSIDE, STATE, OUTSIDE, OUTSIDE);
  }

  private static void fills() {
    NextBench x = Rooms.of("ooooooo");
    dueAll(11, "fill", all(x.fill(0, 0), x.fill(0, 2), x.fill(0, 3), x.fill(2, 2), x.fill(0b1010101, 4), x.fill(4, 0)),
        0b1001001, 0b1010101, 0b1010101, 0b0101010, 0b1010101, 0b1010101);
    x.worth(1, 9);
    x.worth(4, 9);
    dueAll(11, "by worth", all(x.fill(0, 1), x.fill(0, 0)), 0b1010010, 0b1010010);
    dueAll(11, "refused", all(x.fill(0, 6), x.fill(0, -1), x.fill(128, 0), x.fill(3, 0), x.fill(-128, 0)),
        OUTSIDE, OUTSIDE, OUTSIDE, STATE, OUTSIDE);
  }

  private static void wholeSets() {
    NextBench x = Rooms.of("ooooo");
    dueAll(12, "row of five", all(x.whole(0), x.whole(1), x.whole(2), x.whole(3)), 0b01001, 0b10101, 2, 3);
    dueAll(13, "row of five", all(x.ways(0), x.ways(1), x.ways(2), x.ways(3), x.ways(12)), 0, 0, 3, 1, 0);
    NextBench ring = Rooms.of("oooooo@");
    dueAll(12, "ring of six", all(ring.whole(0), ring.whole(1), ring.whole(2), ring.whole(3)), 0b001001, 0b010101, 2, 3);
    dueAll(13, "ring of six", all(ring.ways(2), ring.ways(3)), 3, 2);
    NextBench armed = Rooms.of("o|o|o|o|o|o|o|o|o|o|o|o");
    dueAll(12, "arms everywhere", all(armed.whole(0), armed.whole(3), armed.ways(12), armed.ways(11)), 4095, 12, 1, 0);
    dueAll(12, "refused", all(x.whole(4), x.whole(-1)), OUTSIDE, OUTSIDE);
    dueAll(13, "refused", all(x.ways(13), x.ways(-1)), OUTSIDE, OUTSIDE);
  }

  private static void meanAndOdds() {
    NextBench three = Rooms.of("ooo");
    dueAll(14, "three", all(three.mean(0), three.mean(1)), 5, 3);
    dueAll(15, "three", all(three.odds(1, 0), three.odds(1, 1), three.odds(2, 0), three.odds(2, 1), three.odds(3, 0),
        three.odds(3, 1), three.odds(12, 1), three.odds(0, 0)), 1, 3, 2, 3, 0, 1, 1, 0);
    NextBench twelve = Rooms.of("oooooooooooo");
    dueAll(14, "twelve", all(twelve.mean(0), twelve.mean(1)), 233249, 42525);
    NextBench four = Rooms.of("oooo", 3);
    dueAll(14, "four at bear 3", all(four.mean(0), four.mean(1)), 3, 2);
    dueAll(15, "four at bear 3", all(four.odds(1, 0), four.odds(1, 1), four.odds(2, 0), four.odds(2, 1)), 1, 2, 1, 2);
    dueAll(14, "refused", all(three.mean(2), three.mean(-1), three.mean(LEAST_INT)), LOST - 2, LOST - 2, LOST - 2);
    dueAll(15, "refused", all(three.odds(13, 0), three.odds(-1, 0), three.odds(0, 2), three.odds(0, -1)),
        LOST - 2, LOST - 2, LOST - 2, LOST - 2);
  }

  private static void firsts() {
    NextBench x = Rooms.of("ooooooo");
    dueAll(16, "far", all(x.first(0, 0), x.first(0, 1), x.first(0, 2), x.first(0, 3)), 2, 0, 4, 3);
    dueAll(16, "least number", all(x.first(2, 0), x.first(2, 1), x.first(2, 2), x.first(2, 3)), 0, 1, 4, 3);
    dueAll(16, "refused", all(x.first(6, 0), x.first(-1, 0), x.first(0, 4), x.first(0, -1)),
        OUTSIDE, OUTSIDE, OUTSIDE, OUTSIDE);
  }

  private static void games() {
    NextBench three = Rooms.of("ooo");
    dueAll(17, "three", all(three.game(0, 0, 0), three.game(0, 0, 1), three.game(0, 1, 0), three.game(0, 1, 1)),
        2, 0, 1, 1);
    NextBench x = Rooms.of("ooooooo");
    dueAll(17, "seven", all(x.game(1, 1, 0), x.game(1, 0, 1), x.game(0b1010101, 0, 0), x.game(0b1010101, 1, 1)),
        3, 4, 4, NONE);
    dueAll(17, "seven from nobody on", all(x.game(0, 0, 0), x.game(0, 0, 1), x.game(0, 1, 0), x.game(0, 1, 1)),
        3, 0, 3, 1);
    dueAll(17, "refused", all(x.game(128, 0, 0), x.game(0, 2, 0), x.game(0, -1, 0), x.game(0, 0, 2), x.game(0, 0, -1),
        x.game(3, 0, 0), x.game(3, 2, 0), x.game(-1, 0, 0)),
        OUTSIDE, OUTSIDE, OUTSIDE, OUTSIDE, OUTSIDE, STATE, OUTSIDE, OUTSIDE);
  }

  private static void pairs() {
    dueAll(18, "ring of six", all(Rooms.of("oooooo@").pairs(0), Rooms.of("oooooo@").pairs(1),
        Rooms.of("oooooo@", 1).pairs(1)), 2, 2, 3);
    dueAll(18, "gaps", all(Rooms.of("o-o-o").pairs(0), Rooms.of("oo-oo").pairs(0),
        Rooms.of("oo-oo", 3).pairs(0), Rooms.of("oo|oo", 4).pairs(1)),
        0, 2, 1, 2);
    // by turns 0 and 1 sit first, and leave 2 and 3, which are not 1 apart; best are 0 and 3 (through the ring), 1 and 2
    dueAll(18, "by turns is not best", all(Rooms.of("ooo-o@", 1).pairs(0), Rooms.of("ooo-o@", 1).pairs(1)), 1, 2);
    dueAll(18, "ring of two", all(Rooms.of("oo@").pairs(0), Rooms.of("oo@", 1).pairs(1), Rooms.of("o").pairs(1)), 1, 1, 0);
    dueAll(18, "refused", all(Rooms.of("oo").pairs(2), Rooms.of("oo").pairs(-1)), OUTSIDE, OUTSIDE);
  }

  private static void late() {
    NextBench x = Rooms.of("oooooooo", 4);
    dueAll(19, "late", all(x.late(2, 4), x.late(2, 3), x.late(2, 2), x.late(2, 1)), 2, 3, 4, 8);
    dueAll(19, "bear stays", all(x.told(1), x.may(1)), 4, 0b11110000);
    dueAll(19, "refused", all(x.late(6, 1), x.late(-1, 1), x.late(0, 0), x.late(0, 5), Rooms.of("oo").late(0, 3)),
        OUTSIDE, OUTSIDE, OUTSIDE, OUTSIDE, OUTSIDE);
  }

  private static void longRows() {
    NextBench x = Rooms.of("o|o-o", 4);
    dueAll(20, "rows", all(x.rows(1, 0), x.rows(2, 1), x.rows(3, 0), x.rows(3, 1), x.rows(7, 2), x.rows(200, 199),
        x.rows(200, 67)), 1, 1, 2, 1, 4, 72, 97);
    dueAll(20, "refused", all(x.rows(0, 0), x.rows(201, 0), x.rows(0, -1), x.rows(-5, 300), x.rows(5, 5), x.rows(5, -1),
        x.rows(LEAST_INT, 0), x.rows(200, MOST_INT)),
        OUTSIDE, OUTSIDE, OUTSIDE, OUTSIDE, UNKNOWN, UNKNOWN, OUTSIDE, UNKNOWN);
    dueAll(21, "longer", all(x.longer(1), x.longer(2), x.longer(3), x.longer(7), x.longer(60), x.longer(100)),
        1, 3, 5, 15, 124, NONE);
    dueAll(21, "refused", all(x.longer(0), x.longer(101), x.longer(-1)), OUTSIDE, OUTSIDE, OUTSIDE);
  }

  private static void arms() {
    NextBench x = Rooms.of("oooooo");
    dueAll(22, "by far", all(x.arms(0, 0, 0), x.arms(0, 0, 1), x.arms(0, 1, 0), x.arms(0, 1, 1), x.arms(0, 2, 0),
        x.arms(0, 3, 1)), 0, 3, 1, 4, 1, 5);
    dueAll(22, "nothing has changed", all(x.far(0, 5), x.may(1)), 5, 0b111100);
    NextBench armed = Rooms.of("o|ooo");
    dueAll(22, "an arm is there", all(armed.arms(2, 1, 0), armed.arms(2, 1, 1), armed.arms(2, 3, 0)), 0, 3, 6);
    // 0|1|23 and 012|3 are alike; the latter has fewer
    NextBench sunny = Rooms.of("oooo");
    sunny.worth(2, 5);
    dueAll(22, "the fewest ahead of the least", all(sunny.arms(0, 0, 1), sunny.arms(0, 2, 0), sunny.arms(0, 2, 1)),
        2, 4, 3);
    dueAll(22, "one seat", all(Rooms.of("o").arms(0, 3, 0), Rooms.of("o").arms(0, 3, 1)), 0, 1);
    dueAll(22, "a ring stays closed", all(Rooms.of("oo@").arms(0, 3, 0), Rooms.of("oo@").arms(0, 3, 1),
        Rooms.of("oo").arms(0, 3, 0)),
        0, 1, 1);
    dueAll(22, "refused", all(x.arms(6, 0, 0), x.arms(-1, 0, 0), x.arms(0, 4, 0), x.arms(0, -1, 0), x.arms(0, 0, 2),
        x.arms(0, 0, -1)), OUTSIDE, OUTSIDE, OUTSIDE, OUTSIDE, OUTSIDE, OUTSIDE);
    dueAll(23, "rests", all(x.rests(0), x.rests(1), x.rests(2), x.rests(3), armed.rests(1), Rooms.of("oooo", 1).rests(3)),
        0, 1, 3, 7, 2, 0);
    dueAll(23, "the mean is as it was", all(x.mean(0), x.mean(1)), 26, 9);
    dueAll(23, "refused", all(x.rests(4), x.rests(-1)), OUTSIDE, OUTSIDE);
  }

  private static void minutes() {
    NextBench x = Rooms.of("ooo");
    dueAll(24, "nobody, one minute", all(x.minutes(0, 0, 1, 0, 0), x.minutes(0, 0, 1, 0, 1), x.minutes(0, 0, 1, 1, 1),
        x.minutes(0, 0, 1, 2, 0), x.minutes(0, 0, 1, 12, 1)), 1, 2, 2, 0, 1);
    // seats 0 and 2 are taken: a half stays two (one turned away), a half is one; then from one a half each way
    dueAll(24, "two minutes", all(x.minutes(5, 2, 2, 2, 0), x.minutes(5, 2, 2, 2, 1), x.minutes(5, 2, 2, 1, 1),
        x.minutes(5, 2, 2, 0, 1)), 1, 2, 4, 4);
    dueAll(25, "two minutes", all(x.away(5, 2, 1, 0), x.away(5, 2, 1, 1), x.away(5, 2, 2, 0), x.away(5, 2, 2, 1),
        x.away(0, 2, 1, 0), x.away(0, 2, 1, 1)), 1, 2, 3, 4, 0, 1);
    NextBench armed = Rooms.of("o|o|o|o|o|o|o|o|o|o|o|o");
    dueAll(24, "twelve", all(armed.minutes(4095, 0, 3, 9, 1), armed.minutes(4095, 0, 3, 11, 0),
        armed.minutes(4095, 0, 3, 11, 1)), 8, 3, 8);
    dueAll(24, "refused", all(x.minutes(0, 6, 1, 0, 0), x.minutes(0, 0, 0, 0, 0), x.minutes(0, 0, 4, 0, 0),
        x.minutes(0, 0, 1, 13, 0), x.minutes(0, 0, 1, -1, 0), x.minutes(0, 0, 1, 0, 2), x.minutes(8, 0, 1, 0, 0),
        x.minutes(-1, 0, 1, 0, 0), x.minutes(3, 0, 1, 0, 0), x.minutes(3, 0, 1, 0, 2)), LOST - 2, LOST - 2, LOST - 2,
        LOST - 2, LOST - 2, LOST - 2, LOST - 2, LOST - 2, LOST - 3, LOST - 2);
    dueAll(25, "refused", all(x.away(0, 6, 1, 0), x.away(0, -1, 1, 0), x.away(0, 0, 0, 0), x.away(0, 0, 4, 0),
        x.away(0, 0, 1, 2), x.away(8, 0, 1, 0), x.away(3, 0, 1, 1), x.away(3, 0, 4, 1)), LOST - 2, LOST - 2, LOST - 2,
        LOST - 2, LOST - 2, LOST - 2, LOST - 3, LOST - 2);
  }

  private static void comers() {
    NextBench x = Rooms.of("ooooo");
    dueAll(26, "come", all(x.come(2), x.come(3), x.come(0), x.come(4), x.come(6), x.come(-1), x.told(3)),
        0, 1, 2, 3, OUTSIDE, OUTSIDE, 4);
    dueAll(28, "sits", all(x.sits(0), x.sits(1), x.sits(2), x.sits(3), x.sits(4), x.sits(-1), x.sits(MOST_INT)),
        0, 4, 2, NONE, UNKNOWN, UNKNOWN, UNKNOWN);
    x.bear(3);
    dueAll(28, "another bear", all(x.sits(1), x.sits(2), x.bear(1), x.sits(2), x.sits(3)), 4, NONE, 3, 2, 1);
    for (int i = 4; i < 12; i++) {
      due(26, "comer " + i, x.come(5), i);
    }
    dueAll(26, "full", all(x.come(0), x.come(6), x.told(3)), FULL, OUTSIDE, 12);
    Rooms.tell(x, "oo|oo");
    dueAll(28, "another room", all(x.room(), x.sits(0), x.sits(1), x.sits(4), x.told(3)), 4, 0, 3, NONE, 12);
    dueAll(27, "forget", all(x.forget(), x.told(3), x.sits(0), x.forget(), x.come(1)), 12, 0, UNKNOWN, 0, 0);
  }

  private static void seen() {
    NextBench x = Rooms.of("ooooo");
    dueAll(30, "no row", all(x.see(0), x.see(5), x.see(-1)), STATE, UNKNOWN, UNKNOWN);
    dueAll(31, "nothing seen", all(x.fits(), x.judge(0)), 63, NONE);
    dueAll(29, "begin", all(x.begin(), x.told(4)), 0, 1);
    dueAll(30, "see", all(x.see(0), x.see(0), x.see(1), x.see(5), x.see(4), x.see(2), x.see(3)),
        1, NO, NO, UNKNOWN, 2, 3, NO);
    dueAll(31, "fits", all(x.fits(), x.begin(), x.fits(), x.see(0), x.see(3), x.fits()), 0b100011, 1, 0b100011, 1, 2, 0);
    dueAll(32, "judge", all(x.judge(0), x.judge(2), x.judge(3), x.judge(5), x.judge(6), x.judge(-1)),
        101, 1, 0, 101, OUTSIDE, OUTSIDE);
    x.worth(3, 4);
    dueAll(32, "by worth", all(x.told(4), x.judge(1), x.fits()), 2, 0, 0);
    for (int row = 2; row < 8; row++) {
      due(29, "row " + row, x.begin(), row);
    }
    dueAll(29, "full", all(x.begin(), x.told(4), x.see(4), x.judge(3)), FULL, 8, 1, 0);
    NextBench twelve = Rooms.of("oooooooooooo", 1);
    twelve.begin();
    for (int seat = 0; seat < 12; seat++) {
      due(30, "twelve", twelve.see(seat), seat + 1);
    }
    dueAll(30, "all are taken", all(twelve.see(0), twelve.see(12), twelve.fits(), twelve.judge(3)), NO, UNKNOWN, 20, 0);
    Rooms.tell(twelve, "oo");
    dueAll(31, "another room", all(twelve.room(), twelve.told(4), twelve.fits(), twelve.see(0), twelve.begin(),
        twelve.see(1)), 2, 0, 63, STATE, 0, 1);
    NextBench one = Rooms.of("ooo");
    dueAll(32, "none", all(one.begin(), one.see(0), one.see(2), one.judge(0), one.judge(3), one.fits()),
        0, 1, 2, NONE, 0, 0b110111);
  }

  private static void images() {
    NextBench x = Rooms.of("o--o-@");
    x.worth(1, 8);
    x.bear(1);
    x.come(1);
    x.begin();
    x.see(1);
    dueAll(33, "image", all(x.image(0), x.image(2), x.image(-1)), 1, OUTSIDE, OUTSIDE);
    dueAll(34, "not kept", all(x.restore(1), x.restore(2), x.restore(-1)), STATE, OUTSIDE, OUTSIDE);
    due(34, "sets before", x.whole(1), 3);
    x.see(0);
    x.come(2);
    Rooms.tell(x, "oooo");
    dueAll(33, "changes", all(x.room(), x.bear(2), x.worth(1, 2), x.come(0), x.begin(), x.whole(1), x.say('o')),
        4, 1, 0, 2, 0, 5, 1);
    dueAll(34, "restore", all(x.restore(0), x.told(0), x.told(1), x.told(2), x.told(3), x.told(4), x.told(10), x.told(11),
        x.far(0, 1), x.whole(1), x.sits(0), x.see(0), x.image(1)), 1, 2, 1, 1, 1, 1, 0, 8, 2, 3, 1, 2, 1);
    dueAll(34, "the image is as it was", all(x.worth(1, 0), x.forget(), x.restore(0), x.told(11), x.told(3), x.see(0)),
        8, 1, 1, 8, 1, 2);
    dueAll(34, "the other one", all(x.bear(4), x.restore(1), x.told(1), x.see(0), x.game(0, 0, 0)), 1, 1, 1, NO, 2);
  }

  private static void told() {
    NextBench x = Rooms.of("ooo", 3);
    Rooms.tell(x, "o@");
    x.come(0);
    x.begin();
    x.worth(2, 6);
    dueAll(35, "told", all(x.told(0), x.told(1), x.told(2), x.told(3), x.told(4), x.told(10), x.told(12), x.told(13),
        x.told(21)), 3, 3, 2, 1, 1, 0, 6, NONE, NONE);
    dueAll(35, "refused", all(x.told(5), x.told(9), x.told(22), x.told(-1), x.told(LEAST_INT), x.told(MOST_INT)),
        OUTSIDE, OUTSIDE, OUTSIDE, OUTSIDE, OUTSIDE, OUTSIDE);
  }
}
