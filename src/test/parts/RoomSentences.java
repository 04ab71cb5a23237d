/** Promises 1 to 8: rooms. */
final class RoomSentences implements Refusals {
  private RoomSentences() {
  }

  static void test(Sentences t) {
    newObject(t);
    say(t);
    wipe(t);
    faultsByKind(t);
    faultsByPlace(t);
    room(t);
    roomRefused(t);
    worth(t);
    bear(t);
    farInRows(t);
    farInRings(t);
    farRefused(t);
  }

  private static String gaps(int count) {
    return "-".repeat(count);
  }

  private static void newObject(Sentences t) {
    NextBench x = new NextBench();
    t.sentence(1, "A ROOM of one SEAT (o)");
    t.got(x.told(0), x.told(10), x.told(11), x.far(0, 0), x.far(0, 1), x.far(1, 0)).due(1, 0, NONE, 0, UNKNOWN, UNKNOWN);
    t.got(x.may(0), x.may(1), x.may(2), x.fill(0, 0), x.whole(1), x.ways(1)).due(1, 0, OUTSIDE, 1, 1, 1);
    t.sentence(1, "BEAR 2");
    t.got(x.told(1), x.bear(2)).due(2, 2);
    t.sentence(1, "no COMERS");
    t.got(x.told(3), x.sits(0), x.forget(), x.come(0)).due(0, UNKNOWN, 0, 0);
    t.sentence(1, "nothing is SEEN");
    t.got(x.told(4), x.see(0), x.fits(), x.judge(0), x.begin()).due(0, STATE, 63, NONE, 0);
    t.sentence(1, "the PAD is empty");
    t.got(x.told(2), x.fault(), x.room(), x.wipe(), x.say('o')).due(0, 0, NO, 0, 1);

    t.sentence(1, "A ROOM of one SEAT (o); BEAR 2; no COMERS, nothing is SEEN; the PAD is empty.");
    NextBench used = Rooms.worth("ooo@", 4, 1, 2, 3);
    t.got(used.say('o'), used.come(1), used.begin(), used.image(0)).due(1, 0, 0, 1);
    NextBench other = new NextBench();
    t.got(other.told(0), other.told(1), other.told(2), other.told(3), other.told(4), other.told(10), other.restore(0),
        other.restore(1)).due(1, 2, 0, 0, 0, 0, STATE, STATE);
  }

  private static void say(Sentences t) {
    t.sentence(2, "A sign more: how many.");
    NextBench x = new NextBench();
    for (int i = 1; i <= 30; i++) {
      t.got(x.say(i % 2 == 0 ? '-' : 'o'), x.told(2)).due(i, i);
    }
    t.sentence(2, "A ROOM is a text of up to 30 signs (codes 33 to 126), read from left to right:");
    NextBench codes = new NextBench();
    for (int code = 33; code <= 126; code++) {
      t.got(codes.say(code), codes.told(2), codes.wipe()).due(1, 1, 1);
    }
    NextBench longest = Rooms.of("o-o-o-o-o-o-o-o-o-o-o-o-------");
    t.got(longest.told(0), longest.told(2), longest.far(0, 11)).due(12, 0, 22);
    t.sentence(2, "OUTSIDE; FULL.");
    NextBench y = new NextBench();
    t.got(y.say(32), y.say(127), y.say(0), y.say(-1), y.say(LEAST_INT), y.say(MOST_INT), y.say(256 + 'o'),
        y.say(65536 + 'o'), y.say(-'o')).allDue(OUTSIDE);
    t.got(y.told(2), y.fault()).due(0, 0);
    Rooms.tell(y, "o" + gaps(28));
    t.got(y.told(2), y.say('@')).due(29, 30);
    t.got(y.say('o'), y.say('-'), y.say('@'), y.say(33), y.say(126)).allDue(FULL);
    t.got(y.say(32), y.say(127)).allDue(OUTSIDE);
    t.got(y.told(2), y.fault(), y.room()).due(30, NONE, 1);
    t.got(y.say('o')).due(1);
  }

  private static void wipe(Sentences t) {
    t.sentence(3, "Signs go: how many there were.");
    NextBench x = Rooms.of("o|o");
    t.got(x.wipe(), x.say('x'), x.wipe(), x.wipe(), x.told(2), x.fault()).due(0, 1, 1, 0, 0, 0);
    Rooms.tell(x, gaps(30));
    t.got(x.say('o'), x.wipe(), x.told(2), x.fault(), x.say('o'), x.fault()).due(FULL, 30, 0, 0, 1, NONE);
    t.got(x.told(0), x.far(0, 1)).due(2, 99);
  }

  private static void faultsByKind(Sentences t) {
    t.sentence(4, "o (a SEAT; 1 to 12), - (a gap), | (an ARM), and perhaps an @ as the last sign (a ring).");
    t.got(Rooms.faultOf("o"), Rooms.faultOf(TWELVE), Rooms.faultOf("-o"), Rooms.faultOf("o-"), Rooms.faultOf("|o"),
        Rooms.faultOf("o|"), Rooms.faultOf("o||--||o"), Rooms.faultOf("o@"), Rooms.faultOf(TWELVE + "@"),
        Rooms.faultOf("-|o-|@")).allDue(NONE);
    t.sentence(4, "a thirteenth o");
    t.got(Rooms.faultOf(TWELVE), Rooms.faultOf(TWELVE + "-"), Rooms.faultOf(TWELVE + "o"), Rooms.faultOf(TWELVE + "-o"),
        Rooms.faultOf(TWELVE + "oo")).due(NONE, NONE, 12, 13, 12);
    t.got(Rooms.faultOf(gaps(18) + TWELVE), Rooms.faultOf(gaps(17) + TWELVE + "o")).due(NONE, 29);
    t.sentence(4, "an @ ahead of the first o");
    t.got(Rooms.faultOf("@"), Rooms.faultOf("@o"), Rooms.faultOf("-@"), Rooms.faultOf("|@o"), Rooms.faultOf("o@"))
        .due(0, 0, 1, 1, NONE);
    t.got(Rooms.faultOf(gaps(29) + "@"), Rooms.faultOf(gaps(28) + "o@")).due(29, NONE);
    t.sentence(4, "any sign behind @");
    for (char sign = 33; sign <= 126; sign++) {
      t.got(Rooms.faultOf("o@" + sign), Rooms.faultOf("oo-@" + sign + "o")).due(2, 4);
    }
    t.got(Rooms.faultOf("o" + gaps(28) + "@"), Rooms.faultOf("o" + gaps(27) + "@-")).due(NONE, 29);
    t.sentence(4, "all others");
    for (char sign = 33; sign <= 126; sign++) {
      boolean other = "o-|@".indexOf(sign) < 0;
      t.got(Rooms.faultOf("o" + sign), Rooms.faultOf("o" + sign + "-")).due(other ? 1 : NONE,
          other ? 1 : sign == '@' ? 2 : NONE);
    }
    t.got(Rooms.faultOf("O"), Rooms.faultOf("0"), Rooms.faultOf("x"), Rooms.faultOf("_o"), Rooms.faultOf("-!o")).due(0, 0,
        0, 0, 1);
  }

  private static void faultsByPlace(Sentences t) {
    t.sentence(4, "THE FAULT: the place (from 0 on) of the first sign that can not stand there (a thirteenth o; an @ ahead"
        + " of the first o; any sign behind @; all others)");
    t.got(Rooms.faultOf("x@oo"), Rooms.faultOf("oxx"), Rooms.faultOf("--@x"), Rooms.faultOf("o@@x"),
        Rooms.faultOf("o" + gaps(28) + "x"), Rooms.faultOf("-x")).due(0, 1, 2, 2, 29, 1);
    t.sentence(4, "the number of signs, if more must come (no o as yet).");
    t.got(Rooms.faultOf(""), Rooms.faultOf("-"), Rooms.faultOf("|"), Rooms.faultOf("-|-"), Rooms.faultOf(gaps(29)),
        Rooms.faultOf(gaps(30)), Rooms.faultOf(gaps(29) + "o")).due(0, 1, 1, 3, 29, 30, NONE);
    t.sentence(4, "THE FAULT; NONE.");
    NextBench x = new NextBench();
    t.got(x.fault(), x.say('-'), x.fault(), x.say('o'), x.fault(), x.fault(), x.told(2)).due(0, 1, 1, 2, NONE, NONE, 2);
    t.got(x.room(), x.fault(), x.say('x'), x.fault(), x.wipe(), x.fault()).due(1, 0, 1, 0, 1, 0);
  }

  private static void room(Sentences t) {
    t.sentence(5, "The ROOM is the signs'");
    NextBench x = new NextBench();
    Rooms.tell(x, "o-o|o");
    t.got(x.room(), x.told(0), x.far(0, 1), x.far(1, 2), x.may(0)).due(3, 3, 2, 99, 7);
    t.sentence(5, "SEATS are numbered from 0 on as written.");
    Rooms.tell(x, "-o-o---oo");
    t.got(x.room(), x.far(0, 1), x.far(1, 2), x.far(2, 3), x.far(4, 3)).due(4, 2, 4, 1, UNKNOWN);
    t.sentence(5, "SEATS. NO: there is a FAULT.");
    Rooms.tell(x, TWELVE + gaps(17) + "@");
    t.got(x.told(2), x.fault(), x.room(), x.far(11, 0), x.say('o'), x.room(), x.told(0), x.may(0)).due(30, NONE, 12, 11, 1,
        1, 1, 1);
    t.sentence(5, "they are gone then");
    t.got(x.say('o'), x.say('o'), x.room(), x.told(2), x.fault(), x.wipe(), x.room(), x.told(0)).due(1, 2, 2, 0, 0, 0, NO,
        2);
    t.sentence(5, "WORTHS are 0");
    NextBench worths = Rooms.of(TWELVE);
    t.got(worths.worth(0, 9), worths.worth(11, 9), worths.say('o'), worths.room(), worths.told(10)).due(0, 0, 1, 1, 0);
    Rooms.tell(worths, TWELVE);
    t.got(worths.room(), worths.told(10), worths.told(21), worths.takes(0, 1)).due(12, 0, 0, 0);
    t.sentence(5, "nothing is SEEN any more");
    NextBench seen = Rooms.of("oo");
    t.got(seen.begin(), seen.see(1), seen.begin(), seen.told(4), seen.fits()).due(0, 1, 1, 2, 8);
    Rooms.tell(seen, "oo");
    t.got(seen.room(), seen.told(4), seen.fits(), seen.judge(0), seen.see(0), seen.begin(), seen.see(0)).due(2, 0, 63, NONE,
        STATE, 0, 1);
    t.sentence(5, "The ROOM is the signs' (they are gone then; WORTHS are 0, nothing is SEEN any more): SEATS.");
    NextBench kept = Rooms.of("ooo", 3);
    t.got(kept.come(3), kept.image(1), kept.say('o'), kept.say('o'), kept.room()).due(0, 1, 1, 2, 2);
    t.got(kept.told(1), kept.told(3), kept.sits(0), kept.restore(1), kept.told(0)).due(3, 1, 1, 1, 3);
  }

  private static void roomRefused(Sentences t) {
    t.sentence(5, "NO: there is a FAULT.");
    String[] faulty = {"", "-", "x", "o@o", "@", TWELVE + "o", gaps(30), "o" + gaps(28) + "x"};
    for (String text : faulty) {
      NextBench x = Rooms.worth("oo|o", 1, 0, 7);
      x.begin();
      x.see(2);
      Rooms.tell(x, text);
      int fault = x.fault();
      t.got(x.room(), x.told(0), x.told(2), x.fault(), x.told(4), x.told(11), x.judge(2), x.far(1, 2)).due(NO, 3,
          text.length(), fault, 1, 7, 0, 99);
    }
  }

  private static void worth(Sentences t) {
    t.sentence(6, "WORTH of a SEAT: which it was.");
    NextBench x = Rooms.of(TWELVE);
    t.got(x.worth(0, 5), x.worth(0, 5), x.worth(0, 3), x.told(10), x.told(11)).due(0, 5, 5, 3, 0);
    t.got(x.worth(11, 8), x.told(21), x.worth(11, 0), x.told(21)).due(0, 8, 8, 0);
    t.sentence(6, "WORTH of a SEAT: 0 to 9 (0 at first).");
    for (int seat = 1; seat < 12; seat++) {
      t.got(x.told(10 + seat), x.worth(seat, 9), x.told(10 + seat), x.worth(seat, 0), x.told(10 + seat)).due(0, 0, 9, 9, 0);
    }
    t.sentence(6, "UNKNOWN; OUTSIDE.");
    t.got(x.worth(12, 0), x.worth(-1, 0), x.worth(LEAST_INT, 0), x.worth(MOST_INT, 0)).allDue(UNKNOWN);
    t.got(x.worth(0, 10), x.worth(0, -1), x.worth(0, LEAST_INT), x.worth(0, MOST_INT), x.worth(11, 10)).allDue(OUTSIDE);
    t.got(x.worth(12, 10), x.worth(-1, -1), x.worth(MOST_INT, MOST_INT)).allDue(UNKNOWN);
    t.got(x.told(10), x.told(21)).due(3, 0);
    NextBench one = new NextBench();
    t.got(one.worth(1, 1), one.worth(0, 9), one.worth(0, 0)).due(UNKNOWN, 0, 9);
  }

  private static void bear(Sentences t) {
    t.sentence(7, "BEAR: which it was.");
    NextBench x = Rooms.worth("ooooo", 2, 4);
    t.got(x.bear(1), x.bear(2), x.bear(3), x.bear(4), x.bear(4), x.bear(1), x.told(1)).due(2, 1, 2, 3, 4, 4, 1);
    t.sentence(7, "BEAR (1 to 4; 2 at first)");
    t.got(new NextBench().bear(1), new NextBench().bear(4), x.bear(1), x.bear(4), x.told(1)).due(2, 2, 1, 1, 4);
    t.sentence(7, "OUTSIDE.");
    t.got(x.bear(0), x.bear(5), x.bear(-1), x.bear(LEAST_INT), x.bear(MOST_INT)).allDue(OUTSIDE);
    t.got(x.told(1), x.may(1)).due(4, 16);
    t.sentence(7, "(What is SEEN goes, if it is another one.)");
    t.got(x.bear(2), x.begin(), x.see(4), x.bear(2), x.told(4), x.bear(0), x.bear(5), x.told(4), x.judge(2)).due(4, 0, 1, 2,
        1, OUTSIDE, OUTSIDE, 1, 0);
    t.got(x.bear(3), x.told(4), x.see(4), x.bear(2), x.told(4), x.judge(2)).due(2, 0, STATE, 3, 0, NONE);
    t.got(x.come(5), x.say('o'), x.bear(4), x.told(3), x.told(2), x.told(10), x.told(0)).due(0, 1, 2, 1, 1, 4, 5);
  }

  private static void farInRows(Sentences t) {
    t.sentence(8, "Two SEATS with no other one between are 1 and how many gaps lie between them apart, if no ARM does");
    t.got(Rooms.of("oo").far(0, 1), Rooms.of("o-o").far(0, 1), Rooms.of("o--o").far(1, 0)).due(1, 2, 3);
    t.got(Rooms.of("o" + gaps(28) + "o").far(0, 1), Rooms.of("-oo-").far(0, 1), Rooms.of("|oo|").far(0, 1)).due(29, 1, 1);
    t.got(Rooms.of("o|o").far(0, 1), Rooms.of("o-|o").far(0, 1), Rooms.of("o|-o").far(1, 0), Rooms.of("o-|-o").far(0, 1),
        Rooms.of("o||o").far(0, 1)).allDue(99);
    t.sentence(8, "FARNESS of two SEATS: the least sum of such steps from one to the other");
    NextBench row = Rooms.of("o-oo---o|oo");
    t.got(row.far(0, 1), row.far(0, 2), row.far(0, 3), row.far(3, 0), row.far(1, 3), row.far(4, 5)).due(2, 3, 7, 7, 5, 1);
    NextBench twelve = Rooms.of(TWELVE);
    t.got(twelve.far(0, 11), twelve.far(11, 0), twelve.far(10, 11)).due(11, 11, 1);
    t.sentence(8, "99, if none lead there");
    t.got(row.far(3, 4), row.far(0, 5), row.far(5, 0)).allDue(99);
    NextBench cutRing = Rooms.of("oo|oo|@");
    t.got(cutRing.far(0, 1), cutRing.far(2, 3), cutRing.far(1, 2), cutRing.far(3, 0), cutRing.far(0, 2)).due(1, 1, 99, 99,
        99);
    t.sentence(8, "of a SEAT and itself 0.");
    for (int seat = 0; seat < 12; seat++) {
      t.got(twelve.far(seat, seat)).due(0);
    }
    t.got(row.far(5, 5), cutRing.far(3, 3), Rooms.of("o-@").far(0, 0)).allDue(0);
  }

  private static void farInRings(Sentences t) {
    t.sentence(8, "in a ring also the last one and the first one (by what lies behind the last, and ahead of the first");
    t.got(Rooms.of("ooo@").far(2, 0), Rooms.of("ooo").far(2, 0)).due(1, 2);
    t.got(Rooms.of("oooooo-@").far(5, 0), Rooms.of("-oooooo@").far(5, 0), Rooms.of("-oooooo-@").far(0, 5)).due(2, 2, 3);
    t.got(Rooms.of("oooooo|@").far(5, 0), Rooms.of("|oooooo@").far(5, 0), Rooms.of("-|oooooo@").far(5, 0),
        Rooms.of("oooooo|-@").far(0, 5), Rooms.of("|oooooo|@").far(0, 5)).allDue(5);
    NextBench twelve = Rooms.of(TWELVE + "@");
    t.got(twelve.far(11, 0), twelve.far(0, 11), twelve.far(11, 1), twelve.far(0, 6), twelve.far(0, 7), twelve.far(10, 2))
        .due(1, 1, 2, 6, 5, 4);
    NextBench armed = Rooms.of("oo|oo@");
    t.got(armed.far(1, 2), armed.far(0, 3), armed.far(0, 2)).due(3, 1, 2);
    NextBench wide = Rooms.of("o-----oo@");
    t.got(wide.far(0, 1), wide.far(0, 2), wide.far(1, 2)).due(2, 1, 1);
    t.got(Rooms.of("oo@").far(0, 1), Rooms.of("o---o@").far(0, 1), Rooms.of("oo---@").far(1, 0), Rooms.of("o|o@").far(0, 1),
        Rooms.of("o---o-@").far(0, 1), Rooms.of("o|o|@").far(0, 1)).due(1, 1, 1, 1, 2, 99);
    t.sentence(8, "of a ring of one SEAT nothing).");
    for (int bear = 1; bear <= 4; bear++) {
      NextBench one = Rooms.of("-o-@", bear);
      t.got(one.far(0, 0), one.may(0), one.may(1), one.fill(0, 5), one.pairs(1), one.ways(1)).due(0, 1, 0, 1, 0, 1);
    }
  }

  private static void farRefused(Sentences t) {
    t.sentence(8, "FARNESS of two SEATS. UNKNOWN.");
    NextBench x = Rooms.of(TWELVE);
    t.got(x.far(12, 0), x.far(0, 12), x.far(-1, 0), x.far(0, -1), x.far(12, 12), x.far(-1, -1), x.far(LEAST_INT, 0),
        x.far(0, MOST_INT)).allDue(UNKNOWN);
    t.got(x.far(11, 0), x.say('o'), x.say('o'), x.room(), x.far(1, 0), x.far(2, 0), x.far(0, 11)).due(11, 1, 2, 2, 1,
        UNKNOWN, UNKNOWN);
  }
}
