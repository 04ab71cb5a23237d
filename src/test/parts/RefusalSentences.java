import java.lang.reflect.Method;
import java.util.ArrayList;
import java.util.Arrays;
import java.util.List;

/** What the document says of all calls: which refusal comes first, that refused calls change nothing, 512 calls. */
final class RefusalSentences implements Refusals {
  private static final int[] EDGES = {LEAST_INT, -4096, -1, 0, 1, 2, 3, 4, 5, 6, 9, 10, 11, 12, 13, 22, 32, 33, 100, 101, 126,
      127, 200, 201, 4095, 4096, MOST_INT};
  private static final int MOST_CALLS = 512;

  private RefusalSentences() {
  }

  static void test(Sentences t) {
    constants(t);
    kinds(t);
    firstThatFits(t);
    refusedChangeNothing(t);
    questionsChangeNothing(t);
    manyCalls(t);
    laterCalls(t);
  }

  private static void constants(Sentences t) {
    t.sentence(Sentences.TERMS, "The constants: `UNKNOWN = -1, OUTSIDE = -2, STATE = -3, FULL = -4, NO = -5, NONE = -6`: What"
        + " refused calls answer; NONE: there is none.");
    t.got(NextBench.UNKNOWN, NextBench.OUTSIDE, NextBench.STATE, NextBench.FULL, NextBench.NO, NextBench.NONE).due(-1, -2, -3,
        -4, -5, -6);
    t.sentence(Sentences.TERMS, "`LOST = -1000000000000000000L`: What is told of fractions that are refused: LOST and the"
        + " refusal.");
    NextBench x = Rooms.of("oo");
    t.got(NextBench.LOST, x.mean(2), x.odds(13, 0), x.minutes(0, 6, 1, 0, 0), x.away(0, 6, 1, 0)).due(-1000000000000000000L,
        -1000000000000000002L, -1000000000000000002L, -1000000000000000002L, -1000000000000000002L);
    t.sentence(Sentences.TERMS, "refused with LOST and the refusal.");
    t.got(x.minutes(3, 0, 1, 0, 0), x.away(3, 0, 1, 0)).allDue(-1000000000000000003L);
  }

  private static void kinds(Sentences t) {
    NextBench x = Rooms.of("oo");
    t.sentence(Sentences.TERMS, "UNKNOWN -1 (there is no such SEAT, COMER, PLACE)");
    t.got(x.worth(2, 0), x.far(0, 2), x.far(2, 0), x.see(2), x.sits(0), x.rows(2, 2)).allDue(UNKNOWN);
    t.sentence(Sentences.TERMS, "OUTSIDE -2 (another number is not as told)");
    t.got(x.say(32), x.worth(0, 10), x.bear(5), x.may(4), x.takes(0, 6), x.fill(4, 0), x.whole(4), x.ways(13), x.first(0, 4),
        x.game(0, 2, 0), x.pairs(2), x.late(0, 3), x.rows(201, 0), x.longer(101), x.arms(0, 4, 0), x.rests(4), x.come(6),
        x.judge(6), x.image(2), x.restore(2), x.told(22)).allDue(OUTSIDE);
    t.sentence(Sentences.TERMS, "STATE -3 (as told)");
    t.got(x.may(3), x.takes(3, 0), x.fill(3, 0), x.game(3, 0, 0), x.see(0), x.restore(0)).allDue(STATE);
    t.sentence(Sentences.TERMS, "NO -5 (as told)");
    x.begin();
    x.see(0);
    t.got(x.room(), x.see(0), x.see(1)).allDue(NO);
    t.sentence(Sentences.TERMS, "FULL -4.");
    NextBench full = Objects.full();
    t.got(full.say('o'), full.come(0), full.begin()).allDue(FULL);
  }

  private static void firstThatFits(Sentences t) {
    t.sentence(Sentences.TERMS, "Calls that are refused answer, the first of these that fits:");
    NextBench x = Rooms.of("oo");
    t.got(x.worth(2, 10), x.worth(-1, -1), x.see(2), x.see(-1)).allDue(UNKNOWN);
    t.got(x.may(7), x.takes(7, 0), x.takes(3, 6), x.fill(7, 0), x.fill(3, 6), x.game(7, 0, 0), x.game(3, 2, 0), x.game(3, 0, 2),
        x.restore(2), x.restore(-1)).allDue(OUTSIDE);
    t.got(x.minutes(7, 0, 1, 0, 0), x.minutes(3, 6, 1, 0, 0), x.minutes(3, 0, 4, 0, 0), x.minutes(3, 0, 1, 13, 0),
        x.minutes(3, 0, 1, 0, 2), x.away(7, 0, 1, 0), x.away(3, 6, 1, 0), x.away(3, 0, 4, 0), x.away(3, 0, 1, 2))
        .allDue(LOST + OUTSIDE);
    NextBench full = Objects.full();
    t.got(full.say(127), full.say(32), full.come(6), full.come(-1)).allDue(OUTSIDE);
    t.got(full.see(12), full.see(-1)).allDue(UNKNOWN);
    // here UNKNOWN is told to come behind OUTSIDE
    t.got(x.rows(201, 201), x.rows(0, -1), x.rows(201, -1)).allDue(OUTSIDE);
  }

  private static void refusedChangeNothing(Sentences t) {
    for (int kind = 0; kind < Calls.KINDS.length; kind++) {
      String call = Calls.KINDS[kind];
      boolean told = false;
      for (Objects which : Objects.values()) {
        List<int[]> refused = refusedOf(which, call);
        if (!refused.isEmpty() && !told) {
          t.sentence(kind + 2, "They change nothing.");
          told = true;
        }
        if (!refused.isEmpty()) {
          changesNothing(t, which, call, refused);
        }
      }
    }
  }

  private static List<int[]> refusedOf(Objects which, String call) {
    List<int[]> refused = new ArrayList<>();
    for (int[] arguments : allArguments(call)) {
      long answer = Calls.ask(which.make(), call, arguments);
      if (answer < 0 && answer != NONE) {
        refused.add(arguments);
      }
    }
    return refused;
  }

  private static void questionsChangeNothing(Sentences t) {
    t.sentence(Sentences.TERMS, "Nothing is promised beyond the answers and state changes described above");
    List<String> changing = List.of("say", "wipe", "room", "worth", "bear", "come", "forget", "begin", "see", "image",
        "restore");
    for (String call : Calls.KINDS) {
      if (!changing.contains(call)) {
        for (Objects which : Objects.values()) {
          changesNothing(t, which, call, allArguments(call));
        }
      }
    }
  }

  /** One of two like objects is asked some calls more; behind them both must answer the same to all that can be asked. */
  private static void changesNothing(Sentences t, Objects which, String call, List<int[]> argumentsOfCalls) {
    long[] due = probe(which.make());
    int at = 0;
    do {
      NextBench x = which.make();
      for (int i = 0; i < 60 && at < argumentsOfCalls.size(); i++, at++) {
        Calls.ask(x, call, argumentsOfCalls.get(at));
      }
      t.got(probe(x)).due(due);
    } while (at < argumentsOfCalls.size());
  }

  /** Calls of one or two numbers at all edges; of more numbers at edges two by two, the others lawful. */
  private static List<int[]> allArguments(String call) {
    int count = 0;
    for (Method method : NextBench.class.getDeclaredMethods()) {
      count = method.getName().equals(call) ? method.getParameterCount() : count;
    }
    int[] lawful = new int[count];
    if (call.equals("minutes") || call.equals("away")) {
      lawful[2] = 1;
    }
    List<int[]> all = new ArrayList<>();
    if (count <= 1) {
      for (int i = 0; i < (count == 0 ? 1 : EDGES.length); i++) {
        all.add(count == 0 ? new int[0] : new int[] {EDGES[i]});
      }
    }
    for (int one = 0; one < count; one++) {
      for (int other = one + 1; other < count; other++) {
        for (int edge : EDGES) {
          for (int otherEdge : EDGES) {
            int[] arguments = lawful.clone();
            arguments[one] = edge;
            arguments[other] = otherEdge;
            all.add(arguments);
          }
        }
      }
    }
    return all;
  }

  /** All that can be asked of an object, and how it goes on. */
  private static long[] probe(NextBench x) {
    List<Long> got = new ArrayList<>();
    state(x, got);
    reckoned(x, got);
    for (int seat = 0; seat < 12; seat++) {
      got.add((long) x.see(seat));
    }
    got.addAll(Arrays.asList((long) x.fits(), (long) x.begin(), (long) x.see(0), (long) x.come(0), (long) x.fault()));
    for (int n = 0; n < 2; n++) {
      got.add((long) x.restore(n));
      state(x, got);
      got.add((long) x.see(0));
      got.add((long) x.see(1));
    }
    got.addAll(Arrays.asList((long) x.room(), (long) x.told(0), (long) x.say('o'), (long) x.fault(), (long) x.wipe()));
    return got.stream().mapToLong(Long::longValue).toArray();
  }

  private static void state(NextBench x, List<Long> got) {
    for (int what = 0; what < 22; what++) {
      got.add((long) x.told(what));
    }
    for (int i = 0; i < 12; i++) {
      got.add((long) x.sits(i));
      got.add((long) x.far(i, (i + 1) % x.told(0)));
    }
    for (int habit = 0; habit < 6; habit++) {
      got.add((long) x.judge(habit));
    }
    got.add((long) x.fault());
  }

  private static void reckoned(NextBench x, List<Long> got) {
    for (int habit = 0; habit < 6; habit++) {
      got.addAll(Arrays.asList((long) x.takes(1, habit), (long) x.fill(0, habit), (long) x.late(habit, 1),
          (long) x.first(habit, habit % 4)));
    }
    for (int n = 0; n <= 12; n += 3) {
      got.addAll(Arrays.asList((long) x.ways(n), x.odds(n, 0)));
    }
    got.addAll(Arrays.asList((long) x.may(1), (long) x.whole(0), (long) x.whole(1), x.mean(0), x.mean(1), (long) x.pairs(0),
        (long) x.pairs(1), (long) x.game(0, 0, 1), (long) x.game(1, 1, 0), (long) x.arms(0, 1, 0), (long) x.rests(1),
        x.minutes(1, 0, 3, 1, 0), x.away(1, 0, 3, 0), (long) x.rows(9, 3), (long) x.longer(9)));
  }

  /** They are free in what they answer, but not free to throw. */
  private static void laterCalls(Sentences t) {
    t.sentence(Sentences.TERMS, "what later calls answer is free.");
    for (Objects which : Objects.values()) {
      NextBench x = which.make();
      for (String call : Calls.KINDS) {
        for (int[] arguments : allArguments(call)) {
          Calls.ask(x, call, arguments);
        }
      }
      t.holds(true, "all of them ended");
    }
  }

  private static void manyCalls(Sentences t) {
    t.sentence(Sentences.TERMS, "An object is used for at most 512 calls after it has been made");
    NextBench says = new NextBench();
    for (int call = 1; call < MOST_CALLS; call++) {
      t.got(says.say('o')).due(call <= 30 ? call : FULL);
    }
    t.got(says.fault()).due(12);
    NextBench images = Rooms.of("ooo");
    for (int call = 5; call < MOST_CALLS; call++) {
      t.got(call % 2 == 1 ? images.image(call / 2 % 2) : images.restore((call - 1) / 2 % 2)).due(1);
    }
    t.got(images.told(0)).due(3);
    NextBench bears = Rooms.of(TWELVE + "@");
    int[] most = {0, 12, 6, 4, 3};
    int bear = 2;
    for (int call = 15; call < MOST_CALLS; call += 2) {
      t.got(bears.bear(bear % 4 + 1), bears.whole(3)).due(bear, most[bear % 4 + 1]);
      bear = bear % 4 + 1;
    }
    NextBench dear = Rooms.of(TWELVE);
    for (int call = 14; call <= MOST_CALLS; call++) {
      t.got(dear.rests(3)).due(0b111);
    }
  }

  /** Objects in which something is there, nothing, or all that there can be. */
  private enum Objects {
    NEW, RICH, FULL_OF_ALL;

    NextBench make() {
      return this == NEW ? new NextBench() : this == RICH ? rich() : full();
    }

    static NextBench rich() {
      NextBench x = Rooms.worth("o-oo|oo@", 2, 3, 0, 9, 1);
      x.come(1);
      x.come(4);
      x.begin();
      x.see(0);
      x.see(2);
      x.image(1);
      x.begin();
      x.see(4);
      Rooms.tell(x, "o|o@x");
      return x;
    }

    static NextBench full() {
      NextBench x = Rooms.worth(TWELVE, 3, 9, 8, 7, 6, 5, 4, 3, 2, 1, 0, 9, 9);
      for (int comer = 0; comer < 12; comer++) {
        x.come(comer % 6);
      }
      for (int row = 0; row < 8; row++) {
        x.begin();
        x.see(row);
      }
      x.image(0);
      x.image(1);
      Rooms.tell(x, "--o-o-o-o-o-o-o-o-o-o-o-o-----");
      return x;
    }
  }
}
