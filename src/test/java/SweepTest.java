import java.util.Set;
import java.util.TreeSet;

/** All numbers from just below the least to just above the greatest, in rooms at the edges, against the slow model. */
public final class SweepTest implements Refusals {
  private static final String[] SMALL = {"o", "o@", "-o-@", "oo", "oo@", "o|o", "o|o@", "o-o", "o--o-@", "ooo", "ooo@",
      "|ooo@", "o-oo|o@", "-oo-o---o@", "o---o---o", "oo|oo", "o--o--o--o@"};
  private static final String[] GREAT = {"oooooooooooo", "oooooooooooo@", "o|o|o|o|o|o|o|o|o|o|o|o", "oooooo|oooooo@",
      "o-o-o-o-o-o-o-o-o-o-o-o------@", "oo-oo-oo-oo-oo-oo", "o--oo|ooo---oo-o|ooo|@"};
  private static final int[] SUNNY = {9, 0, 9, 1, 0, 0, 8, 9, 9, 0, 1, 9};
  private static final int[] ALIKE = new int[12];

  private static int wrong = 0;

  private SweepTest() {
  }

  public static void main(String[] args) {
    for (String text : SMALL) {
      for (int bear = 1; bear <= 4; bear++) {
        sweep(text, bear, ALIKE);
        sweep(text, bear, SUNNY);
      }
    }
    for (String text : GREAT) {
      for (int bear = 1; bear <= 4; bear++) {
        sweep(text, bear, bear % 2 == 0 ? ALIKE : SUNNY);
      }
    }
    rowsAndSigns();
    System.out.println(wrong == 0 ? "all answers are the model's" : wrong + " answers are not the model's");
    if (wrong != 0) {
      System.exit(1);
    }
  }

  private static void sweep(String text, int bear, int[] worths) {
    Both both = new Both(x -> {
      x.tell(text);
      x.ask("bear", bear);
      for (int seat = 0; seat < x.model().seats(); seat++) {
        x.ask("worth", seat, worths[seat]);
      }
      for (int habit = 0; habit < 6; habit++) {
        x.ask("come", habit);
      }
      x.ask("begin");
      x.ask("see", 0);
    });
    int seats = both.model().seats();
    bySeat(both, seats);
    byNumber(both);
    byHabit(both, seats, bear);
    Set<Integer> sets = seats <= 5 ? allSets(seats) : someSets(both, seats);
    for (int set : sets) {
      bySet(both, set);
    }
    wrong += both.wrong();
  }

  private static void bySeat(Both both, int seats) {
    for (int seat = -1; seat <= seats; seat++) {
      for (int other = -1; other <= seats; other++) {
        both.ask("far", seat, other);
      }
    }
    for (int seat = -1; seat <= seats; seat++) {
      for (int v = -1; v <= 10; v += 11) {
        both.ask("worth", seat, v);
      }
      both.ask("see", seat);
      both.ask("sits", seat);
    }
  }

  private static void byNumber(Both both) {
    for (int n = -1; n <= 23; n++) {
      for (String call : new String[] {"told", "whole", "ways", "mean", "pairs", "judge"}) {
        both.ask(call, n);
      }
      for (int part = -1; part <= 2; part++) {
        both.ask("odds", n, part);
      }
    }
    both.ask("bear", 0);
    both.ask("bear", 5);
    both.ask("fits");
  }

  private static void byHabit(Both both, int seats, int bear) {
    for (int habit = -1; habit <= 6; habit++) {
      for (int what = -1; what <= 4; what++) {
        both.ask("first", habit, what);
      }
      for (int v = 0; v <= 5; v++) {
        both.ask("late", habit, v);
      }
      for (int k = -1; k <= 4; k++) {
        for (int what = -1; what <= 2; what++) {
          both.ask("arms", habit, k, what);
        }
      }
    }
    // of many seats with many sets the model's means take too long
    int most = seats > 8 && bear == 1 ? 1 : 4;
    for (int k = -1; k <= most; k++) {
      both.ask("rests", k);
    }
  }

  private static Set<Integer> allSets(int seats) {
    Set<Integer> sets = new TreeSet<>(Set.of(-1, LEAST_INT, MOST_INT, LEAST_INT | 1));
    for (int set = 0; set <= 1 << seats; set++) {
      sets.add(set);
    }
    return sets;
  }

  /** What each habit fills, the same with one gone, pairs of neighbours, and what has bits beyond the last seat. */
  private static Set<Integer> someSets(Both both, int seats) {
    Set<Integer> sets = new TreeSet<>(Set.of(0, -1, LEAST_INT, 1 << seats, (1 << seats) - 1, 1 << seats | 1));
    for (int habit = 0; habit < 6; habit++) {
      sets.add((int) both.ask("fill", 0, habit));
    }
    sets.add((int) both.ask("whole", 0));
    sets.add((int) both.ask("whole", 1));
    for (int set : sets.toArray(new Integer[0])) {
      if (set > 0) {
        sets.add(set & set - 1);
        sets.add(set & ~Integer.highestOneBit(set));
      }
    }
    for (int seat = 0; seat < seats; seat += 3) {
      sets.add(1 << seat);
      sets.add(1 << seat | 1 << (seat + 1) % seats);
    }
    return sets;
  }

  private static void bySet(Both both, int set) {
    both.ask("may", set);
    for (int habit = -1; habit <= 6; habit++) {
      both.ask("takes", set, habit);
      both.ask("fill", set, habit);
      both.ask("minutes", set, habit, 2, 1, 0);
    }
    for (int turn = -1; turn <= 2; turn++) {
      for (int what = -1; what <= 2; what++) {
        both.ask("game", set, turn, what);
      }
    }
    int habit = Math.floorMod(set, 6);
    for (int minutes = 0; minutes <= 4; minutes++) {
      for (int part = -1; part <= 2; part++) {
        both.ask("away", set, habit, minutes, part);
      }
    }
    for (int n = -1; n <= 13; n++) {
      both.ask("minutes", set, habit, 3, n, 0);
      both.ask("minutes", set, habit, 3, n, 1);
      both.ask("minutes", set, habit, 1, n, n % 3);
    }
  }

  private static void rowsAndSigns() {
    Both both = new Both(x -> { });
    for (int n = -1; n <= 201; n++) {
      if (n <= 40 || n >= 199) {
        for (int seat = -1; seat <= Math.min(n, 200) + 1; seat++) {
          both.ask("rows", n, seat);
        }
      }
      both.ask("rows", n, 0);
      both.ask("rows", n, n - 1);
      both.ask("longer", n);
    }
    for (int sign = -2; sign <= 130; sign++) {
      both.ask("say", sign);
      both.ask("fault");
      both.ask("wipe");
    }
    wrong += both.wrong();
  }
}
