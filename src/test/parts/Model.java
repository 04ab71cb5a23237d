import java.util.ArrayList;
import java.util.Arrays;
import java.util.Comparator;
import java.util.HashMap;
import java.util.List;
import java.util.Map;
import java.util.TreeMap;

/** A slow NextBench that takes the document word by word. */
final class Model {
  String pad = "";
  String text = "o";
  int bear = 2;
  int[] worths = new int[12];
  List<Integer> comers = new ArrayList<>();
  List<List<Integer>> seen = new ArrayList<>();
  Model[] images = new Model[2];
  static final Map<String, Plan> PLANS = new HashMap<>();

  static Plan plan(String text, int bear) {
    if (PLANS.size() > 3000) {
      PLANS.clear();
    }
    return PLANS.computeIfAbsent(text + " " + bear, key -> new Plan(text, bear));
  }

  Plan plan() {
    return plan(text, bear);
  }

  int seats() {
    return plan().seats;
  }

  int may(int set) {
    if (set < 0 || set >= 1 << seats()) {
      return 0;
    }
    return plan().open(set, bear).stream().mapToInt(seat -> 1 << seat).sum();
  }

  int likely(int habit) {
    int set = seen.isEmpty() ? 0 : set(seen.get(seen.size() - 1));
    return Math.max(0, plan().takes(set, habit, bear, worths));
  }

  static int set(List<Integer> seats) {
    return seats.stream().mapToInt(seat -> 1 << seat).sum();
  }

  void copy(Model other) {
    text = other.text;
    bear = other.bear;
    worths = other.worths.clone();
    comers = new ArrayList<>(other.comers);
    seen = new ArrayList<>();
    other.seen.forEach(row -> seen.add(new ArrayList<>(row)));
  }

  int fault() {
    int at = 0;
    int seats = 0;
    for (char sign : pad.toCharArray()) {
      boolean stands = "o-|@".indexOf(sign) >= 0 && !(at > 0 && pad.charAt(at - 1) == '@')
          && !(sign == 'o' && seats == 12) && !(sign == '@' && seats == 0);
      if (!stands) {
        return at;
      }
      seats += sign == 'o' ? 1 : 0;
      at++;
    }
    return seats == 0 ? at : -6;
  }

  /** The refusal of a call, by the order of the document; 0: none. */
  long refusal(String call, int[] a) {
    switch (call) {
      case "say": return !in(a[0], 33, 126) ? -2 : pad.length() == 30 ? -4 : 0;
      case "room": return fault() != -6 ? -5 : 0;
      case "worth": return !seat(a[0]) ? -1 : !in(a[1], 0, 9) ? -2 : 0;
      case "bear": return !in(a[0], 1, 4) ? -2 : 0;
      case "far": return !seat(a[0]) || !seat(a[1]) ? -1 : 0;
      case "may": return setRefusal(a[0]);
      case "takes":
      case "fill": return !in(a[1], 0, 5) ? -2 : setRefusal(a[0]);
      case "whole": return !in(a[0], 0, 3) ? -2 : 0;
      case "ways": return !in(a[0], 0, 12) ? -2 : 0;
      case "mean": return lost(!in(a[0], 0, 1) ? -2 : 0);
      case "odds": return lost(!in(a[0], 0, 12) || !in(a[1], 0, 1) ? -2 : 0);
      case "first": return !in(a[0], 0, 5) || !in(a[1], 0, 3) ? -2 : 0;
      case "game": return !in(a[1], 0, 1) || !in(a[2], 0, 1) ? -2 : setRefusal(a[0]);
      case "pairs": return !in(a[0], 0, 1) ? -2 : 0;
      case "late": return !in(a[0], 0, 5) || !in(a[1], 1, bear) ? -2 : 0;
      case "rows": return !in(a[0], 1, 200) ? -2 : !in(a[1], 0, a[0] - 1) ? -1 : 0;
      case "longer": return !in(a[0], 1, 100) ? -2 : 0;
      case "arms": return !in(a[0], 0, 5) || !in(a[1], 0, 3) || !in(a[2], 0, 1) ? -2 : 0;
      case "rests": return !in(a[0], 0, 3) ? -2 : 0;
      case "minutes": return lost(!in(a[1], 0, 5) || !in(a[2], 1, 3) || !in(a[3], 0, 12) || !in(a[4], 0, 1) ? -2
          : setRefusal(a[0]));
      case "away": return lost(!in(a[1], 0, 5) || !in(a[2], 1, 3) || !in(a[3], 0, 1) ? -2 : setRefusal(a[0]));
      case "come": return !in(a[0], 0, 5) ? -2 : comers.size() == 12 ? -4 : 0;
      case "sits": return !in(a[0], 0, comers.size() - 1) ? -1 : 0;
      case "begin": return seen.size() == 8 ? -4 : 0;
      case "see": return !seat(a[0]) ? -1 : seen.isEmpty() ? -3 : 0;
      case "judge": return !in(a[0], 0, 5) ? -2 : 0;
      case "image": return !in(a[0], 0, 1) ? -2 : 0;
      case "restore": return !in(a[0], 0, 1) ? -2 : images[a[0]] == null ? -3 : 0;
      case "told": return !in(a[0], 0, 4) && !in(a[0], 10, 21) ? -2 : 0;
      default: return 0;
    }
  }

  static boolean in(int v, int least, int most) {
    return least <= v && v <= most;
  }

  boolean seat(int seat) {
    return in(seat, 0, seats() - 1);
  }

  int setRefusal(int set) {
    return !in(set, 0, (1 << seats()) - 1) ? -2 : !plan().filled(set) ? -3 : 0;
  }

  static long lost(int refusal) {
    return refusal == 0 ? 0 : -1000000000000000000L + refusal;
  }

  long ask(String call, int[] a) {
    long refusal = refusal(call, a);
    if (refusal != 0) {
      return refusal;
    }
    Plan plan = plan();
    switch (call) {
      case "say": pad += (char) a[0]; return pad.length();
      case "wipe": return wipe();
      case "fault": return fault();
      case "room": {
        text = pad;
        pad = "";
        worths = new int[12];
        seen.clear();
        return seats();
      }
      case "worth": {
        int was = worths[a[0]];
        worths[a[0]] = a[1];
        return was;
      }
      case "bear": {
        int was = bear;
        bear = a[0];
        if (was != bear) {
          seen.clear();
        }
        return was;
      }
      case "far": return plan.far[a[0]][a[1]];
      case "may": return may(a[0]);
      case "takes": return plan.takes(a[0], a[1], bear, worths);
      case "fill": return plan.fill(a[0], a[1], bear, worths);
      case "whole": return whole(a[0]);
      case "ways": return ways(a[0]);
      case "mean": return plan.mean().part(a[0]);
      case "odds": return plan.odds(0).getOrDefault(a[0], new Part(0, 1)).part(a[1]);
      case "first": return first(a[0], a[1]);
      case "game": return a[2] == 0 ? plan.game(a[0], a[1]) : plan.gameSeat(a[0], a[1]);
      case "pairs": return a[0] == 0 ? plan.pairsInTurn(0) : plan.mostPairs(0, 0);
      case "late": return late(a[0], a[1]);
      case "rows": return rows(a[0], a[1]);
      case "longer": return longer(a[0]);
      case "arms": return arms(a[0], a[1], a[2]);
      case "rests": return arms(6, a[0], 0);
      case "minutes": return minutes(a[0], a[1], a[2]).getOrDefault(a[3], new Part(0, 1)).part(a[4]);
      case "away": return minutes(a[0], a[1], a[2]).getOrDefault(-1, new Part(0, 1)).part(a[3]);
      default: return askComers(call, a);
    }
  }

  private long askComers(String call, int[] a) {
    switch (call) {
      case "come": comers.add(a[0]); return comers.size() - 1;
      case "forget": {
        int had = comers.size();
        comers.clear();
        return had;
      }
      case "sits": return sits(a[0]);
      case "begin": seen.add(new ArrayList<>()); return seen.size() - 1;
      case "see": {
        List<Integer> row = seen.get(seen.size() - 1);
        if (!plan().open(set(row), bear).contains(a[0])) {
          return -5;
        }
        row.add(a[0]);
        return row.size();
      }
      case "fits": {
        int fits = 0;
        for (int habit = 0; habit < 6; habit++) {
          fits += judge(habit) == -6 ? 1 << habit : 0;
        }
        return fits;
      }
      case "judge": return judge(a[0]);
      case "image": images[a[0]] = new Model(); images[a[0]].copy(this); return 1;
      case "restore": copy(images[a[0]]); return 1;
      default: return told(a[0]);
    }
  }

  private int wipe() {
    int had = pad.length();
    pad = "";
    return had;
  }

  private int whole(int what) {
    int best = -1;
    for (int set = 0; set < 1 << seats(); set++) {
      if (plan().filled(set) && plan().whole(set)) {
        int more = best < 0 ? 1 : Integer.bitCount(set) - Integer.bitCount(best);
        if (best < 0 || (what % 2 == 0 ? more < 0 : more > 0)) {
          best = set;
        }
      }
    }
    return what < 2 ? best : Integer.bitCount(best);
  }

  private int ways(int n) {
    int ways = 0;
    for (int set = 0; set < 1 << seats(); set++) {
      if (Integer.bitCount(set) == n && plan().filled(set) && plan().whole(set)) {
        ways++;
      }
    }
    return ways;
  }

  private int first(int habit, int what) {
    List<Integer> counts = new ArrayList<>();
    for (int seat = 0; seat < seats(); seat++) {
      counts.add(Integer.bitCount(plan().fill(1 << seat, habit, bear, worths)));
    }
    int best = counts.stream().max(what % 2 == 0 ? Comparator.naturalOrder() : Comparator.reverseOrder()).get();
    return what < 2 ? counts.indexOf(best) : best;
  }

  private int late(int habit, int v) {
    int set = 0;
    for (int borne = bear; borne >= v; borne--) {
      set = plan().fill(set, habit, borne, worths);
    }
    return Integer.bitCount(set);
  }

  static final Map<Integer, Integer> ROWS = new HashMap<>();

  static int rows(int n, int seat) {
    return ROWS.computeIfAbsent(1000 * n + seat, key -> rowsAnew(n, seat));
  }

  private static int rowsAnew(int n, int seat) {
    List<Integer> taken = new ArrayList<>(List.of(seat));
    while (true) {
      int best = -1;
      int bestAway = 1;
      for (int i = 0; i < n; i++) {
        int away = 999;
        for (int other : taken) {
          away = Math.min(away, Math.abs(i - other));
        }
        if (away > bestAway) {
          best = i;
          bestAway = away;
        }
      }
      if (best < 0) {
        return taken.size();
      }
      taken.add(best);
    }
  }

  private static int longer(int k) {
    for (int n = 1; n <= 200; n++) {
      if (rows(n, 0) >= k) {
        return n;
      }
    }
    return -6;
  }

  private String withArms(int places) {
    StringBuilder more = new StringBuilder(text);
    for (int place = 11; place >= 0; place--) {
      if ((places >> place & 1) != 0) {
        more.insert(Plan.place(text, place) + 1, '|');
      }
    }
    return more.toString();
  }

  private int arms(int habit, int k, int what) {
    int best = -1;
    Part most = new Part(0, 1);
    for (int count = 0; count <= k; count++) {
      for (int places = 0; places < 1 << (seats() - 1); places++) {
        if (Integer.bitCount(places) == count) {
          Plan plan = plan(withArms(places), bear);
          Part come = habit == 6 ? plan.mean()
              : new Part(Integer.bitCount(plan.fill(0, habit, bear, worths)), 1);
          if (come.isMoreThan(most)) {
            best = places;
            most = come;
          }
        }
      }
    }
    return what == 0 ? best : (int) most.upper();
  }

  /** Odds by how many sit; by -1 the mean of how many were turned away. */
  private Map<Integer, Part> minutes(int set, int habit, int left) {
    Map<Integer, Part> all = new TreeMap<>();
    if (left == 0) {
      all.put(Integer.bitCount(set), new Part(1, 1));
      return all;
    }
    int seat = plan().takes(set, habit, bear, worths);
    if (seat < 0) {
      all.put(-1, new Part(1, 2));
    }
    add(all, minutes(seat < 0 ? set : set | 1 << seat, habit, left - 1), 2);
    for (int gone = 0; gone < 12; gone++) {
      if ((set >> gone & 1) != 0) {
        add(all, minutes(set & ~(1 << gone), habit, left - 1), 2 * Integer.bitCount(set));
      }
    }
    if (set == 0) {
      add(all, minutes(set, habit, left - 1), 2);
    }
    return all;
  }

  private static void add(Map<Integer, Part> all, Map<Integer, Part> more, int share) {
    more.forEach((n, part) -> all.merge(n, part.times(1, share), Part::plus));
  }

  private int sits(int comer) {
    int set = 0;
    int seat = -6;
    for (int habit : comers.subList(0, comer + 1)) {
      seat = plan().takes(set, habit, bear, worths);
      set |= seat < 0 ? 0 : 1 << seat;
    }
    return seat;
  }

  private int judge(int habit) {
    for (int row = 0; row < seen.size(); row++) {
      List<Integer> seats = seen.get(row);
      for (int place = 0; place < seats.size(); place++) {
        if (plan().takes(set(seats.subList(0, place)), habit, bear, worths) != seats.get(place)) {
          return 100 * row + place;
        }
      }
    }
    return -6;
  }

  private int told(int what) {
    switch (what) {
      case 0: return seats();
      case 1: return bear;
      case 2: return pad.length();
      case 3: return comers.size();
      case 4: return seen.size();
      default: return what - 10 < seats() ? worths[what - 10] : -6;
    }
  }

  /** A fraction in lowest terms; too great numbers would throw. */
  private record Part(long upper, long lower) {
    static Part of(long upper, long lower) {
      long a = upper;
      long b = lower;
      while (b != 0) {
        long rest = a % b;
        a = b;
        b = rest;
      }
      return new Part(upper / a, lower / a);
    }

    Part plus(Part other) {
      return of(Math.addExact(Math.multiplyExact(upper, other.lower), Math.multiplyExact(other.upper, lower)),
          Math.multiplyExact(lower, other.lower));
    }

    Part times(long up, long low) {
      return of(Math.multiplyExact(upper, up), Math.multiplyExact(lower, low));
    }

    boolean isMoreThan(Part other) {
      return Math.multiplyExact(upper, other.lower) > Math.multiplyExact(other.upper, lower);
    }

    long part(int part) {
      return part == 0 ? upper : lower;
    }
  }

  /** The ROOM of one text at one BEAR. */
  private static final class Plan {
    final int seats;
    final int bear;
    final int[][] far;
    final Map<Integer, Map<Integer, Part>> oddsFrom = new HashMap<>();
    final Map<Integer, Integer> games = new HashMap<>();

    Plan(String text, int bear) {
      this.bear = bear;
      seats = (int) text.chars().filter(sign -> sign == 'o').count();
      far = new int[seats][seats];
      for (int[] row : far) {
        Arrays.fill(row, 99);
      }
      boolean ring = text.endsWith("@");
      String body = ring ? text.substring(0, text.length() - 1) : text;
      for (int i = 0; i + 1 < seats; i++) {
        link(i, i + 1, body.substring(place(body, i) + 1, place(body, i + 1)));
      }
      if (ring && seats > 1) {
        link(seats - 1, 0, body.substring(place(body, seats - 1) + 1) + body.substring(0, place(body, 0)));
      }
      for (int via = 0; via < seats; via++) {
        far[via][via] = 0;
      }
      for (int via = 0; via < seats; via++) {
        for (int i = 0; i < seats; i++) {
          for (int j = 0; j < seats; j++) {
            far[i][j] = Math.min(far[i][j], far[i][via] + far[via][j]);
          }
        }
      }
    }

    static int place(String body, int seat) {
      int at = -1;
      for (int i = 0; i <= seat; i++) {
        at = body.indexOf('o', at + 1);
      }
      return at;
    }

    private void link(int one, int other, String between) {
      if (between.indexOf('|') < 0) {
        far[one][other] = Math.min(far[one][other], 1 + between.length());
        far[other][one] = far[one][other];
      }
    }

    boolean has(int set, int seat) {
      return (set >> seat & 1) != 0;
    }

    int awayFrom(int set, int seat) {
      int away = 99;
      for (int other = 0; other < seats; other++) {
        if (has(set, other)) {
          away = Math.min(away, far[seat][other]);
        }
      }
      return away;
    }

    boolean filled(int set) {
      for (int seat = 0; seat < seats; seat++) {
        if (has(set, seat) && awayFrom(set & ~(1 << seat), seat) < bear) {
          return false;
        }
      }
      return true;
    }

    List<Integer> open(int set, int borne) {
      List<Integer> open = new ArrayList<>();
      for (int seat = 0; seat < seats; seat++) {
        if (!has(set, seat) && awayFrom(set, seat) >= borne) {
          open.add(seat);
        }
      }
      return open;
    }

    boolean whole(int set) {
      return open(set, bear).isEmpty();
    }

    int takes(int set, int habit, int borne, int[] worths) {
      List<Integer> open = open(set, borne);
      Comparator<Integer> mostAway = Comparator.comparing(seat -> -awayFrom(set, seat));
      Comparator<Integer> mostWorth = Comparator.comparing(seat -> -worths[seat]);
      Comparator<Integer> fewestBeside = Comparator.comparing(seat ->
          Arrays.stream(far[seat]).filter(far -> far == 1).count());
      Comparator<Integer> order;
      switch (habit) {
        case 0: order = mostAway.thenComparing(mostWorth); break;
        case 1: order = mostWorth.thenComparing(mostAway); break;
        case 2: order = Comparator.naturalOrder(); break;
        case 3: order = Comparator.reverseOrder(); break;
        case 4: order = mostAway.reversed(); break;
        default: order = fewestBeside.thenComparing(mostAway);
      }
      return open.stream().min(order.thenComparing(Comparator.naturalOrder())).orElse(-6);
    }

    int fill(int set, int habit, int borne, int[] worths) {
      int now = set;
      for (int seat = takes(now, habit, borne, worths); seat >= 0; seat = takes(now, habit, borne, worths)) {
        now |= 1 << seat;
      }
      return now;
    }

    Map<Integer, Part> odds(int set) {
      Map<Integer, Part> known = oddsFrom.get(set);
      if (known != null) {
        return known;
      }
      Map<Integer, Part> odds = new TreeMap<>();
      List<Integer> open = open(set, bear);
      if (open.isEmpty()) {
        odds.put(Integer.bitCount(set), new Part(1, 1));
      }
      for (int seat : open) {
        for (Map.Entry<Integer, Part> entry : odds(set | 1 << seat).entrySet()) {
          odds.merge(entry.getKey(), entry.getValue().times(1, open.size()), Part::plus);
        }
      }
      oddsFrom.put(set, odds);
      return odds;
    }

    Part mean() {
      Part mean = new Part(0, 1);
      for (Map.Entry<Integer, Part> entry : odds(0).entrySet()) {
        mean = mean.plus(entry.getValue().times(entry.getKey(), 1));
      }
      return mean;
    }

    int game(int set, int turn) {
      Integer known = games.get(2 * set + turn);
      if (known != null) {
        return known;
      }
      int value = -1;
      for (int seat : open(set, bear)) {
        int then = game(set | 1 << seat, 1 - turn);
        value = value < 0 ? then : turn == 0 ? Math.max(value, then) : Math.min(value, then);
      }
      value = value < 0 ? Integer.bitCount(set) : value;
      games.put(2 * set + turn, value);
      return value;
    }

    int gameSeat(int set, int turn) {
      for (int seat : open(set, bear)) {
        if (game(set | 1 << seat, 1 - turn) == game(set, turn)) {
          return seat;
        }
      }
      return -6;
    }

    int pairsInTurn(int set) {
      for (int one = 0; one < seats; one++) {
        for (int other = one + 1; other < seats; other++) {
          if (far[one][other] == 1 && pairMay(set, one, other)) {
            return 1 + pairsInTurn(set | 1 << one | 1 << other);
          }
        }
      }
      return 0;
    }

    int mostPairs(int set, int from) {
      int most = 0;
      for (int one = from; one < seats; one++) {
        for (int other = 0; other < seats; other++) {
          if (far[one][other] == 1 && pairMay(set, one, other)) {
            most = Math.max(most, 1 + mostPairs(set | 1 << one | 1 << other, one + 1));
          }
        }
      }
      return most;
    }

    private boolean pairMay(int set, int one, int other) {
      return awayFrom(set, one) >= bear && awayFrom(set, other) >= bear;
    }
  }
}
