import java.util.Arrays;
import java.util.Random;

/**
 * Long runs of calls, by a seeded source, on NextBench and on a slow model that takes the document word by word:
 * every answer must be the same. Arguments are lawful for the most part, wild now and then.
 */
public final class ModelTest {
  private static final int RUNS = 260;
  private static final int LONGEST_TELLING = 33;
  private static final int[] WILD = {-1, -2, -7, 12, 13, 30, 31, 99, 100, 101, 200, 201, 4095, 4096, 1 << 30,
      Integer.MIN_VALUE, Integer.MAX_VALUE, Integer.MIN_VALUE + 1, 64, 6, 7, 4, 5};

  /** How often each of Calls.KINDS is asked. */
  private static final int[] WEIGHT = {6, 1, 3, 1, 8, 2, 6, 8, 12, 10,
      6, 6, 3, 8, 6, 10, 4, 6, 3, 3, 2, 1, 6,
      6, 8, 1, 10, 4, 24, 6, 10, 1, 1, 8};

  private static int wrong = 0;

  public static void main(String[] args) {
    int[] answered = new int[Calls.KINDS.length];
    for (int run = 0; run < RUNS; run++) {
      run(run, answered);
    }
    for (int kind = 0; kind < Calls.KINDS.length; kind++) {
      if (answered[kind] < 20) {
        wrong++;
        System.out.println(Calls.KINDS[kind] + " was answered only " + answered[kind] + " times");
      }
    }
    System.out.println(wrong == 0 ? "all answers are the model's" : wrong + " answers are not the model's");
    if (wrong != 0) {
      System.exit(1);
    }
  }

  private static void run(int run, int[] answered) {
    Random random = new Random(1000 + run);
    Both both = new Both(x -> { });
    int largest = run % 20 == 0 ? 12 : 8;
    if (run % 5 != 0) {
      both.tell(text(random, largest));
    }
    while (both.callsLeft() > 0) {
      if (random.nextInt(70) == 0 && both.callsLeft() >= LONGEST_TELLING) {
        both.tell(text(random, largest));
        continue;
      }
      int kind = pick(random);
      int[] arguments = arguments(Calls.KINDS[kind], random, both.model());
      if (random.nextInt(25) == 0 && arguments.length > 0) {
        arguments[random.nextInt(arguments.length)] = WILD[random.nextInt(WILD.length)];
      }
      if (both.ask(Calls.KINDS[kind], arguments) >= 0) {
        answered[kind]++;
      }
    }
    wrong += both.wrong();
  }

  private static int pick(Random random) {
    int sum = Arrays.stream(WEIGHT).sum();
    int at = random.nextInt(sum);
    for (int kind = 0; kind < WEIGHT.length; kind++) {
      at -= WEIGHT[kind];
      if (at < 0) {
        return kind;
      }
    }
    return 0;
  }

  private static String text(Random random, int largest) {
    int seats = 1 + random.nextInt(largest);
    int gaps = random.nextInt(4);
    int arms = random.nextInt(3);
    StringBuilder text = new StringBuilder();
    int written = 0;
    while (text.length() < 28 && written < seats) {
      int sign = random.nextInt(8);
      if (sign < gaps) {
        text.append('-');
      } else if (sign == 7 && random.nextInt(3) < arms) {
        text.append('|');
      } else {
        text.append('o');
        written++;
      }
    }
    if (random.nextInt(4) == 0 && text.length() < 28) {
      text.append(random.nextBoolean() ? '-' : '|');
    }
    if (written > 0 && random.nextInt(5) < 2) {
      text.append('@');
    }
    if (random.nextInt(12) == 0) {
      text.insert(random.nextInt(text.length() + 1), "@x!o|O".charAt(random.nextInt(6)));
    }
    return text.toString();
  }

  private static int filledSet(Random random, Model model) {
    int set = 0;
    int wish = random.nextInt(6);
    for (int i = 0; i < wish; i++) {
      int open = model.may(set);
      if (open == 0) {
        break;
      }
      int seat = random.nextInt(model.seats());
      if ((open >> seat & 1) != 0) {
        set |= 1 << seat;
      }
    }
    if (random.nextInt(12) == 0) {
      set |= 1 << random.nextInt(13);
    }
    return set;
  }

  private static int[] arguments(String call, Random random, Model model) {
    int habit = random.nextInt(6);
    int seat = random.nextInt(model.seats());
    switch (call) {
      case "say": return new int[] {"oooo--|@".charAt(random.nextInt(8))};
      case "worth": return new int[] {seat, random.nextInt(10)};
      case "bear": return new int[] {1 + random.nextInt(4)};
      case "far": return new int[] {seat, random.nextInt(model.seats())};
      case "may": return new int[] {filledSet(random, model)};
      case "takes":
      case "fill": return new int[] {filledSet(random, model), habit};
      case "whole": return new int[] {random.nextInt(4)};
      case "ways": return new int[] {random.nextInt(1 + model.seats())};
      case "mean": return new int[] {random.nextInt(2)};
      case "odds": return new int[] {random.nextInt(1 + model.seats()), random.nextInt(2)};
      case "first": return new int[] {habit, random.nextInt(4)};
      case "game": return new int[] {filledSet(random, model), random.nextInt(2), random.nextInt(2)};
      case "pairs": return new int[] {random.nextInt(2)};
      case "late": return new int[] {habit, 1 + random.nextInt(4)};
      case "rows": {
        int n = 1 + random.nextInt(200);
        return new int[] {n, random.nextInt(n)};
      }
      case "longer": return new int[] {1 + random.nextInt(100)};
      case "arms": return new int[] {habit, random.nextInt(4), random.nextInt(2)};
      case "rests": return new int[] {random.nextInt(4)};
      case "minutes": return new int[] {filledSet(random, model), habit, 1 + random.nextInt(3), random.nextInt(6),
          random.nextInt(2)};
      case "away": return new int[] {filledSet(random, model), habit, 1 + random.nextInt(3), random.nextInt(2)};
      case "come":
      case "judge": return new int[] {habit};
      case "sits": return new int[] {random.nextInt(6)};
      case "see": return new int[] {random.nextInt(3) == 0 ? seat : model.likely(habit)};
      case "image":
      case "restore": return new int[] {random.nextInt(2)};
      case "told": return new int[] {random.nextInt(23)};
      default: return new int[0];
    }
  }
}
