import java.util.ArrayList;
import java.util.List;
import java.util.function.Supplier;
import java.util.function.ToIntFunction;

// Promise 12, for each sentence that refuses a call (a number is not as said there, something
// is not there, a limit is reached): two objects are made alike, one of them has the call
// refused, and then all that can be asked of both must be answered alike.
// An object serves for 512 calls only, so each look at one uses new objects.
public final class RefusalsTest {
  private static final int LEAST = Integer.MIN_VALUE;
  private static final int GREATEST = Integer.MAX_VALUE;
  private static final int[] TOO_SMALL = {-1, -2, -5, -28, -32, LEAST};
  private static final int[] STATE_TOO_LARGE = {5, 6, 31, 32, 36, GREATEST};
  private static final int[] LETTER_TOO_LARGE = {6, 7, 8, 32, 37, GREATEST};
  private static final int LOOKS = 9;
  private static String sentence = "";
  private static int checks = 0;
  private static int wrong = 0;
  private static int said = 0;

  private static void test(String name, Runnable body) {
    sentence = name;
    said = 0;
    int before = checks;
    body.run();
    if (checks == before) {
      wrong++;
      System.out.println(name + ": nothing was looked at");
    }
  }

  public static void main(String[] args) {
    test("P2 q is too small", () -> movesRefused(TOO_SMALL, 'q'));
    test("P2 q is too large", () -> movesRefused(STATE_TOO_LARGE, 'q'));
    test("P2 r is too small", () -> movesRefused(TOO_SMALL, 'r'));
    test("P2 r is too large", () -> movesRefused(STATE_TOO_LARGE, 'r'));
    test("P2 l is too small", () -> movesRefused(TOO_SMALL, 'l'));
    test("P2 l is too large", () -> movesRefused(LETTER_TOO_LARGE, 'l'));
    test("P2 m is too small for an opening letter",
        () -> marksRefused(0, new int[] {-1, -2, -4, LEAST}));
    test("P2 m is too large for an opening letter",
        () -> marksRefused(0, new int[] {3, 4, 5, 8, GREATEST}));
    test("P2 m is too small for a closing letter",
        () -> marksRefused(2, new int[] {-1, -2, -4, LEAST}));
    test("P2 m is too large for a closing letter",
        () -> marksRefused(2, new int[] {4, 5, 8, GREATEST}));
    test("P3 q is too small", () -> statesRefused(TOO_SMALL));
    test("P3 q is too large", () -> statesRefused(STATE_TOO_LARGE));
    test("P4 letter is too small", () -> lettersRefused(TOO_SMALL));
    test("P4 letter is too large", () -> lettersRefused(LETTER_TOO_LARGE));
    test("P4 the word has 16 letters", RefusalsTest::fullWordRefuses);
    test("P5 the word is empty", RefusalsTest::emptyWordRefuses);
    test("P7 to P11 questions", RefusalsTest::questionsChangeNothing);
    System.out.println(wrong == 0 ? checks + " looks are alike" : wrong + " are not alike");
    if (wrong != 0) {
      System.exit(1);
    }
  }

  private static void movesRefused(int[] numbers, char which) {
    for (int number : numbers) {
      for (int at = 0; at < 6; at++) {
        int l = which == 'l' ? number : at;
        int other = at % 5;
        int q = which == 'q' ? number : other;
        int r = which == 'r' ? number : other;
        String call = q + ", " + l + ", " + r + ", 1, ";
        refused(call + "true", x -> x.move(q, l, r, 1, true));
        refused(call + "false", x -> x.move(q, l, r, 1, false));
      }
    }
  }

  private static void marksRefused(int first, int[] numbers) {
    for (int m : numbers) {
      for (int at = 0; at < 10; at++) {
        int l = first + at % 2;
        int q = at / 2;
        int r = at * 2 % 5;
        String call = q + ", " + l + ", " + r + ", " + m + ", ";
        refused(call + "true", x -> x.move(q, l, r, m, true));
        refused(call + "false", x -> x.move(q, l, r, m, false));
      }
    }
  }

  private static void statesRefused(int[] numbers) {
    for (int q : numbers) {
      refused(q + ", true, true", x -> x.state(q, true, true));
      refused(q + ", true, false", x -> x.state(q, true, false));
      refused(q + ", false, true", x -> x.state(q, false, true));
      refused(q + ", false, false", x -> x.state(q, false, false));
    }
  }

  private static void lettersRefused(int[] letters) {
    for (int letter : letters) {
      refused("" + letter, x -> x.read(letter));
      alike("" + letter, () -> made(7, 0), x -> x.read(letter), true);
      alike("" + letter, () -> made(7, 15), x -> x.read(letter), true);
    }
  }

  private static void fullWordRefuses() {
    for (int at = -1; at < 7; at++) {
      int letter = at;
      for (int kind = 0; kind < 8; kind++) {
        int machine = kind;
        alike("" + letter, () -> made(machine, 16), x -> x.read(letter), true);
      }
    }
  }

  private static void emptyWordRefuses() {
    for (int kind = 0; kind < 8; kind++) {
      int machine = kind;
      alike("back", () -> made(machine, 0), x -> x.back(), true);
      alike("back when erased", () -> erased(machine), x -> x.back(), true);
    }
  }

  private static void questionsChangeNothing() {
    for (int kind = 0; kind < 8; kind++) {
      int machine = kind;
      for (int length = 0; length <= 16; length++) {
        int letters = length;
        Supplier<NestedWords> maker = () -> made(machine, letters);
        alike("live", maker, x -> x.live(), false);
        alike("accepted", maker, x -> x.accepted(), false);
        alike("open", maker, x -> x.open(), false);
        alike("next", maker, x -> x.next(), false);
        alike("close", maker, x -> x.close(), false);
      }
    }
  }

  // Kinds 0 to 5: all moves of that letter and no others; 6: nothing; 7: some of everything.
  private static NestedWords made(int kind, int length) {
    NestedWords x = new NestedWords();
    if (kind < 6) {
      for (int cell = 0; cell < 25 * marksOf(kind); cell++) {
        x.move(cell % 5, kind, cell / 5 % 5, cell / 25, true);
      }
      for (int q = 0; q < 5; q++) {
        x.state(q, true, true);
      }
    }
    if (kind == 7) {
      makeSome(x);
    }
    for (int i = 0; i < length; i++) {
      x.read(kind < 6 ? kind : i * 5 % 7 % 6);
    }
    return x;
  }

  private static void makeSome(NestedWords x) {
    for (int l = 0; l < 6; l++) {
      for (int cell = l % 2; cell < 25 * marksOf(l); cell += 4) {
        x.move(cell % 5, l, cell / 5 % 5, cell / 25, true);
      }
    }
    x.state(0, true, false);
    x.state(2, false, true);
    x.state(4, true, true);
  }

  private static NestedWords erased(int kind) {
    NestedWords x = made(kind, 5);
    x.erase();
    return x;
  }

  private static int marksOf(int l) {
    return l < 2 ? 3 : l < 4 ? 4 : 1;
  }

  private static void refused(String call, ToIntFunction<NestedWords> doing) {
    for (int kind = 0; kind < 8; kind++) {
      int machine = kind;
      alike(call, () -> made(machine, 3), doing, true);
      alike(call, () -> made(machine, 16), doing, true);
    }
  }

  private static void alike(String call, Supplier<NestedWords> maker,
      ToIntFunction<NestedWords> doing, boolean refuses) {
    for (int which = 0; which < LOOKS; which++) {
      NestedWords left = maker.get();
      NestedWords done = maker.get();
      int answer = doing.applyAsInt(done);
      int again = doing.applyAsInt(done);
      checks++;
      if (refuses && (answer != -1 || again != -1)) {
        say(call, "was answered " + answer + " and " + again + ", due is -1");
      } else if (answer != again) {
        say(call, "was answered " + answer + " and then " + again);
      } else if (!look(left, which).equals(look(done, which))) {
        say(call, "changed what look " + which + " sees");
      }
    }
  }

  private static void say(String call, String what) {
    wrong++;
    said++;
    if (said <= 10) {
      System.out.println(sentence + ": " + call + " " + what);
    }
  }

  // 0: the word and its answers; 1 and 2: starts and ends; 3 to 8: the moves of a letter.
  private static List<Integer> look(NestedWords x, int which) {
    List<Integer> seen = new ArrayList<>();
    if (which == 0) {
      lookAtWord(x, seen);
    } else if (which <= 2) {
      lookAtStates(x, which - 1, seen);
    } else {
      lookAtMoves(x, which - 3, seen);
    }
    return seen;
  }

  private static void ask(NestedWords x, List<Integer> seen) {
    seen.add(x.live());
    seen.add(x.accepted());
    seen.add(x.open());
    seen.add(x.next());
    seen.add(x.close());
  }

  private static void lookAtWord(NestedWords x, List<Integer> seen) {
    ask(x, seen);
    for (int i = 0; i < 17; i++) {
      seen.add(x.back());
      ask(x, seen);
    }
    for (int i = 0; i < 17; i++) {
      seen.add(x.read(i % 6));
    }
    ask(x, seen);
  }

  // Letter 4 is made to lead from one start to one state, to see whether that is an end.
  private static void lookAtStates(NestedWords x, int from, List<Integer> seen) {
    x.erase();
    seen.add(x.live());
    seen.add(x.accepted());
    for (int cell = 0; cell < 25; cell++) {
      x.move(cell % 5, 4, cell / 5, 0, false);
    }
    x.state(from, true, false);
    for (int q = 0; q < 5; q++) {
      x.move(from, 4, q, 0, true);
      x.read(4);
      seen.add(x.accepted());
      x.back();
      x.move(from, 4, q, 0, false);
    }
  }

  private static void lookAtMoves(NestedWords x, int l, List<Integer> seen) {
    for (int cell = 0; cell < 25 * marksOf(l); cell++) {
      seen.add(x.move(cell % 5, l, cell / 5 % 5, cell / 25, false));
    }
  }
}
