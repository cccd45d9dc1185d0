import java.util.ArrayDeque;
import java.util.ArrayList;
import java.util.Deque;
import java.util.HashSet;
import java.util.List;
import java.util.Set;

// Long runs of mixed calls beside a model that keeps every stack of every run, so that
// it follows the document's words with no thought of speed.
public final class StackSearchTest {
  private static final int OBJECTS = 800;
  private static final int CALLS = 500;
  // The model's stacks multiply; the driver goes back to a shorter word above this.
  private static final int MOST_RUNS = 100;
  private static int wrong = 0;
  private static long seed = 20261115L;

  public static void main(String[] args) {
    int[] kinds = new int[10];
    for (int i = 0; i < OBJECTS && wrong < 20; i++) {
      Pair pair = new Pair(i);
      pair.play(kinds);
    }
    // A driver that never meets a living word would test nothing.
    for (int i = 0; i < kinds.length; i++) {
      if (wrong == 0 && kinds[i] < 20) {
        wrong++;
        System.out.println("answers of kind " + i + " came only " + kinds[i] + " times");
      }
    }
    System.out.println(wrong == 0 ? "all answers are as due" : wrong + " answers are not as due");
    if (wrong != 0) {
      System.exit(1);
    }
  }

  private static int pick(int below) {
    seed = seed * 6364136223846793005L + 1442695040888963407L;
    return (int) ((seed >>> 33) % below);
  }

  private static final class Model {
    final boolean[][][][] moves = new boolean[5][6][5][4];
    final boolean[] start = new boolean[5];
    final boolean[] end = new boolean[5];
    final List<Integer> word = new ArrayList<>();

    static boolean in(int n, int least, int most) {
      return least <= n && n <= most;
    }

    int move(int q, int l, int r, int m, boolean on) {
      if (!in(q, 0, 4) || !in(r, 0, 4) || !in(l, 0, 5)) {
        return -1;
      }
      if (l < 2 && !in(m, 0, 2) || (l == 2 || l == 3) && !in(m, 0, 3)) {
        return -1;
      }
      int mark = l >= 4 ? 0 : m;
      boolean had = moves[q][l][r][mark];
      moves[q][l][r][mark] = on;
      return had ? 1 : 0;
    }

    int state(int q, boolean isStart, boolean isEnd) {
      if (!in(q, 0, 4)) {
        return -1;
      }
      start[q] = isStart;
      end[q] = isEnd;
      return 0;
    }

    int read(int letter) {
      if (!in(letter, 0, 5) || word.size() == 16) {
        return -1;
      }
      word.add(letter);
      return Integer.bitCount(live(word));
    }

    int back() {
      return word.isEmpty() ? -1 : word.remove(word.size() - 1);
    }

    // A run's place is its state's digit and then its stack's, the top last.
    Set<String> places(List<Integer> letters) {
      Set<String> now = new HashSet<>();
      for (int q = 0; q < 5; q++) {
        if (start[q]) {
          now.add("" + q);
        }
      }
      for (int letter : letters) {
        Set<String> then = new HashSet<>();
        for (String place : now) {
          follow(place, letter, then);
        }
        now = then;
      }
      return now;
    }

    void follow(String place, int letter, Set<String> then) {
      int q = place.charAt(0) - '0';
      String stack = place.substring(1);
      for (int r = 0; r < 5; r++) {
        for (int m = 0; m < 4; m++) {
          if (moves[q][letter][r][m]) {
            make(letter, r, m, stack, then);
          }
        }
      }
    }

    static void make(int letter, int r, int m, String stack, Set<String> then) {
      if (letter < 2) {
        then.add(r + stack + m);
      } else if (letter >= 4) {
        then.add(r + stack);
      } else if (m == 3) {
        if (stack.isEmpty()) {
          then.add(r + stack);
        }
      } else if (stack.endsWith("" + m)) {
        then.add(r + stack.substring(0, stack.length() - 1));
      }
    }

    int live(List<Integer> letters) {
      int sum = 0;
      for (String place : places(letters)) {
        sum |= 1 << (place.charAt(0) - '0');
      }
      return sum;
    }

    boolean accepts(List<Integer> letters) {
      int set = live(letters);
      for (int q = 0; q < 5; q++) {
        if (end[q] && (set >> q & 1) != 0) {
          return true;
        }
      }
      return false;
    }

    int open() {
      Deque<Integer> opened = new ArrayDeque<>();
      for (int letter : word) {
        if (letter < 2) {
          opened.push(letter);
        } else if (letter < 4 && !opened.isEmpty()) {
          opened.pop();
        }
      }
      return opened.size();
    }

    int next() {
      int sum = 0;
      for (int letter = 0; letter < 6; letter++) {
        List<Integer> longer = new ArrayList<>(word);
        longer.add(letter);
        if (live(longer) != 0) {
          sum += 1 << letter;
        }
      }
      return sum;
    }

    int close() {
      List<Integer> longer = new ArrayList<>(word);
      for (int added = 0; added <= 4; added++) {
        if (accepts(longer)) {
          return added;
        }
        longer.add(2);
      }
      return -1;
    }
  }

  private static final class Pair {
    final int object;
    final NestedWords x = new NestedWords();
    final Model model = new Model();
    int calls = 0;

    Pair(int object) {
      this.object = object;
    }

    void due(String call, int got, int want) {
      calls++;
      if (got != want) {
        wrong++;
        System.out.println("object " + object + ", call " + calls + ", word " + model.word + ": "
            + call + " answered " + got + ", due is " + want);
      }
    }

    void play(int[] kinds) {
      int density = 10 + pick(90);
      for (int i = 0; i < density; i++) {
        move(true);
      }
      for (int q = 0; q < 5; q++) {
        state(q);
      }
      while (calls < CALLS - 12 && wrong < 20) {
        act(kinds);
        shorten();
      }
    }

    void move(boolean on) {
      int l = pick(6);
      int m = pick(l < 2 ? 3 : 4);
      int q = pick(5);
      int r = pick(5);
      if (pick(30) == 0) {
        q = pick(9) - 2;
        l = pick(9) - 1;
        r = pick(9) - 2;
        m = pick(8) - 2;
      }
      due("move(" + q + ", " + l + ", " + r + ", " + m + ", " + on + ")",
          x.move(q, l, r, m, on), model.move(q, l, r, m, on));
    }

    void state(int q) {
      boolean start = pick(3) == 0;
      boolean end = pick(5) == 0;
      due("state(" + q + ", " + start + ", " + end + ")",
          x.state(q, start, end), model.state(q, start, end));
    }

    // Mostly a letter that keeps some run alive, so that long words are not all dead.
    int letter() {
      int open = model.next();
      int letter = pick(20) == 0 ? pick(9) - 1 : pick(6);
      for (int tries = 0; tries < 8 && open != 0 && letter >= 0 && letter < 6; tries++) {
        if ((open >> letter & 1) != 0) {
          break;
        }
        letter = pick(6);
      }
      return letter;
    }

    void act(int[] kinds) {
      int which = pick(100);
      if (which < 45) {
        int letter = letter();
        int want = model.read(letter);
        due("read(" + letter + ")", x.read(letter), want);
        kinds[want < 0 ? 0 : want > 1 ? 2 : 1]++;
      } else if (which < 55) {
        int want = model.back();
        due("back()", x.back(), want);
      } else if (which < 56) {
        erase();
      } else if (which < 60) {
        move(pick(2) == 0);
      } else if (which < 62) {
        state(pick(20) == 0 ? pick(9) - 2 : pick(5));
      } else {
        ask(which, kinds);
      }
    }

    void ask(int which, int[] kinds) {
      if (which < 70) {
        due("live()", x.live(), model.live(model.word));
      } else if (which < 78) {
        int want = model.accepts(model.word) ? 1 : 0;
        due("accepted()", x.accepted(), want);
        kinds[3 + want]++;
      } else if (which < 84) {
        due("open()", x.open(), model.open());
      } else if (which < 92) {
        due("next()", x.next(), model.next());
      } else {
        int want = model.close();
        due("close()", x.close(), want);
        kinds[want < 0 ? 5 : want == 0 ? 6 : want == 1 ? 7 : want == 2 ? 8 : 9]++;
      }
    }

    void erase() {
      model.word.clear();
      x.erase();
      calls++;
    }

    void shorten() {
      int runs = model.places(model.word).size();
      for (int i = 0; i < 6 && runs > MOST_RUNS; i++) {
        due("back()", x.back(), model.back());
        runs = model.places(model.word).size();
      }
      if (runs > MOST_RUNS) {
        erase();
      }
    }
  }
}
