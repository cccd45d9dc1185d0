public final class NestedWords {
  private static final int STATES = 5;
  private static final int LETTERS = 6;
  private static final int FIRST_CLOSING = 2;
  private static final int FIRST_PLAIN = 4;
  private static final int MARKS = 3;
  // Stands where a mark would, and says that the stack is empty.
  private static final int EMPTY = 3;
  private static final int TOPS = 4;
  private static final int ROOM = 16;
  private static final int MOST_CLOSES = 4;
  // close() looks past the word's room, so the arrays reach that far.
  private static final int LONGEST = ROOM + MOST_CLOSES;
  private static final int MOVE_CELLS = LETTERS * TOPS * STATES;
  private static final int ROW = TOPS * STATES;
  private static final int REACH_CELLS = (LONGEST + 1) * ROW;

  // For each letter, mark and state: the set of states that its moves lead to.
  private final int[] moves = new int[MOVE_CELLS];
  private int starts = 0;
  private int ends = 0;

  // Letters from length on are not of the word: next() and close() try them out there.
  private final int[] word = new int[LONGEST];
  private int length = 0;

  // Row i, cell (top, below) is the set of states in which runs over the first i letters
  // end with the mark top on the stack, put there by a move out of the state below.
  // The stacks themselves are too many to keep, and what lies under a mark does not
  // matter before the mark is taken off: then the row before its opening letter tells it.
  // With an empty stack top is EMPTY, and below, having no meaning then, is 0.
  private final int[] reach = new int[REACH_CELLS];
  // Where the opening letters stand that have no closing letter yet.
  private final int[] unclosed = new int[LONGEST];
  private int depth = 0;

  public NestedWords() {
  }

  public int move(int q, int l, int r, int m, boolean on) {
    if (!isState(q) || !isState(r) || !isLetter(l)) {
      return -1;
    }
    int mark = isPlain(l) ? 0 : m;
    if (!isMarkFor(l, mark)) {
      return -1;
    }
    int cell = moveCell(q, l, mark);
    int had = (moves[cell] >> r) & 1;
    moves[cell] = withMember(moves[cell], r, on);
    return had;
  }

  public int state(int q, boolean start, boolean end) {
    if (!isState(q)) {
      return -1;
    }
    starts = withMember(starts, q, start);
    ends = withMember(ends, q, end);
    return 0;
  }

  public int read(int letter) {
    if (!isLetter(letter) || length >= ROOM) {
      return -1;
    }
    word[length] = letter;
    length++;
    int alive = liveOver(length);
    return sizeOf(alive);
  }

  public int back() {
    if (length == 0) {
      return -1;
    }
    length--;
    return word[length];
  }

  public void erase() {
    length = 0;
  }

  public int live() {
    return liveOver(length);
  }

  public int accepted() {
    return (liveOver(length) & ends) != 0 ? 1 : 0;
  }

  public int open() {
    runOver(length);
    return depth;
  }

  public int next() {
    int letters = 0;
    for (int letter = 0; letter < LETTERS; letter++) {
      word[length] = letter;
      if (liveOver(length + 1) != 0) {
        letters |= 1 << letter;
      }
    }
    return letters;
  }

  public int close() {
    for (int added = 0; added < MOST_CLOSES; added++) {
      word[length + added] = FIRST_CLOSING;
    }
    for (int added = 0; added <= MOST_CLOSES; added++) {
      if ((liveOver(length + added) & ends) != 0) {
        return added;
      }
    }
    return -1;
  }

  private static boolean isState(int q) {
    return q >= 0 && q < STATES;
  }

  private static boolean isLetter(int l) {
    return l >= 0 && l < LETTERS;
  }

  private static boolean isOpening(int l) {
    return l < FIRST_CLOSING;
  }

  private static boolean isPlain(int l) {
    return l >= FIRST_PLAIN;
  }

  private static boolean isMarkFor(int l, int m) {
    return m >= 0 && m < (isOpening(l) ? MARKS : TOPS);
  }

  private static int moveCell(int q, int l, int m) {
    return (l * TOPS + m) * STATES + q;
  }

  private static boolean isMember(int set, int q) {
    return ((set >> q) & 1) != 0;
  }

  private static int withMember(int set, int q, boolean in) {
    return in ? set | (1 << q) : set & ~(1 << q);
  }

  private static int sizeOf(int set) {
    int size = 0;
    for (int q = 0; q < STATES; q++) {
      size += (set >> q) & 1;
    }
    return size;
  }

  // Rows are made anew for every question, since moves and starts may have changed.
  private int liveOver(int count) {
    runOver(count);
    return liveInRow(count);
  }

  private int liveInRow(int i) {
    int set = 0;
    for (int cell = 0; cell < ROW; cell++) {
      set |= reach[i * ROW + cell];
    }
    return set;
  }

  private void runOver(int count) {
    clearRow(0);
    reach[EMPTY * STATES] = starts;
    depth = 0;
    for (int i = 0; i < count; i++) {
      int letter = word[i];
      clearRow(i + 1);
      if (isOpening(letter)) {
        takeOpening(i, letter);
      } else if (isPlain(letter)) {
        takePlain(i, letter);
      } else if (depth == 0) {
        takeUnmatched(i, letter);
      } else {
        takeMatched(i, letter);
      }
    }
  }

  private void clearRow(int i) {
    for (int cell = 0; cell < ROW; cell++) {
      reach[i * ROW + cell] = 0;
    }
  }

  private void takeOpening(int i, int letter) {
    int alive = liveInRow(i);
    for (int m = 0; m < MARKS; m++) {
      for (int q = 0; q < STATES; q++) {
        if (isMember(alive, q)) {
          int cell = moveCell(q, letter, m);
          reach[(i + 1) * ROW + m * STATES + q] = moves[cell];
        }
      }
    }
    unclosed[depth] = i;
    depth++;
  }

  private void takePlain(int i, int letter) {
    for (int cell = 0; cell < ROW; cell++) {
      reach[(i + 1) * ROW + cell] = ledTo(reach[i * ROW + cell], letter, 0);
    }
  }

  private void takeUnmatched(int i, int letter) {
    int cell = EMPTY * STATES;
    reach[(i + 1) * ROW + cell] = ledTo(reach[i * ROW + cell], letter, EMPTY);
  }

  private void takeMatched(int i, int letter) {
    depth--;
    int opened = unclosed[depth];
    for (int m = 0; m < MARKS; m++) {
      for (int below = 0; below < STATES; below++) {
        int set = ledTo(reach[i * ROW + m * STATES + below], letter, m);
        addWhereOpened(i + 1, opened, below, set);
      }
    }
  }

  // What comes to the top again is what some run had there in the state below.
  private void addWhereOpened(int row, int opened, int below, int set) {
    for (int cell = 0; cell < ROW; cell++) {
      if (isMember(reach[opened * ROW + cell], below)) {
        reach[row * ROW + cell] |= set;
      }
    }
  }

  private int ledTo(int set, int letter, int m) {
    int to = 0;
    for (int q = 0; q < STATES; q++) {
      if (isMember(set, q)) {
        int cell = moveCell(q, letter, m);
        to |= moves[cell];
      }
    }
    return to;
  }
}
