import java.util.function.ToIntFunction;

// Every sentence of the document that names a boundary case, with a test of its own.
// That a refused call changes nothing is looked at in RefusalsTest.
public final class BoundariesTest {
  private static final int LEAST = Integer.MIN_VALUE;
  private static final int GREATEST = Integer.MAX_VALUE;
  // Behind the greatest state, and numbers that a shift or an index that wraps round
  // would take for a state.
  private static final int[] STATE_TOO_LARGE = {5, 6, 20, 31, 32, 36, 64, 1 << 30, GREATEST};
  private static final int[] LETTER_TOO_LARGE = {6, 7, 8, 32, 37, 256, 1 << 30, GREATEST};
  private static final int[] TOO_SMALL = {-1, -2, -5, -28, -32, -256, -(1 << 30), LEAST};
  private static String sentence = "";
  private static int checks = 0;
  private static int wrong = 0;

  private static void due(String call, int got, int want) {
    checks++;
    if (got != want) {
      wrong++;
      System.out.println(sentence + ": " + call + " answered " + got + ", due is " + want);
    }
  }

  private static void test(String name, Runnable body) {
    sentence = name;
    int before = checks;
    body.run();
    if (checks == before) {
      wrong++;
      System.out.println(name + ": nothing was looked at");
    }
  }

  public static void main(String[] args) {
    whatItIs();
    terms();
    promise1();
    promise2();
    promise3();
    promise4();
    promise5And6();
    promise7And8();
    promise9();
    promise10();
    promise11();
    System.out.println(wrong == 0 ? checks + " answers are as due" : wrong + " are not as due");
    if (wrong != 0) {
      System.exit(1);
    }
  }

  private static void whatItIs() {
    test("An object is used for at most 512 calls", BoundariesTest::theLastOf512Calls);
    test("LANGUAGE 7, after the 512th call", BoundariesTest::laterCallsEnd);
  }

  private static void terms() {
    test("LETTERS 0, 1 OPEN, 2, 3 CLOSE, 4, 5 are PLAIN", BoundariesTest::lettersOfEachKind);
    test("STATES are 0 to 4", BoundariesTest::leastAndGreatestState);
    test("MARKS 0 to 2", BoundariesTest::leastAndGreatestMark);
    test("an open move puts the mark m on a stack", BoundariesTest::stackOfEveryHeight);
    test("a close move leads from q to r if the mark m is on top", BoundariesTest::markOnTopAlone);
    test("a mark cannot be taken off an empty stack", BoundariesTest::noMarkOnAnEmptyStack);
    test("which is taken off", BoundariesTest::markIsTakenOff);
    test("m 3 only if the stack is empty", BoundariesTest::emptyStackAlone);
    test("m 3 leaves the stack empty", BoundariesTest::emptyStackStaysEmpty);
    test("a plain move leaves the stack", BoundariesTest::plainLeavesTheStack);
    test("A RUN begins in a start", BoundariesTest::runBeginsInAStart);
    test("A RUN begins with an empty stack", BoundariesTest::runBeginsWithAnEmptyStack);
    test("one move for each letter, in order", BoundariesTest::oneMoveForEachLetter);
    test("LIVE whatever is on its stack", BoundariesTest::liveWhateverTheStack);
    test("ACCEPTED if some end is live", BoundariesTest::someEndIsLive);
  }

  private static void promise1() {
    test("P1 no move", BoundariesTest::newObjectHasNoMove);
    test("P1 no start", BoundariesTest::newObjectHasNoStart);
    test("P1 no end", BoundariesTest::newObjectHasNoEnd);
    test("P1 the word is empty", BoundariesTest::newObjectHasNoLetter);
  }

  private static void promise2() {
    test("P2 on is true, or has it not", BoundariesTest::moveComesAndGoes);
    test("P2 for plain letters m is not looked at", BoundariesTest::plainMarkIsNotLookedAt);
    test("P2 1 if the machine had the move before, 0 if not", BoundariesTest::hadBeforeWhateverOn);
    test("P2 -1 if q is too small", () -> refusesMove(TOO_SMALL, 'q'));
    test("P2 -1 if q is too large", () -> refusesMove(STATE_TOO_LARGE, 'q'));
    test("P2 -1 if r is too small", () -> refusesMove(TOO_SMALL, 'r'));
    test("P2 -1 if r is too large", () -> refusesMove(STATE_TOO_LARGE, 'r'));
    test("P2 -1 if l is too small", () -> refusesMove(TOO_SMALL, 'l'));
    test("P2 -1 if l is too large", () -> refusesMove(LETTER_TOO_LARGE, 'l'));
    test("P2 m from 0 to 2 for an opening letter", BoundariesTest::marksOfOpeningMoves);
    test("P2 m from 0 to 3 for a closing letter", BoundariesTest::marksOfClosingMoves);
    test("P2 more than one number is wrong", BoundariesTest::moveWithManyWrongNumbers);
  }

  private static void promise3() {
    test("P3 a start or not, and an end or not", BoundariesTest::startAndEndApart);
    test("P3 answers 0", BoundariesTest::stateAnswersZero);
    test("P3 -1 if q is too small", () -> refusesState(TOO_SMALL));
    test("P3 -1 if q is too large", () -> refusesState(STATE_TOO_LARGE));
  }

  private static void promise4() {
    test("P4 the number of live states, none to five", BoundariesTest::readCountsNoneToFive);
    test("P4 a letter that leaves no state live is added", BoundariesTest::deadLetterIsAdded);
    test("P4 -1 if letter is too small", () -> refusesRead(TOO_SMALL));
    test("P4 -1 if letter is too large", () -> refusesRead(LETTER_TOO_LARGE));
    test("P4 the sixteenth letter", BoundariesTest::sixteenthLetter);
    test("P4 -1 if the word has 16 letters", BoundariesTest::seventeenthLetter);
    test("P4 room again after 16 letters", BoundariesTest::roomAgain);
  }

  private static void promise5And6() {
    test("P5 takes the last letter off", BoundariesTest::backTakesTheLast);
    test("P5 answers it, 0 to 5", BoundariesTest::backAnswersEveryLetter);
    test("P5 -1 if the word is empty", BoundariesTest::backOfTheEmptyWord);
    test("P6 makes an empty word empty", () -> erasesWordOf(0));
    test("P6 makes a word of one letter empty", () -> erasesWordOf(1));
    test("P6 makes a word of 15 letters empty", () -> erasesWordOf(15));
    test("P6 makes a word of 16 letters empty", () -> erasesWordOf(16));
    test("P6 makes an erased word empty", BoundariesTest::erasedTwice);
    test("P6 leaves the machine", BoundariesTest::eraseLeavesTheMachine);
  }

  private static void promise7And8() {
    test("P7 no live state", BoundariesTest::noLiveState);
    test("P7 the sum of 2^q, none to all", BoundariesTest::everySetOfLiveStates);
    test("P8 the empty word", BoundariesTest::acceptedEmptyWord);
    test("P8 a word of 16 letters", BoundariesTest::acceptedFullWord);
    test("P8 1, else 0", BoundariesTest::acceptedIsOneOrZero);
  }

  private static void promise9() {
    test("P9 the empty word", BoundariesTest::openOfTheEmptyWord);
    test("P9 a closing letter that has none to close", BoundariesTest::closingWithoutOpening);
    test("P9 the last opening one before it that has none", BoundariesTest::closesTheLastOpen);
    test("P9 sixteen opening letters", BoundariesTest::sixteenOpen);
    test("P9 whether a state is live or not", BoundariesTest::openOfDeadWords);
  }

  private static void promise10() {
    test("P10 each letter alone", BoundariesTest::nextOneLetter);
    test("P10 no letter", BoundariesTest::nextNoLetter);
    test("P10 every letter", BoundariesTest::nextEveryLetter);
    test("P10 closing letters by the top of the stack", BoundariesTest::nextByTheStack);
    test("P10 whether the word has room or not", BoundariesTest::nextWithoutRoom);
  }

  private static void promise11() {
    test("P11 none is needed", BoundariesTest::closeNeedsNone);
    test("P11 if it is 4 or less", BoundariesTest::closeOneToFour);
    test("P11 five would be needed", BoundariesTest::closeFive);
    test("P11 -1 if there is none", BoundariesTest::closeNone);
    test("P11 the least", BoundariesTest::closeLeast);
    test("P11 letters 2", BoundariesTest::closeByTwosAlone);
    test("P11 whether the word has room or not", BoundariesTest::closeWithoutRoom);
    test("P11 four marks off a full word", BoundariesTest::closeOverTheStack);
  }

  private static void readMany(NestedWords x, int letter, int times) {
    for (int i = 0; i < times; i++) {
      x.read(letter);
    }
  }

  private static void readAll(NestedWords x, int... letters) {
    for (int letter : letters) {
      x.read(letter);
    }
  }

  // State 0 is start and end, and every letter leads from it to it, with mark 0.
  private static NestedWords loop() {
    NestedWords x = new NestedWords();
    x.state(0, true, true);
    for (int l = 0; l < 6; l++) {
      x.move(0, l, 0, 0, true);
    }
    x.move(0, 2, 0, 3, true);
    x.move(0, 3, 0, 3, true);
    return x;
  }

  // Closing letters 2 lead over an empty stack from 0 to 1, 2, 3, 4; plain letters stay.
  private static NestedWords chain(int end) {
    NestedWords x = new NestedWords();
    x.state(0, true, false);
    x.state(end, end == 0, true);
    x.move(0, 4, 0, 0, true);
    for (int q = 0; q < 4; q++) {
      x.move(q, 2, q + 1, 3, true);
    }
    return x;
  }

  // Opening letters 0 stay in 0; only when all are closed does one more 2 lead to the end.
  private static NestedWords tower() {
    NestedWords x = new NestedWords();
    x.state(0, true, false);
    x.state(1, false, true);
    x.move(0, 4, 0, 0, true);
    x.move(0, 0, 0, 0, true);
    x.move(0, 2, 0, 0, true);
    x.move(0, 2, 1, 3, true);
    return x;
  }

  private static void lastCall(String call, ToIntFunction<NestedWords> last, int want) {
    NestedWords x = loop();
    for (int calls = 9; calls < 511; calls++) {
      if (calls % 2 == 1) {
        x.read(0);
      } else {
        x.back();
      }
    }
    due(call, last.applyAsInt(x), want);
  }

  private static void theLastOf512Calls() {
    lastCall("move", x -> x.move(0, 0, 0, 0, false), 1);
    lastCall("state", x -> x.state(4, true, true), 0);
    lastCall("state of no state", x -> x.state(5, true, true), -1);
    lastCall("read", x -> x.read(0), 1);
    lastCall("read of no letter", x -> x.read(6), -1);
    lastCall("back", x -> x.back(), -1);
    lastCall("live", x -> x.live(), 1);
    lastCall("accepted", x -> x.accepted(), 1);
    lastCall("open", x -> x.open(), 0);
    lastCall("next", x -> x.next(), 63);
    lastCall("close", x -> x.close(), 0);
  }

  // What later calls answer is free, but none may throw.
  private static void laterCallsEnd() {
    NestedWords x = loop();
    int[] numbers = {0, 3, -1, 5, 1, 6, 2, 4, LEAST, GREATEST};
    int ended = 0;
    for (int i = 0; i < 1000; i++) {
      int a = numbers[i % 10];
      int b = numbers[i / 10 % 10];
      x.move(a, b, i % 5, a, i % 3 != 0);
      x.state(b, true, i % 2 == 0);
      x.read(a);
      x.read(i % 6);
      ask(x);
      if (i % 40 == 39) {
        x.erase();
      }
      x.back();
      ended++;
    }
    due("calls that ended", ended, 1000);
  }

  private static void ask(NestedWords x) {
    x.live();
    x.accepted();
    x.open();
    x.next();
    x.close();
  }

  private static void lettersOfEachKind() {
    int[] opened = {1, 1, 0, 0, 0, 0};
    int[] after = {2, 2, 0, 0, 1, 1};
    for (int l = 0; l < 6; l++) {
      NestedWords x = new NestedWords();
      x.read(l);
      due("open after " + l, x.open(), opened[l]);
      for (int first = 0; first < 2; first++) {
        NestedWords y = new NestedWords();
        readAll(y, first, l);
        due("open after " + first + ", " + l, y.open(), after[l]);
      }
      NestedWords z = new NestedWords();
      due("opening or closing with mark 3", z.move(0, l, 0, 3, true), l < 2 ? -1 : 0);
      due("mark 4, looked at or not", z.move(0, l, 0, 4, false), l < 4 ? -1 : 1);
    }
  }

  // Every pair of states, the least and the greatest among them, for each kind of move.
  private static void leastAndGreatestState() {
    for (int q = 0; q < 5; q++) {
      for (int r = 0; r < 5; r++) {
        NestedWords x = new NestedWords();
        due("state", x.state(q, true, false), 0);
        due("live", x.live(), 1 << q);
        due("open move", x.move(q, 1, r, 0, true), 0);
        due("plain move", x.move(r, 5, q, 0, true), 0);
        due("close move", x.move(q, 3, r, 0, true), 0);
        due("empty move", x.move(r, 2, q, 3, true), 0);
        readAll(x, 1);
        due("live after 1", x.live(), 1 << r);
        readAll(x, 5);
        due("live after 5", x.live(), 1 << q);
        readAll(x, 3);
        due("live after 3", x.live(), 1 << r);
        readAll(x, 2);
        due("live after 2", x.live(), 1 << q);
      }
    }
  }

  private static void leastAndGreatestMark() {
    for (int m = 0; m < 3; m++) {
      for (int l = 0; l < 2; l++) {
        NestedWords x = new NestedWords();
        x.state(0, true, false);
        due("open move", x.move(0, l, 1, m, true), 0);
        due("close move", x.move(1, 2, 2, m, true), 0);
        due("other close move", x.move(1, 3, 3, (m + 1) % 3, true), 0);
        due("one more", x.move(1, 3, 4, (m + 2) % 3, true), 0);
        x.read(l);
        due("next with mark " + m, x.next(), 4);
        due("read with mark " + m, x.read(2), 1);
        due("live with mark " + m, x.live(), 4);
      }
    }
  }

  // Stacks 1 to 16 high, with mark 1 alone at the bottom or alone at the top.
  private static void stackOfEveryHeight() {
    for (int high = 1; high <= 16; high++) {
      NestedWords x = new NestedWords();
      x.state(0, true, false);
      x.move(0, 0, 0, 0, true);
      x.move(0, 1, 0, 1, true);
      x.move(0, 2, 1, 0, true);
      x.move(0, 3, 2, 1, true);
      x.move(0, 3, 3, 3, true);
      readMany(x, 0, high - 1);
      x.read(1);
      due("next on top of " + high, x.next(), 11);
      due("open", x.open(), high);
    }
    for (int high = 1; high <= 8; high++) {
      NestedWords x = new NestedWords();
      x.state(0, true, false);
      x.move(0, 1, 0, 1, true);
      x.move(0, 0, 0, 0, true);
      x.move(0, 2, 0, 0, true);
      x.move(0, 3, 1, 1, true);
      x.read(1);
      readMany(x, 0, high - 1);
      readMany(x, 2, high - 1);
      due("next at the bottom of " + high, x.next(), 11);
      due("one 3 at the bottom of " + high, x.read(3), 1);
      due("live at the bottom of " + high, x.live(), 2);
    }
  }

  private static void markOnTopAlone() {
    NestedWords x = new NestedWords();
    x.state(0, true, false);
    x.move(0, 0, 1, 0, true);
    x.move(1, 1, 2, 1, true);
    x.move(2, 2, 3, 0, true);
    x.move(2, 3, 3, 2, true);
    readAll(x, 0, 1);
    due("next, mark 0 under mark 1", x.next(), 0);
    due("read, mark 0 under mark 1", x.read(2), 0);
    x.back();
    x.move(2, 2, 4, 1, true);
    due("next, mark 1 on top", x.next(), 4);
    due("read, mark 1 on top", x.read(2), 1);
    due("live", x.live(), 16);
  }

  private static void noMarkOnAnEmptyStack() {
    for (int m = 0; m < 3; m++) {
      NestedWords x = new NestedWords();
      x.state(0, true, false);
      x.move(0, 2, 0, m, true);
      x.move(0, 3, 0, m, true);
      x.move(0, 0, 0, m, true);
      due("next at the beginning", x.next(), 1);
      due("read 2 at the beginning", x.read(2), 0);
      x.back();
      readAll(x, 0, 3);
      due("live when closed", x.live(), 1);
      due("next when closed", x.next(), 1);
      due("read 3 when closed", x.read(3), 0);
    }
  }

  private static void markIsTakenOff() {
    NestedWords x = new NestedWords();
    x.state(0, true, false);
    x.move(0, 0, 0, 0, true);
    x.move(0, 1, 0, 1, true);
    x.move(0, 2, 0, 0, true);
    x.move(0, 3, 0, 1, true);
    readAll(x, 0, 1);
    due("next under nothing", x.next(), 11);
    x.read(3);
    due("next when the upper one is off", x.next(), 7);
    x.read(2);
    due("next when both are off", x.next(), 3);
  }

  private static void emptyStackAlone() {
    NestedWords x = new NestedWords();
    x.state(0, true, false);
    x.move(0, 2, 0, 3, true);
    x.move(0, 3, 0, 1, true);
    x.move(0, 1, 0, 1, true);
    due("next, empty", x.next(), 6);
    x.read(1);
    due("next, one mark", x.next(), 10);
    due("read 2, one mark", x.read(2), 0);
    x.back();
    readMany(x, 1, 7);
    due("next, eight marks", x.next(), 10);
    readMany(x, 3, 7);
    due("next, one mark again", x.next(), 10);
    due("read 3, one mark", x.read(3), 1);
    due("next, empty again", x.next(), 6);
  }

  private static void emptyStackStaysEmpty() {
    NestedWords x = new NestedWords();
    x.state(0, true, false);
    x.move(0, 2, 0, 3, true);
    x.move(0, 3, 1, 0, true);
    x.move(0, 3, 2, 1, true);
    x.move(0, 3, 3, 2, true);
    for (int i = 1; i <= 16; i++) {
      due("read 2, time " + i, x.read(2), 1);
      due("next after " + i, x.next(), 4);
      due("open after " + i, x.open(), 0);
    }
  }

  private static void plainLeavesTheStack() {
    for (int plain = 4; plain < 6; plain++) {
      NestedWords x = new NestedWords();
      x.state(0, true, false);
      x.move(0, plain, 0, 2, true);
      x.move(0, 0, 0, 1, true);
      x.move(0, 2, 0, 1, true);
      x.move(0, 3, 0, 3, true);
      readMany(x, plain, 3);
      due("next, empty", x.next(), 9 + (1 << plain));
      x.read(0);
      readMany(x, plain, 3);
      due("next, one mark", x.next(), 5 + (1 << plain));
      x.read(2);
      readMany(x, plain, 8);
      due("next, empty and full", x.next(), 9 + (1 << plain));
      due("live", x.live(), 1);
    }
  }

  private static void runBeginsInAStart() {
    NestedWords x = new NestedWords();
    for (int q = 0; q < 5; q++) {
      x.move(q, 4, q, 0, true);
    }
    due("next without a start", x.next(), 0);
    due("read without a start", x.read(4), 0);
    x.state(4, true, false);
    due("live from the one start", x.live(), 16);
    x.state(4, false, true);
    due("live from no start", x.live(), 0);
  }

  private static void runBeginsWithAnEmptyStack() {
    NestedWords x = new NestedWords();
    x.state(0, true, false);
    for (int m = 0; m < 3; m++) {
      x.move(0, 2, 1, m, true);
    }
    x.move(0, 3, 2, 3, true);
    due("next", x.next(), 8);
    due("read", x.read(3), 1);
    due("live", x.live(), 4);
  }

  private static void oneMoveForEachLetter() {
    NestedWords x = new NestedWords();
    x.state(0, true, false);
    x.move(0, 4, 1, 0, true);
    x.move(1, 5, 2, 0, true);
    x.move(2, 4, 3, 0, true);
    due("read 5 first", x.read(5), 0);
    due("read 4 after 5", x.read(4), 0);
    x.erase();
    due("read 4 first", x.read(4), 1);
    due("live after one", x.live(), 2);
    due("read 5 then", x.read(5), 1);
    due("live after two", x.live(), 4);
    due("read 4 then", x.read(4), 1);
    due("live after three", x.live(), 8);
    due("read one more", x.read(4), 0);
    due("a dead word stays dead", x.read(5), 0);
  }

  private static void liveWhateverTheStack() {
    NestedWords x = new NestedWords();
    x.state(0, true, true);
    x.move(0, 1, 0, 2, true);
    for (int high = 0; high <= 16; high++) {
      due("live over " + high, x.live(), 1);
      due("accepted over " + high, x.accepted(), 1);
      due("close over " + high, x.close(), 0);
      x.read(1);
    }
  }

  private static void someEndIsLive() {
    NestedWords x = new NestedWords();
    x.state(0, true, false);
    x.state(3, false, true);
    for (int r = 0; r < 5; r++) {
      x.move(0, 4, r, 0, r != 3);
    }
    x.read(4);
    due("no end among four", x.accepted(), 0);
    x.move(0, 4, 3, 0, true);
    due("one end among five", x.accepted(), 1);
    for (int q = 1; q < 5; q++) {
      x.state(q, false, true);
    }
    due("four ends", x.accepted(), 1);
    x.move(0, 4, 0, 0, false);
    due("all are ends", x.accepted(), 1);
    x.state(0, false, true);
    due("ends, and nothing live", x.accepted(), 0);
  }

  private static void newObjectHasNoMove() {
    NestedWords x = new NestedWords();
    for (int q = 0; q < 5; q++) {
      x.state(q, true, true);
    }
    due("next", x.next(), 0);
    for (int l = 0; l < 6; l++) {
      due("read " + l, x.read(l), 0);
      x.back();
      int marks = l < 2 ? 3 : l < 4 ? 4 : 1;
      for (int cell = 0; cell < marks * 25; cell++) {
        int had = x.move(cell % 5, l, cell / 5 % 5, cell / 25, false);
        due("move " + cell + " of letter " + l, had, 0);
      }
    }
  }

  private static void newObjectHasNoStart() {
    NestedWords x = new NestedWords();
    due("live", x.live(), 0);
    for (int q = 0; q < 5; q++) {
      x.move(q, 4, q, 0, true);
    }
    due("next", x.next(), 0);
    due("read", x.read(4), 0);
  }

  private static void newObjectHasNoEnd() {
    for (int q = 0; q < 5; q++) {
      NestedWords x = new NestedWords();
      int from = (q + 1) % 5;
      x.state(from, true, false);
      x.move(from, 4, q, 0, true);
      x.read(4);
      due("live", x.live(), 1 << q);
      due("accepted in " + q, x.accepted(), 0);
      due("close in " + q, x.close(), -1);
    }
  }

  private static void newObjectHasNoLetter() {
    NestedWords x = new NestedWords();
    due("open", x.open(), 0);
    due("back", x.back(), -1);
    for (int i = 0; i < 16; i++) {
      due("read " + i, x.read(5), 0);
    }
    due("read the seventeenth", x.read(5), -1);
  }

  private static void moveComesAndGoes() {
    int[][] kinds = {{0, 0}, {1, 2}, {2, 0}, {3, 2}, {2, 3}, {3, 3}, {4, 0}, {5, 9}};
    for (int[] kind : kinds) {
      int l = kind[0];
      int m = kind[1];
      NestedWords x = new NestedWords();
      x.state(0, true, false);
      if ((l == 2 || l == 3) && m < 3) {
        x.move(0, 0, 0, m, true);
        x.read(0);
      }
      due("next before", x.next() >> l & 1, 0);
      x.move(0, l, 4, m, true);
      due("next on", x.next() >> l & 1, 1);
      x.move(0, l, 4, m, true);
      due("next on twice", x.next() >> l & 1, 1);
      x.move(0, l, 4, m, false);
      due("next off", x.next() >> l & 1, 0);
      x.move(0, l, 4, m, false);
      due("next off twice", x.next() >> l & 1, 0);
    }
  }

  private static void plainMarkIsNotLookedAt() {
    int[] any = {0, 1, 2, 3, 4, 5, -1, -4, 100, LEAST, GREATEST};
    for (int l = 4; l < 6; l++) {
      for (int first : any) {
        NestedWords x = new NestedWords();
        x.state(4, true, false);
        due("move with " + first, x.move(4, l, 3, first, true), 0);
        for (int other : any) {
          due("again with " + other, x.move(4, l, 3, other, true), 1);
        }
        due("read", x.read(l), 1);
        due("live", x.live(), 8);
        due("off", x.move(4, l, 3, first + 1, false), 1);
        for (int other : any) {
          due("gone with " + other, x.move(4, l, 3, other, false), 0);
        }
        due("live", x.live(), 0);
        due("wrong q with " + first, x.move(5, l, 3, first, true), -1);
        due("wrong r with " + first, x.move(4, l, -1, first, true), -1);
      }
    }
  }

  private static void hadBeforeWhateverOn() {
    for (int l = 0; l < 6; l++) {
      for (int m = 0; m < 4; m++) {
        if (l >= 2 || m < 3) {
          NestedWords x = new NestedWords();
          due("off, had not", x.move(4, l, 4, m, false), 0);
          due("off again, had not", x.move(4, l, 4, m, false), 0);
          due("on, had not", x.move(4, l, 4, m, true), 0);
          due("on, had", x.move(4, l, 4, m, true), 1);
          due("off, had", x.move(4, l, 4, m, false), 1);
          due("on, had no more", x.move(4, l, 4, m, true), 0);
        }
      }
    }
  }

  private static int moveWith(NestedWords x, char which, int number, int l, boolean on) {
    return x.move(which == 'q' ? number : 4, which == 'l' ? number : l,
        which == 'r' ? number : 4, 2, on);
  }

  private static void refusesMove(int[] numbers, char which) {
    NestedWords x = new NestedWords();
    for (int number : numbers) {
      for (int l = 0; l < 6; l++) {
        due("on, " + number, moveWith(x, which, number, l, true), -1);
        due("off, " + number, moveWith(x, which, number, l, false), -1);
      }
    }
    for (int l = 0; l < 6; l++) {
      due("the greatest is taken", moveWith(x, which, which == 'l' ? l : 4, l, true), 0);
      due("the least is taken", moveWith(x, which, which == 'l' ? l : 0, l, false),
          which == 'l' ? 1 : 0);
    }
  }

  private static void marksOfOpeningMoves() {
    int[] wrongMarks = {-1, -2, 3, 4, 5, 8, 32, 1 << 30, LEAST, GREATEST};
    for (int l = 0; l < 2; l++) {
      NestedWords x = new NestedWords();
      for (int m : wrongMarks) {
        due("on, mark " + m, x.move(0, l, 0, m, true), -1);
        due("off, mark " + m, x.move(4, l, 4, m, false), -1);
      }
      for (int m = 0; m < 3; m++) {
        due("mark " + m, x.move(4, l, 4, m, true), 0);
      }
    }
  }

  private static void marksOfClosingMoves() {
    int[] wrongMarks = {-1, -2, 4, 5, 8, 32, 1 << 30, LEAST, GREATEST};
    for (int l = 2; l < 4; l++) {
      NestedWords x = new NestedWords();
      for (int m : wrongMarks) {
        due("on, mark " + m, x.move(0, l, 0, m, true), -1);
        due("off, mark " + m, x.move(4, l, 4, m, false), -1);
      }
      for (int m = 0; m < 4; m++) {
        due("mark " + m, x.move(4, l, 4, m, true), 0);
      }
    }
  }

  private static void moveWithManyWrongNumbers() {
    int[] numbers = {-1, 6, LEAST, GREATEST};
    NestedWords x = new NestedWords();
    for (int a : numbers) {
      for (int b : numbers) {
        due("q and r", x.move(a, 0, b, 0, true), -1);
        due("q and l", x.move(a, b, 0, 0, true), -1);
        due("l and r", x.move(0, a, b, 0, true), -1);
        due("l and m", x.move(0, a, 0, b, true), -1);
        due("q and m", x.move(a, 3, 0, b, true), -1);
        due("r and m", x.move(0, 1, a, b, true), -1);
        due("all", x.move(a, b, a, b, true), -1);
      }
    }
  }

  private static void startAndEndApart() {
    for (int q = 0; q < 5; q++) {
      NestedWords x = new NestedWords();
      int other = (q + 2) % 5;
      x.state(other, true, false);
      x.move(other, 4, q, 0, true);
      for (int how = 0; how < 8; how++) {
        boolean start = (how & 1) != 0;
        boolean end = (how & 2) != 0;
        x.state(q, start, end);
        due("live, " + start, x.live(), (1 << other) + (start ? 1 << q : 0));
        due("accepted, " + start + " and " + end, x.accepted(), start && end ? 1 : 0);
        x.read(4);
        due("accepted in q, " + end, x.accepted(), end ? 1 : 0);
        x.back();
      }
    }
  }

  private static void stateAnswersZero() {
    NestedWords x = new NestedWords();
    for (int q = 0; q < 5; q++) {
      due("off at first", x.state(q, false, false), 0);
      due("both", x.state(q, true, true), 0);
      due("both again", x.state(q, true, true), 0);
      due("start alone", x.state(q, true, false), 0);
      due("end alone", x.state(q, false, true), 0);
      due("off", x.state(q, false, false), 0);
    }
  }

  private static void refusesState(int[] numbers) {
    NestedWords x = new NestedWords();
    for (int q : numbers) {
      due("both, " + q, x.state(q, true, true), -1);
      due("start, " + q, x.state(q, true, false), -1);
      due("end, " + q, x.state(q, false, true), -1);
      due("neither, " + q, x.state(q, false, false), -1);
    }
    due("the least is taken", x.state(0, true, true), 0);
    due("the greatest is taken", x.state(4, true, true), 0);
    due("live", x.live(), 17);
  }

  private static void readCountsNoneToFive() {
    for (int set = 0; set < 32; set++) {
      NestedWords x = new NestedWords();
      x.state(2, true, false);
      for (int r = 0; r < 5; r++) {
        x.move(2, 5, r, 0, (set >> r & 1) != 0);
      }
      due("read into set " + set, x.read(5), Integer.bitCount(set));
    }
  }

  private static void deadLetterIsAdded() {
    NestedWords x = new NestedWords();
    x.state(0, true, true);
    for (int l = 0; l < 6; l++) {
      due("read " + l, x.read(l), 0);
    }
    for (int l = 5; l >= 0; l--) {
      due("back", x.back(), l);
    }
    due("live", x.live(), 1);
  }

  private static void refusesRead(int[] letters) {
    int[] lengths = {0, 1, 15, 16};
    for (int length : lengths) {
      NestedWords x = loop();
      readMany(x, 4, length);
      for (int letter : letters) {
        due("read " + letter + " after " + length, x.read(letter), -1);
      }
      if (length < 16) {
        due("the least is taken", x.read(0), 1);
        due("it is there", x.back(), 0);
        due("the greatest is taken", x.read(5), 1);
        due("it is there too", x.back(), 5);
      }
    }
  }

  private static void sixteenthLetter() {
    for (int l = 0; l < 6; l++) {
      NestedWords x = loop();
      readMany(x, 4, 15);
      due("read " + l, x.read(l), 1);
      due("open", x.open(), l < 2 ? 1 : 0);
      due("back", x.back(), l);
    }
  }

  private static void seventeenthLetter() {
    for (int l = 0; l < 6; l++) {
      NestedWords x = loop();
      readMany(x, 5, 16);
      due("read " + l, x.read(l), -1);
      due("read " + l + " again", x.read(l), -1);
      due("open", x.open(), 0);
      due("back", x.back(), 5);
      NestedWords dead = new NestedWords();
      readMany(dead, l, 16);
      due("read " + l + " when dead", dead.read(l), -1);
    }
  }

  private static void roomAgain() {
    NestedWords x = loop();
    readMany(x, 0, 16);
    due("back", x.back(), 0);
    due("read", x.read(5), 1);
    due("read when full", x.read(5), -1);
    for (int i = 0; i < 40; i++) {
      x.back();
      due("in and out", x.read(4), 1);
    }
    due("full still", x.read(4), -1);
    due("open", x.open(), 15);
  }

  private static void backTakesTheLast() {
    NestedWords x = loop();
    int[] letters = {3, 1, 4, 1, 5, 0, 2, 0, 5, 3, 5, 2, 4, 4, 0, 1};
    readAll(x, letters);
    for (int i = 15; i >= 0; i--) {
      due("back to " + i, x.back(), letters[i]);
    }
    due("back of nothing", x.back(), -1);
  }

  private static void backAnswersEveryLetter() {
    for (int l = 0; l < 6; l++) {
      NestedWords x = new NestedWords();
      x.read(l);
      due("back of " + l, x.back(), l);
      due("back of nothing", x.back(), -1);
    }
  }

  private static void backOfTheEmptyWord() {
    NestedWords x = loop();
    for (int i = 0; i < 20; i++) {
      due("back at first", x.back(), -1);
    }
    due("live", x.live(), 1);
    due("read", x.read(0), 1);
    due("back", x.back(), 0);
    due("back when empty", x.back(), -1);
    for (int i = 0; i < 16; i++) {
      due("read " + i, x.read(1), 1);
    }
    due("read the seventeenth", x.read(1), -1);
    x.erase();
    due("back when erased", x.back(), -1);
    due("open", x.open(), 0);
  }

  private static void erasesWordOf(int length) {
    NestedWords x = loop();
    x.move(0, 3, 0, 3, false);
    readMany(x, 0, length);
    x.erase();
    due("open", x.open(), 0);
    due("live", x.live(), 1);
    due("accepted", x.accepted(), 1);
    due("next over an empty stack", x.next(), 55);
    due("back", x.back(), -1);
    for (int i = 0; i < 16; i++) {
      due("read " + i, x.read(4), 1);
    }
    due("read the seventeenth", x.read(4), -1);
  }

  private static void erasedTwice() {
    NestedWords x = loop();
    readMany(x, 1, 2);
    x.erase();
    x.erase();
    due("open", x.open(), 0);
    due("back", x.back(), -1);
    due("read", x.read(3), 1);
    due("back after it", x.back(), 3);
  }

  private static void eraseLeavesTheMachine() {
    NestedWords x = loop();
    x.state(3, true, false);
    x.read(0);
    x.erase();
    due("live", x.live(), 9);
    due("accepted", x.accepted(), 1);
    for (int l = 0; l < 6; l++) {
      due("move of " + l, x.move(0, l, 0, 0, true), 1);
    }
    due("move over an empty stack", x.move(0, 2, 0, 3, true), 1);
  }

  private static void noLiveState() {
    NestedWords x = new NestedWords();
    due("without a start", x.live(), 0);
    x.state(0, true, false);
    due("with one", x.live(), 1);
    x.read(0);
    due("without a move", x.live(), 0);
    readMany(x, 4, 15);
    due("when full", x.live(), 0);
    x.erase();
    due("when erased", x.live(), 1);
  }

  private static void everySetOfLiveStates() {
    for (int set = 0; set < 32; set++) {
      NestedWords x = new NestedWords();
      for (int q = 0; q < 5; q++) {
        x.state(q, (set >> q & 1) != 0, false);
        x.move(q, 4, (q + 1) % 5, 0, true);
      }
      due("over the empty word", x.live(), set);
      readMany(x, 4, 1);
      due("after one letter", x.live(), (set << 1 | set >> 4) & 31);
      readMany(x, 4, 14);
      due("after 15 letters", x.live(), set);
      readMany(x, 4, 1);
      due("after 16 letters", x.live(), (set << 1 | set >> 4) & 31);
    }
  }

  private static void acceptedEmptyWord() {
    for (int q = 0; q < 5; q++) {
      NestedWords x = new NestedWords();
      due("neither", x.accepted(), 0);
      x.state(q, true, false);
      due("start alone", x.accepted(), 0);
      x.state((q + 1) % 5, false, true);
      due("start, and another an end", x.accepted(), 0);
      x.state(q, false, true);
      due("end alone", x.accepted(), 0);
      x.state(q, true, true);
      due("both", x.accepted(), 1);
    }
  }

  private static void acceptedFullWord() {
    for (int l = 0; l < 6; l++) {
      NestedWords x = loop();
      readMany(x, l, 16);
      due("sixteen of " + l, x.accepted(), 1);
      x.state(0, true, false);
      due("no end", x.accepted(), 0);
    }
  }

  private static void acceptedIsOneOrZero() {
    NestedWords x = new NestedWords();
    for (int q = 0; q < 5; q++) {
      x.state(q, true, false);
    }
    due("no end", x.accepted(), 0);
    for (int q = 4; q >= 0; q--) {
      x.state(q, true, true);
      due("ends from " + q, x.accepted(), 1);
    }
  }

  private static void openOfTheEmptyWord() {
    NestedWords x = loop();
    due("at first", x.open(), 0);
    x.read(0);
    x.back();
    due("after back", x.open(), 0);
    x.read(1);
    x.erase();
    due("after erase", x.open(), 0);
  }

  private static void closingWithoutOpening() {
    for (int l = 2; l < 4; l++) {
      NestedWords x = new NestedWords();
      for (int i = 1; i <= 14; i++) {
        x.read(l);
        due(i + " closing letters", x.open(), 0);
      }
      x.read(0);
      due("one opening letter after them", x.open(), 1);
      x.read(5 - l);
      due("closed", x.open(), 0);
    }
  }

  private static void closesTheLastOpen() {
    NestedWords x = new NestedWords();
    int[] letters = {0, 1, 3, 0, 2, 4, 3, 2, 1, 5, 1, 2, 2, 3, 0, 0};
    int[] counts = {1, 2, 1, 2, 1, 1, 0, 0, 1, 1, 2, 1, 0, 0, 1, 2};
    for (int i = 0; i < 16; i++) {
      x.read(letters[i]);
      due("after letter " + i, x.open(), counts[i]);
    }
    for (int i = 15; i > 0; i--) {
      x.back();
      due("back before letter " + i, x.open(), counts[i - 1]);
    }
  }

  private static void sixteenOpen() {
    NestedWords x = loop();
    for (int i = 1; i <= 16; i++) {
      x.read(i % 2);
      due("after " + i, x.open(), i);
    }
    x.read(2);
    due("when the closing letter had no room", x.open(), 16);
    NestedWords y = loop();
    readMany(y, 1, 8);
    readMany(y, 3, 8);
    due("eight closed", y.open(), 0);
    NestedWords z = loop();
    readMany(z, 3, 8);
    readMany(z, 1, 8);
    due("eight closing letters first", z.open(), 8);
  }

  private static void openOfDeadWords() {
    NestedWords x = new NestedWords();
    readAll(x, 0, 0, 2, 4, 1);
    due("dead", x.open(), 2);
    x.state(0, true, true);
    for (int l = 0; l < 6; l++) {
      x.move(0, l, 0, 0, true);
    }
    due("alive", x.open(), 2);
  }

  private static void nextOneLetter() {
    for (int l = 0; l < 6; l++) {
      for (int m = 0; m < 3; m++) {
        NestedWords x = new NestedWords();
        x.state(4, true, false);
        x.move(4, l, 0, l == 2 || l == 3 ? 3 : m, true);
        due("letter " + l, x.next(), 1 << l);
      }
    }
  }

  private static void nextNoLetter() {
    NestedWords x = new NestedWords();
    due("no start, no move", x.next(), 0);
    x.state(0, true, true);
    due("no move", x.next(), 0);
    x.move(1, 4, 1, 0, true);
    due("no move from the live state", x.next(), 0);
    x.move(0, 2, 0, 0, true);
    due("no mark on the stack", x.next(), 0);
    NestedWords y = loop();
    y.state(0, false, true);
    due("no start", y.next(), 0);
  }

  private static void nextEveryLetter() {
    NestedWords x = loop();
    for (int i = 0; i < 16; i++) {
      due("after " + i, x.next(), 63);
      x.read(i % 6);
    }
  }

  private static void nextByTheStack() {
    for (int m = 0; m < 3; m++) {
      NestedWords x = new NestedWords();
      x.state(0, true, false);
      x.move(0, 1, 0, m, true);
      x.move(0, 2, 0, m, true);
      x.move(0, 3, 0, 3, true);
      due("empty", x.next(), 10);
      x.read(1);
      due("one mark", x.next(), 6);
      x.read(1);
      due("two marks", x.next(), 6);
      readAll(x, 2, 2);
      due("empty again", x.next(), 10);
    }
  }

  private static void nextWithoutRoom() {
    for (int l = 0; l < 6; l++) {
      NestedWords x = new NestedWords();
      x.state(0, true, false);
      x.move(0, 5, 0, 0, true);
      x.move(0, l, 1, l == 2 || l == 3 ? 3 : 0, true);
      for (int length = 0; length <= 16; length++) {
        due("after " + length, x.next(), 1 << l | 32);
        x.read(5);
      }
    }
    NestedWords y = loop();
    y.move(0, 2, 0, 0, false);
    readMany(y, 0, 16);
    due("over 16 marks", y.next(), 59);
    due("no letter is left over", y.open(), 16);
    due("the last letter is as it was", y.back(), 0);
  }

  private static void closeNeedsNone() {
    NestedWords x = chain(0);
    due("empty word", x.close(), 0);
    readMany(x, 4, 16);
    due("full word", x.close(), 0);
    NestedWords y = tower();
    y.state(0, true, true);
    readMany(y, 0, 3);
    due("with marks on the stack", y.close(), 0);
  }

  private static void closeOneToFour() {
    for (int end = 0; end < 5; end++) {
      NestedWords x = chain(end);
      due("end " + end, x.close(), end);
      for (int read = 1; read <= end; read++) {
        x.read(2);
        due("end " + end + " after " + read, x.close(), end - read);
      }
      x.read(2);
      due("past end " + end, x.close(), -1);
    }
  }

  private static void closeFive() {
    NestedWords x = tower();
    readMany(x, 0, 3);
    due("four are needed", x.close(), 4);
    x.read(0);
    due("five are needed", x.close(), -1);
    x.read(0);
    due("six are needed", x.close(), -1);
    readAll(x, 2, 2);
    due("four are needed now", x.close(), 4);
  }

  private static void closeNone() {
    NestedWords x = new NestedWords();
    due("no machine", x.close(), -1);
    x.state(0, true, false);
    due("no end", x.close(), -1);
    x.state(1, false, true);
    due("no move", x.close(), -1);
    NestedWords y = loop();
    y.state(0, true, false);
    y.state(4, false, true);
    due("never in the end", y.close(), -1);
    NestedWords z = chain(2);
    z.read(5);
    due("nothing live", z.close(), -1);
  }

  private static void closeLeast() {
    for (int ends = 1; ends < 32; ends++) {
      NestedWords x = chain(4);
      for (int q = 0; q < 5; q++) {
        x.state(q, q == 0, (ends >> q & 1) != 0);
      }
      due("ends " + ends, x.close(), Integer.numberOfTrailingZeros(ends));
    }
  }

  private static void closeByTwosAlone() {
    for (int l = 0; l < 6; l++) {
      NestedWords x = new NestedWords();
      x.state(0, true, false);
      x.state(1, false, true);
      x.move(0, l, 1, l < 2 ? 0 : 3, true);
      due("letter " + l, x.close(), l == 2 ? 1 : -1);
    }
    NestedWords y = tower();
    readMany(y, 0, 2);
    y.move(0, 3, 1, 0, true);
    y.move(0, 4, 1, 0, true);
    due("a 3 would be sooner", y.close(), 3);
  }

  private static void closeWithoutRoom() {
    for (int length = 0; length <= 16; length++) {
      for (int end = 0; end < 5; end++) {
        NestedWords x = chain(end);
        readMany(x, 4, length);
        due("end " + end + " after " + length, x.close(), end);
        due("again", x.close(), end);
        due("live", x.live(), 1);
        for (int i = 0; i < length; i++) {
          due("letter", x.back(), 4);
        }
        due("no letter is left over", x.back(), -1);
      }
    }
  }

  private static void closeOverTheStack() {
    for (int marks = 0; marks <= 16; marks++) {
      NestedWords x = tower();
      readMany(x, 4, 16 - marks);
      readMany(x, 0, marks);
      due(marks + " marks", x.close(), marks < 4 ? marks + 1 : -1);
      due("open", x.open(), marks);
    }
    NestedWords y = tower();
    y.state(0, true, true);
    y.move(0, 0, 0, 0, false);
    y.move(0, 0, 2, 0, true);
    y.move(2, 0, 2, 0, true);
    y.move(2, 2, 3, 0, true);
    y.move(3, 2, 4, 0, true);
    y.move(4, 2, 2, 1, true);
    y.move(4, 2, 1, 0, true);
    readMany(y, 0, 16);
    due("three off sixteen", y.close(), 3);
    y.state(1, false, false);
    y.move(1, 2, 0, 0, true);
    due("four off sixteen", y.close(), 4);
  }
}
