// Every promise by hand: ordinary inputs, the edges the document names, and wrong inputs.
public final class PromisesTest {
  private static final int[] NO_STATE = {-1, 5, 6, 32, 33, Integer.MIN_VALUE, Integer.MAX_VALUE};
  private static final int[] NO_LETTER = {-1, 6, 7, 32, Integer.MIN_VALUE, Integer.MAX_VALUE};
  private static int wrong = 0;

  private static void due(String what, int got, int want) {
    if (got != want) {
      wrong++;
      System.out.println(what + " answered " + got + ", due is " + want);
    }
  }

  public static void main(String[] args) {
    newObject();
    moveAnswers();
    moveRefusals();
    plainMovesHaveNoMark();
    everyMoveStandsAlone();
    moveTakesEffectOnTheWordAtHand();
    stateAnswers();
    stateTakesEffectOnTheWordAtHand();
    readCountsLiveStates();
    readRefusals();
    readFillsSixteen();
    backTakesLetters();
    eraseKeepsTheMachine();
    liveOfTheEmptyWord();
    liveWithAnyStack();
    marksMustMatch();
    emptyStackMoves();
    marksUnderneathBelongToTheirRun();
    acceptedNeedsALiveEnd();
    openCounts();
    nextLetters();
    nextAtFullWord();
    closeCounts();
    closeUsesTheFirstClosingLetterAlone();
    closeAtFullWord();
    questionsChangeNothing();
    refusalsChangeNothing();
    objectsStandAlone();
    fullMachineEnds();
    System.out.println(wrong == 0 ? "all answers are as due" : wrong + " answers are not as due");
    if (wrong != 0) {
      System.exit(1);
    }
  }

  private static void readAll(NestedWords x, int... letters) {
    for (int letter : letters) {
      x.read(letter);
    }
  }

  // A loop in state 0 over every letter: all words live, with mark 0 alone.
  private static NestedWords loop() {
    NestedWords x = new NestedWords();
    x.state(0, true, true);
    for (int l = 0; l < 6; l++) {
      x.move(0, l, 0, 0, true);
    }
    x.move(0, 2, 0, 3, true);
    x.move(0, 3, 0, 3, true);
    return x;
  }

  private static void newObject() {
    NestedWords x = new NestedWords();
    due("P1 live", x.live(), 0);
    due("P1 accepted", x.accepted(), 0);
    due("P1 open", x.open(), 0);
    due("P1 next", x.next(), 0);
    due("P1 close", x.close(), -1);
    due("P1 back", x.back(), -1);
    for (int q = 0; q < 5; q++) {
      for (int r = 0; r < 5; r++) {
        for (int l = 0; l < 6; l++) {
          int marks = l < 2 ? 3 : l < 4 ? 4 : 1;
          for (int m = 0; m < marks; m++) {
            due("P1 move " + q + l + r + m, x.move(q, l, r, m, false), 0);
          }
        }
      }
    }
    NestedWords y = new NestedWords();
    for (int q = 0; q < 5; q++) {
      y.state(q, true, false);
    }
    due("P1 no end", y.accepted(), 0);
    due("P1 no move", y.next(), 0);
    for (int q = 0; q < 5; q++) {
      y.state(q, false, true);
    }
    due("P1 no start", y.live(), 0);
  }

  private static void moveAnswers() {
    NestedWords x = new NestedWords();
    due("P2 first on", x.move(1, 0, 2, 2, true), 0);
    due("P2 again on", x.move(1, 0, 2, 2, true), 1);
    due("P2 off", x.move(1, 0, 2, 2, false), 1);
    due("P2 off again", x.move(1, 0, 2, 2, false), 0);
    due("P2 on after off", x.move(1, 0, 2, 2, true), 0);
    due("P2 close with 3", x.move(4, 3, 4, 3, true), 0);
    due("P2 close with 3 again", x.move(4, 3, 4, 3, true), 1);
    due("P2 close with 2 is another", x.move(4, 3, 4, 2, false), 0);
  }

  private static void moveRefusals() {
    NestedWords x = new NestedWords();
    for (int bad : NO_STATE) {
      for (int l = 0; l < 6; l++) {
        due("P2 q " + bad, x.move(bad, l, 0, 0, true), -1);
        due("P2 r " + bad, x.move(0, l, bad, 0, true), -1);
        due("P2 q off " + bad, x.move(bad, l, 0, 0, false), -1);
      }
    }
    for (int bad : NO_LETTER) {
      due("P2 l " + bad, x.move(0, bad, 0, 0, true), -1);
    }
    for (int bad : new int[] {-1, 4, 5, Integer.MIN_VALUE, Integer.MAX_VALUE}) {
      for (int l = 0; l < 4; l++) {
        due("P2 m " + bad + " with " + l, x.move(0, l, 0, bad, true), -1);
      }
    }
    due("P2 3 with 0", x.move(0, 0, 0, 3, true), -1);
    due("P2 3 with 1", x.move(0, 1, 0, 3, true), -1);
    due("P2 3 with 2", x.move(0, 2, 0, 3, true), 0);
    due("P2 3 with 3", x.move(0, 3, 0, 3, true), 0);
  }

  private static void plainMovesHaveNoMark() {
    for (int l = 4; l < 6; l++) {
      NestedWords x = new NestedWords();
      x.state(0, true, false);
      due("P2 plain", x.move(0, l, 1, 7, true), 0);
      due("P2 plain, 0", x.move(0, l, 1, 0, true), 1);
      due("P2 plain, least", x.move(0, l, 1, Integer.MIN_VALUE, true), 1);
      due("P2 plain, greatest", x.move(0, l, 1, Integer.MAX_VALUE, true), 1);
      due("P2 plain read", x.read(l), 1);
      due("P2 plain live", x.live(), 2);
      due("P2 plain off", x.move(0, l, 1, 3, false), 1);
      due("P2 plain gone", x.move(0, l, 1, 7, false), 0);
      due("P2 plain wrong q", x.move(5, l, 1, 0, true), -1);
      due("P2 plain wrong r", x.move(0, l, 5, 0, true), -1);
    }
  }

  // One move is on; none of the others may answer 1.
  private static void everyMoveStandsAlone() {
    for (int l = 0; l < 6; l++) {
      int marks = l < 2 ? 3 : l < 4 ? 4 : 1;
      for (int m = 0; m < marks; m++) {
        for (int q = 0; q < 5; q++) {
          for (int r = 0; r < 5; r++) {
            NestedWords x = new NestedWords();
            x.move(q, l, r, m, true);
            due("P2 moves beside " + q + l + r + m, countMoves(x), 1);
            due("P2 move gone " + q + l + r + m, x.move(q, l, r, m, false), 0);
          }
        }
      }
    }
  }

  // Takes every move out and counts those that were there.
  private static int countMoves(NestedWords x) {
    int count = 0;
    for (int l = 0; l < 6; l++) {
      int marks = l < 2 ? 3 : l < 4 ? 4 : 1;
      for (int cell = 0; cell < marks * 25; cell++) {
        count += x.move(cell / 5 % 5, l, cell % 5, cell / 25, false);
      }
    }
    return count;
  }

  private static void moveTakesEffectOnTheWordAtHand() {
    NestedWords x = new NestedWords();
    x.state(0, true, false);
    readAll(x, 4, 4);
    due("P2 dead", x.live(), 0);
    x.move(0, 4, 1, 0, true);
    due("P2 half", x.live(), 0);
    x.move(1, 4, 3, 0, true);
    due("P2 alive", x.live(), 8);
    x.move(0, 4, 1, 0, false);
    due("P2 dead again", x.live(), 0);
  }

  private static void stateAnswers() {
    NestedWords x = new NestedWords();
    for (int q = 0; q < 5; q++) {
      due("P3 " + q, x.state(q, true, false), 0);
      due("P3 starts to " + q, x.live(), (2 << q) - 1);
      due("P3 not yet an end " + q, x.accepted(), 0);
    }
    for (int q = 0; q < 5; q++) {
      due("P3 end " + q, x.state(q, true, true), 0);
      due("P3 accepted by " + q, x.accepted(), 1);
      due("P3 no end " + q, x.state(q, true, false), 0);
      due("P3 not accepted after " + q, x.accepted(), 0);
    }
    due("P3 no start", x.state(2, false, true), 0);
    due("P3 live without 2", x.live(), 27);
    due("P3 end that is not live", x.accepted(), 0);
    for (int bad : NO_STATE) {
      due("P3 bad " + bad, x.state(bad, true, true), -1);
      due("P3 bad off " + bad, x.state(bad, false, false), -1);
      due("P3 live after bad " + bad, x.live(), 27);
      due("P3 accepted after bad " + bad, x.accepted(), 0);
    }
    x.state(2, true, true);
    x.state(5, false, false);
    due("P3 still live", x.live(), 31);
    due("P3 still accepted", x.accepted(), 1);
  }

  private static void stateTakesEffectOnTheWordAtHand() {
    NestedWords x = new NestedWords();
    x.move(3, 5, 4, 0, true);
    readAll(x, 5);
    due("P3 no start", x.live(), 0);
    x.state(3, true, false);
    due("P3 start", x.live(), 16);
    due("P3 not accepted", x.accepted(), 0);
    x.state(4, false, true);
    due("P3 accepted", x.accepted(), 1);
    x.state(3, false, false);
    due("P3 start gone", x.live(), 0);
  }

  private static void readCountsLiveStates() {
    NestedWords x = new NestedWords();
    x.state(0, true, false);
    for (int r = 0; r < 5; r++) {
      x.move(0, 4, r, 0, true);
    }
    x.move(1, 5, 3, 0, true);
    x.move(2, 5, 3, 0, true);
    x.move(4, 5, 4, 0, true);
    due("P4 all five", x.read(4), 5);
    due("P4 two", x.read(5), 2);
    due("P4 which two", x.live(), 24);
    due("P4 one", x.read(5), 1);
    due("P4 none", x.read(0), 0);
    due("P4 none is read too", x.back(), 0);
    due("P4 one still", x.live(), 16);
  }

  private static void readRefusals() {
    NestedWords x = loop();
    x.read(0);
    for (int bad : NO_LETTER) {
      due("P4 bad " + bad, x.read(bad), -1);
    }
    due("P4 open", x.open(), 1);
    due("P4 last", x.back(), 0);
    due("P4 empty", x.back(), -1);
  }

  private static void readFillsSixteen() {
    NestedWords x = loop();
    for (int i = 0; i < 16; i++) {
      due("P4 letter " + i, x.read(i % 6), 1);
    }
    for (int l = 0; l < 6; l++) {
      due("P4 full for " + l, x.read(l), -1);
    }
    due("P4 bad when full", x.read(6), -1);
    for (int i = 15; i >= 0; i--) {
      due("P4 back " + i, x.back(), i % 6);
    }
    due("P4 all back", x.back(), -1);
    NestedWords dead = new NestedWords();
    for (int i = 0; i < 16; i++) {
      due("P4 dead letter " + i, dead.read(i % 2), 0);
    }
    due("P4 dead and full", dead.read(0), -1);
    due("P4 dead and open", dead.open(), 16);
    due("P4 one off", dead.back(), 1);
    due("P4 room again", dead.read(0), 0);
    due("P4 full again", dead.read(0), -1);
  }

  private static void backTakesLetters() {
    NestedWords x = new NestedWords();
    due("P5 empty", x.back(), -1);
    due("P5 empty again", x.back(), -1);
    x.state(0, true, false);
    x.move(0, 0, 1, 2, true);
    x.move(1, 3, 2, 2, true);
    readAll(x, 0, 3);
    due("P5 live", x.live(), 4);
    due("P5 the 3", x.back(), 3);
    due("P5 live before 3", x.live(), 2);
    due("P5 open before 3", x.open(), 1);
    due("P5 3 again", x.read(3), 1);
    due("P5 live again", x.live(), 4);
    due("P5 the 3 again", x.back(), 3);
    due("P5 the 0", x.back(), 0);
    due("P5 live at start", x.live(), 1);
    due("P5 done", x.back(), -1);
  }

  private static void eraseKeepsTheMachine() {
    NestedWords x = loop();
    x.erase();
    due("P6 of an empty word", x.live(), 1);
    readAll(x, 0, 0, 4);
    x.erase();
    due("P6 back", x.back(), -1);
    due("P6 open", x.open(), 0);
    due("P6 live", x.live(), 1);
    due("P6 accepted", x.accepted(), 1);
    due("P6 move stays", x.move(0, 0, 0, 0, true), 1);
    for (int i = 0; i < 16; i++) {
      due("P6 room " + i, x.read(4), 1);
    }
    due("P6 full", x.read(4), -1);
    x.erase();
    due("P6 from full", x.read(2), 1);
    due("P6 one letter", x.back(), 2);
    due("P6 and no more", x.back(), -1);
  }

  private static void liveOfTheEmptyWord() {
    for (int set = 0; set < 32; set++) {
      NestedWords x = new NestedWords();
      for (int q = 0; q < 5; q++) {
        x.state(q, (set >> q & 1) != 0, false);
      }
      due("P7 starts", x.live(), set);
    }
  }

  private static void liveWithAnyStack() {
    NestedWords x = new NestedWords();
    x.state(0, true, false);
    x.move(0, 0, 1, 0, true);
    x.move(0, 0, 2, 1, true);
    x.move(0, 0, 4, 2, true);
    x.move(1, 1, 3, 2, true);
    due("P7 three", x.read(0), 3);
    due("P7 three marks", x.live(), 22);
    due("P7 one", x.read(1), 1);
    due("P7 two on the stack", x.live(), 8);
  }

  // Each opening mark meets each closing mark: only equal ones let the run go on.
  private static void marksMustMatch() {
    for (int o = 0; o < 2; o++) {
      for (int c = 2; c < 4; c++) {
        for (int put = 0; put < 3; put++) {
          for (int top = 0; top < 4; top++) {
            NestedWords x = new NestedWords();
            x.state(1, true, false);
            x.move(1, o, 2, put, true);
            x.move(2, 4, 3, 0, true);
            x.move(3, c, 4, top, true);
            readAll(x, o, 4);
            due("P7 mark " + put + " and " + top, x.read(c), put == top ? 1 : 0);
            due("P7 live " + put + " and " + top, x.live(), put == top ? 16 : 0);
          }
        }
      }
    }
  }

  private static void emptyStackMoves() {
    NestedWords x = new NestedWords();
    x.state(0, true, false);
    x.move(0, 2, 1, 3, true);
    x.move(0, 2, 2, 0, true);
    x.move(1, 0, 0, 1, true);
    x.move(0, 2, 3, 1, true);
    x.move(3, 2, 4, 3, true);
    due("P7 only the empty one", x.read(2), 1);
    due("P7 led to 1", x.live(), 2);
    x.read(0);
    x.read(2);
    due("P7 only the marked one", x.live(), 8);
    x.read(2);
    due("P7 empty again", x.live(), 16);
    x.read(2);
    due("P7 no move", x.live(), 0);
  }

  // Two runs stand in one state over different stacks: taking the upper mark off
  // must not let one run go on over the stack of the other.
  private static void marksUnderneathBelongToTheirRun() {
    NestedWords x = new NestedWords();
    x.state(0, true, false);
    x.move(0, 0, 1, 0, true);
    x.move(0, 0, 2, 1, true);
    x.move(1, 0, 3, 0, true);
    x.move(2, 0, 3, 1, true);
    x.move(3, 2, 3, 0, true);
    x.move(3, 2, 4, 1, true);
    x.move(3, 3, 0, 0, true);
    x.move(3, 3, 1, 1, true);
    x.move(4, 3, 2, 1, true);
    x.move(4, 3, 3, 0, true);
    readAll(x, 0, 0);
    due("P7 one state", x.live(), 8);
    x.read(2);
    due("P7 parted", x.live(), 24);
    x.read(3);
    due("P7 own marks", x.live(), 5);
  }

  private static void acceptedNeedsALiveEnd() {
    NestedWords x = new NestedWords();
    x.state(0, true, false);
    x.state(1, false, true);
    x.move(0, 0, 1, 0, true);
    x.move(0, 0, 2, 1, true);
    x.move(1, 2, 2, 0, true);
    due("P8 empty word", x.accepted(), 0);
    x.read(0);
    due("P8 some choice, stack not empty", x.accepted(), 1);
    x.read(2);
    due("P8 live but no end", x.accepted(), 0);
    x.state(2, false, true);
    due("P8 end now", x.accepted(), 1);
    x.read(5);
    due("P8 nothing live", x.accepted(), 0);
    due("P8 other live end", loop().accepted(), 1);
  }

  private static void openCounts() {
    NestedWords x = new NestedWords();
    int[] letters = {2, 3, 0, 1, 4, 2, 5, 3, 3, 2, 1, 0, 0, 3, 4, 2};
    int[] counts = {0, 0, 1, 2, 2, 1, 1, 0, 0, 0, 1, 2, 3, 2, 2, 1};
    for (int i = 0; i < letters.length; i++) {
      x.read(letters[i]);
      due("P9 after " + i, x.open(), counts[i]);
    }
    x.back();
    due("P9 after back", x.open(), 2);
    x.erase();
    due("P9 after erase", x.open(), 0);
  }

  private static void nextLetters() {
    NestedWords x = new NestedWords();
    x.state(0, true, false);
    x.move(0, 2, 1, 0, true);
    x.move(0, 3, 1, 3, true);
    due("P10 empty stack", x.next(), 8);
    x.move(0, 1, 0, 0, true);
    due("P10 opening too", x.next(), 10);
    x.read(1);
    due("P10 marked stack", x.next(), 6);
    x.move(0, 4, 2, 0, true);
    x.move(0, 5, 2, 0, true);
    x.move(0, 0, 2, 2, true);
    due("P10 plain and opening", x.next(), 55);
    x.read(5);
    due("P10 no move out", x.next(), 0);
    x.read(5);
    due("P10 dead", x.next(), 0);
    due("P10 every letter", loop().next(), 63);
  }

  private static void nextAtFullWord() {
    NestedWords x = loop();
    for (int i = 0; i < 16; i++) {
      x.read(0);
    }
    due("P10 full", x.next(), 63);
    due("P10 full still", x.open(), 16);
    x.move(0, 2, 0, 0, false);
    due("P10 full, no 2", x.next(), 59);
    x.move(0, 0, 0, 0, false);
    due("P10 full, dead", x.next(), 0);
  }

  private static void closeCounts() {
    NestedWords x = new NestedWords();
    x.state(0, true, false);
    x.state(1, false, true);
    x.move(0, 0, 0, 0, true);
    x.move(0, 2, 0, 0, true);
    x.move(0, 2, 1, 3, true);
    due("P11 one past the empty word", x.close(), 1);
    int[] want = {2, 3, 4, -1, -1};
    for (int i = 0; i < want.length; i++) {
      x.read(0);
      due("P11 after opening " + (i + 1), x.close(), want[i]);
    }
    readAll(x, 2, 2);
    due("P11 after two closings", x.close(), 4);
    readAll(x, 2, 2, 2, 2);
    due("P11 accepted", x.close(), 0);
    x.read(2);
    due("P11 dead", x.close(), -1);
    x.back();
    x.move(1, 2, 1, 3, true);
    due("P11 the least", x.close(), 0);
  }

  private static void closeUsesTheFirstClosingLetterAlone() {
    NestedWords x = new NestedWords();
    x.state(0, true, false);
    x.state(1, false, true);
    x.move(0, 3, 1, 3, true);
    x.move(0, 4, 1, 0, true);
    x.move(0, 0, 1, 0, true);
    due("P11 only 2", x.close(), -1);
    x.move(0, 2, 2, 3, true);
    x.move(2, 2, 1, 3, true);
    due("P11 two", x.close(), 2);
  }

  private static void closeAtFullWord() {
    NestedWords x = loop();
    x.state(0, true, false);
    x.state(4, false, true);
    for (int l = 1; l < 4; l++) {
      x.move(l, 2, l + 1, 0, true);
    }
    x.move(0, 2, 1, 0, true);
    for (int i = 0; i < 16; i++) {
      x.read(0);
    }
    due("P11 full", x.close(), 4);
    due("P11 full still", x.open(), 16);
    due("P11 the last stays", x.back(), 0);
    x.read(2);
    due("P11 full with a closing letter", x.close(), 3);
    due("P11 again", x.close(), 3);
  }

  private static void questionsChangeNothing() {
    NestedWords x = loop();
    int[] letters = {0, 4, 1, 5, 3, 0};
    readAll(x, letters);
    for (int turn = 0; turn < 3; turn++) {
      due("P12 next", x.next(), 63);
      due("P12 close", x.close(), 0);
      due("P12 live", x.live(), 1);
      due("P12 accepted", x.accepted(), 1);
      due("P12 open", x.open(), 2);
    }
    x.state(0, true, false);
    due("P12 close in vain", x.close(), -1);
    for (int i = letters.length - 1; i >= 0; i--) {
      due("P12 letter " + i, x.back(), letters[i]);
    }
    due("P12 no more letters", x.back(), -1);
  }

  private static void refusalsChangeNothing() {
    NestedWords x = loop();
    for (int i = 0; i < 15; i++) {
      x.read(4);
    }
    x.read(0);
    int[] bad = {-1, 6, 7, 100, Integer.MIN_VALUE, Integer.MAX_VALUE};
    for (int b : bad) {
      due("P12 state", x.state(b, false, false), -1);
      due("P12 move q", x.move(b, 0, 0, 0, false), -1);
      due("P12 move l", x.move(0, b, 0, 0, false), -1);
      due("P12 move r", x.move(0, 0, b, 0, false), -1);
      due("P12 move m", x.move(0, 0, 0, b, false), -1);
      due("P12 move m closing", x.move(0, 2, 0, b, false), -1);
      due("P12 read", x.read(b), -1);
    }
    due("P12 move 3", x.move(0, 1, 0, 3, false), -1);
    due("P12 full", x.read(2), -1);
    due("P12 live", x.live(), 1);
    due("P12 accepted", x.accepted(), 1);
    due("P12 open", x.open(), 1);
    due("P12 next", x.next(), 63);
    due("P12 back", x.back(), 0);
    due("P12 moves", countMoves(x), 8);
    NestedWords y = new NestedWords();
    for (int b : bad) {
      y.state(b, true, true);
      y.move(b, 0, 0, 0, true);
      y.move(0, b, 0, 0, true);
      y.move(0, 0, b, 0, true);
      y.move(0, 3, 0, b, true);
      y.move(0, 1, 0, b, true);
    }
    y.move(0, 0, 0, 3, true);
    y.move(0, 1, 0, 3, true);
    y.move(0, 2, 0, 4, true);
    due("P12 back of nothing", y.back(), -1);
    due("P12 room is left", y.read(4), 0);
    due("P12 one letter", y.back(), 4);
    due("P12 no state", y.live(), 0);
    due("P12 no moves", countMoves(y), 0);
  }

  private static void objectsStandAlone() {
    NestedWords x = loop();
    NestedWords y = new NestedWords();
    x.read(0);
    due("P1 other object", y.live(), 0);
    due("P1 other word", y.back(), -1);
    due("P1 this word", x.back(), 0);
  }

  // Far too many stacks to try one by one.
  private static void fullMachineEnds() {
    NestedWords x = new NestedWords();
    for (int q = 0; q < 5; q++) {
      x.state(q, true, q == 3);
      for (int r = 0; r < 5; r++) {
        for (int m = 0; m < 3; m++) {
          x.move(q, 0, r, m, true);
          x.move(q, 2, r, m, true);
        }
      }
    }
    for (int i = 0; i < 16; i++) {
      due("P7 full machine", x.read(0), 5);
    }
    due("P11 full machine", x.close(), 0);
    due("P10 full machine", x.next(), 5);
    x.state(3, true, false);
    due("P11 full machine in vain", x.close(), -1);
  }
}
