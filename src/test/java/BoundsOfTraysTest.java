/**
 * The boundary cases of promises 20 to 23, and of what the terms say of TRAYS: a test for each sentence, named by its
 * promise. What stands in quotes are the document's words.
 */
final class BoundsOfTraysTest {
  private static final int MIN = Integer.MIN_VALUE, MAX = Integer.MAX_VALUE;

  public static void main(String[] args) {
    Due.runAll(BoundsOfTraysTest.class);
  }

  /** A word of each KIND: word k is of KIND k. */
  private static PhraseMoods withKinds() {
    PhraseMoods x = new PhraseMoods();
    for (int k = 0; k < 6; k++) {
      Due.word(x, "w", k, 0, 0);
    }
    return x;
  }

  // ---- promise 20: tray

  // "TRAYS 0 .. 3"
  static void p20TrayOutside0To3IsBad() {
    PhraseMoods x = withKinds();
    for (int tray : new int[] {-1, 4, MIN, MAX}) {
      Due.due("tray(" + tray + ", 0, 1)", x.tray(tray, 0, 1), -2);
    }
    for (int tray = 0; tray < 4; tray++) {
      Due.due("tray(" + tray + ", 0, 1)", x.tray(tray, 0, 1), 1);
    }
  }

  static void p20KindOutside0To5IsBad() {
    PhraseMoods x = withKinds();
    for (int kind : new int[] {-1, 6, MIN, MAX}) {
      Due.due("tray(0, " + kind + ", 1)", x.tray(0, kind, 1), -2);
    }
    Due.due("it is missing", x.laid(0, 0), -11);
    for (int kind = 0; kind < 6; kind++) {
      Due.due("tray(0, " + kind + ", 1)", x.tray(0, kind, 1), 1);
    }
  }

  // "n above 20"
  static void p20SizeAbove20IsBad() {
    PhraseMoods x = withKinds();
    for (int n : new int[] {21, 22, MAX}) {
      Due.due("tray(0, 0, " + n + ")", x.tray(0, 0, n), -2);
    }
    Due.due("it is missing", x.laid(0, 0), -11);
  }

  static void p20SizeOf20() {
    PhraseMoods x = withKinds();
    Due.due("tray(0, 0, 20)", x.tray(0, 0, 20), 1);
    Due.due("lays(0, 19, 1)", x.lays(0, 19, 1), 1);
    Due.due("laid(0, 19)", x.laid(0, 19), 1);
    Due.due("laid(0, 20)", x.laid(0, 20), -12);
  }

  static void p20SizeOf0() {
    PhraseMoods x = withKinds();
    Due.due("tray(0, 0, 0)", x.tray(0, 0, 0), 1);
    Due.due("it isn't missing, but has no place", x.laid(0, 0), -12);
    Due.due("no word comes there", x.lays(0, 0, 0), -12);
    Due.due("like it", x.like(1, 0), 0);
  }

  // "-14 a size below 0"
  static void p20SizeBelow0IsNegative() {
    PhraseMoods x = withKinds();
    for (int n : new int[] {-1, -20, MIN}) {
      Due.due("tray(0, 0, " + n + ")", x.tray(0, 0, n), -14);
    }
    Due.due("it is missing", x.laid(0, 0), -11);
  }

  static void p20BadIsAheadOfNegative() {
    PhraseMoods x = withKinds();
    Due.due("tray 4", x.tray(4, 0, -1), -2);
    Due.due("tray -1", x.tray(-1, 0, -1), -2);
    Due.due("kind 6", x.tray(0, 6, -1), -2);
    Due.due("kind -1", x.tray(0, -1, -1), -2);
  }

  static void p20RefusedTrayStays() {
    PhraseMoods x = withKinds();
    x.tray(0, 1, 3);
    x.lays(0, 2, 4);
    Due.due("n 21", x.tray(0, 0, 21), -2);
    Due.due("kind 6", x.tray(0, 6, 1), -2);
    Due.due("n -1", x.tray(0, 0, -1), -14);
    Due.due("what lay there", x.laid(0, 2), 4);
    Due.due("its size", x.laid(0, 3), -12);
    Due.due("its kind", x.lays(0, 0, 2), -16);
  }

  // "(all empty)"
  static void p20AllEmpty() {
    PhraseMoods x = withKinds();
    for (int turn = 0; turn < 2; turn++) {
      Due.due("tray", x.tray(0, 0, 20), 1);
      for (int i = 0; i < 20; i++) {
        Due.due("laid(0, " + i + ")", x.laid(0, i), -1);
        x.lays(0, i, i % 6);
      }
    }
  }

  static void p20SmallerAndLargerAgain() {
    PhraseMoods x = withKinds();
    x.tray(0, 0, 5);
    x.lays(0, 4, 1);
    x.tray(0, 0, 2);
    Due.due("smaller", x.laid(0, 2), -12);
    x.tray(0, 0, 5);
    Due.due("empty there", x.laid(0, 4), -1);
  }

  static void p20OneTrayAlone() {
    PhraseMoods x = withKinds();
    for (int tray = 0; tray < 4; tray++) {
      Due.due("missing", x.laid(tray, 0), -11);
      x.tray(tray, 0, tray + 1);
      x.lays(tray, tray, tray);
    }
    for (int tray = 0; tray < 4; tray++) {
      Due.due("what lies there", x.laid(tray, tray), tray);
      Due.due("its size", x.laid(tray, tray + 1), -12);
    }
  }

  // ---- promise 21: lays

  static void p21TrayOutside0To3IsBad() {
    PhraseMoods x = withKinds();
    for (int tray : new int[] {-1, 4, MIN, MAX}) {
      Due.due("lays(" + tray + ", 0, 0)", x.lays(tray, 0, 0), -2);
      Due.due("lays(" + tray + ", 0, NONE)", x.lays(tray, 0, -1), -2);
    }
  }

  static void p21WordThatIsNoneIsBad() {
    PhraseMoods x = withKinds();
    x.tray(0, 0, 1);
    for (int word : new int[] {-2, 6, 19, 20, MIN, MAX}) {
      Due.due("lays(0, 0, " + word + ")", x.lays(0, 0, word), -2);
    }
    Due.due("nothing came", x.laid(0, 0), -1);
  }

  static void p21BadIsAheadOfMissingAndOutside() {
    PhraseMoods x = withKinds();
    Due.due("no word, missing", x.lays(0, 0, 6), -2);
    Due.due("word -2, missing", x.lays(0, 0, -2), -2);
    x.tray(0, 0, 1);
    Due.due("no word, no place", x.lays(0, 1, 6), -2);
  }

  // "-11 it is missing"
  static void p21MissingTray() {
    PhraseMoods x = withKinds();
    for (int tray = 0; tray < 4; tray++) {
      Due.due("lays(" + tray + ", 0, 0)", x.lays(tray, 0, 0), -11);
    }
  }

  static void p21MissingIsAheadOfOutside() {
    PhraseMoods x = withKinds();
    Due.due("lays(0, -1, 0)", x.lays(0, -1, 0), -11);
    Due.due("lays(0, 20, 0)", x.lays(0, 20, 0), -11);
  }

  // "-12 a place outside"
  static void p21PlaceOutside() {
    PhraseMoods x = withKinds();
    x.tray(0, 0, 3);
    for (int i : new int[] {-1, 3, 4, 19, 20, MIN, MAX}) {
      Due.due("lays(0, " + i + ", 0)", x.lays(0, i, 0), -12);
      Due.due("lays(0, " + i + ", NONE)", x.lays(0, i, -1), -12);
    }
    Due.due("lays(0, 0, 0)", x.lays(0, 0, 0), 1);
    Due.due("lays(0, 2, 0)", x.lays(0, 2, 0), 1);
  }

  static void p21OutsideIsAheadOfNotMadeFor() {
    PhraseMoods x = withKinds();
    x.tray(0, 3, 1);
    Due.due("a plain one, no place", x.lays(0, 1, 0), -12);
    Due.due("a plain one, no place", x.lays(0, -1, 0), -12);
  }

  // "-16 a WORD that the TRAY isn't made for": "made for a KIND and those under it"
  static void p21WordThatTheTrayIsNotMadeFor() {
    PhraseMoods x = withKinds();
    String[] made = {"012345", "134", "25", "3", "4", "5"};
    for (int kind = 0; kind < 6; kind++) {
      x.tray(0, kind, 1);
      for (int word = 0; word < 6; word++) {
        boolean isMade = made[kind].indexOf((char) ('0' + word)) >= 0;
        int before = x.laid(0, 0);
        Due.due("word " + word + " in a tray for " + kind, x.lays(0, 0, word), isMade ? 1 : -16);
        Due.due("what lies there", x.laid(0, 0), isMade ? word : before);
      }
    }
  }

  // "A WORD (NONE: nothing)": into any TRAY
  static void p21NothingComesToAnyTray() {
    PhraseMoods x = withKinds();
    for (int kind = 0; kind < 6; kind++) {
      x.tray(0, kind, 2);
      x.lays(0, 0, kind);
      Due.due("lays(0, 0, NONE) for " + kind, x.lays(0, 0, -1), 1);
      Due.due("laid(0, 0)", x.laid(0, 0), -1);
      Due.due("where nothing lay", x.lays(0, 1, -1), 1);
    }
  }

  static void p21OnePlaceAlone() {
    PhraseMoods x = withKinds();
    x.tray(0, 0, 3);
    x.lays(0, 1, 5);
    Due.due("laid(0, 0)", x.laid(0, 0), -1);
    Due.due("laid(0, 1)", x.laid(0, 1), 5);
    Due.due("laid(0, 2)", x.laid(0, 2), -1);
    x.lays(0, 0, 5);
    Due.due("the same word twice", x.laid(0, 0) + x.laid(0, 1), 10);
  }

  static void p21Word19() {
    PhraseMoods x = new PhraseMoods();
    for (int i = 0; i < 20; i++) {
      Due.word(x, "w", 5, 0, 0);
    }
    x.tray(3, 5, 20);
    Due.due("lays(3, 19, 19)", x.lays(3, 19, 19), 1);
    Due.due("laid(3, 19)", x.laid(3, 19), 19);
    Due.due("lays(3, 19, 20)", x.lays(3, 19, 20), -2);
  }

  // ---- promise 22: laid

  static void p22TrayOutside0To3IsBad() {
    PhraseMoods x = withKinds();
    for (int tray : new int[] {-1, 4, MIN, MAX}) {
      Due.due("laid(" + tray + ", 0)", x.laid(tray, 0), -2);
    }
  }

  static void p22MissingTrayAlsoWherePlacesAreOutside() {
    PhraseMoods x = withKinds();
    for (int i : new int[] {0, -1, 20, MIN, MAX}) {
      Due.due("laid(0, " + i + ")", x.laid(0, i), -11);
    }
  }

  static void p22PlaceOutside() {
    PhraseMoods x = withKinds();
    x.tray(0, 0, 3);
    for (int i : new int[] {-1, 3, 19, 20, MIN, MAX}) {
      Due.due("laid(0, " + i + ")", x.laid(0, i), -12);
    }
  }

  // "The WORD at place i of a TRAY (NONE)"
  static void p22WordOrNone() {
    PhraseMoods x = withKinds();
    x.tray(0, 0, 3);
    x.lays(0, 2, 0);
    Due.due("laid(0, 0)", x.laid(0, 0), -1);
    Due.due("word 0", x.laid(0, 2), 0);
  }

  // ---- promise 23: like

  static void p23TrayOutside0To3IsBad() {
    PhraseMoods x = withKinds();
    x.tray(0, 0, 1);
    for (int tray : new int[] {-1, 4, MIN, MAX}) {
      Due.due("like(" + tray + ", 0)", x.like(tray, 0), -2);
      Due.due("like(0, " + tray + ")", x.like(0, tray), -2);
    }
  }

  static void p23BadIsAheadOfMissing() {
    PhraseMoods x = withKinds();
    Due.due("like(4, 0)", x.like(4, 0), -2);
    Due.due("like(-1, 0)", x.like(-1, 0), -2);
  }

  // "-11: the other"
  static void p23MissingOther() {
    PhraseMoods x = withKinds();
    x.tray(0, 1, 2);
    x.lays(0, 1, 4);
    Due.due("like(0, 1)", x.like(0, 1), -11);
    Due.due("it stays", x.laid(0, 1), 4);
    Due.due("of itself", x.like(2, 2), -11);
  }

  // That the first one is missing does not matter.
  static void p23MissingOneBecomesLikeTheOther() {
    PhraseMoods x = withKinds();
    x.tray(0, 1, 2);
    x.lays(0, 1, 4);
    Due.due("like(3, 0)", x.like(3, 0), 2);
    Due.due("what lies there", x.laid(3, 1), 4);
    Due.due("nothing", x.laid(3, 0), -1);
  }

  // "its size": 0 to 20, also where the one that was there is larger or smaller
  static void p23SizeFrom0To20() {
    PhraseMoods x = withKinds();
    x.tray(0, 0, 20);
    x.tray(1, 0, 0);
    x.tray(2, 0, 3);
    x.lays(0, 19, 1);
    Due.due("like(2, 0)", x.like(2, 0), 20);
    Due.due("laid(2, 19)", x.laid(2, 19), 1);
    Due.due("like(0, 1)", x.like(0, 1), 0);
    Due.due("laid(0, 0)", x.laid(0, 0), -12);
    Due.due("the third stays", x.laid(2, 19), 1);
  }

  // It is made for the same KIND.
  static void p23KindOfTheOther() {
    PhraseMoods x = withKinds();
    x.tray(0, 0, 1);
    x.tray(1, 1, 1);
    Due.due("like(0, 1)", x.like(0, 1), 1);
    Due.due("a verb", x.lays(0, 0, 2), -16);
    Due.due("a name", x.lays(0, 0, 3), 1);
    x.tray(2, 5, 1);
    x.tray(3, 0, 1);
    Due.due("like(2, 3)", x.like(2, 3), 1);
    Due.due("a plain one", x.lays(2, 0, 0), 1);
  }

  // "as that is now": what comes later to one of them does not come to the other
  static void p23AsThatIsNow() {
    PhraseMoods x = withKinds();
    x.tray(0, 0, 2);
    x.lays(0, 0, 1);
    x.like(1, 0);
    x.lays(0, 0, 2);
    x.lays(1, 1, 3);
    Due.due("laid(1, 0)", x.laid(1, 0), 1);
    Due.due("laid(0, 0)", x.laid(0, 0), 2);
    Due.due("laid(0, 1)", x.laid(0, 1), -1);
    x.tray(0, 5, 1);
    Due.due("the size stays", x.laid(1, 1), 3);
    Due.due("the kind stays", x.lays(1, 0, 0), 1);
  }

  static void p23LikeItself() {
    PhraseMoods x = withKinds();
    x.tray(0, 1, 3);
    x.lays(0, 2, 4);
    Due.due("like(0, 0)", x.like(0, 0), 3);
    Due.due("laid(0, 2)", x.laid(0, 2), 4);
    Due.due("laid(0, 0)", x.laid(0, 0), -1);
    Due.due("its kind", x.lays(0, 0, 2), -16);
  }
}
