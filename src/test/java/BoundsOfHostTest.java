/**
 * The boundary cases of promises 28 to 30, and of what the terms say of SHEETS: a test for each sentence, named by its
 * promise. What stands in quotes are the document's words.
 */
final class BoundsOfHostTest {
  private static final int MIN = Integer.MIN_VALUE, MAX = Integer.MAX_VALUE;
  /** The SHEET by which isItem looks at others. */
  private static final int LOOK = 3;

  public static void main(String[] args) {
    Due.runAll(BoundsOfHostTest.class);
  }

  /** FRAME k says one word of k + 1 letters, for k from 0 to 4. */
  private static PhraseMoods withLengths() {
    PhraseMoods x = new PhraseMoods();
    for (int k = 0; k < 5; k++) {
      Due.word(x, "kkkkk".substring(0, k + 1), 0, 0, 0);
      Due.frame(x, "p" + k);
    }
    return x;
  }

  /** Whether item i of a SHEET of a sort is v (1 .. 5). */
  private static void isItem(PhraseMoods x, int sheet, int sort, int i, int v) {
    x.sheet(LOOK, sort, 1);
    Due.due("copy of item " + i + " of sheet " + sheet, x.copy(sheet, i, LOOK, 0, 1), 1);
    x.desk(v - 1, 0);
    Due.due("item " + i + " of sheet " + sheet + " is " + v, x.tells(LOOK, 0), -1);
  }

  /** Whether item i of a SHEET of a sort is none of 1 .. 5. */
  private static void isNoItem(PhraseMoods x, int sheet, int sort, int i) {
    x.sheet(LOOK, sort, 1);
    Due.due("copy of item " + i + " of sheet " + sheet, x.copy(sheet, i, LOOK, 0, 1), 1);
    for (int v = 1; v <= 5; v++) {
      x.desk(v - 1, 0);
      Due.due("item " + i + " of sheet " + sheet + " is not " + v, x.tells(LOOK, 0), 0);
    }
  }

  // ---- promise 28: sheet

  // "SHEETS 0 .. 3"
  static void p28SheetOutside0To3IsBad() {
    PhraseMoods x = new PhraseMoods();
    for (int sheet : new int[] {-1, 4, MIN, MAX}) {
      Due.due("sheet(" + sheet + ", 0, 1)", x.sheet(sheet, 0, 1), -2);
      Due.due("sheet(" + sheet + ", -1, 1)", x.sheet(sheet, -1, 1), -2);
    }
    for (int sheet = 0; sheet < 4; sheet++) {
      Due.due("sheet(" + sheet + ", 0, 1)", x.sheet(sheet, 0, 1), 1);
      Due.due("put(" + sheet + ", 0, 1)", x.put(sheet, 0, 1), 1);
    }
  }

  // "of sort 0 shorts, 1 ints"; "(sort -1 ..)"
  static void p28SortOutsideIsBad() {
    PhraseMoods x = new PhraseMoods();
    for (int sort : new int[] {-2, 2, MIN, MAX}) {
      Due.due("sheet(0, " + sort + ", 1)", x.sheet(0, sort, 1), -2);
    }
    Due.due("it is missing", x.put(0, 0, 1), -11);
    Due.due("sort 0", x.sheet(0, 0, 1), 1);
    Due.due("sort 1", x.sheet(0, 1, 1), 1);
  }

  // "n above 40"
  static void p28SizeAbove40IsBad() {
    PhraseMoods x = new PhraseMoods();
    for (int n : new int[] {41, 42, MAX}) {
      Due.due("sheet(0, 0, " + n + ")", x.sheet(0, 0, n), -2);
      Due.due("sheet(0, 1, " + n + ")", x.sheet(0, 1, n), -2);
    }
    Due.due("it is missing", x.put(0, 0, 1), -11);
  }

  static void p28SizeOf40() {
    PhraseMoods x = new PhraseMoods();
    for (int sort = 0; sort < 2; sort++) {
      Due.due("sheet(0, sort, 40)", x.sheet(0, sort, 40), 1);
      Due.due("put(0, 39, 1)", x.put(0, 39, 1), 1);
      Due.due("put(0, 40, 1)", x.put(0, 40, 1), -12);
    }
  }

  static void p28SizeOf0() {
    PhraseMoods x = new PhraseMoods();
    Due.due("sheet(0, 0, 0)", x.sheet(0, 0, 0), 1);
    Due.due("it isn't missing, but has no item", x.put(0, 0, 1), -12);
    Due.due("copy of none", x.copy(0, 0, 0, 0, 0), 0);
  }

  // "-14 a size below 0"
  static void p28SizeBelow0IsNegative() {
    PhraseMoods x = new PhraseMoods();
    for (int n : new int[] {-1, -40, MIN}) {
      Due.due("sheet(0, 0, " + n + ")", x.sheet(0, 0, n), -14);
      Due.due("sheet(0, 1, " + n + ")", x.sheet(0, 1, n), -14);
    }
    Due.due("it is missing", x.put(0, 0, 1), -11);
  }

  static void p28BadIsAheadOfNegative() {
    PhraseMoods x = new PhraseMoods();
    Due.due("sheet 4", x.sheet(4, 0, -1), -2);
    Due.due("sheet -1", x.sheet(-1, 0, -1), -2);
    Due.due("sort 2", x.sheet(0, 2, -1), -2);
    Due.due("sort -2", x.sheet(0, -2, -1), -2);
  }

  // "or missing (sort -1: n does not matter)"
  static void p28MissingBySortMinus1WhateverNIs() {
    for (int n : new int[] {0, 1, 40, 41, -1, MIN, MAX}) {
      PhraseMoods x = new PhraseMoods();
      x.sheet(0, 0, 3);
      Due.due("sheet(0, -1, " + n + ")", x.sheet(0, -1, n), 1);
      Due.due("put", x.put(0, 0, 1), -11);
      Due.due("tells", x.tells(0, 0), -11);
      Due.due("missing again", x.sheet(0, -1, n), 1);
      Due.due("put", x.put(0, 0, 1), -11);
    }
  }

  // "all 0": also where other numbers stood, also of another sort
  static void p28All0() {
    for (int sort = 0; sort < 2; sort++) {
      PhraseMoods x = withLengths();
      x.sheet(0, sort, 3);
      x.desk(0, 0);
      for (int i = 0; i < 3; i++) {
        isNoItem(x, 0, sort, i);
        x.put(0, i, 1);
      }
      x.sheet(0, sort, 3);
      isNoItem(x, 0, sort, 2);
      x.put(0, 0, 1);
      x.sheet(0, 1 - sort, 3);
      isNoItem(x, 0, 1 - sort, 0);
    }
  }

  static void p28RefusedSheetStays() {
    PhraseMoods x = withLengths();
    x.sheet(0, 0, 3);
    x.put(0, 2, 5);
    Due.due("n 41", x.sheet(0, 1, 41), -2);
    Due.due("sort 2", x.sheet(0, 2, 1), -2);
    Due.due("n -1", x.sheet(0, 1, -1), -14);
    isItem(x, 0, 0, 2, 5);
    Due.due("its size", x.put(0, 3, 1), -12);
  }

  static void p28OneSheetAlone() {
    PhraseMoods x = withLengths();
    x.sheet(0, 0, 2);
    x.sheet(1, 0, 2);
    x.put(0, 0, 4);
    isNoItem(x, 1, 0, 0);
    x.sheet(1, -1, 0);
    isItem(x, 0, 0, 0, 4);
  }

  // ---- promise 29: put

  static void p29SheetOutside0To3IsBad() {
    PhraseMoods x = new PhraseMoods();
    for (int sheet : new int[] {-1, 4, MIN, MAX}) {
      Due.due("put(" + sheet + ", 0, 1)", x.put(sheet, 0, 1), -2);
      Due.due("put(" + sheet + ", -1, 1)", x.put(sheet, -1, 1), -2);
    }
  }

  static void p29MissingSheetAlsoWhereItemsAreOutside() {
    PhraseMoods x = new PhraseMoods();
    for (int i : new int[] {0, -1, 40, MIN, MAX}) {
      Due.due("put(0, " + i + ", 1)", x.put(0, i, 1), -11);
    }
  }

  // "-12 a place outside"
  static void p29ItemOutside() {
    PhraseMoods x = new PhraseMoods();
    x.sheet(0, 1, 3);
    for (int i : new int[] {-1, 3, 4, 39, 40, MIN, MAX}) {
      Due.due("put(0, " + i + ", 1)", x.put(0, i, 1), -12);
    }
    Due.due("put(0, 0, 1)", x.put(0, 0, 1), 1);
    Due.due("put(0, 2, 1)", x.put(0, 2, 1), 1);
  }

  static void p29OneItemAlone() {
    PhraseMoods x = withLengths();
    x.sheet(0, 1, 3);
    x.put(0, 1, 5);
    isNoItem(x, 0, 1, 0);
    isItem(x, 0, 1, 1, 5);
    isNoItem(x, 0, 1, 2);
    x.put(0, 1, 2);
    isItem(x, 0, 1, 1, 2);
  }

  // "(of shorts its lowest 16 bits)"
  static void p29ShortIsTheLowest16Bits() {
    PhraseMoods x = withLengths();
    x.sheet(0, 0, 1);
    for (int high : new int[] {1 << 16, -(1 << 16), MIN, 0x7fff0000, 0x12340000}) {
      Due.due("put", x.put(0, 0, high + 3), 1);
      isItem(x, 0, 0, 0, 3);
    }
  }

  static void p29Bit15IsOfAShort() {
    PhraseMoods x = withLengths();
    x.sheet(0, 0, 1);
    x.put(0, 0, 3 + 32768);
    isNoItem(x, 0, 0, 0);
    x.put(0, 0, 3 + 256);
    isNoItem(x, 0, 0, 0);
    x.put(0, 0, -3);
    isNoItem(x, 0, 0, 0);
  }

  static void p29IntIsAllOfIt() {
    PhraseMoods x = withLengths();
    x.sheet(0, 1, 1);
    for (int high : new int[] {1 << 16, -(1 << 16), MIN, 0x7fff0000}) {
      x.put(0, 0, high + 3);
      isNoItem(x, 0, 1, 0);
    }
    x.put(0, 0, 3);
    isItem(x, 0, 1, 0, 3);
    Due.due("the most", x.put(0, 0, MAX), 1);
    Due.due("the least", x.put(0, 0, MIN), 1);
    isNoItem(x, 0, 1, 0);
  }

  // ---- promise 30: copy

  private static PhraseMoods withSheets(int sort) {
    PhraseMoods x = withLengths();
    x.sheet(0, sort, 5);
    x.sheet(1, sort, 3);
    for (int i = 0; i < 5; i++) {
      x.put(0, i, i + 1);
    }
    return x;
  }

  static void p30SheetOutside0To3IsBad() {
    PhraseMoods x = withSheets(0);
    for (int sheet : new int[] {-1, 4, MIN, MAX}) {
      Due.due("copy(" + sheet + ", 0, 0, 0, 1)", x.copy(sheet, 0, 0, 0, 1), -2);
      Due.due("copy(0, 0, " + sheet + ", 0, 1)", x.copy(0, 0, sheet, 0, 1), -2);
      Due.due("of none, too", x.copy(sheet, 0, sheet, 0, 0), -2);
    }
  }

  static void p30BadIsAheadOfMissing() {
    PhraseMoods x = withSheets(0);
    Due.due("copy(2, 0, 4, 0, 1)", x.copy(2, 0, 4, 0, 1), -2);
    Due.due("copy(4, 0, 2, 0, 1)", x.copy(4, 0, 2, 0, 1), -2);
  }

  // "-11": the one, the other, both
  static void p30MissingSheet() {
    PhraseMoods x = withSheets(0);
    Due.due("the one", x.copy(2, 0, 0, 0, 1), -11);
    Due.due("the other", x.copy(0, 0, 2, 0, 1), -11);
    Due.due("both", x.copy(2, 0, 2, 0, 1), -11);
    Due.due("of none, too", x.copy(2, 0, 0, 0, 0), -11);
  }

  static void p30MissingIsAheadOfUnlikeAndOutside() {
    PhraseMoods x = withSheets(0);
    x.sheet(3, 1, 5);
    Due.due("to ints", x.copy(2, 0, 3, 0, 1), -11);
    Due.due("from ints", x.copy(3, 0, 2, 0, 1), -11);
    Due.due("outside", x.copy(0, 9, 2, 9, -1), -11);
  }

  // "-13: they are of unlike sorts"
  static void p30UnlikeSorts() {
    PhraseMoods x = withSheets(0);
    x.sheet(2, 1, 5);
    Due.due("shorts to ints", x.copy(0, 0, 2, 0, 1), -13);
    Due.due("ints to shorts", x.copy(2, 0, 0, 0, 1), -13);
    Due.due("of none, too", x.copy(0, 0, 2, 0, 0), -13);
    isNoItem(x, 2, 1, 0);
    isItem(x, 0, 0, 0, 1);
  }

  static void p30UnlikeIsAheadOfOutside() {
    PhraseMoods x = withSheets(0);
    x.sheet(2, 1, 5);
    Due.due("i 9", x.copy(0, 9, 2, 0, 1), -13);
    Due.due("n -1", x.copy(0, 0, 2, 0, -1), -13);
  }

  // "-12 (also with n below 0)"
  static void p30NBelow0IsOutside() {
    PhraseMoods x = withSheets(0);
    for (int n : new int[] {-1, -5, MIN}) {
      Due.due("copy(0, 3, 1, 2, " + n + ")", x.copy(0, 3, 1, 2, n), -12);
    }
  }

  static void p30ItemBelow0IsOutside() {
    PhraseMoods x = withSheets(0);
    for (int i : new int[] {-1, MIN}) {
      Due.due("i " + i, x.copy(0, i, 1, 0, 1), -12);
      Due.due("j " + i, x.copy(0, 0, 1, i, 1), -12);
      Due.due("i " + i + ", of none", x.copy(0, i, 1, 0, 0), -12);
      Due.due("j " + i + ", of none", x.copy(0, 0, 1, i, 0), -12);
    }
  }

  static void p30RunBehindTheOneIsOutside() {
    PhraseMoods x = withSheets(0);
    x.sheet(1, 0, 40);
    Due.due("6 from 0", x.copy(0, 0, 1, 0, 6), -12);
    Due.due("2 from 4", x.copy(0, 4, 1, 0, 2), -12);
    Due.due("1 from 5", x.copy(0, 5, 1, 0, 1), -12);
    Due.due("5 from 0", x.copy(0, 0, 1, 0, 5), 5);
    Due.due("1 from 4", x.copy(0, 4, 1, 0, 1), 1);
  }

  static void p30RunBehindTheOtherIsOutside() {
    PhraseMoods x = withSheets(0);
    Due.due("4 to 0", x.copy(0, 0, 1, 0, 4), -12);
    Due.due("2 to 2", x.copy(0, 0, 1, 2, 2), -12);
    Due.due("1 to 3", x.copy(0, 0, 1, 3, 1), -12);
    Due.due("3 to 0", x.copy(0, 0, 1, 0, 3), 3);
    Due.due("1 to 2", x.copy(0, 0, 1, 2, 1), 1);
  }

  // The sum of a place and n may go beyond an int.
  static void p30SumsBeyondAnIntAreOutside() {
    PhraseMoods x = withSheets(0);
    Due.due("n most", x.copy(0, 1, 1, 0, MAX), -12);
    Due.due("n most, j 1", x.copy(0, 0, 1, 1, MAX), -12);
    Due.due("i most", x.copy(0, MAX, 1, 0, 1), -12);
    Due.due("j most", x.copy(0, 0, 1, MAX, 1), -12);
    Due.due("all most", x.copy(0, MAX, 1, MAX, MAX), -12);
    Due.due("i most, of none", x.copy(0, MAX, 1, 0, 0), -12);
  }

  static void p30None() {
    PhraseMoods x = withSheets(0);
    Due.due("of none", x.copy(0, 0, 1, 0, 0), 0);
    Due.due("from behind the last", x.copy(0, 5, 1, 0, 0), 0);
    Due.due("to behind the last", x.copy(0, 0, 1, 3, 0), 0);
    Due.due("further behind", x.copy(0, 6, 1, 0, 0), -12);
    Due.due("further behind", x.copy(0, 0, 1, 4, 0), -12);
    for (int i = 0; i < 3; i++) {
      isNoItem(x, 1, 0, i);
    }
  }

  // What is refused copies nothing, not even what has room.
  static void p30RefusedCopiesNothing() {
    PhraseMoods x = withSheets(0);
    x.copy(0, 0, 1, 0, 4);
    x.copy(0, 3, 1, 0, 3);
    for (int i = 0; i < 3; i++) {
      isNoItem(x, 1, 0, i);
    }
  }

  // "n numbers .., from item i on, come to another one's item j on": no others
  static void p30NumbersFromIToJ() {
    for (int sort = 0; sort < 2; sort++) {
      PhraseMoods x = withSheets(sort);
      x.sheet(2, sort, 5);
      for (int i = 0; i < 5; i++) {
        x.put(2, i, 5);
      }
      Due.due("copy", x.copy(0, 1, 2, 2, 2), 2);
      int[] due = {5, 5, 2, 3, 5};
      for (int i = 0; i < 5; i++) {
        isItem(x, 2, sort, i, due[i]);
        isItem(x, 0, sort, i, i + 1);
      }
    }
  }

  // "(as they were)": of a SHEET onto itself, to behind
  static void p30OntoItselfToBehind() {
    for (int sort = 0; sort < 2; sort++) {
      PhraseMoods x = withSheets(sort);
      Due.due("copy", x.copy(0, 0, 0, 1, 4), 4);
      int[] due = {1, 1, 2, 3, 4};
      for (int i = 0; i < 5; i++) {
        isItem(x, 0, sort, i, due[i]);
      }
    }
  }

  // "(as they were)": to ahead
  static void p30OntoItselfToAhead() {
    for (int sort = 0; sort < 2; sort++) {
      PhraseMoods x = withSheets(sort);
      Due.due("copy", x.copy(0, 1, 0, 0, 4), 4);
      int[] due = {2, 3, 4, 5, 5};
      for (int i = 0; i < 5; i++) {
        isItem(x, 0, sort, i, due[i]);
      }
    }
  }

  static void p30OntoItselfToTheSamePlace() {
    PhraseMoods x = withSheets(1);
    Due.due("copy", x.copy(0, 0, 0, 0, 5), 5);
    for (int i = 0; i < 5; i++) {
      isItem(x, 0, 1, i, i + 1);
    }
  }

  static void p30All40() {
    PhraseMoods x = withLengths();
    x.sheet(0, 1, 40);
    x.sheet(1, 1, 40);
    x.put(0, 0, 2);
    x.put(0, 39, 4);
    Due.due("copy", x.copy(0, 0, 1, 0, 40), 40);
    isItem(x, 1, 1, 0, 2);
    isItem(x, 1, 1, 39, 4);
    Due.due("41", x.copy(0, 0, 1, 0, 41), -12);
    Due.due("40 from 1", x.copy(0, 1, 1, 0, 40), -12);
  }
}
