/** Makes a phrase book of three words and one frame, and asks it. */
public final class PhraseExample {
  public static void main(String[] args) {
    PhraseMoods book = new PhraseMoods();

    // A text goes onto the tape; then a call takes the tape.
    feed(book, "bel");
    book.word(4, 0, 0);        // word 0: a fitting one (kind 4), of table 0
    feed(book, "gat");
    book.word(1, 0, 1);        // word 1: a noun (kind 1), of table 0 and gender 1
    feed(book, "cani");
    book.word(2, 1, 0);        // word 2: a verb (kind 2), of table 1
    feed(book, "s");
    book.ending(0, 0, 1);      // table 0 ends with s by case 0, number 1
    feed(book, "a");
    book.ending(1, 0, 0);      // table 1 ends with a by mood 0, number 0
    feed(book, "an");
    book.ending(1, 0, 1);      // .. and with an by mood 0, number 1
    feed(book, "f00 n00 v0");
    int frame = book.frame();  // a fitting word, a noun, a verb: all of group 0

    // The desk fills a frame with the least words; then it says something.
    System.out.println("holes: " + book.desk(frame, 0));
    System.out.println("one: " + said(book));
    book.number(0, 1);
    System.out.println("more: " + said(book));
    System.out.println("spoken: " + Float.intBitsToFloat(book.spoken(10)));

    // What a text may be.
    feed(book, "bela gat cana");
    System.out.println("words: " + book.text());
    System.out.println("readings: " + book.readings(0) + ", of frame " + book.readings(1) + ", mood " + book.readings(2));
    feed(book, "bela gat kanan");
    System.out.println("words: " + book.text());
    System.out.println("readings: " + book.readings(0) + ", nearest " + book.near(0) + " letters away");

    // Refusals are numbers below 0.
    feed(book, "Gat");
    System.out.println("no stem: " + (book.word(1, 0, 0) == PhraseMoods.STATE));
    feed(book, "n00 v7");
    System.out.println("a fault at place " + (-100 - book.frame()));
  }

  /** A call takes up to five bytes; one is plainest. */
  private static void feed(PhraseMoods book, String text) {
    for (int i = 0; i < text.length(); i++) {
      book.feed(1, text.charAt(i), 0, 0, 0, 0);
    }
  }

  private static String said(PhraseMoods book) {
    StringBuilder line = new StringBuilder();
    int size = book.said(-1);
    for (int k = 0; k < size; k++) {
      line.append((char) book.said(k));
    }
    return line.toString();
  }
}
