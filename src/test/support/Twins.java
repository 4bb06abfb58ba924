import java.util.function.Consumer;

/** Plays pairs of games alike, of which only one is asked something between its drops. */
final class Twins {
  private static final int PAIRS = 2000;
  private static final int MOST_DROPS = 80;

  private Twins() {
  }

  /** Holds both games of a pair to answering their drops alike and to showing the same at the end. */
  static void stayAlike(String question, Consumer<ConnectFour> ask) {
    Numbers numbers = new Numbers();
    for (int i = 0; i < PAIRS; i++) {
      ConnectFour asked = new ConnectFour();
      ConnectFour left = new ConnectFour();
      int drops = numbers.next(MOST_DROPS);
      for (int k = 0; k < drops; k++) {
        int col = numbers.next(9) - 1;
        ask.accept(asked);
        Due.is("drop(" + col + ") after " + question, asked.drop(col), left.drop(col));
      }
      ask.accept(asked);
      new Seen(left).isStillSo(question, asked);
    }
  }
}
