/** Promise 4: the position key. */
public final class KeyTest {
  public static void main(String[] args) {
    examples();
    everyCell();
    carryIntoTheBitAboveAColumn();
    fullBoard();
    aLineHasNoInfluence();
    changesNothing();
    Due.end();
  }

  private static void examples() {
    ConnectFour game = new ConnectFour();
    Due.is("key() of the empty game", game.key(), 0);
    game.drop(3);
    Due.is("key() after drop(3)", game.key(), 2097152L);
    game.drop(3);
    Due.is("key() after the second drop(3)", game.key(), 8388608L);
  }

  /** Column after column is filled, so that every cell is once the newest. */
  private static void everyCell() {
    ConnectFour game = new ConnectFour();
    long first = 0;
    long second = 0;
    for (int i = 0; i < 42; i++) {
      long stone = 1L << (i / 6 * 7 + i % 6);
      if (i % 2 == 0) {
        first += stone;
      } else {
        second += stone;
      }
      game.drop(i / 6);
      long next = i % 2 == 0 ? second : first;
      Due.is("key() after " + (i + 1) + " drops", game.key(), next + (first + second));
    }
  }

  private static void carryIntoTheBitAboveAColumn() {
    ConnectFour game = new ConnectFour();
    for (int row = 0; row < 6; row++) {
      game.drop(6);
    }
    // Column 6 ends with the second player's stone in row 5; one stone more
    // makes the second player the one to move, whose stones count twice.
    game.drop(0);
    long second = (2L + 8L + 32L) << 42;
    long all = (63L << 42) + 1L;
    Due.is("key() with the carry", game.key(), second + all);
    Due.is("bit 48 of it", game.key() >> 48, 1);
  }

  private static void fullBoard() {
    ConnectFour game = new ConnectFour();
    long first = 0;
    long all = 0;
    for (int col = 0; col < 7; col++) {
      for (int row = 0; row < 6; row++) {
        game.drop(col);
      }
      first += 21L << (col * 7);
      all += 63L << (col * 7);
    }
    Due.is("key() of the full board", game.key(), first + all);
    game.drop(0);
    Due.is("key() of the full board after a refused drop", game.key(), first + all);
  }

  private static void aLineHasNoInfluence() {
    ConnectFour game = new ConnectFour();
    for (int i = 0; i < 7; i++) {
      game.drop(i % 2);
    }
    Due.is("key() after four in a line", game.key(), 2 * (7L << 7) + 15L);
    game.drop(6);
    Due.is("key() a drop later", game.key(), (7L << 7) + 2 * 15L + (1L << 42));
  }

  private static void changesNothing() {
    ConnectFour game = new ConnectFour();
    game.drop(2);
    game.drop(5);
    for (int i = 0; i < 5; i++) {
      Due.is("key() again", game.key(), 2 * (1L << 14) + (1L << 35));
      Due.is("moves() after key()", game.moves(), 2);
      Due.is("height(2) after key()", game.height(2), 1);
    }
  }
}
