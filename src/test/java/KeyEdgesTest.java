/** The edges that promise 4 names. */
public final class KeyEdgesTest {
  private static final int GAMES = 1000;

  public static void main(String[] args) {
    emptyGame();
    afterOneDrop();
    afterTwoDrops();
    byTheMovesAtTheTimeOfTheCall();
    aSumAndNoBitwiseCombination();
    twiceAndOnce();
    theBitAboveAColumn();
    neverNegative();
    fullBoard();
    earlierLine();
    changesNothing();
    Due.end();
  }

  private static void emptyGame() {
    Due.sentence("For the empty game the answer is 0.");
    ConnectFour game = new ConnectFour();
    Due.is("key()", game.key(), 0);
    for (int col : new int[] {-1, 7, Integer.MIN_VALUE, Integer.MAX_VALUE}) {
      game.drop(col);
      Due.is("key() after refused drop(" + col + ")", game.key(), 0);
    }
  }

  private static void afterOneDrop() {
    Due.sentence("After a single `drop(3)` the second player moves next and has no stones,"
        + " so the answer is the value of bit 21, which is 2097152.");
    ConnectFour game = new ConnectFour();
    game.drop(3);
    Due.is("key()", game.key(), 2097152L);
  }

  private static void afterTwoDrops() {
    Due.sentence("After a second `drop(3)` the first player moves next;"
        + " the answer is 2097152 + (2097152 + 4194304) = 8388608.");
    ConnectFour game = new ConnectFour();
    game.drop(3);
    game.drop(3);
    Due.is("key()", game.key(), 8388608L);
  }

  private static void byTheMovesAtTheTimeOfTheCall() {
    Due.sentence("the first player if `moves()` is even at the time of the call, the second if it is odd");
    // The first player's stones go to columns 0 and 1 alone, the second's to 5 and 6.
    ConnectFour game = new ConnectFour();
    long first = 0;
    long second = 0;
    for (int i = 0; i < 12; i++) {
      game.drop(i / 6);
      first += 1L << (i / 6 * 7 + i % 6);
      Due.is("key() at moves() " + (2 * i + 1), game.key(), second + (first + second));
      game.drop(5 + i / 6);
      second += 1L << ((5 + i / 6) * 7 + i % 6);
      Due.is("key() at moves() " + (2 * i + 2), game.key(), first + (first + second));
      game.drop(-1);
      Due.is("key() after a refused drop", game.key(), first + (first + second));
    }
  }

  private static void aSumAndNoBitwiseCombination() {
    Due.sentence("It is an arithmetic sum, not a bitwise combination");
    ConnectFour game = new ConnectFour();
    int[] columns = {0, 1, 0, 0, 1};
    for (int col : columns) {
      game.drop(col);
    }
    // Column 0 holds first, first, second; column 1 second, first; the second
    // moves next: 4 + 7 is 11 and 1 + 3 is 4, where a bitwise or would give 7
    // and 3, and a bitwise xor 3 and 2.
    Due.is("key()", game.key(), 11L + 4L * 128L);
  }

  private static void twiceAndOnce() {
    Due.sentence("a cell of the player who moves next contributes its bit's value twice,"
        + " a cell of the other player contributes it once.");
    for (int col = 0; col < 7; col++) {
      int beside = (col + 1) % 7;
      ConnectFour game = new ConnectFour();
      for (int row = 0; row < 6; row++) {
        long below = (1L << row) - 1;
        long upTo = (1L << (row + 1)) - 1;
        game.drop(col);
        Due.is("the other's cells of column " + col, part(game, col), upTo);
        Due.is("the next one's cells of column " + beside, part(game, beside), 2 * below);
        game.drop(beside);
        Due.is("the next one's cells of column " + col, part(game, col), 2 * upTo);
        Due.is("the other's cells of column " + beside, part(game, beside), upTo);
      }
    }
  }

  /** The part of the key that a column makes: 7 bits, which no carry from below can reach. */
  private static long part(ConnectFour game, int col) {
    return game.key() >> (col * 7) & 127;
  }

  private static void theBitAboveAColumn() {
    Due.sentence("Consequently bit `col*7 + 6`, which is 0 in both words, may be 1 in the sum.");
    for (int col = 0; col < 7; col++) {
      int beside = (col + 3) % 7;
      ConnectFour game = new ConnectFour();
      for (int row = 0; row < 6; row++) {
        game.drop(col);
      }
      // The first player moves next: 1 + 4 + 16 and 63 are 84, which has bit 6.
      Due.is("key() with column " + col + " full", game.key(), 84L << (col * 7));
      game.drop(beside);
      // Now the second player: 2 + 8 + 32 and 63 are 105, which has it too.
      Due.is("key() a drop later", game.key(), (105L << (col * 7)) + (1L << (beside * 7)));
      Due.is("bit 6 of column " + col, game.key() >> (col * 7 + 6) & 1, 1);
    }
  }

  private static void neverNegative() {
    Due.sentence("The sum never overflows a `long` and is never negative.");
    // The greatest part that column 6 can make: six stones of the one who moves next.
    ConnectFour game = new ConnectFour();
    for (int row = 0; row < 6; row++) {
      game.drop(6);
      game.drop(5);
    }
    Due.is("key() with column 6 the first player's", game.key(), (126L << 42) + (63L << 35));
    Numbers numbers = new Numbers();
    for (int i = 0; i < GAMES; i++) {
      ConnectFour other = new ConnectFour();
      for (int calls = 0; calls < 80; calls++) {
        other.drop(numbers.next(7));
        long all = new Seen(other).all;
        // Both words are at most all stones, and each at least 0.
        Due.holds("key() lies between the word of all stones and twice it",
            other.key() >= all && other.key() <= 2 * all && other.key() >= 0);
      }
    }
  }

  private static void fullBoard() {
    Due.sentence("On a full board `moves()` is 42, which is even, so the first player's stones"
        + " are taken as those of the player who moves next.");
    String[] boards = {
        "663555551252401366446361441100221230400233",
        "350024124256305602106320152156544434113366",
        "424320411616144545222103230615656303605350",
        "000000111111222222333333444444555555666666"};
    for (String board : boards) {
      ConnectFour game = new ConnectFour();
      int[] heights = new int[7];
      long first = 0;
      for (int i = 0; i < 42; i++) {
        int col = board.charAt(i) - '0';
        first += i % 2 == 0 ? 1L << (col * 7 + heights[col]) : 0;
        heights[col]++;
        game.drop(col);
      }
      Due.is(board + ", moves()", game.moves(), 42);
      Due.is(board + ", key()", game.key(), first + Seen.CELLS);
      for (int col = -1; col <= 7; col++) {
        game.drop(col);
        Due.is(board + ", key() after refused drop(" + col + ")", game.key(), first + Seen.CELLS);
      }
    }
  }

  private static void earlierLine() {
    Due.sentence("An earlier four-in-line has no influence on the answer beyond the stones themselves.");
    // The same stones, but the first player's line is closed at the 7th drop
    // in one game and at the 9th in the other.
    ConnectFour early = new ConnectFour();
    ConnectFour late = new ConnectFour();
    int[] closedEarly = {0, 1, 0, 1, 0, 1, 0, 2, 6};
    int[] closedLate = {6, 1, 0, 1, 0, 1, 0, 2, 0};
    for (int i = 0; i < 9; i++) {
      Due.is("early, call " + (i + 1), early.drop(closedEarly[i]), i >= 6 && i % 2 == 0 ? 2 : 1);
      Due.is("late, call " + (i + 1), late.drop(closedLate[i]), i == 8 ? 2 : 1);
    }
    long first = 15L + (1L << 42);
    long second = (7L << 7) + (1L << 14);
    Due.is("key() of the early line", early.key(), second + (first + second));
    Due.is("key() of the late line", late.key(), second + (first + second));
    early.drop(4);
    late.drop(4);
    second += 1L << 28;
    Due.is("key() of the early line, a drop later", early.key(), first + (first + second));
    Due.is("key() of the late line, a drop later", late.key(), first + (first + second));
  }

  private static void changesNothing() {
    Due.sentence("The call changes nothing.");
    Twins.stayAlike("key()", game -> game.key());
  }
}
