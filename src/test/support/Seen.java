/** A game as its answers show it at one moment. */
final class Seen {
  /** The word of all 42 cells. */
  static final long CELLS = cells();

  final int moves;
  final long key;
  final int[] heights = new int[PlainBoard.COLUMNS];
  /** The words of both players' stones, of the first's and of the second's. */
  final long all;
  final long first;
  final long second;

  Seen(ConnectFour game) {
    moves = game.moves();
    key = game.key();
    long stones = 0;
    for (int col = 0; col < PlainBoard.COLUMNS; col++) {
      heights[col] = game.height(col);
      stones += ((1L << heights[col]) - 1) << (col * 7);
    }
    // The heights alone tell all stones; what the key has beyond them is the
    // word of the player who moves next.
    all = stones;
    long next = key - all;
    first = moves % 2 == 0 ? next : all - next;
    second = all - first;
  }

  private static long cells() {
    long word = 0;
    for (int col = 0; col < PlainBoard.COLUMNS; col++) {
      for (int row = 0; row < PlainBoard.ROWS; row++) {
        word += 1L << (col * 7 + row);
      }
    }
    return word;
  }

  long stonesOf(int player) {
    return player == 1 ? first : second;
  }

  /** Holds the game to showing now what it showed at this moment. */
  void isStillSo(String after, ConnectFour game) {
    Due.is(after + ", then moves()", game.moves(), moves);
    Due.is(after + ", then key()", game.key(), key);
    for (int col = 0; col < PlainBoard.COLUMNS; col++) {
      Due.is(after + ", then height(" + col + ")", game.height(col), heights[col]);
    }
  }
}
