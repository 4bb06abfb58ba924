public final class ConnectFour {
  private static final int COLUMNS = 7;
  private static final int ROWS = 6;

  // One bit more than a column has rows: the bit above each column stays 0,
  // so that no line runs on from one column's top into the next one's bottom.
  private static final int COLUMN_BITS = 7;

  // How far apart two neighbouring cells of a line lie in a word.
  private static final int VERTICAL = 1;
  private static final int HORIZONTAL = COLUMN_BITS;
  private static final int RISING = COLUMN_BITS + 1;
  private static final int FALLING = COLUMN_BITS - 1;

  private static final int REFUSED = 0;
  private static final int PLACED = 1;
  private static final int FOUR_IN_LINE = 2;

  private static final int NO_COLUMN = -1;

  private final int[] heights = new int[COLUMNS];
  private long firstStones;
  private long secondStones;
  private int moveCount;

  public ConnectFour() {
    firstStones = 0L;
    secondStones = 0L;
    moveCount = 0;
  }

  public int drop(int col) {
    if (col < 0 || col >= COLUMNS) {
      return REFUSED;
    }
    int row = heights[col];
    if (row >= ROWS) {
      return REFUSED;
    }
    placeForMover(1L << (col * COLUMN_BITS + row));
    // Asked before the count grows, while the mover is still the one to move.
    long moverStones = stonesToMove();
    heights[col] = row + 1;
    moveCount = moveCount + 1;
    return hasFour(moverStones) ? FOUR_IN_LINE : PLACED;
  }

  public int height(int col) {
    if (col < 0 || col >= COLUMNS) {
      return NO_COLUMN;
    }
    return heights[col];
  }

  public long key() {
    return stonesToMove() + (firstStones | secondStones);
  }

  public int moves() {
    return moveCount;
  }

  private boolean firstIsToMove() {
    return moveCount % 2 == 0;
  }

  private long stonesToMove() {
    return firstIsToMove() ? firstStones : secondStones;
  }

  private void placeForMover(long stone) {
    if (firstIsToMove()) {
      firstStones = firstStones | stone;
    } else {
      secondStones = secondStones | stone;
    }
  }

  private static boolean hasFour(long stones) {
    return hasFourAlong(stones, VERTICAL)
        || hasFourAlong(stones, HORIZONTAL)
        || hasFourAlong(stones, RISING)
        || hasFourAlong(stones, FALLING);
  }

  private static boolean hasFourAlong(long stones, int step) {
    // Four in a line are two neighbouring pairs, two steps apart.
    long pairs = stones & (stones >>> step);
    return (pairs & (pairs >>> (2 * step))) != 0L;
  }
}
