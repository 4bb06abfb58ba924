import java.util.ArrayList;
import java.util.List;

/**
 * The game told cell by cell, straight from the document, with no bit tricks:
 * the tests compare ConnectFour with it.
 */
final class PlainBoard {
  static final int COLUMNS = 7;
  static final int ROWS = 6;
  /** Each line as {column, row, step in columns, step in rows}. */
  static final List<int[]> LINES = lines();

  private final int[][] owner = new int[COLUMNS][ROWS];
  private int moves = 0;

  private static List<int[]> lines() {
    int[][] steps = {{0, 1}, {1, 0}, {1, 1}, {1, -1}};
    List<int[]> found = new ArrayList<>();
    for (int[] step : steps) {
      for (int col = 0; col < COLUMNS; col++) {
        for (int row = 0; row < ROWS; row++) {
          if (isCell(col + 3 * step[0], row + 3 * step[1])) {
            found.add(new int[] {col, row, step[0], step[1]});
          }
        }
      }
    }
    return found;
  }

  private static boolean isCell(int col, int row) {
    return col >= 0 && col < COLUMNS && row >= 0 && row < ROWS;
  }

  static long wordOfLine(int index) {
    int[] line = LINES.get(index);
    long word = 0;
    for (int k = 0; k < 4; k++) {
      word += 1L << ((line[0] + k * line[2]) * 7 + line[1] + k * line[3]);
    }
    return word;
  }

  int toMove() {
    return moves % 2 == 0 ? 1 : 2;
  }

  int drop(int col) {
    if (col < 0 || col >= COLUMNS || height(col) == ROWS) {
      return 0;
    }
    int mover = toMove();
    owner[col][height(col)] = mover;
    moves++;
    return linesOf(mover).isEmpty() ? 1 : 2;
  }

  /** Undoes the latest drop, which was into this column. */
  void takeBack(int col) {
    owner[col][height(col) - 1] = 0;
    moves--;
  }

  int height(int col) {
    if (col < 0 || col >= COLUMNS) {
      return -1;
    }
    int count = 0;
    for (int row = 0; row < ROWS; row++) {
      if (owner[col][row] != 0) {
        count++;
      }
    }
    return count;
  }

  int moves() {
    return moves;
  }

  long key() {
    long sum = 0;
    for (int col = 0; col < COLUMNS; col++) {
      for (int row = 0; row < ROWS; row++) {
        long value = 1L << (col * 7 + row);
        if (owner[col][row] != 0) {
          sum += owner[col][row] == toMove() ? 2 * value : value;
        }
      }
    }
    return sum;
  }

  /** The indices in LINES of the lines that the player holds. */
  List<Integer> linesOf(int player) {
    List<Integer> held = new ArrayList<>();
    for (int i = 0; i < LINES.size(); i++) {
      if (holds(player, LINES.get(i))) {
        held.add(i);
      }
    }
    return held;
  }

  private boolean holds(int player, int[] line) {
    for (int k = 0; k < 4; k++) {
      if (owner[line[0] + k * line[2]][line[1] + k * line[3]] != player) {
        return false;
      }
    }
    return true;
  }
}
