import java.util.ArrayList;
import java.util.List;

/** Arguments that are no column of the board. */
final class Columns {
  /** The ints next to 0..6, next to every power of two, and the outermost ones. */
  static final List<Integer> WRONG = wrong();

  private Columns() {
  }

  private static List<Integer> wrong() {
    List<Integer> found = new ArrayList<>();
    for (int near = -2; near <= 8; near++) {
      for (int bit = 0; bit < 32; bit++) {
        // Wraps around at the largest int, and so takes in the smallest one.
        int col = (1 << bit) + near;
        if (!isColumn(col)) {
          found.add(col);
        }
        if (!isColumn(-col)) {
          found.add(-col);
        }
      }
    }
    return found;
  }

  static boolean isColumn(int col) {
    return col >= 0 && col <= 6;
  }
}
