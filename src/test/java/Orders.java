import java.util.ArrayList;
import java.util.List;

/** All orders in which the numbers 0, 1, 2 and so on can stand. */
final class Orders {
    static List<int[]> of(int many) {
        List<int[]> all = new ArrayList<>();
        add(all, new int[many], 0);
        return all;
    }

    private static void add(List<int[]> all, int[] order, int from) {
        if (from == order.length) {
            all.add(order.clone());
            return;
        }
        for (int number = 0; number < order.length; number++) {
            if (place(order, from, number) == from) {
                order[from] = number;
                add(all, order, from + 1);
            }
        }
    }

    /** Where a number stands; the length if it does not. */
    static int place(int[] order, int length, int number) {
        int place = 0;
        while (place < length && order[place] != number) {
            place++;
        }
        return place;
    }

    private Orders() {
    }
}
