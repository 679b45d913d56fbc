import java.util.ArrayList;
import java.util.List;
import java.util.Random;

/** A PARTY as the tests see it, made at random or by hand, with its text. */
final class Model {
    final List<int[]> parts = new ArrayList<>();
    /** AGE, FORCE, HITS, QUICK, CELL. */
    final List<int[]> children = new ArrayList<>();
    final int[][] ties = new int[8][8];
    final int[] turned = {1, 1, 1, 1, 1, 1, 1, 1};
    final int[] ring = {1, 1, 1};
    int blows = 3;
    int lift = 16;
    int sweets = 20;
    int bandage = 2;
    int stick = 1;

    /** A PARTY of at most so many children, each of at most so many blows. */
    static Model random(Random r, int mostChildren, int mostBlows) {
        Model m = new Model();
        int parts = 1 + r.nextInt(5);
        for (int k = 0; k < parts; k++) {
            m.parts.add(new int[] {r.nextInt(10), 1 + r.nextInt(r.nextBoolean() ? 30 : 8)});
        }
        int children = 1 + r.nextInt(mostChildren);
        for (int c = 0; c < children; c++) {
            int hits = r.nextInt(4) == 0 ? 10 * r.nextInt(2) : r.nextInt(11);
            m.children.add(new int[] {3 + r.nextInt(13), 1 + r.nextInt(9), hits, r.nextInt(r.nextBoolean() ? 10 : 2), 0});
            if (r.nextInt(5) > 0) {
                m.children.get(c)[4] = r.nextInt(25);
            }
        }
        for (int[] row : m.ties) {
            java.util.Arrays.fill(row, 1);
        }
        for (int a = 0; a < children; a++) {
            for (int b = 0; b < children; b++) {
                if (a != b) {
                    m.ties[a][b] = r.nextInt(3);
                }
            }
        }
        if (r.nextInt(3) > 0) {
            for (int w = 0; w < 8; w++) {
                m.turned[w] = r.nextInt(3) == 0 ? 0 : r.nextInt(10);
            }
            m.turned[r.nextInt(8)] = 1 + r.nextInt(9);
        }
        for (int k = 0; k < 3; k++) {
            m.ring[k] = r.nextInt(3) == 0 ? 0 : r.nextInt(10);
        }
        m.blows = 1 + r.nextInt(mostBlows);
        m.lift = 3 + r.nextInt(14);
        m.sweets = r.nextInt(61);
        m.bandage = r.nextInt(r.nextBoolean() ? 10 : 3);
        m.stick = r.nextInt(4);
        return m;
    }

    int size() {
        return children.size();
    }

    String text() {
        StringBuilder s = new StringBuilder();
        for (int[] p : parts) {
            s.append("part ").append(p[0]).append(' ').append(p[1]).append(';');
        }
        for (int[] c : children) {
            s.append("child ").append(c[0]).append(' ').append(c[1]).append(' ').append(c[2]).append(' ').append(c[3]).append(';');
        }
        for (int c = 0; c < size(); c++) {
            if (children.get(c)[4] != 0) {
                s.append("cell ").append(c).append(' ').append(children.get(c)[4]).append(';');
            }
        }
        for (int w = 0; w < 8; w++) {
            if (turned[w] != 1) {
                s.append("turned ").append(w).append(' ').append(turned[w]).append(';');
            }
        }
        for (int k = 0; k < 3; k++) {
            s.append("ring ").append(k).append(' ').append(ring[k]).append(';');
        }
        s.append("blows ").append(blows).append(";lift ").append(lift).append(";sweets ").append(sweets);
        s.append(";bandage ").append(bandage).append(";stick ").append(stick).append(';');
        // The tape is short: ties that it has no room for are none.
        for (int a = 0; a < size(); a++) {
            for (int b = 0; b < size(); b++) {
                String word = ties[a][b] == 2 ? "friend " : "foe ";
                if (ties[a][b] != 1 && s.length() + word.length() + 4 <= 600) {
                    s.append(word).append(a).append(' ').append(b).append(';');
                } else {
                    ties[a][b] = 1;
                }
            }
        }
        return s.toString();
    }
}
