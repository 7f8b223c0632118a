import java.util.ArrayDeque;
import java.util.ArrayList;
import java.util.Arrays;
import java.util.Deque;
import java.util.List;
import java.util.Map;
import java.util.TreeMap;

/**
 * A second reading of the document for ModelTest: a linked tree that is walked from the root for each
 * pixel, curves as maps, and a history of deep copies. It shares no code and no shape with the program.
 */
final class PlainDesk {
    private static final class Item {
        int number;
        int kind;
        int[] values;
        Item above;
        final List<Item> children = new ArrayList<>();

        Item(int number, int kind, Item above, int... values) {
            this.number = number;
            this.kind = kind;
            this.above = above;
            this.values = values;
        }

        Item copy(Item copiedAbove) {
            Item copied = new Item(number, kind, copiedAbove, values.clone());
            for (Item child : children) {
                copied.children.add(child.copy(copied));
            }
            return copied;
        }

        int depth() {
            return above == null ? 0 : above.depth() + 1;
        }

        int height() {
            int height = 0;
            for (Item child : children) {
                height = Math.max(height, child.height() + 1);
            }
            return height;
        }

        int size() {
            int size = 1;
            for (Item child : children) {
                size += child.size();
            }
            return size;
        }

        Item find(int wanted) {
            if (number == wanted) {
                return this;
            }
            for (Item child : children) {
                Item found = child.find(wanted);
                if (found != null) {
                    return found;
                }
            }
            return null;
        }
    }

    private static final class Snapshot {
        Item root;
        int width;
        int height;
        int[] settings;
        int[] knockouts;
        List<TreeMap<Integer, Integer>> curves = new ArrayList<>();

        Snapshot copy() {
            Snapshot copied = new Snapshot();
            copied.root = root.copy(null);
            copied.width = width;
            copied.height = height;
            copied.settings = settings.clone();
            copied.knockouts = knockouts.clone();
            for (TreeMap<Integer, Integer> curve : curves) {
                copied.curves.add(new TreeMap<>(curve));
            }
            return copied;
        }
    }

    private Snapshot now = new Snapshot();
    private final Deque<Snapshot> history = new ArrayDeque<>();
    private int[] box = {0, 0, 1, 1};
    private int[] color = {0, 0, 0};

    PlainDesk() {
        now.root = new Item(0, 0, null, 100, 0, 0);
        now.width = 8;
        now.height = 6;
        now.settings = new int[] {50, 40, 700};
        now.knockouts = new int[] {1, 1, 1};
        for (int plate = 0; plate < 7; plate++) {
            now.curves.add(new TreeMap<>(Map.of(0, 0, 255, 255)));
        }
    }

    private void keep() {
        history.addLast(now.copy());
        if (history.size() > 5) {
            history.removeFirst();
        }
    }

    private static boolean out(int value, int least, int greatest) {
        return value < least || value > greatest;
    }

    int setSize(int width, int height) {
        if (out(width, 1, 12) || out(height, 1, 12)) {
            return -1;
        }
        keep();
        int previous = 100 * now.width + now.height;
        now.width = width;
        now.height = height;
        return previous;
    }

    private int add(int parent, int kind, int... values) {
        Item group = now.root.find(parent);
        if (group == null) {
            return -1;
        }
        if (group.kind != 0 || group.depth() + 1 > 4) {
            return -2;
        }
        int number = 1;
        while (now.root.find(number) != null) {
            number++;
        }
        if (number > 23) {
            return -3;
        }
        keep();
        group.children.add(new Item(number, kind, group, values));
        return number;
    }

    int addGroup(int parent, int opacity, int dx, int dy) {
        if (out(opacity, 0, 100) || out(dx, -12, 12) || out(dy, -12, 12)) {
            return -1;
        }
        return add(parent, 0, opacity, dx, dy);
    }

    int addRect(int parent) {
        return add(parent, 1, box[0], box[1], box[2], box[3], color[0], color[1], color[2]);
    }

    int addSpot(int parent, int plate, int tint) {
        if (out(plate, 0, 2) || out(tint, 0, 255)) {
            return -1;
        }
        return add(parent, 2, box[0], box[1], box[2], box[3], plate, tint);
    }

    int setBox(int x, int y, int w, int h) {
        if (out(x, -12, 12) || out(y, -12, 12) || out(w, 1, 12) || out(h, 1, 12)) {
            return -1;
        }
        box = new int[] {x, y, w, h};
        return w * h;
    }

    int setInk(int red, int green, int blue) {
        if (out(red, 0, 255) || out(green, 0, 255) || out(blue, 0, 255)) {
            return -1;
        }
        color = new int[] {red, green, blue};
        return red + green + blue;
    }

    int remove(int node) {
        Item item = now.root.find(node);
        if (item == null) {
            return -1;
        }
        if (item.above == null) {
            return -2;
        }
        keep();
        item.above.children.remove(item);
        return item.size();
    }

    int move(int node, int parent) {
        Item item = now.root.find(node);
        Item group = now.root.find(parent);
        if (item == null || group == null) {
            return -1;
        }
        if (item.above == null || group.kind != 0 || item.find(parent) != null) {
            return -2;
        }
        if (group.depth() + 1 + item.height() > 4) {
            return -2;
        }
        keep();
        item.above.children.remove(item);
        group.children.add(item);
        item.above = group;
        return item.depth();
    }

    int nodeInfo(int node, int what) {
        Item item = now.root.find(node);
        if (item == null || out(what, 0, 5)) {
            return -1;
        }
        int parent = item.above == null ? -1 : item.above.number;
        int place = item.above == null ? 0 : item.above.children.indexOf(item);
        return new int[] {item.kind, parent, item.depth(), item.children.size(), item.size() - 1, place}[what];
    }

    int nodeCount() {
        return now.root.size();
    }

    int set(int what, int value) {
        if (out(what, 0, 2) || out(value, 0, new int[] {100, 255, 1785}[what])) {
            return -1;
        }
        keep();
        int previous = now.settings[what];
        now.settings[what] = value;
        return previous;
    }

    int setKnockout(int plate, int on) {
        if (out(plate, 0, 2) || out(on, 0, 1)) {
            return -1;
        }
        keep();
        int previous = now.knockouts[plate];
        now.knockouts[plate] = on;
        return previous;
    }

    int setPoint(int plate, int input, int output) {
        if (out(plate, 0, 6) || out(input, 0, 255) || out(output, 0, 255)) {
            return -1;
        }
        TreeMap<Integer, Integer> changed = new TreeMap<>(now.curves.get(plate));
        changed.put(input, output);
        int last = 0;
        for (int value : changed.values()) {
            if (value < last) {
                return -2;
            }
            last = value;
        }
        if (changed.size() > 8) {
            return -3;
        }
        keep();
        now.curves.set(plate, changed);
        return changed.size();
    }

    int removePoint(int plate, int input) {
        if (out(plate, 0, 6) || out(input, 1, 254)) {
            return -1;
        }
        if (!now.curves.get(plate).containsKey(input)) {
            return -4;
        }
        keep();
        return now.curves.get(plate).remove(input);
    }

    private static int valueOn(TreeMap<Integer, Integer> points, int input) {
        Map.Entry<Integer, Integer> from = points.floorEntry(input);
        if (from.getKey() == input) {
            return from.getValue();
        }
        Map.Entry<Integer, Integer> to = points.higherEntry(input);
        int rise = (to.getValue() - from.getValue()) * (input - from.getKey());
        return from.getValue() + Math.floorDiv(rise, to.getKey() - from.getKey());
    }

    int curve(int plate, int input) {
        return out(plate, 0, 6) || out(input, 0, 255) ? -1 : valueOn(now.curves.get(plate), input);
    }

    int inverse(int plate, int output) {
        if (out(plate, 0, 6) || out(output, 0, 255)) {
            return -1;
        }
        int least = -4;
        for (int input = 255; input >= 0; input--) {
            if (valueOn(now.curves.get(plate), input) >= output) {
                least = input;
            }
        }
        return least;
    }

    int simplify(int plate) {
        if (out(plate, 0, 6)) {
            return -1;
        }
        TreeMap<Integer, Integer> old = now.curves.get(plate);
        TreeMap<Integer, Integer> fresh = new TreeMap<>();
        for (int input : new int[] {0, 85, 170, 255}) {
            fresh.put(input, valueOn(old, input));
        }
        int greatest = 0;
        for (int input = 0; input < 256; input++) {
            greatest = Math.max(greatest, Math.abs(valueOn(old, input) - valueOn(fresh, input)));
        }
        keep();
        now.curves.set(plate, fresh);
        return greatest;
    }

    private static int toward(int value, int goal, int opacity) {
        return value + Math.floorDiv((goal - value) * opacity, 100);
    }

    /** Walks the tree over one pixel; parts holds the six parts and, last, the node of the latest touch. */
    private void walk(Item item, int x, int y, int opacity, int[] parts) {
        if (item.kind == 0) {
            int own = item.above == null ? 100 : opacity * item.values[0] / 100;
            for (Item child : item.children) {
                walk(child, x - item.values[1], y - item.values[2], own, parts);
            }
            return;
        }
        int[] v = item.values;
        if (out(x, v[0], v[0] + v[2] - 1) || out(y, v[1], v[1] + v[3] - 1)) {
            return;
        }
        if (opacity > 0) {
            parts[6] = item.number;
        }
        int[] goal = {255, 255, 255, 0, 0, 0};
        boolean all = true;
        if (item.kind == 1) {
            System.arraycopy(v, 4, goal, 0, 3);
        } else {
            goal[3 + v[4]] = v[5];
            all = now.knockouts[v[4]] == 1;
        }
        for (int part = 0; part < 6; part++) {
            if (all || part == 3 + v[4]) {
                parts[part] = toward(parts[part], goal[part], opacity);
            }
        }
    }

    private int[] pixel(int x, int y) {
        int[] parts = {255, 255, 255, 0, 0, 0, -4};
        walk(now.root, x, y, 100, parts);
        return parts;
    }

    private boolean offPage(int x, int y) {
        return out(x, 0, now.width - 1) || out(y, 0, now.height - 1);
    }

    int rendered(int x, int y, int what) {
        return offPage(x, y) || out(what, 0, 5) ? -1 : pixel(x, y)[what];
    }

    int touchedBy(int x, int y) {
        return offPage(x, y) ? -1 : pixel(x, y)[6];
    }

    private int[] unlimited(int[] parts, int amount) {
        int[] inks = new int[7];
        int least = 255;
        for (int i = 0; i < 3; i++) {
            inks[i] = 255 - parts[i];
            inks[4 + i] = parts[3 + i];
            least = Math.min(least, inks[i]);
        }
        inks[3] = Math.max(least - now.settings[1], 0) * amount / 100;
        for (int i = 0; i < 3; i++) {
            inks[i] -= inks[3];
        }
        for (int i = 0; i < 7; i++) {
            inks[i] = valueOn(now.curves.get(i), inks[i]);
        }
        return inks;
    }

    private int[] limited(int[] inks) {
        int limit = now.settings[2];
        int[] v = inks.clone();
        int spots = v[4] + v[5] + v[6];
        int colors = v[0] + v[1] + v[2];
        int rest = limit - (v[3] + spots);
        if (rest >= 0) {
            for (int i = 0; i < 3 && colors > rest; i++) {
                v[i] = inks[i] * rest / colors;
            }
            return v;
        }
        v[0] = v[1] = v[2] = 0;
        v[3] = limit - spots;
        if (v[3] < 0) {
            v[3] = 0;
            for (int i = 4; i < 7; i++) {
                v[i] = inks[i] * limit / spots;
            }
        }
        return v;
    }

    private static int valueOrSum(int[] inks, int plate) {
        return plate < 7 ? inks[plate] : Arrays.stream(inks).sum();
    }

    int ink(int x, int y, int plate) {
        if (offPage(x, y) || out(plate, 0, 7)) {
            return -1;
        }
        return valueOrSum(limited(unlimited(pixel(x, y), now.settings[0])), plate);
    }

    int inkOf(int code, int plate) {
        if (out(code, 0, 0xffffff) || out(plate, 0, 7)) {
            return -1;
        }
        int[] parts = {code / 65536, code / 256 % 256, code % 256, 0, 0, 0};
        return valueOrSum(limited(unlimited(parts, now.settings[0])), plate);
    }

    /** The inks of all pixels, before the limit. */
    private List<int[]> sheet(int amount) {
        List<int[]> sheet = new ArrayList<>();
        for (int x = 0; x < now.width; x++) {
            for (int y = 0; y < now.height; y++) {
                sheet.add(unlimited(pixel(x, y), amount));
            }
        }
        return sheet;
    }

    private int sumOver(int amount, int plate) {
        int sum = 0;
        for (int[] inks : sheet(amount)) {
            sum += valueOrSum(limited(inks), plate);
        }
        return sum;
    }

    int coverage(int plate) {
        return out(plate, 0, 7) ? -1 : sumOver(now.settings[0], plate);
    }

    int plateAt(int place) {
        if (out(place, 0, 6)) {
            return -1;
        }
        List<Integer> plates = new ArrayList<>(List.of(0, 1, 2, 3, 4, 5, 6));
        int[] sums = new int[7];
        for (int plate : plates) {
            sums[plate] = coverage(plate);
        }
        plates.sort((one, other) -> sums[other] - sums[one]);
        return plates.get(place);
    }

    int greatestSum() {
        int greatest = 0;
        for (int[] inks : sheet(now.settings[0])) {
            greatest = Math.max(greatest, valueOrSum(limited(inks), 7));
        }
        return greatest;
    }

    int limitedPixels() {
        int pixels = 0;
        for (int[] inks : sheet(now.settings[0])) {
            pixels += Arrays.equals(inks, limited(inks)) ? 0 : 1;
        }
        return pixels;
    }

    private List<int[]> table() {
        Map<String, int[]> rows = new TreeMap<>();
        for (int[] inks : sheet(now.settings[0])) {
            int[] after = limited(inks);
            int[] row = rows.computeIfAbsent(Arrays.toString(after), name -> Arrays.copyOf(after, 9));
            row[7] = valueOrSum(after, 7);
            row[8]++;
        }
        List<int[]> table = new ArrayList<>(rows.values());
        table.sort((one, other) -> {
            if (one[8] != other[8]) {
                return other[8] - one[8];
            }
            return one[7] != other[7] ? one[7] - other[7] : Arrays.compare(one, other);
        });
        return table;
    }

    int inkCount() {
        return table().size();
    }

    int inkAt(int place, int what) {
        if (place < 0 || out(what, 0, 8)) {
            return -1;
        }
        List<int[]> table = table();
        return place < table.size() ? table.get(place)[what] : -4;
    }

    /** Tries the limits one by one. */
    int neededLimit() {
        int set = now.settings[2];
        now.settings[2] = 0;
        while (limitedPixels() > 0) {
            now.settings[2]++;
        }
        int needed = now.settings[2];
        now.settings[2] = set;
        return needed;
    }

    int thriftiestAmount() {
        int best = 0;
        int least = Integer.MAX_VALUE;
        for (int amount = 0; amount <= 100; amount++) {
            int sum = sumOver(amount, 7);
            if (sum < least) {
                least = sum;
                best = amount;
            }
        }
        return best;
    }

    int disorderedPixels() {
        int pixels = 0;
        for (int[] inks : sheet(now.settings[0])) {
            int[] after = limited(inks);
            boolean disordered = false;
            for (int i = 0; i < 9; i++) {
                disordered |= inks[i / 3] < inks[i % 3] && after[i / 3] > after[i % 3];
            }
            pixels += disordered ? 1 : 0;
        }
        return pixels;
    }

    int undo() {
        if (history.isEmpty()) {
            return -2;
        }
        now = history.removeLast();
        return history.size();
    }
}
