/**
 * Color separation of a page for printing: a tree of groups, rectangles and spot areas is rendered
 * to pixels, and each pixel is separated into four process inks and up to three spot inks.
 *
 * Everything that a call needs is made by the constructor and used again, so that no call makes an
 * object or an array.
 */
public final class SeparationDesk {
    public static final int INVALID_ARGUMENT = -1;
    public static final int NOT_POSSIBLE = -2;
    public static final int LIMIT_REACHED = -3;
    public static final int NOT_FOUND = -4;
    public static final int GROUP = 0, RECT = 1, SPOT = 2;

    private static final int FREE = -1;
    private static final int NONE = -1;
    private static final int ROOT = 0;
    private static final int NODES = 24;
    private static final int MOST_DEPTH = 4;
    private static final int MOST_SIDE = 12;
    private static final int PIXELS = MOST_SIDE * MOST_SIDE;
    private static final int FULL = 255;
    private static final int PERCENT = 100;
    private static final int COLORS = 3;
    private static final int SPOTS = 3;
    private static final int TONES = COLORS + SPOTS;
    private static final int BLACK = 3;
    private static final int FIRST_SPOT = 4;
    private static final int PLATES = 7;
    private static final int SUM = 7;
    private static final int PIXEL_COUNT = 8;
    private static final int MOST_LIMIT = PLATES * FULL;
    private static final int MOST_COLOR = 16777215;
    private static final int POINTS = 8;
    private static final int THIRD = 85;
    private static final int HISTORY = 5;

    private final State page;
    private final State[] history;
    private int changes;
    private final Node draft;
    private final Pixel pixel;
    private final InkTable inks;
    private final int[] totals;
    private final int[] needs;

    public SeparationDesk() {
        page = new State();
        history = new State[HISTORY];
        for (int i = 0; i < HISTORY; i++) {
            history[i] = new State();
        }
        changes = 0;
        draft = new Node();
        pixel = new Pixel();
        inks = new InkTable();
        totals = new int[PLATES];
        needs = new int[PERCENT + 1];
    }

    // ---- page and nodes

    public int setSize(int width, int height) {
        if (!within(width, 1, MOST_SIDE) || !within(height, 1, MOST_SIDE)) {
            return INVALID_ARGUMENT;
        }
        int previous = 100 * page.width + page.height;
        remember();
        page.width = width;
        page.height = height;
        return previous;
    }

    public int addGroup(int parent, int opacity, int dx, int dy) {
        if (!within(opacity, 0, PERCENT) || !isOffset(dx) || !isOffset(dy)) {
            return INVALID_ARGUMENT;
        }
        int number = numberBelow(parent);
        if (number < 0) {
            return number;
        }
        remember();
        Node group = page.tree.nodeAt(number);
        group.opacity = opacity;
        group.dx = dx;
        group.dy = dy;
        page.tree.append(number, GROUP, parent);
        return number;
    }

    public int addRect(int parent) {
        int number = numberBelow(parent);
        if (number < 0) {
            return number;
        }
        remember();
        Node rect = page.tree.nodeAt(number);
        rect.takeBox(draft);
        rect.takeColor(draft);
        page.tree.append(number, RECT, parent);
        return number;
    }

    public int addSpot(int parent, int plate, int tint) {
        if (!within(plate, 0, SPOTS - 1) || !isPart(tint)) {
            return INVALID_ARGUMENT;
        }
        int number = numberBelow(parent);
        if (number < 0) {
            return number;
        }
        remember();
        Node spot = page.tree.nodeAt(number);
        spot.takeBox(draft);
        spot.plate = plate;
        spot.tint = tint;
        page.tree.append(number, SPOT, parent);
        return number;
    }

    public int setBox(int x, int y, int w, int h) {
        if (!isOffset(x) || !isOffset(y) || !within(w, 1, MOST_SIDE) || !within(h, 1, MOST_SIDE)) {
            return INVALID_ARGUMENT;
        }
        draft.x = x;
        draft.y = y;
        draft.w = w;
        draft.h = h;
        return w * h;
    }

    public int setInk(int red, int green, int blue) {
        if (!isPart(red) || !isPart(green) || !isPart(blue)) {
            return INVALID_ARGUMENT;
        }
        draft.red = red;
        draft.green = green;
        draft.blue = blue;
        return red + green + blue;
    }

    public int remove(int node) {
        if (!page.tree.has(node)) {
            return INVALID_ARGUMENT;
        }
        if (node == ROOT) {
            return NOT_POSSIBLE;
        }
        remember();
        return page.tree.cutAndFree(node);
    }

    public int move(int node, int parent) {
        if (!page.tree.has(node) || !page.tree.has(parent)) {
            return INVALID_ARGUMENT;
        }
        if (node == ROOT || !page.tree.canHang(node, parent)) {
            return NOT_POSSIBLE;
        }
        remember();
        page.tree.hang(node, parent);
        return page.tree.nodeAt(node).depth;
    }

    public int nodeInfo(int node, int what) {
        if (!page.tree.has(node)) {
            return INVALID_ARGUMENT;
        }
        switch (what) {
            case 0:
                return page.tree.nodeAt(node).kind;
            case 1:
                return page.tree.nodeAt(node).parent;
            case 2:
                return page.tree.nodeAt(node).depth;
            case 3:
                return page.tree.childrenOf(node);
            case 4:
                return page.tree.belowOf(node);
            case 5:
                return page.tree.placeOf(node);
            default:
                return INVALID_ARGUMENT;
        }
    }

    public int nodeCount() {
        return page.tree.count;
    }

    // ---- settings

    public int set(int what, int value) {
        if (!within(what, 0, 2) || !within(value, 0, greatestSetting(what))) {
            return INVALID_ARGUMENT;
        }
        remember();
        int previous;
        if (what == 0) {
            previous = page.amount;
            page.amount = value;
        } else if (what == 1) {
            previous = page.start;
            page.start = value;
        } else {
            previous = page.limit;
            page.limit = value;
        }
        return previous;
    }

    public int setKnockout(int plate, int on) {
        if (!within(plate, 0, SPOTS - 1) || !within(on, 0, 1)) {
            return INVALID_ARGUMENT;
        }
        remember();
        int previous = page.knockouts[plate];
        page.knockouts[plate] = on;
        return previous;
    }

    // ---- curves

    public int setPoint(int plate, int input, int output) {
        if (!isPlate(plate) || !isPart(input) || !isPart(output)) {
            return INVALID_ARGUMENT;
        }
        Curve curve = page.curves[plate];
        if (!curve.keepsRising(input, output)) {
            return NOT_POSSIBLE;
        }
        if (curve.indexOf(input) == NONE && curve.count >= POINTS) {
            return LIMIT_REACHED;
        }
        remember();
        curve.put(input, output);
        return curve.count;
    }

    public int removePoint(int plate, int input) {
        if (!isPlate(plate) || !within(input, 1, FULL - 1)) {
            return INVALID_ARGUMENT;
        }
        Curve curve = page.curves[plate];
        int index = curve.indexOf(input);
        if (index == NONE) {
            return NOT_FOUND;
        }
        remember();
        return curve.drop(index);
    }

    public int curve(int plate, int input) {
        if (!isPlate(plate) || !isPart(input)) {
            return INVALID_ARGUMENT;
        }
        return page.curves[plate].valueAt(input);
    }

    public int inverse(int plate, int output) {
        if (!isPlate(plate) || !isPart(output)) {
            return INVALID_ARGUMENT;
        }
        Curve curve = page.curves[plate];
        for (int input = 0; input <= FULL; input++) {
            if (curve.valueAt(input) >= output) {
                return input;
            }
        }
        return NOT_FOUND;
    }

    public int simplify(int plate) {
        if (!isPlate(plate)) {
            return INVALID_ARGUMENT;
        }
        remember();
        Curve curve = page.curves[plate];
        curve.straighten();
        // remember() has just put the state before this change at the end of the history
        return greatestDifference(history[changes - 1].curves[plate], curve);
    }

    // ---- pixels

    public int rendered(int x, int y, int what) {
        if (!isPixel(x, y) || !within(what, 0, TONES - 1)) {
            return INVALID_ARGUMENT;
        }
        pixel.render(page, x, y);
        return pixel.tones[what];
    }

    public int ink(int x, int y, int plate) {
        if (!isPixel(x, y) || !within(plate, 0, SUM)) {
            return INVALID_ARGUMENT;
        }
        separateAt(x, y);
        return pixel.valueOf(plate);
    }

    public int inkOf(int color, int plate) {
        if (!within(color, 0, MOST_COLOR) || !within(plate, 0, SUM)) {
            return INVALID_ARGUMENT;
        }
        pixel.clear();
        pixel.tones[0] = color >> 16;
        pixel.tones[1] = color >> 8 & FULL;
        pixel.tones[2] = color & FULL;
        pixel.separate(page, page.amount);
        return pixel.valueOf(plate);
    }

    public int touchedBy(int x, int y) {
        if (!isPixel(x, y)) {
            return INVALID_ARGUMENT;
        }
        Tree tree = page.tree;
        for (int i = tree.count - 1; i > 0; i--) {
            int number = tree.order[i];
            Node node = tree.nodeAt(number);
            Node parent = tree.nodeAt(node.parent);
            if (parent.effective > 0 && node.contains(x - parent.offsetX, y - parent.offsetY)) {
                return number;
            }
        }
        return NOT_FOUND;
    }

    // ---- the page as a whole

    public int coverage(int plate) {
        if (!within(plate, 0, SUM)) {
            return INVALID_ARGUMENT;
        }
        addUpPlates();
        return plate == SUM ? sumOf(totals) : totals[plate];
    }

    public int plateAt(int place) {
        if (!isPlate(place)) {
            return INVALID_ARGUMENT;
        }
        addUpPlates();
        for (int plate = 0; plate < PLATES; plate++) {
            if (platesBefore(plate) == place) {
                return plate;
            }
        }
        return NOT_FOUND;
    }

    public int greatestSum() {
        int greatest = 0;
        for (int y = 0; y < page.height; y++) {
            for (int x = 0; x < page.width; x++) {
                separateAt(x, y);
                greatest = Math.max(greatest, sumOf(pixel.after));
            }
        }
        return greatest;
    }

    public int limitedPixels() {
        int limited = 0;
        for (int y = 0; y < page.height; y++) {
            for (int x = 0; x < page.width; x++) {
                separateAt(x, y);
                if (!sameValues(pixel.before, pixel.after)) {
                    limited++;
                }
            }
        }
        return limited;
    }

    public int inkCount() {
        countInks();
        return inks.size;
    }

    public int inkAt(int place, int what) {
        if (place < 0 || !within(what, 0, PIXEL_COUNT)) {
            return INVALID_ARGUMENT;
        }
        countInks();
        int row = inks.rowAt(place);
        return row == NONE ? NOT_FOUND : inks.valueOf(row, what);
    }

    // ---- searches

    public int neededLimit() {
        // step 4 changes a pixel exactly if its sum before the step is above the limit
        int needed = 0;
        for (int y = 0; y < page.height; y++) {
            for (int x = 0; x < page.width; x++) {
                separateAt(x, y);
                needed = Math.max(needed, sumOf(pixel.before));
            }
        }
        return needed;
    }

    public int thriftiestAmount() {
        addUpNeeds();
        int best = 0;
        for (int amount = 1; amount <= PERCENT; amount++) {
            if (needs[amount] < needs[best]) {
                best = amount;
            }
        }
        return best;
    }

    public int disorderedPixels() {
        int disordered = 0;
        for (int y = 0; y < page.height; y++) {
            for (int x = 0; x < page.width; x++) {
                separateAt(x, y);
                if (pixel.isDisordered()) {
                    disordered++;
                }
            }
        }
        return disordered;
    }

    public int undo() {
        if (changes == 0) {
            return NOT_POSSIBLE;
        }
        changes--;
        page.copyFrom(history[changes]);
        return changes;
    }

    // ---- ranges

    private static boolean within(int value, int least, int greatest) {
        return least <= value && value <= greatest;
    }

    private static boolean isPart(int value) {
        return within(value, 0, FULL);
    }

    private static boolean isOffset(int value) {
        return within(value, -MOST_SIDE, MOST_SIDE);
    }

    private static boolean isPlate(int value) {
        return within(value, 0, PLATES - 1);
    }

    private boolean isPixel(int x, int y) {
        return within(x, 0, page.width - 1) && within(y, 0, page.height - 1);
    }

    private static int greatestSetting(int what) {
        if (what == 0) {
            return PERCENT;
        }
        return what == 1 ? FULL : MOST_LIMIT;
    }

    // ---- helpers of the calls

    /** The number that a new child of parent gets, or the error that forbids one. */
    private int numberBelow(int parent) {
        if (!page.tree.has(parent)) {
            return INVALID_ARGUMENT;
        }
        Node group = page.tree.nodeAt(parent);
        if (group.kind != GROUP || group.depth >= MOST_DEPTH) {
            return NOT_POSSIBLE;
        }
        int number = page.tree.freeNumber();
        return number == NONE ? LIMIT_REACHED : number;
    }

    private void remember() {
        if (changes == HISTORY) {
            State oldest = history[0];
            for (int i = 1; i < HISTORY; i++) {
                history[i - 1] = history[i];
            }
            // the dropped state's room serves the new one
            history[HISTORY - 1] = oldest;
            changes--;
        }
        history[changes].copyFrom(page);
        changes++;
    }

    private void separateAt(int x, int y) {
        pixel.render(page, x, y);
        pixel.separate(page, page.amount);
    }

    private void addUpPlates() {
        for (int plate = 0; plate < PLATES; plate++) {
            totals[plate] = 0;
        }
        for (int y = 0; y < page.height; y++) {
            for (int x = 0; x < page.width; x++) {
                separateAt(x, y);
                for (int plate = 0; plate < PLATES; plate++) {
                    totals[plate] += pixel.after[plate];
                }
            }
        }
    }

    /** The number of plates that stand before this one in the order of coverage. */
    private int platesBefore(int plate) {
        int before = 0;
        for (int other = 0; other < PLATES; other++) {
            boolean equalAndLower = totals[other] == totals[plate] && other < plate;
            if (totals[other] > totals[plate] || equalAndLower) {
                before++;
            }
        }
        return before;
    }

    private void countInks() {
        inks.size = 0;
        for (int y = 0; y < page.height; y++) {
            for (int x = 0; x < page.width; x++) {
                separateAt(x, y);
                inks.add(pixel.after);
            }
        }
    }

    private void addUpNeeds() {
        for (int amount = 0; amount <= PERCENT; amount++) {
            needs[amount] = 0;
        }
        for (int y = 0; y < page.height; y++) {
            for (int x = 0; x < page.width; x++) {
                pixel.render(page, x, y);
                for (int amount = 0; amount <= PERCENT; amount++) {
                    pixel.separate(page, amount);
                    needs[amount] += sumOf(pixel.after);
                }
            }
        }
    }

    private static int greatestDifference(Curve one, Curve other) {
        int greatest = 0;
        for (int input = 0; input <= FULL; input++) {
            int difference = Math.abs(one.valueAt(input) - other.valueAt(input));
            greatest = Math.max(greatest, difference);
        }
        return greatest;
    }

    private static int sumOf(int[] values) {
        int sum = 0;
        for (int value : values) {
            sum += value;
        }
        return sum;
    }

    private static boolean sameValues(int[] one, int[] other) {
        for (int plate = 0; plate < PLATES; plate++) {
            if (one[plate] != other[plate]) {
                return false;
            }
        }
        return true;
    }

    /** A node of the tree. A group uses opacity and offset, a rect box and color, a spot box and tint. */
    private static final class Node {
        int kind;
        int parent;
        int depth;
        int opacity;
        int dx;
        int dy;
        int effective;
        int offsetX;
        int offsetY;
        int x;
        int y;
        int w;
        int h;
        int red;
        int green;
        int blue;
        int plate;
        int tint;

        Node() {
            kind = FREE;
            parent = NONE;
            w = 1;
            h = 1;
        }

        void takeBox(Node other) {
            x = other.x;
            y = other.y;
            w = other.w;
            h = other.h;
        }

        void takeColor(Node other) {
            red = other.red;
            green = other.green;
            blue = other.blue;
        }

        void copyFrom(Node other) {
            kind = other.kind;
            parent = other.parent;
            depth = other.depth;
            opacity = other.opacity;
            dx = other.dx;
            dy = other.dy;
            effective = other.effective;
            offsetX = other.offsetX;
            offsetY = other.offsetY;
            takeBox(other);
            takeColor(other);
            plate = other.plate;
            tint = other.tint;
        }

        void settleBelow(Node group) {
            depth = group.depth + 1;
            effective = group.effective * opacity / PERCENT;
            offsetX = group.offsetX + dx;
            offsetY = group.offsetY + dy;
        }

        boolean contains(int px, int py) {
            return kind != GROUP && within(px, x, x + w - 1) && within(py, y, y + h - 1);
        }
    }

    /**
     * The nodes in the order in which they are visited. The nodes below a group stand in one piece
     * right behind it, so that no walk over the tree has to call itself.
     */
    private static final class Tree {
        final Node[] nodes;
        final int[] order;
        final int[] carried;
        int count;

        Tree() {
            nodes = new Node[NODES];
            for (int i = 0; i < NODES; i++) {
                nodes[i] = new Node();
            }
            order = new int[NODES];
            carried = new int[NODES];
            count = 1;
            nodes[ROOT].kind = GROUP;
            nodes[ROOT].opacity = PERCENT;
            nodes[ROOT].effective = PERCENT;
        }

        void copyFrom(Tree other) {
            for (int i = 0; i < NODES; i++) {
                nodes[i].copyFrom(other.nodes[i]);
                order[i] = other.order[i];
            }
            count = other.count;
        }

        boolean has(int number) {
            return within(number, 0, NODES - 1) && nodes[number].kind != FREE;
        }

        /** The node with this number; the root for a number that no node can have. */
        Node nodeAt(int number) {
            return within(number, 0, NODES - 1) ? nodes[number] : nodes[ROOT];
        }

        int freeNumber() {
            for (int number = 1; number < NODES; number++) {
                if (nodes[number].kind == FREE) {
                    return number;
                }
            }
            return NONE;
        }

        int startOf(int number) {
            for (int i = 0; i < count; i++) {
                if (order[i] == number) {
                    return i;
                }
            }
            return count;
        }

        /** The place in the order behind the last node below this one. */
        int endOf(int number) {
            int end = startOf(number) + 1;
            int depth = nodeAt(number).depth;
            while (end < count && nodeAt(order[end]).depth > depth) {
                end++;
            }
            return Math.min(end, count);
        }

        int belowOf(int number) {
            return endOf(number) - startOf(number) - 1;
        }

        int childrenOf(int number) {
            int children = 0;
            for (int i = 1; i < count; i++) {
                if (nodeAt(order[i]).parent == number) {
                    children++;
                }
            }
            return children;
        }

        int placeOf(int number) {
            int parent = nodeAt(number).parent;
            int place = 0;
            for (int i = 1; i < count && order[i] != number; i++) {
                if (nodeAt(order[i]).parent == parent) {
                    place++;
                }
            }
            return number == ROOT ? 0 : place;
        }

        void append(int number, int kind, int parent) {
            nodeAt(number).kind = kind;
            carried[0] = number;
            putIn(1, parent);
        }

        int cutAndFree(int number) {
            int length = cutOut(number);
            for (int i = 0; i < length; i++) {
                Node node = nodeAt(carried[i]);
                node.kind = FREE;
                node.parent = NONE;
            }
            return length;
        }

        boolean canHang(int number, int parent) {
            int start = startOf(number);
            int end = endOf(number);
            int deepest = nodeAt(number).depth;
            for (int i = start; i < end; i++) {
                if (order[i] == parent) {
                    return false;
                }
                deepest = Math.max(deepest, nodeAt(order[i]).depth);
            }
            int deeper = nodeAt(parent).depth + 1 - nodeAt(number).depth;
            return nodeAt(parent).kind == GROUP && deepest + deeper <= MOST_DEPTH;
        }

        void hang(int number, int parent) {
            putIn(cutOut(number), parent);
        }

        /** Takes a node and all below it out of the order into carried; the answer is how many they are. */
        int cutOut(int number) {
            int start = startOf(number);
            int length = endOf(number) - start;
            for (int i = 0; i < length; i++) {
                carried[i] = order[start + i];
            }
            for (int i = start + length; i < count; i++) {
                order[i - length] = order[i];
            }
            count -= length;
            return length;
        }

        /** Puts the carried nodes back into the order, the first of them as the last child of parent. */
        void putIn(int length, int parent) {
            if (length < 1 || count + length > NODES) {
                return;
            }
            int start = endOf(parent);
            for (int i = count - 1; i >= start; i--) {
                order[i + length] = order[i];
            }
            for (int i = 0; i < length; i++) {
                order[start + i] = carried[i];
            }
            count += length;
            nodeAt(carried[0]).parent = parent;
            settle();
        }

        /** A parent stands before its children, so one pass gives all depths, opacities and offsets. */
        void settle() {
            for (int i = 1; i < count; i++) {
                Node node = nodeAt(order[i]);
                node.settleBelow(nodeAt(node.parent));
            }
        }
    }

    private static final class Curve {
        final int[] inputs;
        final int[] outputs;
        int count;

        Curve() {
            inputs = new int[POINTS];
            outputs = new int[POINTS];
            inputs[1] = FULL;
            outputs[1] = FULL;
            count = 2;
        }

        void copyFrom(Curve other) {
            for (int i = 0; i < POINTS; i++) {
                inputs[i] = other.inputs[i];
                outputs[i] = other.outputs[i];
            }
            count = other.count;
        }

        int indexOf(int input) {
            for (int i = 0; i < count; i++) {
                if (inputs[i] == input) {
                    return i;
                }
            }
            return NONE;
        }

        boolean keepsRising(int input, int output) {
            for (int i = 0; i < count; i++) {
                if (inputs[i] < input && outputs[i] > output) {
                    return false;
                }
                if (inputs[i] > input && outputs[i] < output) {
                    return false;
                }
            }
            return true;
        }

        void put(int input, int output) {
            int index = indexOf(input);
            if (index == NONE) {
                index = openGap(input);
            }
            if (index < POINTS) {
                inputs[index] = input;
                outputs[index] = output;
            }
        }

        /** Makes room for a new point before the points with greater inputs, if there is room. */
        int openGap(int input) {
            if (count >= POINTS) {
                return POINTS;
            }
            int index = count;
            while (index > 0 && inputs[index - 1] > input) {
                inputs[index] = inputs[index - 1];
                outputs[index] = outputs[index - 1];
                index--;
            }
            count++;
            return index;
        }

        int drop(int index) {
            int output = outputs[index];
            for (int i = index + 1; i < count; i++) {
                inputs[i - 1] = inputs[i];
                outputs[i - 1] = outputs[i];
            }
            count--;
            return output;
        }

        int valueAt(int input) {
            for (int i = 1; i < count; i++) {
                if (input <= inputs[i]) {
                    return between(i, input);
                }
            }
            return outputs[count - 1];
        }

        /** The value on the straight piece that ends with the point at this index. */
        int between(int index, int input) {
            int from = outputs[index - 1];
            int span = inputs[index] - inputs[index - 1];
            if (span <= 0) {
                return from;
            }
            return from + (outputs[index] - from) * (input - inputs[index - 1]) / span;
        }

        void straighten() {
            int first = valueAt(THIRD);
            int second = valueAt(2 * THIRD);
            int last = valueAt(FULL);
            inputs[1] = THIRD;
            outputs[1] = first;
            inputs[2] = 2 * THIRD;
            outputs[2] = second;
            inputs[3] = FULL;
            outputs[3] = last;
            count = 4;
        }
    }

    /** All that undo restores. */
    private static final class State {
        int width;
        int height;
        int amount;
        int start;
        int limit;
        final int[] knockouts;
        final Tree tree;
        final Curve[] curves;

        State() {
            width = 8;
            height = 6;
            amount = 50;
            start = 40;
            limit = 700;
            knockouts = new int[SPOTS];
            for (int plate = 0; plate < SPOTS; plate++) {
                knockouts[plate] = 1;
            }
            tree = new Tree();
            curves = new Curve[PLATES];
            for (int plate = 0; plate < PLATES; plate++) {
                curves[plate] = new Curve();
            }
        }

        void copyFrom(State other) {
            width = other.width;
            height = other.height;
            amount = other.amount;
            start = other.start;
            limit = other.limit;
            for (int plate = 0; plate < SPOTS; plate++) {
                knockouts[plate] = other.knockouts[plate];
            }
            tree.copyFrom(other.tree);
            for (int plate = 0; plate < PLATES; plate++) {
                curves[plate].copyFrom(other.curves[plate]);
            }
        }
    }

    /** One pixel on its way through rendering and separation. */
    private static final class Pixel {
        final int[] tones;
        final int[] before;
        final int[] after;

        Pixel() {
            tones = new int[TONES];
            before = new int[PLATES];
            after = new int[PLATES];
        }

        void clear() {
            for (int i = 0; i < TONES; i++) {
                tones[i] = i < COLORS ? FULL : 0;
            }
        }

        void render(State page, int x, int y) {
            clear();
            for (int i = 1; i < page.tree.count; i++) {
                Node node = page.tree.nodeAt(page.tree.order[i]);
                Node parent = page.tree.nodeAt(node.parent);
                if (node.contains(x - parent.offsetX, y - parent.offsetY)) {
                    paint(node, page, parent.effective);
                }
            }
        }

        void paint(Node node, State page, int opacity) {
            if (node.kind == RECT) {
                pullColors(node.red, node.green, node.blue, opacity);
                pullTints(NONE, opacity);
            } else if (within(node.plate, 0, SPOTS - 1)) {
                pull(COLORS + node.plate, node.tint, opacity);
                if (page.knockouts[node.plate] == 1) {
                    pullColors(FULL, FULL, FULL, opacity);
                    pullTints(node.plate, opacity);
                }
            }
        }

        void pullColors(int red, int green, int blue, int opacity) {
            pull(0, red, opacity);
            pull(1, green, opacity);
            pull(2, blue, opacity);
        }

        void pullTints(int spared, int opacity) {
            for (int plate = 0; plate < SPOTS; plate++) {
                if (plate != spared) {
                    pull(COLORS + plate, 0, opacity);
                }
            }
        }

        void pull(int tone, int goal, int opacity) {
            int value = tones[tone];
            tones[tone] = value + Math.floorDiv((goal - value) * opacity, PERCENT);
        }

        void separate(State page, int amount) {
            int least = FULL - Math.max(tones[0], Math.max(tones[1], tones[2]));
            int gray = Math.max(0, least - page.start);
            int black = gray * amount / PERCENT;
            for (int plate = 0; plate < COLORS; plate++) {
                before[plate] = FULL - tones[plate] - black;
            }
            before[BLACK] = black;
            for (int spot = 0; spot < SPOTS; spot++) {
                before[FIRST_SPOT + spot] = tones[COLORS + spot];
            }
            for (int plate = 0; plate < PLATES; plate++) {
                before[plate] = page.curves[plate].valueAt(before[plate]);
                after[plate] = before[plate];
            }
            limitSum(page.limit);
        }

        void limitSum(int limit) {
            int spots = after[FIRST_SPOT] + after[FIRST_SPOT + 1] + after[FIRST_SPOT + 2];
            int rest = limit - spots - after[BLACK];
            int colored = after[0] + after[1] + after[2];
            if (rest < 0) {
                after[0] = 0;
                after[1] = 0;
                after[2] = 0;
                after[BLACK] = Math.max(0, limit - spots);
                if (limit < spots) {
                    shrink(FIRST_SPOT, limit, spots);
                }
            } else if (colored > rest) {
                shrink(0, rest, colored);
            }
        }

        /** Scales three plates, from first on, from their present sum to at most room. */
        void shrink(int first, int room, int sum) {
            if (sum <= 0) {
                return;
            }
            for (int plate = first; plate < first + 3 && plate < PLATES; plate++) {
                after[plate] = after[plate] * room / sum;
            }
        }

        int valueOf(int plate) {
            return within(plate, 0, PLATES - 1) ? after[plate] : sumOf(after);
        }

        boolean isDisordered() {
            for (int one = 0; one < COLORS; one++) {
                for (int other = 0; other < COLORS; other++) {
                    if (before[one] < before[other] && after[one] > after[other]) {
                        return true;
                    }
                }
            }
            return false;
        }
    }

    /** The different inks of the page; a row holds seven values, their sum and the number of pixels. */
    private static final class InkTable {
        final int[][] rows;
        int size;

        InkTable() {
            rows = new int[PIXELS][PIXEL_COUNT + 1];
            size = 0;
        }

        void add(int[] values) {
            for (int i = 0; i < size; i++) {
                if (sameValues(values, rows[i])) {
                    rows[i][PIXEL_COUNT]++;
                    return;
                }
            }
            if (size < PIXELS) {
                int[] row = rows[size];
                for (int plate = 0; plate < PLATES; plate++) {
                    row[plate] = values[plate];
                }
                row[SUM] = sumOf(values);
                row[PIXEL_COUNT] = 1;
                size++;
            }
        }

        /** The row of the ink with this place in the order, NONE if there are not so many. */
        int rowAt(int place) {
            for (int i = 0; i < size; i++) {
                if (inksBefore(i) == place) {
                    return i;
                }
            }
            return NONE;
        }

        int valueOf(int row, int what) {
            return rows[row][what];
        }

        int inksBefore(int row) {
            int before = 0;
            for (int i = 0; i < size; i++) {
                if (comesBefore(rows[i], rows[row])) {
                    before++;
                }
            }
            return before;
        }

        boolean comesBefore(int[] one, int[] other) {
            if (one[PIXEL_COUNT] != other[PIXEL_COUNT]) {
                return one[PIXEL_COUNT] > other[PIXEL_COUNT];
            }
            if (one[SUM] != other[SUM]) {
                return one[SUM] < other[SUM];
            }
            for (int plate = 0; plate < PLATES; plate++) {
                if (one[plate] != other[plate]) {
                    return one[plate] < other[plate];
                }
            }
            return false;
        }
    }
}
